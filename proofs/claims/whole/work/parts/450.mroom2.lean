/-! the first loop of makesRoom -/
section MRoom2
variable {F o b m g : Nat} {sil : Int32} {S : SS} {w went t : Nat → Int32} {came : Int32} {E : List Ev}
theorem m_L4 (hF : 1000 ≤ F) (wt d : Int32) (h : RM S w o) (ok : Ok b S) (hw4 : OkW (S.2.2.2 2)) (hq : QS sil E t came) (hm : m + 1 < 2147483647) (hE : E.length + 1 < 2147480000) (hc : S.1.length = 60 → chS (-1) S ≠ none) :
    Tot (X10_makesRoom_L4 F (g + 2) wt w (nI o) went (nI m) t came d sil) (fun y => (S.1.length ≠ 60 ∧ y = (w, went, nI m, t, came)) ∨ ∃ e, S.1.length = 60 ∧ chS (-1) S = some e ∧ RM (evS e S) y.1 o ∧ FrO w y.1 o ∧ y.2.1 = upd went (m % 128) (eK e) ∧ y.2.2.1 = nI (m + 1) ∧ QS sil (E ++ [gone d e]) y.2.2.2.1 y.2.2.2.2) := by
  have ho := h.ho
  have hsz : w o = nI S.1.length := by
    obtain ⟨⟨L, p, hEM⟩, _⟩ := h
    rw [hEM.1, p.length_eq]
  have l60 := ok.1.2.2.1
  have ho0 : (nI o + 0 : Int32) = nI o := Int32.add_zero _
  have cl : (nI o : Int32).toNatClampNeg = o := by simp (disch := omega) only [nI_add, pn_add, pn_addl, pn_mul, pn_cl, pn_nlt0, false_or, pn_ge, pn_le, Nat.add_zero, Nat.zero_add, ↓reduceIte, Option.bind_some, nI_leI, nI_ltI, nI_eq, pn_ne1, pn_1ne]
  have ok1 : ¬ ((nI o : Int32) < 0 ∨ 3392 ≤ o) := by simp (disch := omega) only [nI_add, pn_add, pn_addl, pn_mul, pn_cl, pn_nlt0, false_or, pn_ge, pn_le, Nat.add_zero, Nat.zero_add, ↓reduceIte, Option.bind_some, nI_leI, nI_ltI, nI_eq, pn_ne1, pn_1ne]; simp
  rw [X10_makesRoom_L4, ho0, cl, if_neg ok1, hsz]
  by_cases c : S.1.length = 60
  · rw [if_pos (by rw [c]; rfl)]
    cases hch : chS (-1) S with
    | none => exact absurd hch (hc c)
    | some e =>
      have hlen := evS_len ok (chS_mem ok hch).1
      refine tot_b (m_evicts (went := went) h ok hw4 hF hq (by omega) (by omega) (-1) d hch) (fun y ⟨_, g1, g2, g3, g4, g5⟩ => ?_)
      obtain ⟨y1, y2, y3, y4, y5, y6⟩ := y
      dsimp only at g1 g2 g3 g4 g5 ⊢
      have hsz2 : y2 o = nI (evS e S).1.length := by
        obtain ⟨⟨L, p, hEM⟩, _⟩ := g1
        rw [hEM.1, p.length_eq]
      have hne : ¬ nI (evS e S).1.length = 60 := fun hx => by
        have := congrArg Int32.toInt hx
        rw [nI_toInt (by omega)] at this
        have e60 : (60 : Int32).toInt = 60 := by decide
        omega
      rw [X10_makesRoom_L4, ho0, cl, if_neg ok1, hsz2, if_neg hne]
      exact tot_s (Or.inr ⟨e, c, rfl, g1, g2, g3, g4, g5⟩)
  · have hne : ¬ nI S.1.length = 60 := fun hx => by
      have := congrArg Int32.toInt hx
      rw [nI_toInt (by omega)] at this
      have e60 : (60 : Int32).toInt = 60 := by decide
      omega
    rw [if_neg hne]
    exact tot_s (Or.inl ⟨c, rfl⟩)
end MRoom2
