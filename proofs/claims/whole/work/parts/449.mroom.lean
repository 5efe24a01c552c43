/-! the reference makes room on paper -/
section MRoom
variable {F o : Nat} {sil : Int32}
theorem m_L29 (hF : 1000 ≤ F) (a d : Int32) (J : SS → Prop) (hJ1 : ∀ b S, Ok b S → OkW (S.2.2.2 2) → J S → stopW a S = false → chS (-1) S ≠ none) (hJ2 : ∀ b S e, Ok b S → J S → chS (-1) S = some e → J (evS e S)) :
    ∀ (n c b m : Nat) (S : SS) (E : List Ev) (w went t : Nat → Int32) (came : Int32), S.1.length ≤ c → c ≤ 60 → c < n → b + c < 2147483648 → m + c < 2147483647 → E.length + c < 2147480000 → RM S w o → Ok b S → OkW (S.2.2.2 2) → J S → QS sil E t came →
    Tot (X10_makesRoom_L29 F n a w (nI o) went (nI m) t came d sil) (fun y => RM (evRun (stopW a) (-1) d c S).1 y.1 o ∧ FrO w y.1 o ∧ WNT went m (evRun (stopW a) (-1) d c S).2 y.2.1 ∧ y.2.2.1 = nI (m + (evRun (stopW a) (-1) d c S).2.length) ∧ QS sil (E ++ (evRun (stopW a) (-1) d c S).2) y.2.2.2.1 y.2.2.2.2 ∧ stopW a (evRun (stopW a) (-1) d c S).1 = true) := by
  intro n
  induction n with
  | zero => intro c b m S E w went t came _ _ hn; omega
  | succ n ih =>
    intro c b m S E w went t came hl h60 hn hb hm hE h ok hw4 hJ hq
    have ho := h.ho
    have hF1 : 100 ≤ F := by omega
    have hld : X10_load F w (nI o) = some (sumBy eW S.1) := by
      obtain ⟨⟨L, p, hEM⟩, _⟩ := h
      rw [m_load hEM hF1, sumBy_perm eW p]
    have hcap : w (o + 1) = S.2.2.2 1 := h.2.2.2 1 (by omega) (by omega)
    have step : Tot (if sumBy eW S.1 + a ≤ S.2.2.2 1 then some (w, went, nI m, t, came) else (X10_evicts F (-1) w (nI o) went (nI m) t came d sil).bind fun (r13, w14, e15, m16, t17, c18) => X10_makesRoom_L29 F n a w14 (nI o) e15 m16 t17 c18 d sil) (fun y => RM (evRun (stopW a) (-1) d c S).1 y.1 o ∧ FrO w y.1 o ∧ WNT went m (evRun (stopW a) (-1) d c S).2 y.2.1 ∧ y.2.2.1 = nI (m + (evRun (stopW a) (-1) d c S).2.length) ∧ QS sil (E ++ (evRun (stopW a) (-1) d c S).2) y.2.2.2.1 y.2.2.2.2 ∧ stopW a (evRun (stopW a) (-1) d c S).1 = true) := by
      by_cases cs : stopW a S = true
      · have cs2 : sumBy eW S.1 + a ≤ S.2.2.2 1 := by simpa [stopW] using cs
        rw [if_pos cs2, evRun_stop cs]
        exact tot_s ⟨h, FrO.rfl', WNT.nil, rfl, by simpa using hq, cs⟩
      · have cs1 : stopW a S = false := by simpa using cs
        have cs2 : ¬ sumBy eW S.1 + a ≤ S.2.2.2 1 := by simpa [stopW] using cs1
        rw [if_neg cs2]
        cases hc : chS (-1) S with
        | none => exact absurd hc (hJ1 b S ok hw4 hJ cs1)
        | some e =>
          have hmem := (chS_mem ok hc).1
          have hlen := evS_len ok hmem
          obtain ⟨c', rfl⟩ : ∃ c', c = c' + 1 := ⟨c - 1, by omega⟩
          refine tot_b (m_evicts (went := went) h ok hw4 hF hq (by omega) (by omega) (-1) d hc) (fun y ⟨_, g1, g2, g3, g4, g5⟩ => ?_)
          obtain ⟨y1, y2, y3, y4, y5, y6⟩ := y
          simp only at g1 g2 g3 g4 g5 ⊢
          subst g3; subst g4
          have := ih c' (b + 1) (m + 1) (evS e S) _ y2 (upd went (m % 128) (eK e)) y5 y6 (by omega) (by omega) (by omega) (by omega) (by omega) (by simp; omega) g1 (ok.ev (by omega)) (W4.ev (e := e) hw4) (hJ2 b S e ok hJ hc) g5
          rw [evRun_some cs1 hc]
          have hle := (evRun_ok (stop := stopW a) (but := -1) (d := d) c' (b + 1) (evS e S) (ok.ev (by omega)) (by omega)).2
          refine tot_m this (fun z ⟨z1, z2, z3, z4, z5, z6⟩ => ⟨z1, g2.trans z2, WNT.cons (by omega) z3, ?_, ?_, z6⟩)
          · rw [z4, List.length_cons]; congr 1; omega
          · rw [List.append_assoc] at z5; exact z5
    rw [X10_makesRoom_L29, hld]
    simp (disch := omega) only [nI_add, pn_add, pn_addl, pn_mul, pn_cl, pn_nlt0, false_or, pn_ge, pn_le, Nat.add_zero, Nat.zero_add, ↓reduceIte, Option.bind_some, nI_leI, nI_ltI, nI_eq, pn_ne1, pn_1ne, hcap]
    exact step
end MRoom
