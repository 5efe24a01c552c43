/-! victims: the loop on paper -/
section CVict
variable {F : Nat}
theorem c_L32 (hF : 100 ≤ F) (wt k0 : Int32) : ∀ (n i b : Nat) (S : SS) (E : List Ev) (x6 : tX6) (x1 : tX1) (xy xz : tX2) (xq : tX7), i ≤ 60 → 60 - i < n → b + 100 < 2147483648 + i → RC S x6 x1 xy xz → Ok b S → QC E xq →
    Tot (X9_victims_L32 F n wt k0 (nI i) x6 x1 xy xz xq) (fun y => RC (evRun (stopT wt) (-1) (dep xq) (60 - i) S).1 y.1 y.2.1 y.2.2.1 y.2.2.2.1 ∧ QC (E ++ (evRun (stopT wt) (-1) (dep xq) (60 - i) S).2) y.2.2.2.2 ∧ dep y.2.2.2.2 = dep xq) := by
  intro n
  induction n with
  | zero => intro i b S E x6 x1 xy xz xq _ hn; omega
  | succ n ih =>
    intro i b S E x6 x1 xy xz xq hi hn hb h ok hq
    obtain ⟨hap, got, cap, wy, bal, wbt⟩ := x6
    obtain ⟨kK, kV, kW, kC, kL, kT, kP, sz, ld, pl, us, ag, hv⟩ := x1
    obtain ⟨yk, ys⟩ := xy
    obtain ⟨zk, zs⟩ := xz
    obtain ⟨qa, qb, qc, qd, qe, qs, ql, qp⟩ := xq
    have hR := h
    obtain ⟨⟨L, p, hE⟩, hld, hpl, hy, hz, n1, n2, n3, n4, n5, n6, n7, n8, n9, n10, n11, n12⟩ := h
    have hlen := hE.2.1
    rw [X9_victims_L32]
    by_cases c60 : 60 ≤ i
    · rw [if_pos (by exact nI_le (a := 60) c60 (by omega))]
      rw [show 60 - i = 0 by omega]
      exact tot_s ⟨hR, by simpa [evRun] using hq, rfl⟩
    rw [if_neg (by exact nI_ge (b := 60) (by omega) (by omega))]
    have hti : X6_isTight F wt (hap, got, cap, wy, bal, wbt) (kK, kV, kW, kC, kL, kT, kP, sz, ld, pl, us, ag, hv) = some (bi (!(stopT wt S))) := by
      rw [X6_isTight, hE.1, hld, n6, p.length_eq]
      have hl2 := p.length_eq
      by_cases c1 : S.1.length < 60
      · rw [if_neg (by exact nI_ge (b := 60) c1 (by omega))]
        by_cases c2 : sumBy eW S.1 + wt ≤ S.2.2.2 1 <;> simp [stopT, c1, c2, bi]
      · rw [if_pos (by exact nI_le (a := 60) (by omega) (by omega))]
        simp [stopT, c1, bi]
    rw [hti]
    simp only [Option.bind_some]
    by_cases cs : (stopT wt : SS → Bool) S = true
    · rw [cs, if_pos (show bi (!true) = 0 from rfl), evRun_stop cs]
      exact tot_s ⟨hR, by simpa using hq, rfl⟩
    rw [show stopT wt S = false by simpa using cs, if_neg (show ¬ bi (!false) = 0 by decide)]
    by_cases cs2 : False
    · exact cs2.elim

    · have cs' : ((stopT wt) : SS → Bool) S = false := by simpa using cs
      have hch := RC.choose hR ok hF wy (-1)
      rw [n7] at hch ⊢
      rw [n7] at hR
      refine tot_b hch (fun r hr => ?_)
      cases hc : chS (-1) S with
      | none =>
        rw [show chooseS (S.2.2.2 2) (-1) (S.2.2.2 3) (S.2.2.2 16) S.1 = none from hc] at hr
        obtain ⟨L', p', hE', hi'⟩ := hr
        rcases hi' with ⟨rfl, _⟩ | ⟨j, hj, rfl, he⟩
        · rw [c_evictN]
          simp only [Option.bind_some]
          have := ih (i + 1) b S E _ _ _ _ _ (by omega) (by omega) (by omega) hR ok hq
          rw [evRun_none hc] at this ⊢
          rw [nI_1]
          exact this
        · cases he
      | some e =>
        rw [show chooseS (S.2.2.2 2) (-1) (S.2.2.2 3) (S.2.2.2 16) S.1 = some e from hc] at hr
        refine tot_b (c_evict hR ok hF hq hr) (fun y ⟨g1, g2, g3⟩ => ?_)
        obtain ⟨y6, y1, yy, yz, yq⟩ := y
        have := ih (i + 1) (b + 1) (evS e S) _ y6 y1 yy yz yq (by omega) (by omega) (by omega) g1 (ok.ev (by omega)) g2
        rw [show 60 - i = (60 - (i + 1)) + 1 by omega, evRun_some cs' hc, nI_1]
        have g3' : dep yq = qp := g3
        rw [g3'] at this
        rw [List.append_assoc] at this
        exact this
end CVict
