/-! worlds copied -/
theorem cpy_at {f g : Nat → Int32} {c : Int32} {n k : Nat} (hc : Int32.toNatClampNeg c = n) (h : k < n) : va_cpy f g (Int32.toNatClampNeg 0) (Int32.toNatClampNeg 0) (Int32.toNatClampNeg c) k = f k := by
  have e0 : Int32.toNatClampNeg 0 = 0 := by decide
  rw [hc, e0, va_cpy, if_pos (by omega)]; congr 1; omega
section Copy
variable {F : Nat}
theorem c_copyP : ∀ (c i f : Nat) (p o : Nat → Int32), i + c = 60 → c < f → Tot (X1_copyFrom_L92 F f (nI i) p o) (fun r => ∀ k, (i ≤ k → k < 60 → r k = vp_nar .boolean (o k)) ∧ (k < i → r k = p k)) := by
  intro c
  induction c with
  | zero =>
    intro i f p o hi hf
    obtain ⟨f, rfl⟩ : ∃ k, f = k + 1 := ⟨f - 1, by omega⟩
    obtain rfl : i = 60 := by omega
    rw [X1_copyFrom_L92, if_pos (by decide)]
    exact tot_s (fun k => ⟨fun h1 h2 => by omega, fun _ => rfl⟩)
  | succ c ih =>
    intro i f p o hi hf
    obtain ⟨f, rfl⟩ : ∃ k, f = k + 1 := ⟨f - 1, by omega⟩
    rw [X1_copyFrom_L92, show (60 : Int32) = nI 60 from rfl]
    simp (disch := omega) only [nI_add, pn_add, pn_addl, pn_mul, pn_cl, pn_nlt0, false_or, pn_ge, pn_le, Nat.add_zero, Nat.zero_add, ↓reduceIte, Option.bind_some, nI_leI, nI_ltI, nI_eq, pn_ne1, pn_1ne]
    refine tot_m (ih (i + 1) f _ o (by omega) (by omega)) (fun r hr k => ⟨fun h1 h2 => ?_, fun h1 => ?_⟩)
    · by_cases ck : k = i
      · subst ck; rw [(hr k).2 (by omega), upd_s]
      · exact (hr k).1 (by omega) h2
    · rw [(hr k).2 (by omega), upd_n (by omega)]
theorem c_copyL {b0 b1 b2 b3 b4 b5 b6 b7 b8 : Nat → Int32} (hon : ∀ i, i < 8 → b6 i = 0 ∨ b6 i = 1) : ∀ (c i f : Nat) (a0 a1 a2 a3 a4 a5 a6 a7 a8 : Nat → Int32), i + c = 8 → c < f → (∀ k, k < i → a0 k = b0 k ∧ a1 k = b1 k ∧ a2 k = b2 k ∧ a3 k = b3 k ∧ a4 k = b4 k ∧ a5 k = b5 k ∧ a6 k = b6 k ∧ a7 k = b7 k ∧ a8 k = b8 k) →
    Tot (X8_copyFrom_L13 F f (nI i) (a0, a1, a2, a3, a4, a5, a6, a7, a8) (b0, b1, b2, b3, b4, b5, b6, b7, b8)) (fun r => ∀ k, k < 8 → r.1 k = b0 k ∧ r.2.1 k = b1 k ∧ r.2.2.1 k = b2 k ∧ r.2.2.2.1 k = b3 k ∧ r.2.2.2.2.1 k = b4 k ∧ r.2.2.2.2.2.1 k = b5 k ∧ r.2.2.2.2.2.2.1 k = b6 k ∧ r.2.2.2.2.2.2.2.1 k = b7 k ∧ r.2.2.2.2.2.2.2.2 k = b8 k) := by
  intro c
  induction c with
  | zero =>
    intro i f a0 a1 a2 a3 a4 a5 a6 a7 a8 hi hf h
    obtain ⟨f, rfl⟩ : ∃ k, f = k + 1 := ⟨f - 1, by omega⟩
    obtain rfl : i = 8 := by omega
    rw [X8_copyFrom_L13, if_pos (by decide)]
    exact tot_s h
  | succ c ih =>
    intro i f a0 a1 a2 a3 a4 a5 a6 a7 a8 hi hf h
    obtain ⟨f, rfl⟩ : ∃ k, f = k + 1 := ⟨f - 1, by omega⟩
    have ho : ¬ ¬ (b6 i = 0 ∨ b6 i = 1) := Classical.not_not.2 (hon i (by omega))
    rw [X8_copyFrom_L13, show (8 : Int32) = nI 8 from rfl]
    simp only [X3_copyFrom]
    simp (disch := omega) only [nI_add, pn_add, pn_addl, pn_mul, pn_cl, pn_nlt0, false_or, pn_ge, pn_le, Nat.add_zero, Nat.zero_add, ↓reduceIte, Option.bind_some, nI_leI, nI_ltI, nI_eq, pn_ne1, pn_1ne, if_neg ho]
    refine ih (i + 1) f _ _ _ _ _ _ _ _ _ (by omega) (by omega) (fun k hk => ?_)
    by_cases ck : k = i
    · subst ck; refine ⟨?_, ?_, ?_, ?_, ?_, ?_, ?_, ?_, ?_⟩ <;> rw [upd_s]
    · obtain ⟨l0, l1, l2, l3, l4, l5, l6, l7, l8⟩ := h k (by omega)
      refine ⟨?_, ?_, ?_, ?_, ?_, ?_, ?_, ?_, ?_⟩ <;> rw [upd_n ck] <;> assumption
theorem c_copy {b T : Nat} {V : WV} {d8 x8 : tX8} {d6 x6 : tX6} {d1 x1 : tX1} {dy xy dz xz : tX2} {dl l8 : tL8} {d4 x4 : tX4} {d5 x5 : tX5} (hF : 200 ≤ F) (h : RWc V x8 x6 x1 xy xz l8 x4 x5) (ok : OkWV b T V) :
    Tot (X8_copyFrom F d8 d6 d1 dy dz dl d4 d5 x8 x6 x1 xy xz l8 x4 x5) (fun y => RWc V y.1 y.2.1 y.2.2.1 y.2.2.2.1 y.2.2.2.2.1 y.2.2.2.2.2.1 y.2.2.2.2.2.2.1 y.2.2.2.2.2.2.2) := by
  have c60 : Int32.toNatClampNeg 60 = 60 := by decide
  have c16 : Int32.toNatClampNeg 16 = 16 := by decide
  have c40 : Int32.toNatClampNeg 40 = 40 := by decide
  have c100 : Int32.toNatClampNeg 100 = 100 := by decide
  have c7 : Int32.toNatClampNeg 7 = 7 := by decide
  obtain ⟨hR, hL, hG, hQ, hx8⟩ := h
  obtain ⟨e0, e1, e2, e3⟩ := d8
  obtain ⟨dhap, dgot, dcap, dwy, dbal, dwbt⟩ := d6
  obtain ⟨dK, dV, dW, dC, dL, dT, dP, dsz, dld, dpl, dus, dag, dhv⟩ := d1
  obtain ⟨dyk, dys⟩ := dy
  obtain ⟨dzk, dzs⟩ := dz
  obtain ⟨f0, f1, f2, f3, f4, f5, f6, f7, f8⟩ := dl
  obtain ⟨g0, g1, g2, g3, g4, g5, g6⟩ := d4
  obtain ⟨drk, drs⟩ := d5
  obtain ⟨lc, tk, ls, dpp⟩ := x8
  obtain ⟨hap, got, cap, wy, bal, wbt⟩ := x6
  obtain ⟨kK, kV, kW, kC, kL, kT, kP, sz, ld, pl, us, ag, hvv⟩ := x1
  obtain ⟨yk, ys⟩ := xy
  obtain ⟨zk, zs⟩ := xz
  obtain ⟨a0, a1, a2, a3, a4, a5, a6, a7, a8⟩ := l8
  obtain ⟨s0, s1, s2, s3, s4, s5, s6⟩ := x4
  obtain ⟨rk, rs⟩ := x5
  obtain ⟨n8, hL2, hL3⟩ := hL
  have hon : ∀ i, i < 8 → a6 i = 0 ∨ a6 i = 1 := fun i hi => by
    by_cases ci : i < V.1
    · rw [(hL2 i ci).2.2.2.2.2.2.1]; exact (ok.2.2.1 i ci).2.2.2.1
    · exact hL3 i (by omega) hi
  rw [X8_copyFrom, X6_copyFrom, X1_copyFrom]
  simp only [Option.bind_assoc, X2_copyFrom, X4_copyFrom, X5_copyFrom, Option.bind_some]
  refine tot_b (c_copyP (F := F) 60 0 F dP kP (by omega) (by omega)) (fun r hr => ?_)
  refine tot_b (c_copyL (F := F) hon 8 0 F f0 f1 f2 f3 f4 f5 f6 f7 f8 (by omega) (by omega) (fun k hk => by omega)) (fun y hy => ?_)
  obtain ⟨y0, y1, y2, y3, y4, y5, y6, y7, y8⟩ := y
  refine tot_s ⟨?_, ?_, ?_, ?_, hx8⟩
  · obtain ⟨⟨L, p, hsz, hl, hE⟩, h2, h3, h4, h5, n1, n2, n3, n4, nn⟩ := hR
    refine ⟨⟨L, p, hsz, hl, fun i hi => ?_⟩, h2, h3, ?_, ?_, ?_, ?_, ?_, ?_, nn⟩
    · have hP : kP i = 0 ∨ kP i = 1 := by
        have := (ok.2.1.1.1.perm p).PB L[i] (List.getElem_mem hi)
        rw [hE i hi] at this; exact this
      rw [hE i hi]
      simp only [rowC]
      rw [cpy_at c60 (by omega), cpy_at c60 (by omega), cpy_at c60 (by omega), cpy_at c60 (by omega), cpy_at c60 (by omega), cpy_at c60 (by omega), (hr i).1 (by omega) (by omega), nar_b hP]
    · obtain ⟨q1, q2, q3⟩ := h4
      refine ⟨q1, q2, fun i hi => ?_⟩
      show _ = va_cpy yk dyk _ _ _ i
      rw [cpy_at c16 (by omega)]; exact q3 i hi
    · obtain ⟨q1, q2, q3⟩ := h5
      refine ⟨q1, q2, fun i hi => ?_⟩
      show _ = va_cpy zk dzk _ _ _ i
      rw [cpy_at c16 (by omega)]; exact q3 i hi
    · rw [cpy_at c7 (by decide)]; exact n1
    · rw [cpy_at c7 (by decide)]; exact n2
    · rw [cpy_at c7 (by decide)]; exact n3
    · rw [cpy_at c7 (by decide)]; exact n4
  · refine ⟨n8, fun i hi => ?_, fun i h1 h2 => ?_⟩
    · obtain ⟨q0, q1, q2, q3, q4, q5, q6, q7, q8⟩ := hy i (by omega)
      obtain ⟨l0, l1, l2, l3, l4, l5, l6, l7, l8⟩ := hL2 i hi
      exact ⟨q0.trans l0, q1.trans l1, q2.trans l2, q3.trans l3, q4.trans l4, q5.trans l5, q6.trans l6, q7.trans l7, q8.trans l8⟩
    · obtain ⟨q0, q1, q2, q3, q4, q5, q6, q7, q8⟩ := hy i h2
      have q6' : y6 i = a6 i := q6
      show y6 i = 0 ∨ y6 i = 1
      rw [q6']; exact hon i h2
  · obtain ⟨x, g1, g2, g3, g4, g5, g6⟩ := hG
    refine ⟨x, g1, g2, g3, g4, g5, fun k hk => ?_⟩
    have hlt : (x + 39 - k) % 40 < 40 := Nat.mod_lt _ (by decide)
    rw [g6 k hk, cpy_at c40 hlt, cpy_at c40 hlt, cpy_at c40 hlt, cpy_at c40 hlt, cpy_at c40 hlt]
  · obtain ⟨q1, q2, q3⟩ := hQ
    refine ⟨q1, q2, fun i hi => ?_⟩
    show _ = va_cpy rk drk _ _ _ i
    rw [cpy_at c100 (by omega)]; exact q3 i hi
end Copy
