/-! the paper: a store laid out beside -/
section Paper
variable {F b : Nat} {S : SS}
theorem c_copyS {d6 x6 : tX6} {d1 x1 : tX1} {dy xy dz xz : tX2} (hF : 200 ≤ F) (hR : RC S x6 x1 xy xz) (ok : Ok b S) :
    Tot (X6_copyFrom F d6 d1 dy dz x6 x1 xy xz) (fun y => RC S y.1 y.2.1 y.2.2.1 y.2.2.2) := by
  have c60 : Int32.toNatClampNeg 60 = 60 := by decide
  have c16 : Int32.toNatClampNeg 16 = 16 := by decide
  have c7 : Int32.toNatClampNeg 7 = 7 := by decide
  obtain ⟨dhap, dgot, dcap, dwy, dbal, dwbt⟩ := d6
  obtain ⟨dK, dV, dW, dC, dL, dT, dP, dsz, dld, dpl, dus, dag, dhv⟩ := d1
  obtain ⟨dyk, dys⟩ := dy
  obtain ⟨dzk, dzs⟩ := dz
  obtain ⟨hap, got, cap, wy, bal, wbt⟩ := x6
  obtain ⟨kK, kV, kW, kC, kL, kT, kP, sz, ld, pl, us, ag, hvv⟩ := x1
  obtain ⟨yk, ys⟩ := xy
  obtain ⟨zk, zs⟩ := xz
  rw [X6_copyFrom, X1_copyFrom]
  simp only [Option.bind_assoc, X2_copyFrom, Option.bind_some]
  refine tot_b (c_copyP (F := F) 60 0 F dP kP (by omega) (by omega)) (fun r hr => tot_s ?_)
  obtain ⟨⟨L, p, hsz, hl, hE⟩, h2, h3, h4, h5, n1, n2, n3, n4, nn⟩ := hR
  refine ⟨⟨L, p, hsz, hl, fun i hi => ?_⟩, h2, h3, ?_, ?_, ?_, ?_, ?_, ?_, nn⟩
  · have hP : kP i = 0 ∨ kP i = 1 := by
      have := (ok.1.perm p).PB L[i] (List.getElem_mem hi)
      rw [hE i hi] at this; exact this
    rw [hE i hi]
    simp only [rowC]
    rw [cpy_at c60 (by omega), cpy_at c60 (by omega), cpy_at c60 (by omega), cpy_at c60 (by omega), cpy_at c60 (by omega), cpy_at c60 (by omega), (hr i).1 (by omega) (by omega), nar_b hP]
  · obtain ⟨q1, q2, q3⟩ := h4
    refine ⟨q1, q2, fun i hi => ?_⟩
    show _ = va_cpy yk dyk _ _ _ i
    rw [cpy_at c16 (by omega)]; exact q3 i hi
  · obtain ⟨q1, q2, q3⟩ := h5
    refine ⟨q1, q2, fun i hi => ?_⟩
    show _ = va_cpy zk dzk _ _ _ i
    rw [cpy_at c16 (by omega)]; exact q3 i hi
  · rw [cpy_at c7 (by decide)]; exact n1
  · rw [cpy_at c7 (by decide)]; exact n2
  · rw [cpy_at c7 (by decide)]; exact n3
  · rw [cpy_at c7 (by decide)]; exact n4
theorem c_lay {d6 x6 : tX6} {d1 x1 : tX1} {dy xy dz xz : tX2} {dq : tX7} (hF : 200 ≤ F) (hR : RC S x6 x1 xy xz) (ok : Ok b S) :
    Tot (X9_layStore F x6 x1 xy xz d6 d1 dy dz dq) (fun y => RC S y.1 y.2.1 y.2.2.1 y.2.2.2.1 ∧ QC [] y.2.2.2.2 ∧ dep y.2.2.2.2 = 0) := by
  have hcp := c_copyS (F := F) (d6 := d6) (d1 := d1) (dy := dy) (dz := dz) hF hR ok
  obtain ⟨dhap, dgot, dcap, dwy, dbal, dwbt⟩ := d6
  obtain ⟨dK, dV, dW, dC, dL, dT, dP, dsz, dld, dpl, dus, dag, dhv⟩ := d1
  obtain ⟨dyk, dys⟩ := dy
  obtain ⟨dzk, dzs⟩ := dz
  obtain ⟨ea, eb, ec, ed, ee, es, el, ep⟩ := dq
  obtain ⟨hap, got, cap, wy, bal, wbt⟩ := x6
  obtain ⟨kK, kV, kW, kC, kL, kT, kP, sz, ld, pl, us, ag, hvv⟩ := x1
  obtain ⟨yk, ys⟩ := xy
  obtain ⟨zk, zs⟩ := xz
  rw [X9_layStore]
  refine tot_b hcp (fun y hy => ?_)
  obtain ⟨⟨j1, j2, j3, j4, j5, j6⟩, ⟨j7, j8, j9, j10, j11, j12, j13, j14, j15, j16, j17, j18, j19⟩, ⟨j20, j21⟩, ⟨j22, j23⟩⟩ := y
  rw [X7_open]
  exact tot_s ⟨hy, QC_0, rfl⟩
/-- the reference's paper -/
theorem m_paper {V : WV} {w : Nat → Int32} {o wm sil : Int32} (hF : 1000 ≤ F) (hm : RWm V w 0) : ∃ w', X10_toPaper F w o wm sil = some (w', 2544, 0, 1) ∧ RWm V w' 2544 ∧ ∀ q, q < 2544 → w' q = w q := by
  obtain ⟨w', hw', hw1, hw2⟩ := m_copies hF (a := 2544) (b := 0) (by omega) (by omega) (by omega) w
  refine ⟨w', ?_, hm.shift (by omega) hw1, fun q hq => hw2 q (by omega)⟩
  rw [X10_toPaper, show X10_copies F 2544 0 w = _ from hw', Option.bind_some]
end Paper
