/-! keep and back -/
section KeepM
variable {F : Nat}
theorem m_copies (hF : 1000 ≤ F) {a b : Nat} (ha : a + 848 ≤ 3392) (hb : b + 848 ≤ 3392) (hab : a + 848 ≤ b ∨ b + 848 ≤ a) (w : Nat → Int32) : Tot (X10_copies F (nI a) (nI b) w) (fun w' => (∀ q, q < 848 → w' (a + q) = w (b + q)) ∧ ∀ q, (q < a ∨ a + 848 ≤ q) → w' q = w q) := by
  have key : ∀ (c i f : Nat) (u : Nat → Int32), i + c = 848 → c < f → (∀ q, q < i → u (a + q) = w (b + q)) → (∀ q, (q < a ∨ a + i ≤ q) → u q = w q) → Tot (X10_copies_L2 F f (nI a) (nI b) (nI i) u) (fun w' => (∀ q, q < 848 → w' (a + q) = w (b + q)) ∧ ∀ q, (q < a ∨ a + 848 ≤ q) → w' q = w q) := by
    intro c
    induction c with
    | zero =>
      intro i f u hi hf h1 h2
      obtain ⟨f, rfl⟩ : ∃ k, f = k + 1 := ⟨f - 1, by omega⟩
      obtain rfl : i = 848 := by omega
      rw [X10_copies_L2, if_pos (by decide)]
      exact tot_s ⟨h1, h2⟩
    | succ c ih =>
      intro i f u hi hf h1 h2
      obtain ⟨f, rfl⟩ : ∃ k, f = k + 1 := ⟨f - 1, by omega⟩
      rw [X10_copies_L2, show (848 : Int32) = nI 848 from rfl]
      simp (disch := omega) only [nI_add, pn_add, pn_addl, pn_mul, pn_cl, pn_nlt0, false_or, pn_ge, pn_le, Nat.add_zero, Nat.zero_add, ↓reduceIte, Option.bind_some, nI_leI, nI_ltI, nI_eq, pn_ne1, pn_1ne]
      refine ih (i + 1) f _ (by omega) (by omega) (fun q hq => ?_) (fun q hq => ?_)
      · by_cases cq : q = i
        · subst cq; rw [upd_s]; exact h2 _ (by omega)
        · rw [upd_n (by omega)]; exact h1 q (by omega)
      · rw [upd_n (by omega)]; exact h2 q (by omega)
  rw [X10_copies]
  refine tot_b (key 848 0 F w (by omega) (by omega) (fun q hq => by omega) (fun q _ => rfl)) (fun r hr => tot_s hr)
theorem RWm.shift {V : WV} {w w' : Nat → Int32} {a b : Nat} (h : RWm V w b) (ha : a + 848 ≤ 3392) (hw : ∀ q, q < 848 → w' (a + q) = w (b + q)) : RWm V w' a := by
  obtain ⟨⟨⟨L, p, e0, e1, e2, e3⟩, hy, hz, hN⟩, ⟨hn, l1, l2⟩, ⟨g1, g2, g3⟩, ⟨r1, r2, r3⟩⟩ := h
  have hw' : ∀ q x, x = a + q → q < 848 → w' x = w (b + q) := fun q x hx hq => by rw [hx]; exact hw q hq
  refine ⟨⟨⟨L, p, ?_, e1, ha, fun i hi => ?_⟩, ?_, ?_, fun q q1 q2 => ?_⟩, ⟨hn, ?_, fun i j hi hj => ?_⟩, ⟨?_, g2, fun k hk => ?_⟩, ⟨?_, r2, fun i hi => ?_⟩⟩
  · rw [hw' 0 a (by omega) (by omega)]; exact e0
  · rw [e3 i hi]; simp only [rowAt]
    rw [hw' (24 + 7 * i) (a + 24 + 7 * i) (by omega) (by omega), hw' (24 + 7 * i + 1) (a + 24 + 7 * i + 1) (by omega) (by omega), hw' (24 + 7 * i + 2) (a + 24 + 7 * i + 2) (by omega) (by omega), hw' (24 + 7 * i + 3) (a + 24 + 7 * i + 3) (by omega) (by omega), hw' (24 + 7 * i + 4) (a + 24 + 7 * i + 4) (by omega) (by omega), hw' (24 + 7 * i + 5) (a + 24 + 7 * i + 5) (by omega) (by omega), hw' (24 + 7 * i + 6) (a + 24 + 7 * i + 6) (by omega) (by omega)]
    simp only [Nat.add_assoc]
  · obtain ⟨y0, y1, y2, y3, y4⟩ := hy
    refine ⟨y0, ha, ?_, y3, fun i hi => ?_⟩
    · rw [hw' 19 (a + 19 + 0) (by omega) (by omega)]; exact y2
    · rw [hw' (444 + 16 * 0 + i) (a + 444 + 16 * 0 + i) (by omega) (by omega)]; rw [y4 i hi]; simp only [Nat.add_assoc]
  · obtain ⟨y0, y1, y2, y3, y4⟩ := hz
    refine ⟨y0, ha, ?_, y3, fun i hi => ?_⟩
    · rw [hw' 20 (a + 19 + 1) (by omega) (by omega)]; exact y2
    · rw [hw' (444 + 16 * 1 + i) (a + 444 + 16 * 1 + i) (by omega) (by omega)]; rw [y4 i hi]; simp only [Nat.add_assoc]
  · rw [hw q (by omega)]; exact hN q q1 q2
  · rw [hw 7 (by omega)]; exact l1
  · have hi8 : 9 * i + j < 72 := by omega
    rw [hw' (476 + 9 * i + j) (a + 476 + 9 * i + j) (by omega) (by omega), ← l2 i j hi hj]; simp only [Nat.add_assoc]
  · rw [hw 18 (by omega)]; exact g1
  · rw [g3 k hk, hw' (548 + 5 * k) (a + 548 + 5 * k) (by omega) (by omega), hw' (548 + 5 * k + 1) (a + 548 + 5 * k + 1) (by omega) (by omega), hw' (548 + 5 * k + 2) (a + 548 + 5 * k + 2) (by omega) (by omega), hw' (548 + 5 * k + 3) (a + 548 + 5 * k + 3) (by omega) (by omega), hw' (548 + 5 * k + 4) (a + 548 + 5 * k + 4) (by omega) (by omega)]
    simp only [Nat.add_assoc]
  · rw [hw 14 (by omega)]; exact r1
  · rw [r3 i hi, hw' (748 + i) (a + 748 + i) (by omega) (by omega)]; simp only [Nat.add_assoc]
end KeepM
theorem sz_eq {V : WV} {x8 : tX8} {x6 : tX6} {x1 : tX1} {xy xz : tX2} {l8 : tL8} {x4 : tX4} {x5 : tX5} {w : Nat → Int32} {o : Nat} (h : RWc V x8 x6 x1 xy xz l8 x4 x5) (hm : RWm V w o) : x1.2.2.2.2.2.2.2.1 = w o := by
  obtain ⟨hR, _⟩ := h
  obtain ⟨hap, got, cap, wy, bal, wbt⟩ := x6
  obtain ⟨kK, kV, kW, kC, kL, kT, kP, sz, ld, pl, us, ag, hvv⟩ := x1
  obtain ⟨⟨L, p, e0, _⟩, _⟩ := hR
  obtain ⟨⟨⟨M, p2, e2, _⟩, _⟩, _⟩ := hm
  show sz = w o
  rw [e0, e2, p.length_eq, p2.length_eq]
section SKeep
variable {F N : Nat} {x8 : tX8} {x6 : tX6} {x1 : tX1} {xy xz : tX2} {xq : tX7} {l8 : tL8} {x4 : tX4} {x5 : tX5} {i0 i1 : Option tWi} {w ik : Nat → Int32} {wm th : Int32} {d8 : tX8} {d6 : tX6} {d1 : tX1} {dy dz : tX2} {dq : tX7} {dl : tL8} {d4 : tX4} {d5 : tX5}
theorem S_keep0 (hF : 1000 ≤ F) (hI : Inv N (x8, x6, x1, xy, xz, l8, x4, x5) i0 i1 w ik wm) :
    Tot (X9_keep_0i F x8 x6 x1 xy xz xq l8 x4 x5 d8 d6 d1 dy dz dq dl d4 d5) (fun y => Tot (X10_keep F 0 th w ik) (fun z => y.1 = z.1 ∧ Inv (N + 1) (x8, x6, x1, xy, xz, l8, x4, x5) (some y.2) (i1) z.2.2.1 z.2.2.2 wm)) := by
  obtain ⟨⟨V, hc, hm, ok⟩, hi0, hi1, ⟨m, rfl, hmm⟩⟩ := id hI
  have hcp := c_copy (F := F) (d8 := d8) (d6 := d6) (d1 := d1) (dy := dy) (dz := dz) (dl := dl) (d4 := d4) (d5 := d5) (by omega) hc ok
  have hsz := sz_eq hc hm
  obtain ⟨w', hw', hw1, hw2⟩ := m_copies hF (a := 848) (b := 0) (by omega) (by omega) (by omega) w
  obtain ⟨e0, e1, e2, e3⟩ := d8
  obtain ⟨dhap, dgot, dcap, dwy, dbal, dwbt⟩ := d6
  obtain ⟨dK, dV, dW, dC, dL, dT, dP, dsz, dld, dpl, dus, dag, dhv⟩ := d1
  obtain ⟨dyk, dys⟩ := dy
  obtain ⟨dzk, dzs⟩ := dz
  obtain ⟨ea, eb, ec, ed, ee, es, el, ep⟩ := dq
  obtain ⟨f0, f1, f2, f3, f4, f5, f6, f7, f8⟩ := dl
  obtain ⟨g0, g1, g2, g3, g4, g5, g6⟩ := d4
  obtain ⟨drk, drs⟩ := d5
  obtain ⟨lc, tk, ls, dpp⟩ := x8
  obtain ⟨hap, got, cap, wy, bal, wbt⟩ := x6
  obtain ⟨kK, kV, kW, kC, kL, kT, kP, sz, ld, pl, us, ag, hvv⟩ := x1
  obtain ⟨yk, ys⟩ := xy
  obtain ⟨zk, zs⟩ := xz
  obtain ⟨qa, qb, qc, qd, qe, qs, ql, qp⟩ := xq
  obtain ⟨a0, a1, a2, a3, a4, a5, a6, a7, a8⟩ := l8
  obtain ⟨s0, s1, s2, s3, s4, s5, s6⟩ := x4
  obtain ⟨rk, rs⟩ := x5
  have mk : X10_keep F 0 th w ik = some (w' 0, 0, w', upd ik 0 1) := by
    rw [X10_keep, show X10_isIn F (0 : Int32).toInt64 0 1 = _ from isIn_eq (F := F) 0 0 1, Option.bind_some, if_neg (by decide), show X10_copies F (848 * (0 + 1)) 0 w = _ from hw', Option.bind_some, if_neg (by decide)]
    rfl
  rw [X9_keep_0i, mk, within_eq, Option.bind_some, if_neg (by decide)]
  refine tot_b hcp (fun y hy => ?_)
  obtain ⟨⟨m1, m2, m3, m4⟩, ⟨j1, j2, j3, j4, j5, j6⟩, ⟨j7, j8, j9, j10, j11, j12, j13, j14, j15, j16, j17, j18, j19⟩, ⟨j20, j21⟩, ⟨j22, j23⟩, ⟨l0, l1, l2, l3, l4, l5, l6, l7, l8⟩, ⟨t0, t1, t2, t3, t4, t5, t6⟩, ⟨r1, r2⟩⟩ := y
  refine tot_s (tot_s ⟨?_, ?_, ?_, ?_, ⟨m, rfl, by omega⟩⟩)
  · show sz = w' 0
    rw [hw2 0 (by omega)]; exact hsz
  · exact ⟨V, hc, hm.far (fun q q1 q2 => hw2 q (by omega)), ok.up (by omega) (by omega)⟩
  · exact ⟨show upd ik 0 1 0 = 1 from upd_s, V, hy, hm.shift (by omega) hw1, ok.up (by omega) (by omega)⟩
  · have := hi1.go (M := N + 1) (w' := w') (by omega) (fun q q1 q2 => hw2 q (by omega))
    cases i1 with
    | none => show upd ik 0 1 1 = 0; rw [upd_n (by decide)]; exact this
    | some d => exact ⟨show upd ik 0 1 1 = 1 by rw [upd_n (by decide)]; exact this.1, this.2⟩
theorem S_back0 (hF : 1000 ≤ F) (hI : Inv N (x8, x6, x1, xy, xz, l8, x4, x5) (some (d8, d6, d1, dy, dz, dl, d4, d5)) i1 w ik wm) :
    Tot (X9_back_0i F x8 x6 x1 xy xz xq l8 x4 x5 d8 d6 d1 dy dz dq dl d4 d5) (fun y => Tot (X10_back F 0 th w ik) (fun z => y.1 = z.1 ∧ Inv (N + 1) y.2 (some (d8, d6, d1, dy, dz, dl, d4, d5)) i1 z.2.2 ik wm)) := by
  obtain ⟨_, hi0, hi1, ⟨m, rfl, hmm⟩⟩ := id hI
  obtain ⟨hk, V, hc, hm, ok⟩ := id hi0
  have hcp := c_copy (F := F) (d8 := x8) (d6 := x6) (d1 := x1) (dy := xy) (dz := xz) (dl := l8) (d4 := x4) (d5 := x5) (by omega) hc ok
  obtain ⟨w', hw', hw1, hw2⟩ := m_copies hF (a := 0) (b := 848) (by omega) (by omega) (by omega) w
  obtain ⟨e0, e1, e2, e3⟩ := d8
  obtain ⟨dhap, dgot, dcap, dwy, dbal, dwbt⟩ := d6
  obtain ⟨dK, dV, dW, dC, dL, dT, dP, dsz, dld, dpl, dus, dag, dhv⟩ := d1
  obtain ⟨dyk, dys⟩ := dy
  obtain ⟨dzk, dzs⟩ := dz
  obtain ⟨ea, eb, ec, ed, ee, es, el, ep⟩ := dq
  obtain ⟨f0, f1, f2, f3, f4, f5, f6, f7, f8⟩ := dl
  obtain ⟨g0, g1, g2, g3, g4, g5, g6⟩ := d4
  obtain ⟨drk, drs⟩ := d5
  obtain ⟨lc, tk, ls, dpp⟩ := x8
  obtain ⟨hap, got, cap, wy, bal, wbt⟩ := x6
  obtain ⟨kK, kV, kW, kC, kL, kT, kP, sz, ld, pl, us, ag, hvv⟩ := x1
  obtain ⟨yk, ys⟩ := xy
  obtain ⟨zk, zs⟩ := xz
  obtain ⟨qa, qb, qc, qd, qe, qs, ql, qp⟩ := xq
  obtain ⟨a0, a1, a2, a3, a4, a5, a6, a7, a8⟩ := l8
  obtain ⟨s0, s1, s2, s3, s4, s5, s6⟩ := x4
  obtain ⟨rk, rs⟩ := x5
  have mk : X10_back F 0 th w ik = some (w' 0, 0, w') := by
    rw [X10_back, show X10_isIn F (0 : Int32).toInt64 0 1 = _ from isIn_eq (F := F) 0 0 1, Option.bind_some, if_neg (by decide), if_neg (by decide), show Int32.toNatClampNeg 0 = 0 from by decide, hk, if_neg (by decide), show X10_copies F 0 (848 * (0 + 1)) w = _ from hw', Option.bind_some]
  rw [X9_back_0i, mk, within_eq, Option.bind_some, if_neg (by decide)]
  refine tot_b hcp (fun y hy => ?_)
  obtain ⟨⟨m1, m2, m3, m4⟩, ⟨j1, j2, j3, j4, j5, j6⟩, ⟨j7, j8, j9, j10, j11, j12, j13, j14, j15, j16, j17, j18, j19⟩, ⟨j20, j21⟩, ⟨j22, j23⟩, ⟨l0, l1, l2, l3, l4, l5, l6, l7, l8⟩, ⟨t0, t1, t2, t3, t4, t5, t6⟩, ⟨r1, r2⟩⟩ := y
  have hm' : RWm V w' 0 := hm.shift (by omega) hw1
  refine tot_s (tot_s ⟨sz_eq hy hm', ⟨V, hy, hm', ok.up (by omega) (by omega)⟩, hi0.go (by omega) (fun q q1 q2 => hw2 q (by omega)), hi1.go (by omega) (fun q q1 q2 => hw2 q (by omega)), ⟨m, rfl, by omega⟩⟩)
theorem S_back0n (hI : Inv N (x8, x6, x1, xy, xz, l8, x4, x5) none i1 w ik wm) :
    X9_back_0n F x8 x6 x1 xy xz xq l8 x4 x5 = some (-3) ∧ X10_back F 0 th w ik = some (-3, 0, w) := by
  obtain ⟨_, hi0, hi1, _⟩ := id hI
  have hk : ik 0 = 0 := hi0
  obtain ⟨lc, tk, ls, dpp⟩ := x8
  obtain ⟨hap, got, cap, wy, bal, wbt⟩ := x6
  obtain ⟨kK, kV, kW, kC, kL, kT, kP, sz, ld, pl, us, ag, hvv⟩ := x1
  obtain ⟨yk, ys⟩ := xy
  obtain ⟨zk, zs⟩ := xz
  obtain ⟨qa, qb, qc, qd, qe, qs, ql, qp⟩ := xq
  obtain ⟨a0, a1, a2, a3, a4, a5, a6, a7, a8⟩ := l8
  obtain ⟨s0, s1, s2, s3, s4, s5, s6⟩ := x4
  obtain ⟨rk, rs⟩ := x5
  refine ⟨?_, ?_⟩
  · rw [X9_back_0n, within_eq, Option.bind_some, if_neg (by decide)]
  · rw [X10_back, show X10_isIn F (0 : Int32).toInt64 0 1 = _ from isIn_eq (F := F) 0 0 1, Option.bind_some, if_neg (by decide), if_neg (by decide), show Int32.toNatClampNeg 0 = 0 from by decide, hk, if_pos rfl]
theorem S_keep1 (hF : 1000 ≤ F) (hI : Inv N (x8, x6, x1, xy, xz, l8, x4, x5) i0 i1 w ik wm) :
    Tot (X9_keep_1i F x8 x6 x1 xy xz xq l8 x4 x5 d8 d6 d1 dy dz dq dl d4 d5) (fun y => Tot (X10_keep F 1 th w ik) (fun z => y.1 = z.1 ∧ Inv (N + 1) (x8, x6, x1, xy, xz, l8, x4, x5) (i0) (some y.2) z.2.2.1 z.2.2.2 wm)) := by
  obtain ⟨⟨V, hc, hm, ok⟩, hi0, hi1, ⟨m, rfl, hmm⟩⟩ := id hI
  have hcp := c_copy (F := F) (d8 := d8) (d6 := d6) (d1 := d1) (dy := dy) (dz := dz) (dl := dl) (d4 := d4) (d5 := d5) (by omega) hc ok
  have hsz := sz_eq hc hm
  obtain ⟨w', hw', hw1, hw2⟩ := m_copies hF (a := 1696) (b := 0) (by omega) (by omega) (by omega) w
  obtain ⟨e0, e1, e2, e3⟩ := d8
  obtain ⟨dhap, dgot, dcap, dwy, dbal, dwbt⟩ := d6
  obtain ⟨dK, dV, dW, dC, dL, dT, dP, dsz, dld, dpl, dus, dag, dhv⟩ := d1
  obtain ⟨dyk, dys⟩ := dy
  obtain ⟨dzk, dzs⟩ := dz
  obtain ⟨ea, eb, ec, ed, ee, es, el, ep⟩ := dq
  obtain ⟨f0, f1, f2, f3, f4, f5, f6, f7, f8⟩ := dl
  obtain ⟨g0, g1, g2, g3, g4, g5, g6⟩ := d4
  obtain ⟨drk, drs⟩ := d5
  obtain ⟨lc, tk, ls, dpp⟩ := x8
  obtain ⟨hap, got, cap, wy, bal, wbt⟩ := x6
  obtain ⟨kK, kV, kW, kC, kL, kT, kP, sz, ld, pl, us, ag, hvv⟩ := x1
  obtain ⟨yk, ys⟩ := xy
  obtain ⟨zk, zs⟩ := xz
  obtain ⟨qa, qb, qc, qd, qe, qs, ql, qp⟩ := xq
  obtain ⟨a0, a1, a2, a3, a4, a5, a6, a7, a8⟩ := l8
  obtain ⟨s0, s1, s2, s3, s4, s5, s6⟩ := x4
  obtain ⟨rk, rs⟩ := x5
  have mk : X10_keep F 1 th w ik = some (w' 0, 0, w', upd ik 1 1) := by
    rw [X10_keep, show X10_isIn F (1 : Int32).toInt64 0 1 = _ from isIn_eq (F := F) 1 0 1, Option.bind_some, if_neg (by decide), show X10_copies F (848 * (1 + 1)) 0 w = _ from hw', Option.bind_some, if_neg (by decide)]
    rfl
  rw [X9_keep_1i, mk, within_eq, Option.bind_some, if_neg (by decide)]
  refine tot_b hcp (fun y hy => ?_)
  obtain ⟨⟨m1, m2, m3, m4⟩, ⟨j1, j2, j3, j4, j5, j6⟩, ⟨j7, j8, j9, j10, j11, j12, j13, j14, j15, j16, j17, j18, j19⟩, ⟨j20, j21⟩, ⟨j22, j23⟩, ⟨l0, l1, l2, l3, l4, l5, l6, l7, l8⟩, ⟨t0, t1, t2, t3, t4, t5, t6⟩, ⟨r1, r2⟩⟩ := y
  refine tot_s (tot_s ⟨?_, ?_, ?_, ?_, ⟨m, rfl, by omega⟩⟩)
  · show sz = w' 0
    rw [hw2 0 (by omega)]; exact hsz
  · exact ⟨V, hc, hm.far (fun q q1 q2 => hw2 q (by omega)), ok.up (by omega) (by omega)⟩
  · have := hi0.go (M := N + 1) (w' := w') (by omega) (fun q q1 q2 => hw2 q (by omega))
    cases i0 with
    | none => show upd ik 1 1 0 = 0; rw [upd_n (by decide)]; exact this
    | some d => exact ⟨show upd ik 1 1 0 = 1 by rw [upd_n (by decide)]; exact this.1, this.2⟩
  · exact ⟨show upd ik 1 1 1 = 1 from upd_s, V, hy, hm.shift (by omega) hw1, ok.up (by omega) (by omega)⟩
theorem S_back1 (hF : 1000 ≤ F) (hI : Inv N (x8, x6, x1, xy, xz, l8, x4, x5) i0 (some (d8, d6, d1, dy, dz, dl, d4, d5)) w ik wm) :
    Tot (X9_back_1i F x8 x6 x1 xy xz xq l8 x4 x5 d8 d6 d1 dy dz dq dl d4 d5) (fun y => Tot (X10_back F 1 th w ik) (fun z => y.1 = z.1 ∧ Inv (N + 1) y.2 i0 (some (d8, d6, d1, dy, dz, dl, d4, d5)) z.2.2 ik wm)) := by
  obtain ⟨_, hi0, hi1, ⟨m, rfl, hmm⟩⟩ := id hI
  obtain ⟨hk, V, hc, hm, ok⟩ := id hi1
  have hcp := c_copy (F := F) (d8 := x8) (d6 := x6) (d1 := x1) (dy := xy) (dz := xz) (dl := l8) (d4 := x4) (d5 := x5) (by omega) hc ok
  obtain ⟨w', hw', hw1, hw2⟩ := m_copies hF (a := 0) (b := 1696) (by omega) (by omega) (by omega) w
  obtain ⟨e0, e1, e2, e3⟩ := d8
  obtain ⟨dhap, dgot, dcap, dwy, dbal, dwbt⟩ := d6
  obtain ⟨dK, dV, dW, dC, dL, dT, dP, dsz, dld, dpl, dus, dag, dhv⟩ := d1
  obtain ⟨dyk, dys⟩ := dy
  obtain ⟨dzk, dzs⟩ := dz
  obtain ⟨ea, eb, ec, ed, ee, es, el, ep⟩ := dq
  obtain ⟨f0, f1, f2, f3, f4, f5, f6, f7, f8⟩ := dl
  obtain ⟨g0, g1, g2, g3, g4, g5, g6⟩ := d4
  obtain ⟨drk, drs⟩ := d5
  obtain ⟨lc, tk, ls, dpp⟩ := x8
  obtain ⟨hap, got, cap, wy, bal, wbt⟩ := x6
  obtain ⟨kK, kV, kW, kC, kL, kT, kP, sz, ld, pl, us, ag, hvv⟩ := x1
  obtain ⟨yk, ys⟩ := xy
  obtain ⟨zk, zs⟩ := xz
  obtain ⟨qa, qb, qc, qd, qe, qs, ql, qp⟩ := xq
  obtain ⟨a0, a1, a2, a3, a4, a5, a6, a7, a8⟩ := l8
  obtain ⟨s0, s1, s2, s3, s4, s5, s6⟩ := x4
  obtain ⟨rk, rs⟩ := x5
  have mk : X10_back F 1 th w ik = some (w' 0, 0, w') := by
    rw [X10_back, show X10_isIn F (1 : Int32).toInt64 0 1 = _ from isIn_eq (F := F) 1 0 1, Option.bind_some, if_neg (by decide), if_neg (by decide), show Int32.toNatClampNeg 1 = 1 from by decide, hk, if_neg (by decide), show X10_copies F 0 (848 * (1 + 1)) w = _ from hw', Option.bind_some]
    rfl
  rw [X9_back_1i, mk, within_eq, Option.bind_some, if_neg (by decide)]
  refine tot_b hcp (fun y hy => ?_)
  obtain ⟨⟨m1, m2, m3, m4⟩, ⟨j1, j2, j3, j4, j5, j6⟩, ⟨j7, j8, j9, j10, j11, j12, j13, j14, j15, j16, j17, j18, j19⟩, ⟨j20, j21⟩, ⟨j22, j23⟩, ⟨l0, l1, l2, l3, l4, l5, l6, l7, l8⟩, ⟨t0, t1, t2, t3, t4, t5, t6⟩, ⟨r1, r2⟩⟩ := y
  have hm' : RWm V w' 0 := hm.shift (by omega) hw1
  refine tot_s (tot_s ⟨sz_eq hy hm', ⟨V, hy, hm', ok.up (by omega) (by omega)⟩, hi0.go (by omega) (fun q q1 q2 => hw2 q (by omega)), hi1.go (by omega) (fun q q1 q2 => hw2 q (by omega)), ⟨m, rfl, by omega⟩⟩)
theorem S_back1n (hI : Inv N (x8, x6, x1, xy, xz, l8, x4, x5) i0 none w ik wm) :
    X9_back_1n F x8 x6 x1 xy xz xq l8 x4 x5 = some (-3) ∧ X10_back F 1 th w ik = some (-3, 0, w) := by
  obtain ⟨_, hi0, hi1, _⟩ := id hI
  have hk : ik 1 = 0 := hi1
  obtain ⟨lc, tk, ls, dpp⟩ := x8
  obtain ⟨hap, got, cap, wy, bal, wbt⟩ := x6
  obtain ⟨kK, kV, kW, kC, kL, kT, kP, sz, ld, pl, us, ag, hvv⟩ := x1
  obtain ⟨yk, ys⟩ := xy
  obtain ⟨zk, zs⟩ := xz
  obtain ⟨qa, qb, qc, qd, qe, qs, ql, qp⟩ := xq
  obtain ⟨a0, a1, a2, a3, a4, a5, a6, a7, a8⟩ := l8
  obtain ⟨s0, s1, s2, s3, s4, s5, s6⟩ := x4
  obtain ⟨rk, rs⟩ := x5
  refine ⟨?_, ?_⟩
  · rw [X9_back_1n, within_eq, Option.bind_some, if_neg (by decide)]
  · rw [X10_back, show X10_isIn F (1 : Int32).toInt64 0 1 = _ from isIn_eq (F := F) 1 0 1, Option.bind_some, if_neg (by decide), if_neg (by decide), show Int32.toNatClampNeg 1 = 1 from by decide, hk, if_pos rfl]
theorem m_keep_b {p : Int32} (h : (decide (0 ≤ p) && decide (p ≤ 1)) = false) : X10_keep F p th w ik = some (-2, 0, w, ik) ∧ X10_back F p th w ik = some (-2, 0, w) := by
  refine ⟨?_, ?_⟩
  · rw [X10_keep, show X10_isIn F p.toInt64 0 1 = _ from isIn_eq (F := F) p 0 1, Option.bind_some, h, if_pos (show bi false = 0 from rfl)]
  · rw [X10_back, show X10_isIn F p.toInt64 0 1 = _ from isIn_eq (F := F) p 0 1, Option.bind_some, h, if_pos (show bi false = 0 from rfl)]
end SKeep
