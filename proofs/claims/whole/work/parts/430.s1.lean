/-! remove, pin, resize, way, aging -/
section SCalls1
variable {F N : Nat} {x8 : tX8} {x6 : tX6} {x1 : tX1} {xy xz : tX2} {xq : tX7} {l8 : tL8} {x4 : tX4} {x5 : tX5} {i0 i1 : Option tWi} {w ik went t : Nat → Int32} {wm th came dp : Int32}
theorem remove_ok {b T : Nat} {V : WV} {k : Int32} (h : RWm V w 0) (ok : OkWV b T V) (hb : b + 61000 < 2147483648) (k1 : 0 ≤ k.toInt) (k2 : k.toInt < 1000) : OkWV (b + 51264) T (removeV k V).2 := by
  obtain ⟨o1, o2, o3⟩ := take_ok (k := k) (d := 0) ok.2.1
  have ov := take_val (d := 0) ok.2.1.1 k1 k2
  refine doneV_ok ok hb (o1.up (by omega)) ov ?_ h.2.2.1.2.1 o3
  rw [take_sc]; exact wr_18 h
theorem resize_ok {b T : Nat} {V : WV} {c : Int32} (h : RWm V w 0) (ok : OkWV b T V) (hb : b + 61000 < 2147483648) : OkWV (b + 51264) T (resizeV c V).2 := by
  have b64 : b + 64 < 2147483648 := by omega
  obtain ⟨o1, o2, o3⟩ := recap_ok (c := c) (d := 0) ok.2.1 b64
  have ov := recap_val (c := c) (d := 0) ok.2.1.1 b64
  refine doneV_ok ok hb o1 ov ?_ h.2.2.1.2.1 o3
  rw [recap_sc (by simp [keepQ])]; exact wr_18 h
theorem S_remove (hF : 1000 ≤ F) (hN : N < 512) (hI : Inv N (x8, x6, x1, xy, xz, l8, x4, x5) i0 i1 w ik wm) (p1 : Int32) :
    Tot (X9_remove F p1 x8 x6 x1 xy xz xq l8 x4) (fun y => Tot (X10_remove F p1 th w 0 went wm t came dp 0) (fun z => y.1 = z.1 ∧ Inv (N + 1) (y.2.1, y.2.2.1, y.2.2.2.1, y.2.2.2.2.1, y.2.2.2.2.2.1, y.2.2.2.2.2.2.2.1, y.2.2.2.2.2.2.2.2, x5) i0 i1 z.2.2.1 ik z.2.2.2.2.1)) := by
  have hb : 3100000 * N + 61000 < 2147483648 := by omega
  have f100 : 100 ≤ F := by omega
  obtain ⟨⟨V, hc, hm, ok⟩, _, _, ⟨m, rfl, hmm⟩⟩ := id hI
  have hmb : m + 49000 < 2147483000 := by omega
  have hcall := fun k1 k2 => c_callRemove (F := F) (xq := xq) (k := p1) (by omega) hc ok hb k1 k2
  have hok := fun k1 k2 => remove_ok (k := p1) hm ok hb k1 k2
  obtain ⟨lc, tk, ls, dpp⟩ := x8
  obtain ⟨hap, got, cap, wy, bal, wbt⟩ := x6
  obtain ⟨kK, kV, kW, kC, kL, kT, kP, sz, ld, pl, us, ag, hvv⟩ := x1
  obtain ⟨yk, ys⟩ := xy
  obtain ⟨zk, zs⟩ := xz
  obtain ⟨qa, qb, qc, qd, qe, qs, ql, qp⟩ := xq
  obtain ⟨a0, a1, a2, a3, a4, a5, a6, a7, a8⟩ := l8
  obtain ⟨s0, s1, s2, s3, s4, s5, s6⟩ := x4
  rw [X9_remove, X10_remove, isKeyC, X10_call, isKeyM]
  simp only [Option.bind_some]
  cases hk : (decide (0 ≤ p1) && decide (p1 ≤ 999)) with
  | false =>
    rw [if_pos (show bi false = 0 from rfl)]
    exact tot_s (tot_s ⟨rfl, hI.same⟩)
  | true =>
    rw [if_neg (show ¬ bi true = 0 by decide), if_neg (show ¬ bi true = 0 by decide)]
    obtain ⟨k1, k2⟩ := key_of hk
    refine tot_b (hcall k1 k2) (fun y ⟨g0, g1⟩ => ?_)
    obtain ⟨r, ⟨m1, m2, m3, m4⟩, ⟨i1', i2, i3, i4, i5, i6⟩, ⟨i7, i8, i9, i10, i11, i12, i13, i14, i15, i16, i17, i18, i19⟩, ⟨i20, i21⟩, ⟨i22, i23⟩, ⟨i24, i25, i26, i27, i28, i29, i30, i31⟩, ⟨l0, l1, l2, l3, l4, l5, l6, l7, l8⟩, ⟨t0, t1, t2, t3, t4, t5, t6⟩⟩ := y
    refine tot_s ?_
    simp only at g0 g1 ⊢
    refine tot_b (hm.1.find ok.2.1.1 f100 p1) (fun e he => ?_)
    obtain ⟨L, p, hE, hi⟩ := he
    have hlen := hE.2.1
    rcases hi with ⟨rfl, hf⟩ | ⟨i, hi, rfl, hf⟩
    · rw [if_pos rfl]
      have e0 : removeV p1 V = (-3, V) := by rw [removeV, takeS, hf]; simp only; rw [doneV_nil]
      rw [e0] at g0 g1
      refine tot_s ⟨g0, hI.go ⟨_, g1, hm, ok.up (by omega) (by omega)⟩ (fun q q1 q2 => rfl) ⟨m, rfl, by omega⟩⟩
    · have hsel := fnd_some hf
      rw [if_neg (by simp (disch := omega) only [nI_add, pn_add, pn_addl, pn_mul, pn_cl, pn_nlt0, false_or, pn_ge, pn_le, Nat.add_zero, Nat.zero_add, ↓reduceIte, Option.bind_some, nI_leI, nI_ltI, nI_eq, pn_ne1, pn_1ne]; simp), show (0 : Int32) = nI 0 from rfl, m_of1 hE hi]
      simp only [Option.bind_some]
      have hrem := m_removes (F := F) (o := 0) (E := []) (sil := 0) (t := t) hm.1 ok.2.1.1 hF (by simp) (Or.inl ⟨rfl, by simp, QM_0⟩) p1 0
      refine tot_b hrem (fun y ⟨h0, h1, h2, h4⟩ => ?_)
      obtain ⟨r', y2, y5, y6⟩ := y
      simp only [List.nil_append] at h0 h1 h2 h4 ⊢
      obtain ⟨o1, o2, o3⟩ := take_ok (k := p1) (d := 0) ok.2.1
      have ov := take_val (d := 0) ok.2.1.1 k1 k2
      obtain ⟨q1, q2, q3⟩ := RWm.store hm rfl h1 h2 (fun q hq => take_sc)
      have h4' : QM (takeS p1 0 V.2.2.1).2.2 y5 y6 := by
        rcases h4 with ⟨_, _, h4⟩ | h4
        · exact h4
        · exact absurd h4 (by decide)
      refine tot_b (m_doneV (F := F) (o := 0) (V := V) (T := 1000 * N) (b := 3100000 * N) hF ok hb (by omega) h1 (o1.up (by omega)) h4' ov (Nat.le_trans o2 (by decide)) q1 q2 q3 take_sc take_sc (eV L[i] + 10000)) (fun z ⟨z0, z1, ⟨m2, z2, z3⟩, z4, _⟩ => ?_)
      obtain ⟨n1, n2, n3, n4, n5, n6, n7⟩ := z
      refine tot_s ⟨?_, hI.go ⟨_, g1, z1, (hok k1 k2).up (by omega) (by omega)⟩ (fun q q1 q2 => by rw [z4 q (by omega), h2 q (by omega)]) ⟨m2, z2, by omega⟩⟩
      show r = n1
      rw [show n1 = eV L[i] + 10000 from z0, g0, removeV, takeS, hf]
theorem S_resize (hF : 1000 ≤ F) (hN : N < 512) (hI : Inv N (x8, x6, x1, xy, xz, l8, x4, x5) i0 i1 w ik wm) (p1 : Int32) :
    Tot (X9_resize F p1 x8 x6 x1 xy xz xq l8 x4) (fun y => Tot (X10_resize F p1 th w 0 went wm t came dp 0) (fun z => y.1 = z.1 ∧ Inv (N + 1) (y.2.1, y.2.2.1, y.2.2.2.1, y.2.2.2.2.1, y.2.2.2.2.2.1, y.2.2.2.2.2.2.2.1, y.2.2.2.2.2.2.2.2, x5) i0 i1 z.2.2.1 ik z.2.2.2.2.1)) := by
  have hb : 3100000 * N + 61000 < 2147483648 := by omega
  have b200 : 3100000 * N + 200 < 2147483648 := by omega
  have b64 : 3100000 * N + 64 < 2147483648 := by omega
  have f100 : 100 ≤ F := by omega
  obtain ⟨⟨V, hc, hm, ok⟩, _, _, ⟨m, rfl, hmm⟩⟩ := id hI
  have hmb : m + 49000 < 2147483000 := by omega
  have hcall := c_callResize (F := F) (xq := xq) (by omega) hc ok hb p1
  have hok := resize_ok (c := p1) hm ok hb
  obtain ⟨lc, tk, ls, dpp⟩ := x8
  obtain ⟨hap, got, cap, wy, bal, wbt⟩ := x6
  obtain ⟨kK, kV, kW, kC, kL, kT, kP, sz, ld, pl, us, ag, hvv⟩ := x1
  obtain ⟨yk, ys⟩ := xy
  obtain ⟨zk, zs⟩ := xz
  obtain ⟨qa, qb, qc, qd, qe, qs, ql, qp⟩ := xq
  obtain ⟨a0, a1, a2, a3, a4, a5, a6, a7, a8⟩ := l8
  obtain ⟨s0, s1, s2, s3, s4, s5, s6⟩ := x4
  rw [X9_resize, X10_resize, X10_call, show X10_isIn F p1.toInt64 0 5000 = some (bi (isCapB p1)) from isIn_eq (F := F) p1 0 5000]
  simp only [Option.bind_some]
  refine tot_b hcall (fun y ⟨g0, g1⟩ => ?_)
  obtain ⟨r, ⟨m1, m2, m3, m4⟩, ⟨i1', i2, i3, i4, i5, i6⟩, ⟨i7, i8, i9, i10, i11, i12, i13, i14, i15, i16, i17, i18, i19⟩, ⟨i20, i21⟩, ⟨i22, i23⟩, ⟨i24, i25, i26, i27, i28, i29, i30, i31⟩, ⟨l0, l1, l2, l3, l4, l5, l6, l7, l8⟩, ⟨t0, t1, t2, t3, t4, t5, t6⟩⟩ := y
  refine tot_s ?_
  simp only at g0 g1 ⊢
  cases hcc : isCapB p1 with
  | false =>
    rw [if_pos (show bi false = 0 from rfl)]
    have e0 : resizeV p1 V = (-2, V) := by rw [resizeV, recapS, if_pos hcc]; simp only; rw [doneV_nil]
    rw [e0] at g0 g1
    exact tot_s ⟨g0, hI.go ⟨_, g1, hm, ok.up (by omega) (by omega)⟩ (fun q q1 q2 => rfl) ⟨m, rfl, by omega⟩⟩
  | true =>
    rw [if_neg (show ¬ bi true = 0 by decide), show (0 : Int32) = nI 0 from rfl, hm.1.pinned f100 (-1)]
    have hpin : sumBy (pinW (-1)) V.2.2.1.1 = sumBy pinA V.2.2.1.1 := pin_none ok.2.1.1.1.PB (fun e he hx => by
      have := (ok.2.1.1.1.2.2.2 e he).1
      rw [hx] at this; exact absurd this (by decide))
    rw [hpin]
    simp only [Option.bind_some]
    by_cases c1 : sumBy pinA V.2.2.1.1 ≤ p1
    · rw [if_pos c1]
      have e0 : recapS p1 0 V.2.2.1 = (nI (capS p1 0 V.2.2.1).2.length, (capS p1 0 V.2.2.1).1, (capS p1 0 V.2.2.1).2) := by
        rw [recapS, if_neg (show ¬ isCapB p1 = false by rw [hcc]; decide), if_neg (fun hx => hx c1)]
      obtain ⟨o1, o2, o3⟩ := recap_ok (c := p1) (d := 0) ok.2.1 b64
      have ov := recap_val (c := p1) (d := 0) ok.2.1.1 b64
      refine tot_b (m_caps (F := F) (o := 0) (E := []) (sil := 0) (went := went) (t := t) (d := 0) hm.1 ok.2.1.1 ok.2.1.2.1 hF b200 (by omega) (by simp) (Or.inl ⟨rfl, by simp, QM_0⟩) hcc) (fun y ⟨h0, h1, h2, h3, h3', h4⟩ => ?_)
      obtain ⟨r', y2, y3, y4, y5, y6⟩ := y
      simp only [List.nil_append] at h0 h1 h2 h3 h3' h4 ⊢
      subst h3'
      have hsc : ∀ q, keepQ q → (capS p1 0 V.2.2.1).1.2.2.2 q = V.2.2.1.2.2.2 q := fun q hq => by
        have := recap_sc (S := V.2.2.1) (c := p1) (d := 0) hq
        rw [e0] at this; exact this
      obtain ⟨q1, q2, q3⟩ := RWm.store hm rfl h1 h2 hsc
      have h4' : QM (capS p1 0 V.2.2.1).2 y5 y6 := by
        rcases h4 with ⟨_, _, h4⟩ | h4
        · exact h4
        · exact absurd h4 (by decide)
      rw [e0] at o1 o2 ov
      have o2' : (capS p1 0 V.2.2.1).2.length ≤ 60 := o2
      refine tot_b (m_doneV (F := F) (o := 0) (V := V) (T := 1000 * N) (b := 3100000 * N) hF ok hb (by omega) h1 o1 h4' ov (Nat.le_trans o2 (by decide)) q1 q2 q3 (hsc 14 (by simp [keepQ])) (hsc 18 (by simp [keepQ])) r') (fun z ⟨z0, z1, ⟨m2, z2, z3⟩, z4, _⟩ => ?_)
      obtain ⟨n1, n2, n3, n4, n5, n6, n7⟩ := z
      rw [resizeV, e0] at g0 g1 hok
      refine tot_s ⟨?_, hI.go ⟨_, g1, z1, OkWV.up hok (by omega) (by omega)⟩ (fun q q1 q2 => by rw [z4 q (by omega), h2 q (by omega)]) ⟨m2, z2, by omega⟩⟩
      show r = n1
      rw [show n1 = r' from z0, g0, h0]
    · rw [if_neg c1]
      have e0 : resizeV p1 V = (-3, V) := by rw [resizeV, recapS, if_neg (show ¬ isCapB p1 = false by rw [hcc]; decide), if_pos c1]; simp only; rw [doneV_nil]
      rw [e0] at g0 g1
      exact tot_s ⟨g0, hI.go ⟨_, g1, hm, ok.up (by omega) (by omega)⟩ (fun q q1 q2 => rfl) ⟨m, rfl, by omega⟩⟩
def storeV (S : SS) (V : WV) : WV := (V.1, V.2.1, S, V.2.2.2.1, V.2.2.2.2)
theorem S_pin (hF : 1000 ≤ F) (hI : Inv N (x8, x6, x1, xy, xz, l8, x4, x5) i0 i1 w ik wm) (p1 p2 : Int32) (hz : p2 = 0 ∨ p2 = 1) :
    Tot (X9_pin F p1 p2 x1) (fun y => Tot (X10_pin F p1 p2 th w 0 came dp) (fun z => y.1 = z.1 ∧ Inv (N + 1) (x8, x6, y.2, xy, xz, l8, x4, x5) i0 i1 z.2.2.1 ik wm)) := by
  have f100 : 100 ≤ F := by omega
  obtain ⟨⟨V, hc, hm, ok⟩, _, _, ⟨m, rfl, hmm⟩⟩ := id hI
  have hfast := c_fastS (F := F) hc.1 ok.2.1.1 f100 p1 hz
  obtain ⟨kK, kV, kW, kC, kL, kT, kP, sz, ld, pl, us, ag, hvv⟩ := x1
  rw [X9_pin, X10_pin, isKeyC, X10_call, isKeyM]
  simp only [Option.bind_some]
  cases hk : (decide (0 ≤ p1) && decide (p1 ≤ 999)) with
  | false =>
    rw [if_pos (show bi false = 0 from rfl)]
    exact tot_s (tot_s ⟨rfl, hI.same⟩)
  | true =>
    rw [if_neg (show ¬ bi true = 0 by decide), if_neg (show ¬ bi true = 0 by decide)]
    refine tot_b hfast (fun y ⟨g0, g1⟩ => ?_)
    obtain ⟨r, ⟨j7, j8, j9, j10, j11, j12, j13, j14, j15, j16, j17, j18, j19⟩⟩ := y
    simp only at g0 g1 ⊢
    refine tot_s ?_
    refine tot_b (hm.1.find ok.2.1.1 f100 p1) (fun e he => ?_)
    obtain ⟨o1, o2⟩ := fast_ok (k := p1) (p := p2) hz ok.2.1
    have e5 : (fastS p1 p2 V.2.2.1).2.2.2.2 = V.2.2.1.2.2.2 := o2
    have hcn : RWc (storeV (fastS p1 p2 V.2.2.1).2 V) x8 x6 (j7, j8, j9, j10, j11, j12, j13, j14, j15, j16, j17, j18, j19) xy xz l8 x4 x5 := by
      obtain ⟨_, c2, c3, c4, c5⟩ := hc
      exact ⟨g1, c2, c3, c4, by simp only [storeV]; rw [e5]; exact c5⟩
    have hokn : OkWV (3100000 * N) (1000 * N) (storeV (fastS p1 p2 V.2.2.1).2 V) := ⟨ok.1, o1, ok.2.2.1, ok.2.2.2.1, by simp only [storeV]; rw [e5]; exact ok.2.2.2.2.1, by simp only [storeV]; rw [e5]; exact ok.2.2.2.2.2⟩
    obtain ⟨L, p, hE, hi⟩ := he
    have hlen := hE.2.1
    rcases hi with ⟨rfl, hf⟩ | ⟨i, hi, rfl, hf⟩
    · rw [if_pos rfl]
      have e0 : fastS p1 p2 V.2.2.1 = (-3, V.2.2.1) := by rw [fastS, hf]
      rw [e0] at g0 hcn hokn
      exact tot_s ⟨g0, hI.go ⟨_, hcn, hm, hokn.up (by omega) (by omega)⟩ (fun q q1 q2 => rfl) ⟨m, rfl, by omega⟩⟩
    · rw [if_neg (by simp (disch := omega) only [nI_add, pn_add, pn_addl, pn_mul, pn_cl, pn_nlt0, false_or, pn_ge, pn_le, Nat.add_zero, Nat.zero_add, ↓reduceIte, Option.bind_some, nI_leI, nI_ltI, nI_eq, pn_ne1, pn_1ne]; simp)]
      have ef : X10_flag F p2 = some p2 := by rcases hz with rfl | rfl <;> rfl
      rw [ef]
      simp only [Option.bind_some]
      refine tot_b (m_pins (F := F) (o := 0) hm.1 ok.2.1.1 f100 p1 p2) (fun y ⟨h0, h1, h2⟩ => ?_)
      obtain ⟨r', y2⟩ := y
      simp only at h0 h1 h2 ⊢
      rw [hf] at h0
      simp only [Option.isNone_some, Bool.false_eq_true, if_false] at h0
      have h01 : r' = 0 ∨ r' = 1 := by rw [h0, fastS, hf]; simp only; split <;> simp
      have ef2 : X10_flag F r' = some r' := by rcases h01 with rfl | rfl <;> rfl
      rw [ef2]
      obtain ⟨q1, q2, q3⟩ := RWm.store hm rfl h1 h2 (fun q hq => by rw [e5])
      exact tot_s ⟨g0.trans h0.symm, hI.go ⟨_, hcn, ⟨h1, q1, q2, q3⟩, hokn.up (by omega) (by omega)⟩ (fun q q1 q2 => h2 q (by omega)) ⟨m, rfl, by omega⟩⟩
theorem way4 {k : Int32} (h : (decide (0 ≤ k) && decide (k ≤ 4)) = true) : OkW k := by
  obtain ⟨h1, h2⟩ := rng_of h
  have e0 : (0 : Int32).toInt = 0 := by decide
  have e4 : (4 : Int32).toInt = 4 := by decide
  obtain ⟨n, hn, rfl, hn3⟩ := i32_nI (x := k) (by omega)
  have : n ≤ 4 := by omega
  have : n = 0 ∨ n = 1 ∨ n = 2 ∨ n = 3 ∨ n = 4 := by omega
  rcases this with rfl | rfl | rfl | rfl | rfl
  · exact Or.inl rfl
  · exact Or.inr (Or.inl rfl)
  · exact Or.inr (Or.inr (Or.inl rfl))
  · exact Or.inr (Or.inr (Or.inr (Or.inl rfl)))
  · exact Or.inr (Or.inr (Or.inr (Or.inr rfl)))
/-- one number of the store is set anew -/
theorem RWm.num {V : WV} (h : RWm V w 0) {q : Nat} {v : Int32} (q1 : 1 ≤ q) (q2 : q ≤ 17) (q7 : q ≠ 7) (q14 : q ≠ 14) : RWm (storeV (setN q v V.2.2.1) V) (upd w q v) 0 := by
  obtain ⟨h1, h2, h3, h4⟩ := h
  have hs := h1.set q v q1 (by omega)
  rw [Nat.zero_add] at hs
  have hn := h2.1
  have hg := h3.2.1
  have hq := h4.2.1
  exact ⟨hs.1, ⟨hn, by rw [upd_n (by omega)]; exact h2.2.1, fun i j hi hj => by rw [upd_n (by omega)]; exact h2.2.2 i j hi hj⟩, ⟨by rw [upd_n (by omega)]; exact h3.1, hg, fun k hk => by
    show V.2.2.2.1[k] = _
    rw [h3.2.2 k hk, upd_n (by omega), upd_n (by omega), upd_n (by omega), upd_n (by omega), upd_n (by omega)]⟩, ⟨by rw [upd_n (by omega)]; exact h4.1, hq, fun i hi => by
    show V.2.2.2.2[i] = _
    rw [h4.2.2 i hi, upd_n (by omega)]⟩⟩
theorem S_way (hI : Inv N (x8, x6, x1, xy, xz, l8, x4, x5) i0 i1 w ik wm) (p1 : Int32) :
    Tot (X9_way F p1 x6) (fun y => Tot (X10_way F p1 th w) (fun z => y.1 = z.1 ∧ Inv (N + 1) (x8, y.2, x1, xy, xz, l8, x4, x5) i0 i1 z.2.2 ik wm)) := by
  obtain ⟨⟨V, hc, hm, ok⟩, _, _, ⟨m, rfl, hmm⟩⟩ := id hI
  obtain ⟨hap, got, cap, wy, bal, wbt⟩ := x6
  rw [X9_way, X10_way, within_eq, show X10_isIn F p1.toInt64 0 4 = _ from isIn_eq (F := F) p1 0 4]
  simp only [Option.bind_some]
  cases hk : (decide (0 ≤ p1) && decide (p1 ≤ 4)) with
  | false =>
    rw [if_pos (show bi false = 0 from rfl)]
    exact tot_s (tot_s ⟨rfl, hI.same⟩)
  | true =>
    rw [if_neg (show ¬ bi true = 0 by decide), if_neg (show ¬ bi true = 0 by decide)]
    refine tot_s (tot_s ⟨?_, hI.go ⟨storeV (setN 2 p1 V.2.2.1) V, ?_, RWm.num hm (by omega) (by omega) (by omega) (by omega), ?_⟩ (fun q q1 q2 => upd_n (by
      have : (2 : Int32).toNatClampNeg = 2 := rfl
      omega)) ⟨m, rfl, by omega⟩⟩)
    · have e2 := hm.1.2.2.2 2 (by omega) (by omega)
      obtain ⟨kK, kV, kW, kC, kL, kT, kP, sz, ld, pl, us, ag, hvv⟩ := x1
      have n7 : wy = V.2.2.1.2.2.2 2 := hc.1.2.2.2.2.2.2.2.2.2.2.2.1
      show wy = w 2
      rw [n7]; exact e2.symm
    · obtain ⟨kK, kV, kW, kC, kL, kT, kP, sz, ld, pl, us, ag, hvv⟩ := x1
      obtain ⟨c1, c2, c3, c4, c5⟩ := hc
      obtain ⟨hL, hld, hpl, hy, hz, n1, n2, n3, n4, n5, n6, n7, n8, n9, n10, n11, n12⟩ := c1
      refine ⟨⟨hL, hld, hpl, hy, hz, ?_⟩, c2, c3, c4, ?_⟩
      · simp only [storeV, setN, NC]
        simp [upd, n1, n2, n3, n4, n5, n6, n7, n8, n9, n10, n11, n12]
      · simp only [storeV, setN]; rw [upd_n (by decide), upd_n (by decide), upd_n (by decide)]; exact c5
    · obtain ⟨k1, ⟨⟨a1, a2, a3, n1, n2, n3, n4, n5, n6, n7, n8, n9, n10⟩, hw, hcp⟩, k3, k4, k5, k6⟩ := ok
      have hw4 := way4 hk
      refine ⟨k1, ⟨⟨?_, a2, a3, ?_⟩, ?_, ?_⟩, k3, k4, ?_, ?_⟩
      · simp only [storeV, setN]; rw [upd_n (by decide), upd_n (by decide)]; exact a1
      · simp only [storeV, setN, OkN]
        simp only [upd_n (show 1 ≠ 2 by decide), upd_s, upd_n (show 3 ≠ 2 by decide), upd_n (show 4 ≠ 2 by decide), upd_n (show 6 ≠ 2 by decide), upd_n (show 16 ≠ 2 by decide)]
        exact ⟨n1, n2, Or.inl hw4, n4, n5, n6, by omega, n8, n9, by omega⟩
      · simp only [storeV, setN]; rw [upd_s]; exact hw4
      · simp only [storeV, setN]; rw [upd_n (by decide)]; exact hcp
      · simp only [storeV, setN]; rw [upd_n (by decide)]; exact k5
      · simp only [storeV, setN]; rw [upd_n (by decide)]; omega
theorem S_aging (hI : Inv N (x8, x6, x1, xy, xz, l8, x4, x5) i0 i1 w ik wm) (p1 : Int32) :
    Tot (X9_aging F p1 x1) (fun y => Tot (X10_aging F p1 th w) (fun z => y.1 = z.1 ∧ Inv (N + 1) (x8, x6, y.2, xy, xz, l8, x4, x5) i0 i1 z.2.2 ik wm)) := by
  obtain ⟨⟨V, hc, hm, ok⟩, _, _, ⟨m, rfl, hmm⟩⟩ := id hI
  obtain ⟨kK, kV, kW, kC, kL, kT, kP, sz, ld, pl, us, ag, hvv⟩ := x1
  rw [X9_aging, X10_aging, within_eq, show X10_isIn F p1.toInt64 1 999 = _ from isIn_eq (F := F) p1 1 999]
  simp only [Option.bind_some]
  cases hk : (decide (1 ≤ p1) && decide (p1 ≤ 999)) with
  | false =>
    rw [if_pos (show bi false = 0 from rfl)]
    exact tot_s (tot_s ⟨rfl, hI.same⟩)
  | true =>
    rw [if_neg (show ¬ bi true = 0 by decide), if_neg (show ¬ bi true = 0 by decide)]
    refine tot_s (tot_s ⟨?_, hI.go ⟨storeV (setN 6 p1 V.2.2.1) V, ?_, RWm.num hm (by omega) (by omega) (by omega) (by omega), ?_⟩ (fun q q1 q2 => upd_n (by
      have : (6 : Int32).toNatClampNeg = 6 := rfl
      omega)) ⟨m, rfl, by omega⟩⟩)
    · have e2 := hm.1.2.2.2 6 (by omega) (by omega)
      obtain ⟨hap, got, cap, wy, bal, wbt⟩ := x6
      have n11 : ag = V.2.2.1.2.2.2 6 := hc.1.2.2.2.2.2.2.2.2.2.2.2.2.2.2.2.1
      show ag = w 6
      rw [n11]; exact e2.symm
    · obtain ⟨hap, got, cap, wy, bal, wbt⟩ := x6
      obtain ⟨c1, c2, c3, c4, c5⟩ := hc
      obtain ⟨hL, hld, hpl, hy, hz, n1, n2, n3, n4, n5, n6, n7, n8, n9, n10, n11, n12⟩ := c1
      refine ⟨⟨hL, hld, hpl, hy, hz, ?_⟩, c2, c3, c4, ?_⟩
      · simp only [storeV, setN, NC]
        simp [upd, n1, n2, n3, n4, n5, n6, n7, n8, n9, n10, n11, n12]
      · simp only [storeV, setN]; rw [upd_n (by decide), upd_n (by decide), upd_n (by decide)]; exact c5
    · obtain ⟨k1, ⟨⟨a1, a2, a3, n1, n2, n3, n4, n5, n6, n7, n8, n9, n10⟩, hw, hcp⟩, k3, k4, k5, k6⟩ := ok
      obtain ⟨r1, r2⟩ := rng_of hk
      have e1 : (1 : Int32).toInt = 1 := by decide
      have e0 : (0 : Int32).toInt = 0 := by decide
      refine ⟨k1, ⟨⟨?_, a2, a3, ?_⟩, ?_, ?_⟩, k3, k4, ?_, ?_⟩
      · simp only [storeV, setN]; rw [upd_n (by decide), upd_n (by decide)]; exact a1
      · simp only [storeV, setN, OkN]
        simp only [upd_n (show 1 ≠ 6 by decide), upd_s, upd_n (show 2 ≠ 6 by decide), upd_n (show 3 ≠ 6 by decide), upd_n (show 4 ≠ 6 by decide), upd_n (show 16 ≠ 6 by decide)]
        exact ⟨n1, n2, n3, n4, n5, n6, by omega, by rw [i32_lt]; omega, n9, by omega⟩
      · simp only [storeV, setN]; rw [upd_n (by decide)]; exact hw
      · simp only [storeV, setN]; rw [upd_n (by decide)]; exact hcp
      · simp only [storeV, setN]; rw [upd_n (by decide)]; exact k5
      · simp only [storeV, setN]; rw [upd_n (by decide)]; omega
end SCalls1
