/-! what holds between the two from call to call -/
abbrev tWi : Type := tX8 × tX6 × tX1 × tX2 × tX2 × tL8 × tX4 × tX5
def WR (N : Nat) (d : tWi) (w : Nat → Int32) (o : Nat) : Prop := ∃ V : WV, RWc V d.1 d.2.1 d.2.2.1 d.2.2.2.1 d.2.2.2.2.1 d.2.2.2.2.2.1 d.2.2.2.2.2.2.1 d.2.2.2.2.2.2.2 ∧ RWm V w o ∧ OkWV (3100000 * N) (1000 * N) V
def IMG (N k : Nat) (im : Option tWi) (w ik : Nat → Int32) : Prop := match im with
  | none => ik k = 0
  | some d => ik k = 1 ∧ WR N d w (848 * (k + 1))
def Inv (N : Nat) (d : tWi) (i0 i1 : Option tWi) (w ik : Nat → Int32) (wm : Int32) : Prop := WR N d w 0 ∧ IMG N 0 i0 w ik ∧ IMG N 1 i1 w ik ∧ ∃ m, wm = nI m ∧ m ≤ 3100000 * N
theorem OkWV.up {b T c U : Nat} {V : WV} (h : OkWV b T V) (h1 : b ≤ c) (h2 : T ≤ U) : OkWV c U V := ⟨h.1, h.2.1.up h1, h.2.2.1, h.2.2.2.1, h.2.2.2.2.1, by have := h.2.2.2.2.2; omega⟩
theorem WR.up {N M : Nat} {d : tWi} {w : Nat → Int32} {o : Nat} (h : WR N d w o) (hM : N ≤ M) : WR M d w o := by
  obtain ⟨V, h1, h2, h3⟩ := h; exact ⟨V, h1, h2, h3.up (by omega) (by omega)⟩
theorem RWm.far {V : WV} {w w' : Nat → Int32} {o : Nat} (h : RWm V w o) (hf : ∀ q, o ≤ q → q < o + 848 → w' q = w q) : RWm V w' o := by
  obtain ⟨h1, h2, h3, h4⟩ := h
  have hn := h2.1
  have hg := h3.2.1
  have hq := h4.2.1
  exact ⟨h1.far (fun q q1 q2 => hf q q1 (by omega)), ⟨hn, by rw [hf _ (by omega) (by omega)]; exact h2.2.1, fun i j hi hj => by rw [hf _ (by omega) (by omega)]; exact h2.2.2 i j hi hj⟩, ⟨by rw [hf _ (by omega) (by omega)]; exact h3.1, hg, fun k hk => by rw [h3.2.2 k hk, hf _ (by omega) (by omega), hf _ (by omega) (by omega), hf _ (by omega) (by omega), hf _ (by omega) (by omega), hf _ (by omega) (by omega)]⟩, ⟨by rw [hf _ (by omega) (by omega)]; exact h4.1, hq, fun i hi => by rw [h4.2.2 i hi, hf _ (by omega) (by omega)]⟩⟩
theorem WR.far {N : Nat} {d : tWi} {w w' : Nat → Int32} {o : Nat} (h : WR N d w o) (hf : ∀ q, o ≤ q → q < o + 848 → w' q = w q) : WR N d w' o := by
  obtain ⟨V, h1, h2, h3⟩ := h; exact ⟨V, h1, h2.far hf, h3⟩
theorem IMG.go {N M k : Nat} {im : Option tWi} {w w' ik : Nat → Int32} (h : IMG N k im w ik) (hM : N ≤ M) (hf : ∀ q, 848 * (k + 1) ≤ q → q < 848 * (k + 1) + 848 → w' q = w q) : IMG M k im w' ik := by
  cases im with
  | none => exact h
  | some d => exact ⟨h.1, (h.2.up hM).far hf⟩
theorem Inv.go {N : Nat} {d d' : tWi} {i0 i1 : Option tWi} {w w' ik : Nat → Int32} {wm wm' : Int32} (h : Inv N d i0 i1 w ik wm) (hd : WR (N + 1) d' w' 0) (hw : ∀ q, 848 ≤ q → q < 2544 → w' q = w q) (hm : ∃ m, wm' = nI m ∧ m ≤ 3100000 * (N + 1)) : Inv (N + 1) d' i0 i1 w' ik wm' :=
  ⟨hd, h.2.1.go (by omega) (fun q q1 q2 => hw q (by omega) (by omega)), h.2.2.1.go (by omega) (fun q q1 q2 => hw q (by omega) (by omega)), hm⟩
/-- nothing has changed -/
theorem Inv.same {N : Nat} {d : tWi} {i0 i1 : Option tWi} {w ik : Nat → Int32} {wm : Int32} (h : Inv N d i0 i1 w ik wm) : Inv (N + 1) d i0 i1 w ik wm := by
  obtain ⟨m, hm1, hm2⟩ := h.2.2.2
  exact h.go (h.1.up (by omega)) (fun _ _ _ => rfl) ⟨m, hm1, by omega⟩
theorem isKeyC {F : Nat} (k : Int32) : X9_isKey F k = some (bi (decide (0 ≤ k) && decide (k ≤ 999))) := by
  rw [X9_isKey, within_eq]; simp only [Option.bind_some]; rw [if_neg (Classical.not_not.2 (bi_01 _))]
theorem isWeightC {F : Nat} (k : Int32) : X9_isWeight F k = some (bi (decide (1 ≤ k) && decide (k ≤ 99))) := by
  rw [X9_isWeight, within_eq]; simp only [Option.bind_some]; rw [if_neg (Classical.not_not.2 (bi_01 _))]
theorem isKeyM {F : Nat} (k : Int32) : X10_isKey F k = some (bi (decide (0 ≤ k) && decide (k ≤ 999))) := by
  rw [X10_isKey, show X10_isIn F k.toInt64 0 999 = _ from isIn_eq (F := F) k 0 999]; simp only [Option.bind_some]; rw [if_neg (Classical.not_not.2 (bi_01 _))]
theorem key_of {k : Int32} (h : (decide (0 ≤ k) && decide (k ≤ 999)) = true) : 0 ≤ k.toInt ∧ k.toInt < 1000 := by
  simp only [Bool.and_eq_true, decide_eq_true_eq, i32_le] at h
  have e0 : (0 : Int32).toInt = 0 := by decide
  have e9 : (999 : Int32).toInt = 999 := by decide
  omega
theorem rng_of {k lo hi : Int32} (h : (decide (lo ≤ k) && decide (k ≤ hi)) = true) : lo.toInt ≤ k.toInt ∧ k.toInt ≤ hi.toInt := by
  simp only [Bool.and_eq_true, decide_eq_true_eq, i32_le] at h; exact h
section SCalls
variable {F N : Nat} {x8 : tX8} {x6 : tX6} {x1 : tX1} {xy xz : tX2} {xq : tX7} {l8 : tL8} {x4 : tX4} {x5 : tX5} {i0 i1 : Option tWi} {w ik went t : Nat → Int32} {wm th came dp : Int32}
theorem wr_18 {V : WV} (h : RWm V w 0) : V.2.2.1.2.2.2 18 = nI V.2.2.2.1.length := by
  rw [← h.1.2.2.2 18 (by omega) (by omega)]; exact h.2.2.1.1
/-- the world after a call that was heard, in order -/
theorem put_ok {b T : Nat} {V : WV} {k v wt lives : Int32} (h : RWm V w 0) (ok : OkWV b T V) (hb : b + 61000 < 2147483648) (hT : T ≤ 1000000000) (ha : ArgC k v wt lives) : OkWV (b + 51264) T (putV k v wt lives V).2 := by
  have b64 : b + 64 < 2147483648 := by omega
  have okr := reqV_ok ok ha.1 ha.2.1
  have e5 : (reqV k V).2.2.1.2.2.2 5 = V.2.2.1.2.2.2 5 := by simp only [reqV, setN]; rw [upd_n (by decide)]
  have harg : ArgP k v wt (tillS lives V.2.2.1) ((reqV k V).2.2.1.2.2.2 5) := by rw [e5]; exact ha.P ok.2.2.2.2.1 (by have := ok.2.2.2.2.2; omega)
  obtain ⟨o1, o2, o3⟩ := bring_ok (v := v) (d := 0) okr.2.1 b64 harg
  have ov := bring_val (d := 0) okr.2.1.1 b64 harg
  refine doneV_ok okr hb o1 ov ?_ h.2.2.1.2.1 o3
  rw [bring_sc (by simp [keepQ])]; simp only [reqV, setN]; rw [upd_n (by decide)]; exact wr_18 h
theorem get_ok {b T : Nat} {V : WV} {k : Int32} (h : RWm V w 0) (ok : OkWV b T V) (hb : b + 61000 < 2147483648) (k1 : 0 ≤ k.toInt) (k2 : k.toInt < 1000) : OkWV (b + 51264) T (getV k V).2 := by
  have b64 : b + 64 < 2147483648 := by omega
  have okr := reqV_ok ok k1 k2
  obtain ⟨o1, o2, o3⟩ := fetch_ok (k := k) (d := 0) okr.2.1 b64
  have ov := fetch_val (S := (reqV k V).2.2.1) (d := 0) k1 k2
  refine doneV_ok okr hb o1 ov ?_ h.2.2.1.2.1 o3
  rw [fetch_sc (by simp [keepQ])]; simp only [reqV, setN]; rw [upd_n (by decide)]; exact wr_18 h
theorem S_put (hF : 1000 ≤ F) (hN : N < 512) (hI : Inv N (x8, x6, x1, xy, xz, l8, x4, x5) i0 i1 w ik wm) (p1 p2 p3 p4 : Int32) :
    Tot (X9_put F p1 p2 p3 p4 x8 x6 x1 xy xz xq l8 x4 x5) (fun y => Tot (X10_put F p1 p2 p3 p4 th w 0 went wm t came dp 0) (fun z => y.1 = z.1 ∧ Inv (N + 1) (y.2.1, y.2.2.1, y.2.2.2.1, y.2.2.2.2.1, y.2.2.2.2.2.1, y.2.2.2.2.2.2.2.1, y.2.2.2.2.2.2.2.2.1, y.2.2.2.2.2.2.2.2.2) i0 i1 z.2.2.1 ik z.2.2.2.2.1)) := by
  have hb : 3100000 * N + 61000 < 2147483648 := by omega
  have hT : 1000 * N ≤ 1000000000 := by omega
  obtain ⟨⟨V, hc, hm, ok⟩, _, _, ⟨m, rfl, hmm⟩⟩ := id hI
  have hmb : m + 49000 < 2147483000 := by omega
  have hcall := fun ha => c_callPut (F := F) (xq := xq) (k := p1) (v := p2) (wt := p3) (lives := p4) (by omega) hc ok hb hT (wr_18 hm) ha
  have mcall := fun ha => m_putCalled (F := F) (went := went) (t := t) (th := 0) (came := came) (dp := dp) (k := p1) (v := p2) (wt := p3) (lives := p4) hF hm ok hb hT hmb ha
  have hok := fun ha => put_ok (k := p1) (v := p2) (wt := p3) (lives := p4) hm ok hb hT ha
  obtain ⟨lc, tk, ls, dpp⟩ := x8
  obtain ⟨hap, got, cap, wy, bal, wbt⟩ := x6
  obtain ⟨kK, kV, kW, kC, kL, kT, kP, sz, ld, pl, us, ag, hvv⟩ := x1
  obtain ⟨yk, ys⟩ := xy
  obtain ⟨zk, zs⟩ := xz
  obtain ⟨qa, qb, qc, qd, qe, qs, ql, qp⟩ := xq
  obtain ⟨a0, a1, a2, a3, a4, a5, a6, a7, a8⟩ := l8
  obtain ⟨s0, s1, s2, s3, s4, s5, s6⟩ := x4
  obtain ⟨rk, rs⟩ := x5
  rw [X9_put, X10_put, isKeyC, isKeyM]
  simp only [Option.bind_some]
  cases hk : (decide (0 ≤ p1) && decide (p1 ≤ 999)) with
  | false =>
    rw [if_pos (show bi false = 0 from rfl)]
    exact tot_s (tot_s ⟨rfl, hI.same⟩)
  | true =>
    rw [if_neg (show ¬ bi true = 0 by decide), if_neg (show ¬ bi true = 0 by decide), isWeightC, within_eq, within_eq]
    rw [show X10_isIn F p2.toInt64 (-9999) 9999 = _ from isIn_eq (F := F) p2 (-9999) 9999, show X10_isIn F p3.toInt64 1 99 = _ from isIn_eq (F := F) p3 1 99, show X10_isIn F p4.toInt64 0 999 = _ from isIn_eq (F := F) p4 0 999]
    simp only [Option.bind_some]
    cases hw : (decide (1 ≤ p3) && decide (p3 ≤ 99)) with
    | false =>
      rw [if_pos (show bi false = 0 from rfl)]
      refine tot_s ?_
      cases hv : (decide (-9999 ≤ p2) && decide (p2 ≤ 9999)) with
      | false => rw [if_pos (show bi false = 0 from rfl)]; exact tot_s ⟨rfl, hI.same⟩
      | true => rw [if_neg (show ¬ bi true = 0 by decide), if_pos (show bi false = 0 from rfl)]; exact tot_s ⟨rfl, hI.same⟩
    | true =>
      rw [if_neg (show ¬ bi true = 0 by decide)]
      cases hv : (decide (-9999 ≤ p2) && decide (p2 ≤ 9999)) with
      | false =>
        rw [if_pos (show bi false = 0 from rfl), if_pos (show bi false = 0 from rfl)]
        exact tot_s (tot_s ⟨rfl, hI.same⟩)
      | true =>
        rw [if_neg (show ¬ bi true = 0 by decide), if_neg (show ¬ bi true = 0 by decide), if_neg (show ¬ bi true = 0 by decide)]
        cases hl : (decide (0 ≤ p4) && decide (p4 ≤ 999)) with
        | false =>
          rw [if_pos (show bi false = 0 from rfl), if_pos (show bi false = 0 from rfl)]
          exact tot_s (tot_s ⟨rfl, hI.same⟩)
        | true =>
          rw [if_neg (show ¬ bi true = 0 by decide), if_neg (show ¬ bi true = 0 by decide)]
          have ha : ArgC p1 p2 p3 p4 := ⟨(key_of hk).1, (key_of hk).2, (rng_of hw).1, (rng_of hw).2, ⟨(rng_of hv).1, (rng_of hv).2⟩, (rng_of hl).1, (rng_of hl).2⟩
          refine tot_b (hcall ha) (fun y ⟨g0, g1, _⟩ => ?_)
          obtain ⟨r, ⟨m1, m2, m3, m4⟩, ⟨i1', i2, i3, i4, i5, i6⟩, ⟨i7, i8, i9, i10, i11, i12, i13, i14, i15, i16, i17, i18, i19⟩, ⟨i20, i21⟩, ⟨i22, i23⟩, ⟨i24, i25, i26, i27, i28, i29, i30, i31⟩, ⟨l0, l1, l2, l3, l4, l5, l6, l7, l8⟩, ⟨t0, t1, t2, t3, t4, t5, t6⟩, ⟨r1, r2⟩⟩ := y
          refine tot_s ?_
          refine tot_b (mcall ha) (fun z ⟨z0, z1, z2, ⟨m', z3, z4⟩⟩ => ?_)
          obtain ⟨n1, n2, n3, n4, n5, n6, n7, n8⟩ := z
          refine tot_s ⟨g0.trans z0.symm, hI.go ⟨_, g1, z1, (hok ha).up (by omega) (by omega)⟩ (fun q q1 q2 => z2 q (by omega)) ⟨m', z3, by omega⟩⟩
theorem S_get (hF : 1000 ≤ F) (hN : N < 512) (hI : Inv N (x8, x6, x1, xy, xz, l8, x4, x5) i0 i1 w ik wm) (p1 : Int32) :
    Tot (X9_get F p1 x8 x6 x1 xy xz xq l8 x4 x5) (fun y => Tot (X10_get F p1 th w 0 went wm t came dp 0) (fun z => y.1 = z.1 ∧ Inv (N + 1) (y.2.1, y.2.2.1, y.2.2.2.1, y.2.2.2.2.1, y.2.2.2.2.2.1, y.2.2.2.2.2.2.2.1, y.2.2.2.2.2.2.2.2.1, y.2.2.2.2.2.2.2.2.2) i0 i1 z.2.2.1 ik z.2.2.2.2.1)) := by
  have hb : 3100000 * N + 61000 < 2147483648 := by omega
  obtain ⟨⟨V, hc, hm, ok⟩, _, _, ⟨m, rfl, hmm⟩⟩ := id hI
  have hmb : m + 49000 < 2147483000 := by omega
  have hcall := fun k1 k2 => c_callGet (F := F) (xq := xq) (k := p1) (by omega) hc ok hb k1 k2
  have mcall := fun k1 k2 => m_getCalled (F := F) (went := went) (t := t) (th := 0) (came := came) (dp := dp) (k := p1) hF hm ok hb hmb k1 k2
  have hok := fun k1 k2 => get_ok (k := p1) hm ok hb k1 k2
  obtain ⟨lc, tk, ls, dpp⟩ := x8
  obtain ⟨hap, got, cap, wy, bal, wbt⟩ := x6
  obtain ⟨kK, kV, kW, kC, kL, kT, kP, sz, ld, pl, us, ag, hvv⟩ := x1
  obtain ⟨yk, ys⟩ := xy
  obtain ⟨zk, zs⟩ := xz
  obtain ⟨qa, qb, qc, qd, qe, qs, ql, qp⟩ := xq
  obtain ⟨a0, a1, a2, a3, a4, a5, a6, a7, a8⟩ := l8
  obtain ⟨s0, s1, s2, s3, s4, s5, s6⟩ := x4
  obtain ⟨rk, rs⟩ := x5
  rw [X9_get, X10_get, isKeyC, isKeyM]
  simp only [Option.bind_some]
  cases hk : (decide (0 ≤ p1) && decide (p1 ≤ 999)) with
  | false =>
    rw [if_pos (show bi false = 0 from rfl)]
    exact tot_s (tot_s ⟨rfl, hI.same⟩)
  | true =>
    rw [if_neg (show ¬ bi true = 0 by decide), if_neg (show ¬ bi true = 0 by decide)]
    obtain ⟨k1, k2⟩ := key_of hk
    refine tot_b (hcall k1 k2) (fun y ⟨g0, g1⟩ => ?_)
    obtain ⟨r, ⟨m1, m2, m3, m4⟩, ⟨i1', i2, i3, i4, i5, i6⟩, ⟨i7, i8, i9, i10, i11, i12, i13, i14, i15, i16, i17, i18, i19⟩, ⟨i20, i21⟩, ⟨i22, i23⟩, ⟨i24, i25, i26, i27, i28, i29, i30, i31⟩, ⟨l0, l1, l2, l3, l4, l5, l6, l7, l8⟩, ⟨t0, t1, t2, t3, t4, t5, t6⟩, ⟨r1, r2⟩⟩ := y
    refine tot_s ?_
    refine tot_b (mcall k1 k2) (fun z ⟨z0, z1, z2, ⟨m', z3, z4⟩⟩ => ?_)
    obtain ⟨n1, n2, n3, n4, n5, n6, n7, n8⟩ := z
    refine tot_s ⟨g0.trans z0.symm, hI.go ⟨_, g1, z1, (hok k1 k2).up (by omega) (by omega)⟩ (fun q q1 q2 => z2 q (by omega)) ⟨m', z3, by omega⟩⟩
end SCalls
