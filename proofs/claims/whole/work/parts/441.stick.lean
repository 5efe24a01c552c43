/-! tick -/
def lapS (n : Int32) (S : SS) : SS := setN 5 (S.2.2.2 5 + n) (tS (lapL (S.2.2.2 5 + n) 60 S.1).1 (S.2.2.2 11 + nI (lapL (S.2.2.2 5 + n) 60 S.1).2.length) S)
def lapE (n : Int32) (S : SS) : List Ev := (lapL (S.2.2.2 5 + n) 60 S.1).2.map evE
theorem lap_mem {t : Int32} : ∀ (c : Nat) (L : List En), (L.map eL).Nodup → ∀ e ∈ (lapL t c L).2, e ∈ L := by
  intro c
  induction c with
  | zero => intro L _ e he; simp [lapL] at he
  | succ c ih =>
    intro L h2 e he
    cases hb : best sooner (okT t) L with
    | none => rw [lap_none hb] at he; simp at he
    | some f =>
      rw [lap_some hb] at he
      rcases List.mem_cons.1 he with rfl | h
      · exact (best_mem h2 hb).1
      · exact (mem_delK.1 (ih _ (h2.sublist ((List.filter_sublist).map eL)) e h)).1
theorem lap_sum {u t s : Int32} : ∀ (c : Nat) (L : List En), OkL u t L → sumBy eW (lapL s c L).1 ≤ sumBy eW L := by
  intro c
  induction c with
  | zero => intro L _; exact Int32.le_refl _
  | succ c ih =>
    intro L h
    cases hb : best sooner (okT s) L with
    | none => rw [lap_none hb]; exact Int32.le_refl _
    | some f =>
      rw [lap_some hb]
      exact Int32.le_trans (ih _ (h.del _)) (sum_del_le h (best_mem h.2.1 hb).1)
theorem lapS_ok {b : Nat} {S : SS} {n : Int32} (h : Ok2 b S) (h0 : 0 ≤ (S.2.2.2 5).toInt) (h1 : (S.2.2.2 5).toInt ≤ 1000000000) (n1 : 1 ≤ n.toInt) (n2 : n.toInt ≤ 999) : Ok2 b (lapS n S) := by
  obtain ⟨⟨o1, o2, o3, o4⟩, w, cp⟩ := h
  have e5 : (S.2.2.2 5 + n).toInt = (S.2.2.2 5).toInt + n.toInt := i32_add (by omega) (by omega)
  have hs := lap_sub (t := S.2.2.2 5 + n) 60 S.1
  have hm := lap_more (t := S.2.2.2 5 + n) 60 S.1 o1.1 o1.2.1 o1.2.2.1
  have osub := o1.sub hs.1
  refine ⟨⟨?_, o2, o3, ?_⟩, ?_, ?_⟩
  · simp only [lapS, setN, tS]
    rw [upd_s, upd_n (by decide), upd_n (by decide)]
    refine ⟨osub.1, osub.2.1, osub.2.2.1, fun e he => ?_⟩
    obtain ⟨a1, a2, a3, a4, a5, a6, a7, a8, a9⟩ := osub.2.2.2 e he
    refine ⟨a1, a2, a3, a4, a5, a6, a7, ?_, a9⟩
    by_cases ce : eT e = -1
    · exact Or.inl ce
    · right
      have hno := best_none.1 hm.2 e he
      have h3 : ¬ eT e ≤ S.2.2.2 5 + n := fun hx => by rw [okT_iff.2 ⟨ce, hx⟩] at hno; cases hno
      rw [i32_le] at h3; omega
  · simp only [lapS, setN, tS, OkN]
    rw [upd_n (by decide), upd_n (by decide), upd_n (by decide), upd_n (by decide), upd_n (by decide), upd_n (by decide), upd_n (by decide), upd_n (by decide), upd_n (by decide), upd_n (by decide), upd_n (by decide), upd_n (by decide)]
    exact o4
  · simp only [lapS, setN, tS]
    rw [upd_n (by decide), upd_n (by decide)]; exact w
  · simp only [lapS, setN, tS]
    rw [upd_n (by decide), upd_n (by decide)]; exact Int32.le_trans (lap_sum 60 _ o1) cp
theorem lapE_ok {b : Nat} {S : SS} {n : Int32} (h : Ok b S) : EvAll (lapE n S) ∧ (lapE n S).length ≤ 60 := by
  refine ⟨fun ev hv => ?_, ?_⟩
  · obtain ⟨e, he, rfl⟩ := List.mem_map.1 hv
    obtain ⟨a1, a2, a3, a4, a5, a6, a7, a8, a9, a10⟩ := h.1.2.2.2 e (lap_mem 60 _ h.1.2.1 e he)
    exact ⟨a10, a1, a2, fun hx => by rcases hx with hx | hx <;> exact absurd hx (by simp only [evE]; decide)⟩
  · rw [lapE, List.length_map]
    have := lap_len (t := S.2.2.2 5 + n) 60 S.1 h.1.1 h.1.2.1
    have := h.1.2.2.1
    omega
section STick
variable {F N : Nat} {x8 : tX8} {x6 : tX6} {x1 : tX1} {xy xz : tX2} {xq : tX7} {l8 : tL8} {x4 : tX4} {x5 : tX5} {i0 i1 : Option tWi} {w ik went t : Nat → Int32} {wm th came dp : Int32}
theorem S_tick (hF : 1000 ≤ F) (hN : N < 512) (hI : Inv N (x8, x6, x1, xy, xz, l8, x4, x5) i0 i1 w ik wm) (p1 : Int32) :
    Tot (X9_tick F p1 x8 x6 x1 xy xz xq l8 x4) (fun y => Tot (X10_tick F p1 th w 0 went wm t came dp 0) (fun z => y.1 = z.1 ∧ Inv (N + 1) (y.2.1, y.2.2.1, y.2.2.2.1, y.2.2.2.2.1, y.2.2.2.2.2.1, y.2.2.2.2.2.2.2.1, y.2.2.2.2.2.2.2.2, x5) i0 i1 z.2.2.1 ik z.2.2.2.2.1)) := by
  have hb : 3100000 * N + 61000 < 2147483648 := by omega
  have f100 : 100 ≤ F := by omega
  have e1 : (1 : Int32).toInt = 1 := by decide
  have e999 : (999 : Int32).toInt = 999 := by decide
  have c11 : Int32.toNatClampNeg 11 = 11 := by decide
  have c3 : Int32.toNatClampNeg 3 = 3 := by decide
  obtain ⟨⟨V, hc, hm, ok⟩, _, _, ⟨m, rfl, hmm⟩⟩ := id hI
  have hmb : m + 49000 < 2147483000 := by omega
  have t0 := ok.2.2.2.2.1
  have t1 := ok.2.2.2.2.2
  obtain ⟨T0, hT1, hT2, hT3⟩ := i32_nI (x := V.2.2.1.2.2.2 5) t0
  obtain ⟨hR, hL, hG, hQ, hx8⟩ := hc
  have okS := ok.2.1.1
  have hR0 : RC (tS V.2.2.1.1 (V.2.2.1.2.2.2 11 + nI 0) V.2.2.1) x6 x1 xy xz := by
    have e : tS V.2.2.1.1 (V.2.2.1.2.2.2 11 + nI 0) V.2.2.1 = V.2.2.1 := by
      simp only [tS]
      rw [show nI 0 = 0 from rfl, Int32.add_zero]
      have : upd V.2.2.1.2.2.2 11 (V.2.2.1.2.2.2 11) = V.2.2.1.2.2.2 := by
        funext q
        by_cases cq : q = 11
        · subst cq; rw [upd_s]
        · rw [upd_n cq]
      rw [this]
    rw [e]; exact hR
  have hap0 : x6.1 3 = V.2.2.1.2.2.2 11 := by
    obtain ⟨hap, got, cap, wy, bal, wbt⟩ := x6
    obtain ⟨kK, kV, kW, kC, kL, kT, kP, sz, ld, pl, us, ag, hvv⟩ := x1
    exact hR.2.2.2.2.2.2.2.1
  have cl := fun (qa qb qc qd qe : Nat → Int32) (v2 : Int32) => c_lapse (F := F) (b := 3100000 * N) (S := V.2.2.1) (xy := xy) (xz := xz) (lc := nI V.1) (tt := V.2.2.1.2.2.2 5 + p1) (ls := V.2.2.1.2.2.2 13) (dpp := V.2.2.1.2.2.2 17) (v2 := v2) f100 okS 60 0 F 0 V.2.2.1.1 [] x6 x1 (qa, qb, qc, qd, qe, 0, 0, 0) (by omega) (by omega) okS.1 hR0 QC_0 rfl
  obtain ⟨lc, tk, ls, dpp⟩ := x8
  obtain ⟨hap, got, cap, wy, bal, wbt⟩ := x6
  obtain ⟨kK, kV, kW, kC, kL, kT, kP, sz, ld, pl, us, ag, hvv⟩ := x1
  obtain ⟨yk, ys⟩ := xy
  obtain ⟨zk, zs⟩ := xz
  obtain ⟨qa, qb, qc, qd, qe, qs, ql, qp⟩ := xq
  obtain ⟨a0, a1, a2, a3, a4, a5, a6, a7, a8⟩ := l8
  obtain ⟨s0, s1, s2, s3, s4, s5, s6⟩ := x4
  simp only [Prod.mk.injEq] at hx8
  obtain ⟨rfl, rfl, rfl, rfl⟩ := hx8
  rw [X9_tick, X10_tick, X10_call, within_eq, show X10_isIn F p1.toInt64 1 999 = _ from isIn_eq (F := F) p1 1 999]
  simp only [Option.bind_some]
  cases hk : (decide (1 ≤ p1) && decide (p1 ≤ 999)) with
  | false =>
    rw [if_pos (show bi false = 0 from rfl)]
    exact tot_s (tot_s ⟨rfl, hI.same⟩)
  | true =>
    rw [if_neg (show ¬ bi true = 0 by decide), if_neg (show ¬ bi true = 0 by decide)]
    obtain ⟨r1, r2⟩ := rng_of hk
    rw [e1] at r1
    rw [e999] at r2
    obtain ⟨n, hn1, hn2, hn3⟩ := i32_nI (x := p1) (by omega)
    have ett : V.2.2.1.2.2.2 5 + p1 = nI (T0 + n) := by rw [hT2, hn2, nI_add]
    have oS := lapS_ok (n := p1) ok.2.1 t0 (by omega) r1 r2
    obtain ⟨oE, oEl⟩ := lapE_ok (n := p1) okS
    have e5 : (lapS p1 V.2.2.1).2.2.2 5 = nI (T0 + n) := by simp only [lapS, setN]; rw [upd_s, ett]
    have okV2 : OkWV (3100000 * N) (1000 * (N + 1)) (storeV (lapS p1 V.2.2.1) V) := ⟨ok.1, oS, ok.2.2.1, ok.2.2.2.1, by simp only [storeV]; rw [e5, nI_toInt (by omega)]; omega, by simp only [storeV]; rw [e5, nI_toInt (by omega)]; omega⟩
    have q18 : (lapS p1 V.2.2.1).2.2.2 18 = nI V.2.2.2.1.length := by simp only [lapS, setN, tS]; rw [upd_n (by decide), upd_n (by decide)]; exact wr_18 hm
    rw [X8_callTick, X7_open]
    simp only [Option.bind_some]
    obtain ⟨y, hy, g0, g1, g2⟩ := cl qa qb qc qd qe (hap (Int32.toNatClampNeg 3))
    obtain ⟨⟨j1, j2, j3, j4, j5, j6⟩, ⟨j7, j8, j9, j10, j11, j12, j13, j14, j15, j16, j17, j18, j19⟩, ⟨j24, j25, j26, j27, j28, j29, j30, j31⟩⟩ := y
    rw [show X8_callTick_L32 F F (hap (Int32.toNatClampNeg 3)) 0 (nI V.1, V.2.2.1.2.2.2 5 + p1, V.2.2.1.2.2.2 13, V.2.2.1.2.2.2 17) (hap, got, cap, wy, bal, wbt) (kK, kV, kW, kC, kL, kT, kP, sz, ld, pl, us, ag, hvv) (qa, qb, qc, qd, qe, 0, 0, 0) = _ from hy, Option.bind_some]
    dsimp only at g0 g1 g2 ⊢
    rw [Nat.zero_add] at g0
    rw [List.nil_append] at g1
    have hans : j1 3 - hap 3 = nI (lapL (nI (T0 + n)) 60 V.2.2.1.1).2.length := by
      have h1 : j1 3 = V.2.2.1.2.2.2 11 + nI (lapL (V.2.2.1.2.2.2 5 + p1) 60 V.2.2.1.1).2.length := by
        rw [show j1 3 = _ from g0.2.2.2.2.2.2.2.1]; simp only [tS]; rw [upd_s]
      rw [h1, show hap 3 = V.2.2.1.2.2.2 11 from hap0, ett, Int32.add_comm, Int32.add_sub_cancel]
    have gR : RC (lapS p1 V.2.2.1) (j1, j2, j3, j4, j5, j6) (j7, j8, j9, j10, j11, j12, j13, j14, j15, j16, j17, j18, j19) (yk, ys) (zk, zs) := RC_set g0 (by simp [keepQ])
    have gd := c_done (F := F) (V := storeV (lapS p1 V.2.2.1) V) (T := 1000 * (N + 1)) (S := lapS p1 V.2.2.1) (E := lapE p1 V.2.2.1) (x5 := x5) (x8 := (nI V.1, V.2.2.1.2.2.2 5 + p1, V.2.2.1.2.2.2 13, V.2.2.1.2.2.2 17)) (by omega) okV2 hb gR (oS.up (by omega)) g1 oE (by omega) hL hG rfl rfl rfl (by
      simp only [storeV, lapS, setN, tS]
      rw [upd_s, upd_n (by decide), upd_n (by decide), upd_n (by decide), upd_n (by decide)]) hQ
    obtain ⟨y, hy2, g3, _⟩ := gd
    obtain ⟨⟨m1, m2, m3, m4⟩, ⟨i1', i2, i3, i4, i5, i6⟩, ⟨i7, i8, i9, i10, i11, i12, i13, i14, i15, i16, i17, i18, i19⟩, ⟨i20, i21⟩, ⟨i22, i23⟩, ⟨i24, i25, i26, i27, i28, i29, i30, i31⟩, ⟨l0, l1, l2, l3, l4, l5, l6, l7, l8⟩, ⟨u0, u1, u2, u3, u4, u5, u6⟩⟩ := y
    rw [hy2, Option.bind_some]
    dsimp only at g3 ⊢
    rw [Option.bind_some]
    dsimp only
    refine tot_s ?_
    dsimp only
    obtain ⟨k1, k2, k3, k4⟩ := id hm
    obtain ⟨⟨M, hp, hE⟩, ky, kz, kN⟩ := k1
    have w5 : w 5 = nI (T0 + 0) := by rw [Nat.add_zero, ← hT2]; exact kN 5 (by omega) (by omega)
    have mt := m_ticks (F := F) (n := n) (T0 := T0) hF (by omega) (by omega) n 0 F 0 V.2.2.1.1 M w t 0 [] (by omega) (by omega) hp hE w5 okS.1.1 okS.1.2.1 (fun e he => by
      have := (okS.1.2.2.2 e he).2.2.2.2.2.2.2.1
      rw [hT2] at this; rw [Nat.add_zero]; exact this) okS.1.2.2.1 (Or.inl ⟨rfl, by simp, QM_0⟩) (by simp only [List.length_nil]; omega)
    obtain ⟨z, hz, z0, ⟨M', z1, z2⟩, z3, z4, z5⟩ := mt
    obtain ⟨v, w', t', cm'⟩ := z
    rw [hn2, show X10_tick_L23 F F (nI n) 0 0 w 0 t 0 0 0 = _ from hz, Option.bind_some]
    dsimp only at z0 z1 z2 z3 z4 z5 ⊢
    rw [Nat.zero_add] at z0
    rw [List.nil_append] at z5
    subst z0
    rw [c11]
    have hRM : RM (lapS p1 V.2.2.1) (upd w' 11 (w' 11 + nI (lapL (nI (T0 + n)) 60 V.2.2.1.1).2.length)) 0 := by
      refine ⟨⟨M', by simp only [lapS, setN, tS]; rw [ett]; exact z1, ?_⟩, ?_, ?_, fun q q1 q2 => ?_⟩
      · obtain ⟨y0, y1, y2, y3⟩ := z2
        refine ⟨by rw [upd_n (by decide)]; exact y0, y1, y2, fun j hj => ?_⟩
        rw [y3 j hj]; simp only [rowAt]
        rw [upd_n (by omega), upd_n (by omega), upd_n (by omega), upd_n (by omega), upd_n (by omega), upd_n (by omega), upd_n (by omega)]
      · exact GM.same ky (by rw [upd_n (by omega)]; exact z4 _ (by omega) (by omega) (by omega)) (fun q _ _ => by rw [upd_n (by omega)]; exact z4 _ (by omega) (by omega) (by omega))
      · exact GM.same kz (by rw [upd_n (by omega)]; exact z4 _ (by omega) (by omega) (by omega)) (fun q _ _ => by rw [upd_n (by omega)]; exact z4 _ (by omega) (by omega) (by omega))
      · rw [Nat.zero_add]
        have kq := kN q q1 q2
        rw [Nat.zero_add] at kq
        simp only [lapS, setN, tS]
        by_cases cq : q = 5
        · subst cq; rw [upd_n (by decide), upd_s, z3, ett]
        · rw [upd_n cq]
          by_cases cq2 : q = 11
          · subst cq2; rw [upd_s, upd_s, z4 11 (by decide) (by decide) (by decide), kq, ett]
          · rw [upd_n cq2, upd_n cq2, z4 q (by omega) cq (by omega), kq]
    have hfr : ∀ q, 444 ≤ q → upd w' 11 (w' 11 + nI (lapL (nI (T0 + n)) 60 V.2.2.1.1).2.length) q = w q := fun q hq => by rw [upd_n (by omega)]; exact z4 q (by omega) (by omega) (by omega)
    have hFrO : FrO w (upd w' 11 (w' 11 + nI (lapL (nI (T0 + n)) 60 V.2.2.1.1).2.length)) 0 := fun q hq => hfr q (by omega)
    have q7 : upd w' 11 (w' 11 + nI (lapL (nI (T0 + n)) 60 V.2.2.1.1).2.length) (0 + 7) = w (0 + 7) := by rw [upd_n (by decide)]; exact z4 _ (by decide) (by decide) (by decide)
    have q14 : upd w' 11 (w' 11 + nI (lapL (nI (T0 + n)) 60 V.2.2.1.1).2.length) (0 + 14) = w (0 + 14) := by rw [upd_n (by decide)]; exact z4 _ (by decide) (by decide) (by decide)
    have q18' : upd w' 11 (w' 11 + nI (lapL (nI (T0 + n)) 60 V.2.2.1.1).2.length) (0 + 18) = w (0 + 18) := by rw [upd_n (by decide)]; exact z4 _ (by decide) (by decide) (by decide)
    have z5' : QM (lapE p1 V.2.2.1) t' cm' := by
      rw [lapE, ett]
      rcases z5 with ⟨_, _, h⟩ | h
      · exact h
      · exact absurd h (by decide)
    refine tot_b (m_doneV (F := F) (o := 0) (V := storeV (lapS p1 V.2.2.1) V) (T := 1000 * (N + 1)) (b := 3100000 * N) (went := went) (m := m) (dp := 0) hF okV2 hb (by omega) hRM (oS.up (by omega)) z5' oE (by omega) (k2.fr hFrO q7) (k3.fr hFrO q18') (k4.fr hFrO q14) rfl rfl (nI (lapL (nI (T0 + n)) 60 V.2.2.1.1).2.length)) (fun z ⟨y0, y1, ⟨m2', y2, y3⟩, y4, _⟩ => ?_)
    obtain ⟨n1, n2, n3, n4, n5, n6, n7⟩ := z
    have okD := doneV_ok (V := storeV (lapS p1 V.2.2.1) V) (E := lapE p1 V.2.2.1) okV2 hb (oS.up (by omega)) oE q18 k3.2.1 rfl
    refine tot_s ⟨?_, hI.go ⟨_, g3, y1, okD.up (by omega) (Nat.le_refl _)⟩ (fun q q1 q2 => by rw [y4 q (by omega)]; exact hfr q (by omega)) ⟨m2', y2, by omega⟩⟩
    rw [c3, hans]; exact y0.symm
end STick
