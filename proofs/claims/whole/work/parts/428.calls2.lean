/-! get, remove, resize as calls: the class -/
section CCalls2
variable {F b T : Nat} {V : WV} {x8 : tX8} {x6 : tX6} {x1 : tX1} {xy xz : tX2} {xq : tX7} {l8 : tL8} {x4 : tX4} {x5 : tX5}
theorem c_callGet (hF : 200 ≤ F) (h : RWc V x8 x6 x1 xy xz l8 x4 x5) (ok : OkWV b T V) (hb : b + 61000 < 2147483648) {k : Int32} (k1 : 0 ≤ k.toInt) (k2 : k.toInt < 1000) :
    Tot (X8_callGet F k x8 x6 x1 xy xz xq l8 x4 x5) (fun y => y.1 = (getV k V).1 ∧ RWc (getV k V).2 y.2.1 y.2.2.1 y.2.2.2.1 y.2.2.2.2.1 y.2.2.2.2.2.1 y.2.2.2.2.2.2.2.1 y.2.2.2.2.2.2.2.2.1 y.2.2.2.2.2.2.2.2.2) := by
  have b64 : b + 64 < 2147483648 := by omega
  have f100 : 100 ≤ F := by omega
  obtain ⟨hR, hL, hG, hQ, hx8⟩ := h
  have okr := reqV_ok ok k1 k2
  obtain ⟨o1, o2, o3⟩ := fetch_ok (k := k) (d := 0) okr.2.1 b64
  have ov := fetch_val (S := (reqV k V).2.2.1) (d := 0) k1 k2
  have hop := fun (qa qb qc qd qe : Nat → Int32) => c_fetch (F := F) (xq := (qa, qb, qc, qd, qe, 0, 0, 0)) (RC_req hR (nI (addR k V.2.2.2.2).length)) okr.2.1.1 f100 QC_0 k
  have hreq := c_req (F := F) (kk := x5.1) (sz := x5.2) hQ hF k
  obtain ⟨lc, tk, ls, dpp⟩ := x8
  obtain ⟨hap, got, cap, wy, bal, wbt⟩ := x6
  obtain ⟨kK, kV, kW, kC, kL, kT, kP, sz, ld, pl, us, ag, hvv⟩ := x1
  obtain ⟨yk, ys⟩ := xy
  obtain ⟨zk, zs⟩ := xz
  obtain ⟨qa, qb, qc, qd, qe, qs, ql, qp⟩ := xq
  obtain ⟨a0, a1, a2, a3, a4, a5, a6, a7, a8⟩ := l8
  obtain ⟨s0, s1, s2, s3, s4, s5, s6⟩ := x4
  obtain ⟨rk, rs⟩ := x5
  have u5 : (fetchS k 0 (reqV k V).2.2.1).2.1.2.2.2 5 = (reqV k V).2.2.1.2.2.2 5 := fetch_sc (by simp [keepQ])
  have u13 : (fetchS k 0 (reqV k V).2.2.1).2.1.2.2.2 13 = (reqV k V).2.2.1.2.2.2 13 := fetch_sc (by simp [keepQ])
  have u17 : (fetchS k 0 (reqV k V).2.2.1).2.1.2.2.2 17 = (reqV k V).2.2.1.2.2.2 17 := fetch_sc (by simp [keepQ])
  have hxr : (lc, tk, ls, dpp) = (nI (reqV k V).1, (reqV k V).2.2.1.2.2.2 5, (reqV k V).2.2.1.2.2.2 13, (reqV k V).2.2.1.2.2.2 17) := by rw [hx8]; simp only [reqV, setN]; rw [upd_n (by decide), upd_n (by decide), upd_n (by decide)]
  rw [X8_callGet]
  refine tot_b hreq (fun ⟨r1, r2⟩ hr => ?_)
  rw [X7_open]
  simp only [Option.bind_some]
  refine tot_b (hop qa qb qc qd qe) (fun y ⟨g0, g1, g2, g3⟩ => ?_)
  obtain ⟨r, ⟨j1, j2, j3, j4, j5, j6⟩, ⟨j7, j8, j9, j10, j11, j12, j13, j14, j15, j16, j17, j18, j19⟩, ⟨j24, j25, j26, j27, j28, j29, j30, j31⟩⟩ := y
  simp only [List.nil_append] at g0 g1 g2 g3 ⊢
  refine tot_b (c_done (V := reqV k V) (T := T) (S := (fetchS k 0 (reqV k V).2.2.1).2.1) (E := (fetchS k 0 (reqV k V).2.2.1).2.2) hF okr hb g1 o1 g2 ov (Nat.le_trans o2 (by decide)) hL hG u5 u13 u17 hxr hr) (fun z ⟨z1, z2⟩ => ?_)
  obtain ⟨⟨m1, m2, m3, m4⟩, ⟨i1, i2, i3, i4, i5, i6⟩, ⟨i7, i8, i9, i10, i11, i12, i13, i14, i15, i16, i17, i18, i19⟩, ⟨i20, i21⟩, ⟨i22, i23⟩, ⟨i24, i25, i26, i27, i28, i29, i30, i31⟩, ⟨l0, l1, l2, l3, l4, l5, l6, l7, l8⟩, ⟨t0, t1, t2, t3, t4, t5, t6⟩⟩ := z
  exact tot_s ⟨g0, z1⟩
theorem c_callRemove (hF : 200 ≤ F) (h : RWc V x8 x6 x1 xy xz l8 x4 x5) (ok : OkWV b T V) (hb : b + 61000 < 2147483648) {k : Int32} (k1 : 0 ≤ k.toInt) (k2 : k.toInt < 1000) :
    Tot (X8_callRemove F k x8 x6 x1 xy xz xq l8 x4) (fun y => y.1 = (removeV k V).1 ∧ RWc (removeV k V).2 y.2.1 y.2.2.1 y.2.2.2.1 y.2.2.2.2.1 y.2.2.2.2.2.1 y.2.2.2.2.2.2.2.1 y.2.2.2.2.2.2.2.2 x5) := by
  have f100 : 100 ≤ F := by omega
  obtain ⟨hR, hL, hG, hQ, hx8⟩ := h
  obtain ⟨o1, o2, o3⟩ := take_ok (k := k) (d := 0) ok.2.1
  have ov := take_val (d := 0) ok.2.1.1 k1 k2
  have hop := fun (qa qb qc qd qe : Nat → Int32) => c_takeOut (F := F) (xq := (qa, qb, qc, qd, qe, 0, 0, 0)) hR ok.2.1.1 f100 QC_0 k
  obtain ⟨lc, tk, ls, dpp⟩ := x8
  obtain ⟨hap, got, cap, wy, bal, wbt⟩ := x6
  obtain ⟨kK, kV, kW, kC, kL, kT, kP, sz, ld, pl, us, ag, hvv⟩ := x1
  obtain ⟨yk, ys⟩ := xy
  obtain ⟨zk, zs⟩ := xz
  obtain ⟨qa, qb, qc, qd, qe, qs, ql, qp⟩ := xq
  obtain ⟨a0, a1, a2, a3, a4, a5, a6, a7, a8⟩ := l8
  obtain ⟨s0, s1, s2, s3, s4, s5, s6⟩ := x4
  rw [X8_callRemove, X7_open]
  simp only [Option.bind_some]
  refine tot_b (hop qa qb qc qd qe) (fun y ⟨g0, g1, g2, g3⟩ => ?_)
  obtain ⟨r, ⟨j1, j2, j3, j4, j5, j6⟩, ⟨j7, j8, j9, j10, j11, j12, j13, j14, j15, j16, j17, j18, j19⟩, ⟨j24, j25, j26, j27, j28, j29, j30, j31⟩⟩ := y
  simp only [List.nil_append] at g0 g1 g2 g3 ⊢
  refine tot_b (c_done (V := V) (T := T) (S := (takeS k 0 V.2.2.1).2.1) (E := (takeS k 0 V.2.2.1).2.2) hF ok hb g1 (o1.up (by omega)) g2 ov (Nat.le_trans o2 (by decide)) hL hG take_sc take_sc take_sc hx8 hQ) (fun z ⟨z1, z2⟩ => ?_)
  obtain ⟨⟨m1, m2, m3, m4⟩, ⟨i1, i2, i3, i4, i5, i6⟩, ⟨i7, i8, i9, i10, i11, i12, i13, i14, i15, i16, i17, i18, i19⟩, ⟨i20, i21⟩, ⟨i22, i23⟩, ⟨i24, i25, i26, i27, i28, i29, i30, i31⟩, ⟨l0, l1, l2, l3, l4, l5, l6, l7, l8⟩, ⟨t0, t1, t2, t3, t4, t5, t6⟩⟩ := z
  exact tot_s ⟨g0, z1⟩
theorem c_callResize (hF : 200 ≤ F) (h : RWc V x8 x6 x1 xy xz l8 x4 x5) (ok : OkWV b T V) (hb : b + 61000 < 2147483648) (c : Int32) :
    Tot (X8_callResize F c x8 x6 x1 xy xz xq l8 x4) (fun y => y.1 = (resizeV c V).1 ∧ RWc (resizeV c V).2 y.2.1 y.2.2.1 y.2.2.2.1 y.2.2.2.2.1 y.2.2.2.2.2.1 y.2.2.2.2.2.2.2.1 y.2.2.2.2.2.2.2.2 x5) := by
  have b64 : b + 64 < 2147483648 := by omega
  have b200 : b + 200 < 2147483648 := by omega
  have f100 : 100 ≤ F := by omega
  obtain ⟨hR, hL, hG, hQ, hx8⟩ := h
  obtain ⟨o1, o2, o3⟩ := recap_ok (c := c) (d := 0) ok.2.1 b64
  have ov := recap_val (c := c) (d := 0) ok.2.1.1 b64
  have hop := fun (qa qb qc qd qe : Nat → Int32) => c_recap (F := F) (xq := (qa, qb, qc, qd, qe, 0, 0, 0)) hR ok.2.1.1 f100 b200 QC_0 c
  obtain ⟨lc, tk, ls, dpp⟩ := x8
  obtain ⟨hap, got, cap, wy, bal, wbt⟩ := x6
  obtain ⟨kK, kV, kW, kC, kL, kT, kP, sz, ld, pl, us, ag, hvv⟩ := x1
  obtain ⟨yk, ys⟩ := xy
  obtain ⟨zk, zs⟩ := xz
  obtain ⟨qa, qb, qc, qd, qe, qs, ql, qp⟩ := xq
  obtain ⟨a0, a1, a2, a3, a4, a5, a6, a7, a8⟩ := l8
  obtain ⟨s0, s1, s2, s3, s4, s5, s6⟩ := x4
  rw [X8_callResize, X7_open]
  simp only [Option.bind_some]
  refine tot_b (hop qa qb qc qd qe) (fun y ⟨g0, g1, g2, g3⟩ => ?_)
  obtain ⟨r, ⟨j1, j2, j3, j4, j5, j6⟩, ⟨j7, j8, j9, j10, j11, j12, j13, j14, j15, j16, j17, j18, j19⟩, ⟨j20, j21⟩, ⟨j22, j23⟩, ⟨j24, j25, j26, j27, j28, j29, j30, j31⟩⟩ := y
  simp only [List.nil_append] at g0 g1 g2 g3 ⊢
  refine tot_b (c_done (V := V) (T := T) (S := (recapS c 0 V.2.2.1).2.1) (E := (recapS c 0 V.2.2.1).2.2) hF ok hb g1 o1 g2 ov (Nat.le_trans o2 (by decide)) hL hG (recap_sc (by simp [keepQ])) (recap_sc (by simp [keepQ])) (recap_sc (by simp [keepQ])) hx8 hQ) (fun z ⟨z1, z2⟩ => ?_)
  obtain ⟨⟨m1, m2, m3, m4⟩, ⟨i1, i2, i3, i4, i5, i6⟩, ⟨i7, i8, i9, i10, i11, i12, i13, i14, i15, i16, i17, i18, i19⟩, ⟨i20, i21⟩, ⟨i22, i23⟩, ⟨i24, i25, i26, i27, i28, i29, i30, i31⟩, ⟨l0, l1, l2, l3, l4, l5, l6, l7, l8⟩, ⟨t0, t1, t2, t3, t4, t5, t6⟩⟩ := z
  exact tot_s ⟨g0, z1⟩
end CCalls2
/-! the same calls: the reference -/
def MW (o : Nat) (w w' : Nat → Int32) : Prop := ∀ q, (q < o ∨ o + 848 ≤ q) → w' q = w q
section MCalls
variable {F b T m : Nat} {V : WV} {w went t : Nat → Int32} {th came dp : Int32}
theorem RWm.req (h : RWm V w 0) (hF : 200 ≤ F) (k : Int32) : Tot (X10_requests F k w) (fun w' => RWm (reqV k V) w' 0 ∧ MW 0 w w') := by
  obtain ⟨h1, h2, h3, h4⟩ := h
  have hn8 := h2.1
  refine tot_m (m_req h4 hF k) (fun w' ⟨g1, g2⟩ => ⟨⟨?_, ⟨hn8, ?_, fun i j hi hj => ?_⟩, ⟨?_, h3.2.1, fun i hi => ?_⟩, g1⟩, fun q hq => g2 q (by omega) (by omega)⟩)
  · obtain ⟨⟨L, p, hE⟩, hy, hz, hN⟩ := h1
    refine ⟨⟨L, p, EM.same hE (g2 _ (by omega) (by omega)) (fun q _ _ => g2 q (by omega) (by omega))⟩, GM.same hy (g2 _ (by omega) (by omega)) (fun q _ _ => g2 q (by omega) (by omega)), GM.same hz (g2 _ (by omega) (by omega)) (fun q _ _ => g2 q (by omega) (by omega)), fun q q1 q2 => ?_⟩
    simp only [reqV, setN]
    by_cases c : q = 14
    · subst c; rw [upd_s]; exact g1.1
    · rw [upd_n c, g2 _ (by omega) (by omega)]; exact hN q q1 q2
  · show w' (0 + 7) = _
    rw [g2 _ (by omega) (by omega)]; exact h2.2.1
  · have hi' : i < V.1 := hi
    rw [g2 _ (by omega) (by omega)]; exact h2.2.2 i j hi' hj
  · show w' (0 + 18) = _
    rw [g2 _ (by omega) (by omega)]; exact h3.1
  · have := h3.2.1
    have hi' : i < V.2.2.2.1.length := hi
    show V.2.2.2.1[i] = _
    rw [h3.2.2 i hi', g2 _ (by omega) (by omega), g2 _ (by omega) (by omega), g2 _ (by omega) (by omega), g2 _ (by omega) (by omega), g2 _ (by omega) (by omega)]
/-- hearing, for the world at a place of the row -/
theorem m_doneV {o : Nat} {S : SS} {E : List Ev} (hF : 1000 ≤ F) (ok : OkWV b T V) (hb : b + 61000 < 2147483648) (hm : m + 48000 < 2147483000) (hR : RM S w o) (hS : Ok2 (b + 64) S) (hq : QM E t came) (hE : EvAll E) (hEl : E.length ≤ 1000) (hL : LM V.1 V.2.1 w o) (hG : GLm V.2.2.2.1 w o) (hx5 : RQm V.2.2.2.2 w o) (h14 : S.2.2.2 14 = V.2.2.1.2.2.2 14) (h18 : S.2.2.2 18 = V.2.2.1.2.2.2 18) (ans : Int32) :
    Tot (X10_done F ans w (nI o) went (nI m) t came dp 0) (fun y => y.1 = ans ∧ RWm (doneV S E V) y.2.1 o ∧ (∃ m', y.2.2.2.1 = nI m' ∧ m' ≤ m + 48000) ∧ MW o w y.2.1 ∧ QM (hearS V.1 V.2.1 S V.2.2.2.1 E).2.2.2 y.2.2.2.2.1 y.2.2.2.2.2.1) := by
  have ho := hR.ho
  refine tot_m (m_done (F := F) (n := V.1) (b := b + 64) (H := V.2.1) (G := V.2.2.2.1) hF ok.1 ans (by omega) hm (by omega) hR hS ok.2.2.1 hq hE hL hG) (fun y ⟨z0, z1, z2, z3, z4, z5, z6⟩ => ⟨z0, ⟨z1, z4, z5, ?_⟩, z3, fun q hq => z6 q (by omega), z2⟩)
  obtain ⟨g1, g2, g3⟩ := hx5
  refine ⟨?_, g2, fun i hi => ?_⟩
  · have hok := hearS_ok (b := b + 64) (E := E) ok.1 (by omega) hS ok.2.2.1 hE (by rw [← hR.2.2.2 18 (by omega) (by omega)]; exact hG.1) hG.2.1
    rw [z1.2.2.2 14 (by omega) (by omega), hok.2.2.2.1, ← hR.2.2.2 14 (by omega) (by omega)]; exact g1
  · have hi' : i < V.2.2.2.2.length := hi
    rw [z6 _ (by omega)]; exact g3 i hi
theorem LM.fr {n : Nat} {H : Nat → Nat → Int32} {w' : Nat → Int32} {o : Nat} (h : LM n H w o) (hf : FrO w w' o) (h7 : w' (o + 7) = w (o + 7)) : LM n H w' o := ⟨h.1, h7.trans h.2.1, fun i j hi hj => by rw [hf _ (by omega)]; exact h.2.2 i j hi hj⟩
theorem GLm.fr {G : List Lg} {w' : Nat → Int32} {o : Nat} (h : GLm G w o) (hf : FrO w w' o) (h18 : w' (o + 18) = w (o + 18)) : GLm G w' o := ⟨h18.trans h.1, h.2.1, fun k hk => by rw [h.2.2 k hk, hf _ (by omega), hf _ (by omega), hf _ (by omega), hf _ (by omega), hf _ (by omega)]⟩
theorem RQm.fr {Q : List Int32} {w' : Nat → Int32} {o : Nat} (h : RQm Q w o) (hf : FrO w w' o) (h14 : w' (o + 14) = w (o + 14)) : RQm Q w' o := ⟨h14.trans h.1, h.2.1, fun k hk => by rw [h.2.2 k hk, hf _ (by omega)]⟩
/-- the store has done something, the rest stands -/
theorem RWm.store {S S' : SS} {w' : Nat → Int32} {o : Nat} (h : RWm V w o) (hV : V.2.2.1 = S) (hR : RM S' w' o) (hf : FrO w w' o) (hk : ∀ q, keepQ q → S'.2.2.2 q = S.2.2.2 q) : LM V.1 V.2.1 w' o ∧ GLm V.2.2.2.1 w' o ∧ RQm V.2.2.2.2 w' o := by
  obtain ⟨h1, h2, h3, h4⟩ := h
  rw [hV] at h1
  have e : ∀ q, keepQ q → 1 ≤ q → q ≤ 18 → w' (o + q) = w (o + q) := fun q hq q1 q2 => by rw [hR.2.2.2 q q1 q2, hk q hq, h1.2.2.2 q q1 q2]
  exact ⟨h2.fr hf (e 7 (by simp [keepQ]) (by omega) (by omega)), h3.fr hf (e 18 (by simp [keepQ]) (by omega) (by omega)), h4.fr hf (e 14 (by simp [keepQ]) (by omega) (by omega))⟩
theorem FrO.MW {w' : Nat → Int32} {o : Nat} (h : FrO w w' o) : MW o w w' := fun q hq => h q (by omega)
theorem m_putCalled (hF : 1000 ≤ F) (h : RWm V w 0) (ok : OkWV b T V) (hb : b + 61000 < 2147483648) (hT : T ≤ 1000000000) (hm : m + 49000 < 2147483000) {k v wt lives : Int32} (ha : ArgC k v wt lives) :
    Tot (X10_putCalled F k v wt lives th w 0 went (nI m) t came dp 0) (fun y => y.1 = (putV k v wt lives V).1 ∧ RWm (putV k v wt lives V).2 y.2.2.1 0 ∧ MW 0 w y.2.2.1 ∧ ∃ m', y.2.2.2.2.1 = nI m' ∧ m' ≤ m + 49000) := by
  have b200 : b + 200 < 2147483648 := by omega
  have b64 : b + 64 < 2147483648 := by omega
  have okr := reqV_ok ok ha.1 ha.2.1
  have e5 : (reqV k V).2.2.1.2.2.2 5 = V.2.2.1.2.2.2 5 := by simp only [reqV, setN]; rw [upd_n (by decide)]
  have harg : ArgP k v wt (tillS lives V.2.2.1) ((reqV k V).2.2.1.2.2.2 5) := by rw [e5]; exact ha.P ok.2.2.2.2.1 (by have := ok.2.2.2.2.2; omega)
  obtain ⟨o1, o2, o3⟩ := bring_ok (v := v) (d := 0) okr.2.1 b64 harg
  have ov := bring_val (d := 0) okr.2.1.1 b64 harg
  rw [X10_putCalled, X10_call]
  simp only [Option.bind_some]
  refine tot_b (RWm.req h (by omega) k) (fun w1 ⟨h1, f1⟩ => ?_)
  have key : ∀ till, till = tillS lives V.2.2.1 → Tot ((X10_puts F k v wt till w1 0 went (nI m) t 0 0 0).bind fun (r22, w23, e24, m25, t26, c27) => ((X10_done F r22 w23 0 e24 m25 t26 c27 0 0).bind fun (r29, w30, e31, m32, t33, c34, d35) => (some (r29, (0 : Int32), w30, e31, m32, t33, c34, d35)))) (fun y => y.1 = (putV k v wt lives V).1 ∧ RWm (putV k v wt lives V).2 y.2.2.1 0 ∧ MW 0 w y.2.2.1 ∧ ∃ m', y.2.2.2.2.1 = nI m' ∧ m' ≤ m + 49000) := by
    intro till ht
    subst ht
    refine tot_b (m_puts (F := F) (o := 0) (E := []) (sil := 0) (v := v) (d := 0) (went := went) h1.1 okr.2.1.1 okr.2.1.2.1 hF b200 (by omega) (by simp) (Or.inl ⟨rfl, by simp, QM_0⟩) harg) (fun y ⟨g0, g1, g2, ⟨m', g3, g3'⟩, g4, _⟩ => ?_)
    obtain ⟨r, y2, y3, y4, y5, y6⟩ := y
    simp only [List.nil_append] at g0 g1 g2 g3 g4 ⊢
    subst g3
    obtain ⟨l1, l2, l3⟩ := RWm.store h1 rfl g1 g2 (fun q hq => bring_sc hq)
    have g4' : QM (bringS k v wt (tillS lives V.2.2.1) 0 (reqV k V).2.2.1).2.2 y5 y6 := by
      rcases g4 with ⟨_, _, g4⟩ | g4
      · exact g4
      · exact absurd g4 (by decide)
    refine tot_b (m_doneV (F := F) (o := 0) (V := reqV k V) (T := T) (b := b) hF okr hb (by omega) g1 o1 g4' ov (Nat.le_trans o2 (by decide)) l1 l2 l3 (bring_sc (by simp [keepQ])) (bring_sc (by simp [keepQ])) r) (fun z ⟨z0, z1, ⟨m2, z2, z3⟩, z4, _⟩ => ?_)
    obtain ⟨i1, i2, i3, i4, i5, i6, i7⟩ := z
    exact tot_s ⟨z0.trans g0, z1, fun q hq => by rw [z4 q hq, g2 q (by omega), f1 q hq], m2, z2, by omega⟩
  have ht5 : w1 (5 : Int32).toNatClampNeg = V.2.2.1.2.2.2 5 := by
    have := h1.1.2.2.2 5 (by omega) (by omega)
    rw [e5] at this; exact this
  by_cases c : lives = 0
  · rw [if_pos c]; exact key (-1) (by rw [tillS, if_pos c])
  · rw [if_neg c, ht5]; exact key _ (by rw [tillS, if_neg c])
theorem m_getCalled (hF : 1000 ≤ F) (h : RWm V w 0) (ok : OkWV b T V) (hb : b + 61000 < 2147483648) (hm : m + 49000 < 2147483000) {k : Int32} (k1 : 0 ≤ k.toInt) (k2 : k.toInt < 1000) :
    Tot (X10_getCalled F k th w 0 went (nI m) t came dp 0) (fun y => y.1 = (getV k V).1 ∧ RWm (getV k V).2 y.2.2.1 0 ∧ MW 0 w y.2.2.1 ∧ ∃ m', y.2.2.2.2.1 = nI m' ∧ m' ≤ m + 49000) := by
  have b64 : b + 64 < 2147483648 := by omega
  have okr := reqV_ok ok k1 k2
  obtain ⟨o1, o2, o3⟩ := fetch_ok (k := k) (d := 0) okr.2.1 b64
  have ov := fetch_val (S := (reqV k V).2.2.1) (d := 0) k1 k2
  rw [X10_getCalled, X10_call]
  simp only [Option.bind_some]
  refine tot_b (RWm.req h (by omega) k) (fun w1 ⟨h1, f1⟩ => ?_)
  refine tot_b (m_gets (F := F) (o := 0) (E := []) (sil := 0) (t := t) h1.1 okr.2.1.1 hF (by simp) (Or.inl ⟨rfl, by simp, QM_0⟩) k 0) (fun y ⟨g0, g1, g2, g4⟩ => ?_)
  obtain ⟨r, y2, y5, y6⟩ := y
  simp only [List.nil_append] at g0 g1 g2 g4 ⊢
  obtain ⟨l1, l2, l3⟩ := RWm.store h1 rfl g1 g2 (fun q hq => fetch_sc hq)
  have g4' : QM (fetchS k 0 (reqV k V).2.2.1).2.2 y5 y6 := by
    rcases g4 with ⟨_, _, g4⟩ | g4
    · exact g4
    · exact absurd g4 (by decide)
  have h01 : r = 0 ∨ r = 1 := by rw [g0, fetchS]; split <;> simp
  have ef : X10_flag F r = some r := by rcases h01 with rfl | rfl <;> rfl
  rw [ef]
  simp only [Option.bind_some]
  refine tot_b (m_doneV (F := F) (o := 0) (V := reqV k V) (T := T) (b := b) hF okr hb (by omega) g1 o1 g4' ov (Nat.le_trans o2 (by decide)) l1 l2 l3 (fetch_sc (by simp [keepQ])) (fetch_sc (by simp [keepQ])) r) (fun z ⟨z0, z1, ⟨m2, z2, z3⟩, z4, _⟩ => ?_)
  obtain ⟨i1, i2, i3, i4, i5, i6, i7⟩ := z
  exact tot_s ⟨z0.trans g0, z1, fun q hq => by rw [z4 q hq, g2 q (by omega), f1 q hq], m2, z2, by omega⟩
end MCalls
