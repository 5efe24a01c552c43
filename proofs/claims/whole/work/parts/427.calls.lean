/-! put, get, remove, resize as calls: both sides -/
theorem QC_0 {a b c d e : Nat → Int32} : QC [] (a, b, c, d, e, 0, 0, 0) := ⟨rfl, rfl, fun i h => by simp at h⟩
theorem QM_0 {t : Nat → Int32} : QM [] t 0 := ⟨rfl, fun i h => by simp at h⟩
def tillS (lives : Int32) (S : SS) : Int32 := if lives = 0 then -1 else S.2.2.2 5 + lives
def putV (k v wt lives : Int32) (V : WV) : Int32 × WV := ((bringS k v wt (tillS lives V.2.2.1) 0 (reqV k V).2.2.1).1, doneV (bringS k v wt (tillS lives V.2.2.1) 0 (reqV k V).2.2.1).2.1 (bringS k v wt (tillS lives V.2.2.1) 0 (reqV k V).2.2.1).2.2 (reqV k V))
def getV (k : Int32) (V : WV) : Int32 × WV := ((fetchS k 0 (reqV k V).2.2.1).1, doneV (fetchS k 0 (reqV k V).2.2.1).2.1 (fetchS k 0 (reqV k V).2.2.1).2.2 (reqV k V))
def removeV (k : Int32) (V : WV) : Int32 × WV := ((takeS k 0 V.2.2.1).1, doneV (takeS k 0 V.2.2.1).2.1 (takeS k 0 V.2.2.1).2.2 V)
def resizeV (c : Int32) (V : WV) : Int32 × WV := ((recapS c 0 V.2.2.1).1, doneV (recapS c 0 V.2.2.1).2.1 (recapS c 0 V.2.2.1).2.2 V)
/-- the arguments of put() as a call -/
def ArgC (k v wt lives : Int32) : Prop := 0 ≤ k.toInt ∧ k.toInt < 1000 ∧ 1 ≤ wt.toInt ∧ wt.toInt ≤ 99 ∧ VOk v ∧ 0 ≤ lives.toInt ∧ lives.toInt ≤ 999
theorem ArgC.P {k v wt lives : Int32} {S : SS} (h : ArgC k v wt lives) (h0 : 0 ≤ (S.2.2.2 5).toInt) (h1 : (S.2.2.2 5).toInt ≤ 1000000000) : ArgP k v wt (tillS lives S) (S.2.2.2 5) := by
  refine ⟨h.1, h.2.1, h.2.2.1, h.2.2.2.1, ?_, h.2.2.2.2.1⟩
  rw [tillS]
  by_cases c : lives = 0
  · rw [if_pos c]; exact Or.inl rfl
  · rw [if_neg c]; right
    have hl := h.2.2.2.2.2
    have : lives.toInt ≠ 0 := fun e => c (i32_eq.2 (by rw [e]; decide))
    rw [i32_add (by omega) (by omega)]; omega
theorem RC_req {S : SS} {x6 : tX6} {x1 : tX1} {xy xz : tX2} (h : RC S x6 x1 xy xz) (v : Int32) : RC (setN 14 v S) x6 x1 xy xz := RC_set h (by simp [keepQ])
theorem reqV_ok {b T : Nat} {V : WV} {k : Int32} (h : OkWV b T V) (k1 : 0 ≤ k.toInt) (k2 : k.toInt < 1000) : OkWV b T (reqV k V) := by
  obtain ⟨h1, h2, h3, h4, h5, h6⟩ := h
  have e5 : (reqV k V).2.2.1.2.2.2 5 = V.2.2.1.2.2.2 5 := by simp only [reqV, setN]; rw [upd_n (by decide)]
  refine ⟨h1, h2.set (by simp), h3, fun x hx => ?_, by rw [e5]; exact h5, by rw [e5]; exact h6⟩
  simp only [reqV, addR] at hx
  rcases List.mem_append.1 hx with hx | hx
  · split at hx
    · exact h4 x hx
    · exact h4 x (List.mem_of_mem_drop hx)
  · rw [List.mem_singleton] at hx; subst hx; exact ⟨k1, k2⟩
theorem doneV_ok {b T : Nat} {V : WV} {S : SS} {E : List Ev} (h : OkWV b T V) (hb : b + 61000 < 2147483648) (hS : Ok2 (b + 64) S) (hE : EvAll E) (h18 : S.2.2.2 18 = nI V.2.2.2.1.length) (hG : V.2.2.2.1.length ≤ 40) (h5 : S.2.2.2 5 = V.2.2.1.2.2.2 5) : OkWV (b + 51264) T (doneV S E V) := by
  obtain ⟨g1, g2, g3, _, _⟩ := hearS_ok (b := b + 64) (E := E) h.1 (by omega) hS h.2.2.1 hE h18 hG
  refine ⟨h.1, Ok2.up g1 (by omega), g2, h.2.2.2.1, ?_, ?_⟩
  · show 0 ≤ ((hearS V.1 V.2.1 S V.2.2.2.1 E).2.1.2.2.2 5).toInt
    rw [g3, h5]; exact h.2.2.2.2.1
  · show ((hearS V.1 V.2.1 S V.2.2.2.1 E).2.1.2.2.2 5).toInt ≤ T
    rw [g3, h5]; exact h.2.2.2.2.2
section CCalls
variable {F b T : Nat} {V : WV} {x8 : tX8} {x6 : tX6} {x1 : tX1} {xy xz : tX2} {xq : tX7} {l8 : tL8} {x4 : tX4} {x5 : tX5}
theorem GLc.le {G : List Lg} {x : tX4} (h : GLc G x) : G.length ≤ 40 := by
  obtain ⟨a, b, c, d, e, sz, nx⟩ := x
  obtain ⟨_, _, _, _, h, _⟩ := h; exact h
/-- hearing, for the world -/
theorem c_done {S : SS} {E : List Ev} (hF : 200 ≤ F) (ok : OkWV b T V) (hb : b + 61000 < 2147483648) (hR : RC S x6 x1 xy xz) (hS : Ok2 (b + 64) S) (hq : QC E xq) (hE : EvAll E) (hEl : E.length ≤ 1000) (hL : LC V.1 V.2.1 l8) (hG : GLc V.2.2.2.1 x4) (h5 : S.2.2.2 5 = V.2.2.1.2.2.2 5) (h13 : S.2.2.2 13 = V.2.2.1.2.2.2 13) (h17 : S.2.2.2 17 = V.2.2.1.2.2.2 17) (hx8 : x8 = (nI V.1, V.2.2.1.2.2.2 5, V.2.2.1.2.2.2 13, V.2.2.1.2.2.2 17)) (hx5 : RQc V.2.2.2.2 x5) :
    Tot (X8_hear F x8 x6 x1 xy xz xq l8 x4) (fun y => RWc (doneV S E V) y.1 y.2.1 y.2.2.1 y.2.2.2.1 y.2.2.2.2.1 y.2.2.2.2.2.2.1 y.2.2.2.2.2.2.2 x5 ∧ QC (hearS V.1 V.2.1 S V.2.2.2.1 E).2.2.2 y.2.2.2.2.2.1) := by
  refine tot_m (c_hear (F := F) (n := V.1) (b := b + 64) (H := V.2.1) (S := S) (G := V.2.2.2.1) hF ok.1 (by omega) hR hS ok.2.2.1 hq hE hL hG (by rw [hx8, h5, h13, h17]) (by omega)) (fun y ⟨z0, z1, z2, z3, z4⟩ => ⟨⟨z1, z3, z4, hx5, z0⟩, z2⟩)
theorem c_callPut (hF : 200 ≤ F) (h : RWc V x8 x6 x1 xy xz l8 x4 x5) (ok : OkWV b T V) (hb : b + 61000 < 2147483648) (hT : T ≤ 1000000000) (h18 : V.2.2.1.2.2.2 18 = nI V.2.2.2.1.length) {k v wt lives : Int32} (ha : ArgC k v wt lives) :
    Tot (X8_callPut F k v wt lives x8 x6 x1 xy xz xq l8 x4 x5) (fun y => y.1 = (putV k v wt lives V).1 ∧ RWc (putV k v wt lives V).2 y.2.1 y.2.2.1 y.2.2.2.1 y.2.2.2.2.1 y.2.2.2.2.2.1 y.2.2.2.2.2.2.2.1 y.2.2.2.2.2.2.2.2.1 y.2.2.2.2.2.2.2.2.2 ∧ QC (hearS V.1 V.2.1 (bringS k v wt (tillS lives V.2.2.1) 0 (reqV k V).2.2.1).2.1 V.2.2.2.1 (bringS k v wt (tillS lives V.2.2.1) 0 (reqV k V).2.2.1).2.2).2.2.2 y.2.2.2.2.2.2.1) := by
  have b60 : b + 60 < 2147483648 := by omega
  have b64 : b + 64 < 2147483648 := by omega
  have b200 : b + 200 < 2147483648 := by omega
  have f100 : 100 ≤ F := by omega
  obtain ⟨hR, hL, hG, hQ, hx8⟩ := h
  have okr := reqV_ok ok ha.1 ha.2.1
  have e5 : (reqV k V).2.2.1.2.2.2 5 = V.2.2.1.2.2.2 5 := by simp only [reqV, setN]; rw [upd_n (by decide)]
  have harg : ArgP k v wt (tillS lives V.2.2.1) ((reqV k V).2.2.1.2.2.2 5) := by rw [e5]; exact ha.P ok.2.2.2.2.1 (by have := ok.2.2.2.2.2; omega)
  obtain ⟨o1, o2, o3⟩ := bring_ok (v := v) (d := 0) okr.2.1 b64 harg
  have ov := bring_val (d := 0) okr.2.1.1 b64 harg
  have hbring := fun (qa qb qc qd qe : Nat → Int32) => c_bring (F := F) (v := v) (xq := (qa, qb, qc, qd, qe, 0, 0, 0)) (RC_req hR (nI (addR k V.2.2.2.2).length)) okr.2.1.1 f100 b200 QC_0 harg (fun hr hf => by
    have := room_done (b := b) (d := 0) okr.2.1.1 okr.2.1.2.1 b60 ha.2.2.1 ha.2.2.2.1 hr hf
    simp only [stopT, Bool.and_eq_true, decide_eq_true_eq] at this; exact this.1)
  have hreq := c_req (F := F) (kk := x5.1) (sz := x5.2) hQ hF k
  obtain ⟨lc, tk, ls, dpp⟩ := x8
  obtain ⟨hap, got, cap, wy, bal, wbt⟩ := x6
  obtain ⟨kK, kV, kW, kC, kL, kT, kP, sz, ld, pl, us, ag, hvv⟩ := x1
  obtain ⟨yk, ys⟩ := xy
  obtain ⟨zk, zs⟩ := xz
  obtain ⟨qa, qb, qc, qd, qe, qs, ql, qp⟩ := xq
  obtain ⟨a0, a1, a2, a3, a4, a5, a6, a7, a8⟩ := l8
  obtain ⟨s0, s1, s2, s3, s4, s5, s6⟩ := x4
  obtain ⟨rk, rs⟩ := x5
  have hxe := hx8
  simp only [Prod.mk.injEq] at hx8
  obtain ⟨hx1, hx2, hx3, hx4⟩ := hx8
  have hsc : ∀ q, keepQ q → q ≠ 14 → (bringS k v wt (tillS lives V.2.2.1) 0 (reqV k V).2.2.1).2.1.2.2.2 q = V.2.2.1.2.2.2 q := fun q hq h14 => by
    rw [bring_sc hq]; simp only [reqV, setN]; rw [upd_n h14]
  have u5 : (bringS k v wt (tillS lives V.2.2.1) 0 (reqV k V).2.2.1).2.1.2.2.2 5 = (reqV k V).2.2.1.2.2.2 5 := by rw [hsc 5 (by simp [keepQ]) (by decide), e5]
  have u13 : (bringS k v wt (tillS lives V.2.2.1) 0 (reqV k V).2.2.1).2.1.2.2.2 13 = (reqV k V).2.2.1.2.2.2 13 := by rw [hsc 13 (by simp [keepQ]) (by decide)]; simp only [reqV, setN]; rw [upd_n (by decide)]
  have u17 : (bringS k v wt (tillS lives V.2.2.1) 0 (reqV k V).2.2.1).2.1.2.2.2 17 = (reqV k V).2.2.1.2.2.2 17 := by rw [hsc 17 (by simp [keepQ]) (by decide)]; simp only [reqV, setN]; rw [upd_n (by decide)]
  have hxr : (lc, tk, ls, dpp) = (nI (reqV k V).1, (reqV k V).2.2.1.2.2.2 5, (reqV k V).2.2.1.2.2.2 13, (reqV k V).2.2.1.2.2.2 17) := by rw [hxe]; simp only [reqV, setN]; rw [upd_n (by decide), upd_n (by decide), upd_n (by decide)]
  rw [X8_callPut]
  refine tot_b hreq (fun ⟨r1, r2⟩ hr => ?_)
  rw [X7_open]
  simp only [Option.bind_some]
  have key : ∀ till, till = tillS lives V.2.2.1 → Tot ((X6_bring F k v wt till (hap, got, cap, wy, bal, wbt) (kK, kV, kW, kC, kL, kT, kP, sz, ld, pl, us, ag, hvv) (yk, ys) (zk, zs) (qa, qb, qc, qd, qe, 0, 0, 0)).bind fun (r93, (b1, b2, b3, b4, b5, b6), (b7, b8, b9, b10, b11, b12, b13, b14, b15, b16, b17, b18, b19), (b20, b21), (b22, b23), (b24, b25, b26, b27, b28, b29, b30, b31)) => ((X8_hear F (lc, tk, ls, dpp) (b1, b2, b3, b4, b5, b6) (b7, b8, b9, b10, b11, b12, b13, b14, b15, b16, b17, b18, b19) (b20, b21) (b22, b23) (b24, b25, b26, b27, b28, b29, b30, b31) (a0, a1, a2, a3, a4, a5, a6, a7, a8) (s0, s1, s2, s3, s4, s5, s6)).bind fun ((c1, c2, c3, c4), (c5, c6, c7, c8, c9, c10), (c11, c12, c13, c14, c15, c16, c17, c18, c19, c20, c21, c22, c23), (c24, c25), (c26, c27), (c28, c29, c30, c31, c32, c33, c34, c35), (c36, c37, c38, c39, c40, c41, c42, c43, c44), (c45, c46, c47, c48, c49, c50, c51)) => (some (r93, (c1, c2, c3, c4), (c5, c6, c7, c8, c9, c10), (c11, c12, c13, c14, c15, c16, c17, c18, c19, c20, c21, c22, c23), (c24, c25), (c26, c27), (c28, c29, c30, c31, c32, c33, c34, c35), (c36, c37, c38, c39, c40, c41, c42, c43, c44), (c45, c46, c47, c48, c49, c50, c51), (r1, r2)))))
      (fun y => y.1 = (putV k v wt lives V).1 ∧ RWc (putV k v wt lives V).2 y.2.1 y.2.2.1 y.2.2.2.1 y.2.2.2.2.1 y.2.2.2.2.2.1 y.2.2.2.2.2.2.2.1 y.2.2.2.2.2.2.2.2.1 y.2.2.2.2.2.2.2.2.2 ∧ QC (hearS V.1 V.2.1 (bringS k v wt (tillS lives V.2.2.1) 0 (reqV k V).2.2.1).2.1 V.2.2.2.1 (bringS k v wt (tillS lives V.2.2.1) 0 (reqV k V).2.2.1).2.2).2.2.2 y.2.2.2.2.2.2.1) := by
    intro till ht
    subst ht
    refine tot_b (hbring qa qb qc qd qe) (fun y ⟨g0, g1, g2, g3⟩ => ?_)
    obtain ⟨r, ⟨j1, j2, j3, j4, j5, j6⟩, ⟨j7, j8, j9, j10, j11, j12, j13, j14, j15, j16, j17, j18, j19⟩, ⟨j20, j21⟩, ⟨j22, j23⟩, ⟨j24, j25, j26, j27, j28, j29, j30, j31⟩⟩ := y
    simp only [List.nil_append] at g0 g1 g2 g3 ⊢
    refine tot_b (c_done (V := reqV k V) (T := T) (S := (bringS k v wt (tillS lives V.2.2.1) 0 (reqV k V).2.2.1).2.1) (E := (bringS k v wt (tillS lives V.2.2.1) 0 (reqV k V).2.2.1).2.2) hF okr hb g1 o1 g2 ov (Nat.le_trans o2 (by decide)) hL hG u5 u13 u17 hxr hr) (fun z ⟨z1, z2⟩ => ?_)
    obtain ⟨⟨m1, m2, m3, m4⟩, ⟨i1, i2, i3, i4, i5, i6⟩, ⟨i7, i8, i9, i10, i11, i12, i13, i14, i15, i16, i17, i18, i19⟩, ⟨i20, i21⟩, ⟨i22, i23⟩, ⟨i24, i25, i26, i27, i28, i29, i30, i31⟩, ⟨l0, l1, l2, l3, l4, l5, l6, l7, l8⟩, ⟨t0, t1, t2, t3, t4, t5, t6⟩⟩ := z
    exact tot_s ⟨g0, z1, z2⟩
  by_cases c : lives = 0
  · rw [if_pos c]; exact key _ (by rw [tillS, if_pos c])
  · rw [if_neg c]; exact key (tk + lives) (by rw [tillS, if_neg c, hx2])
end CCalls
