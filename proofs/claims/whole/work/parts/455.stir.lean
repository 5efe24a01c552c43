/-! stir -/
def evF (p : Int32) (e : Ev) : Int32 := if p = 0 then e.1 else if p = 1 then e.2.1 else e.2.2.2.2
def stA (p3 p4 : Int32) (E : List Ev) (sz : Int32) : Int32 :=
  if p3 = -1 then (if p4 = 0 then nI (min 100 E.length) else if p4 = 1 then nI (E.length - 100) else if p4 = 2 then sz else -1)
  else if (decide (0 ≤ p3) && decide (p3 ≤ nI (min 100 E.length) - 1)) = true then (if (decide (0 ≤ p4) && decide (p4 ≤ 2)) = true then evF p4 (E[p3.toNatClampNeg]?.getD (0, 0, 0, 0, 0)) else -1) else -1
theorem in012 {p : Int32} (h : (decide (0 ≤ p) && decide (p ≤ 2)) = true) : p = 0 ∨ p = 1 ∨ p = 2 := by
  have h1 := rng_of h
  have e0 : (0 : Int32).toInt = 0 := by decide
  have e2 : (2 : Int32).toInt = 2 := by decide
  have : p.toInt = 0 ∨ p.toInt = 1 ∨ p.toInt = 2 := by omega
  rcases this with h | h | h
  · left; exact i32_eq.2 (by rw [h]; decide)
  · right; left; exact i32_eq.2 (by rw [h]; decide)
  · right; right; exact i32_eq.2 (by rw [h]; decide)
section Stir
variable {F : Nat}
theorem m_ofStir {E : List Ev} {w t : Nat → Int32} {came sz : Int32} (hq : QM E t came) (hw : w 2544 = sz) (hl : E.length < 100000) (p3 p4 : Int32) : X10_ofStir F p3 p4 w t came = some (stA p3 p4 E sz) := by
  obtain ⟨hc, hv⟩ := hq
  subst hc
  have hle : (if nI E.length ≤ (100 : Int32) then nI E.length else 100) = nI (min 100 E.length) := by
    by_cases c : E.length ≤ 100
    · rw [if_pos (show nI E.length ≤ (100 : Int32) from (nI_leI (b := 100) (by omega) (by omega)).2 c)]; congr 1; omega
    · rw [if_neg (show ¬ nI E.length ≤ (100 : Int32) from fun hx => c ((nI_leI (b := 100) (by omega) (by omega)).1 hx)), Nat.min_eq_left (by omega)]; rfl
  have c2 : Int32.toNatClampNeg 2544 = 2544 := by decide
  rw [X10_ofStir, lesser_eq, Option.bind_some, hle, stA]
  by_cases c1 : p3 = -1
  · rw [if_pos c1, if_pos c1, c2, hw]
    have : nI E.length - nI (min 100 E.length) = nI (E.length - 100) := by rw [nI_sub (by omega) (by omega)]; congr 1; omega
    rw [this]
    by_cases a0 : p4 = 0
    · simp only [a0, if_true]
    · by_cases a1 : p4 = 1
      · subst a1; rfl
      · by_cases a2 : p4 = 2
        · subst a2; rfl
        · simp only [a0, a1, a2, if_false]
  · rw [if_neg c1, if_neg c1, show X10_isIn F p3.toInt64 0 ((nI (min 100 E.length) - 1).toInt64) = _ from isIn_eq (F := F) p3 0 _, Option.bind_some]
    rcases rng_n p3 (n := min 100 E.length) (by omega) with ⟨i, hi, rfl, hr⟩ | ⟨hno, hr⟩
    · rw [hr, if_neg (show ¬ bi true = 0 by decide), if_pos rfl, show X10_isIn F p4.toInt64 0 2 = _ from isIn_eq (F := F) p4 0 2, Option.bind_some]
      have hiE : i < E.length := by omega
      have hi1 : i < 100 := by omega
      cases h4 : (decide (0 ≤ p4) && decide (p4 ≤ 2)) with
      | false => rw [if_pos (show bi false = 0 from rfl), if_neg (by decide)]
      | true =>
        have cl : (nI i).toNatClampNeg = i := by simp (disch := omega) only [nI_add, pn_add, pn_addl, pn_mul, pn_cl, pn_nlt0, false_or, pn_ge, pn_le, Nat.add_zero, Nat.zero_add, ↓reduceIte, Option.bind_some, nI_leI, nI_ltI, nI_eq, pn_ne1, pn_1ne]
        rw [if_neg (show ¬ bi true = 0 by decide), if_pos rfl, cl, List.getElem?_eq_getElem hiE, Option.getD_some]
        have hev := hv i hiE hi1
        have m5 : (5 * nI i : Int32) = nI (5 * i) := by simp (disch := omega) only [nI_add, pn_add, pn_addl, pn_mul, pn_cl, pn_nlt0, false_or, pn_ge, pn_le, Nat.add_zero, Nat.zero_add, ↓reduceIte, Option.bind_some, nI_leI, nI_ltI, nI_eq, pn_ne1, pn_1ne]
        have g : ∀ q, q < 500 → ¬ ((nI q : Int32) < 0 ∨ 500 ≤ (nI q).toNatClampNeg) := fun q hq => by simp (disch := omega) only [nI_add, pn_add, pn_addl, pn_mul, pn_cl, pn_nlt0, false_or, pn_ge, pn_le, Nat.add_zero, Nat.zero_add, ↓reduceIte, Option.bind_some, nI_leI, nI_ltI, nI_eq, pn_ne1, pn_1ne]; simp
        have gc : ∀ q, q < 500 → (nI q).toNatClampNeg = q := fun q hq => by simp (disch := omega) only [nI_add, pn_add, pn_addl, pn_mul, pn_cl, pn_nlt0, false_or, pn_ge, pn_le, Nat.add_zero, Nat.zero_add, ↓reduceIte, Option.bind_some, nI_leI, nI_ltI, nI_eq, pn_ne1, pn_1ne]
        have a4 : (nI (5 * i) + 4 : Int32) = nI (5 * i + 4) := by simp (disch := omega) only [nI_add, pn_add, pn_addl, pn_mul, pn_cl, pn_nlt0, false_or, pn_ge, pn_le, Nat.add_zero, Nat.zero_add, ↓reduceIte, Option.bind_some, nI_leI, nI_ltI, nI_eq, pn_ne1, pn_1ne]
        rcases in012 h4 with rfl | rfl | rfl
        · rw [if_neg (by decide), m5, Int32.add_zero, if_neg (g _ (by omega)), gc _ (by omega), hev]; rfl
        · rw [if_neg (by decide), m5, nI_1, if_neg (g _ (by omega)), gc _ (by omega), hev]; rfl
        · rw [if_pos rfl, m5, a4, if_neg (g _ (by omega)), gc _ (by omega), hev]; rfl
    · rw [hr, if_pos (show bi false = 0 from rfl), if_neg (by decide)]
/-- the answer that the class reads off its queue -/
theorem c_ofStir {E : List Ev} {qa qb qc qd qe : Nat → Int32} {qs ql qp sz : Int32} (hq : QC E (qa, qb, qc, qd, qe, qs, ql, qp)) {p3 p4 : Int32} (h3 : ¬ p3 < -1) (h4 : (decide (0 ≤ p4) && decide (p4 ≤ 2)) = true) {α : Type} (R : α) :
    (if p3 = -1 then (if p4 = 0 then some (qs, R) else (if p4 = 1 then some (ql, R) else some (sz, R))) else (if p3 < qs then (if p4 = 0 then (if p3 < 0 ∨ 100 ≤ p3.toNatClampNeg then none else some (qa p3.toNatClampNeg, R)) else (if p4 = 1 then (if p3 < 0 ∨ 100 ≤ p3.toNatClampNeg then none else some (qb p3.toNatClampNeg, R)) else (if p3 < 0 ∨ 100 ≤ p3.toNatClampNeg then none else some (qe p3.toNatClampNeg, R)))) else some (-1, R))) = some (stA p3 p4 E sz, R) := by
  obtain ⟨h0, h1, h2⟩ := hq
  subst h0; subst h1
  rw [stA]
  by_cases c1 : p3 = -1
  · rw [if_pos c1, if_pos c1]
    rcases in012 h4 with rfl | rfl | rfl <;> rfl
  · rw [if_neg c1, if_neg c1]
    have em : (-1 : Int32).toInt = -1 := by decide
    have e0 : (0 : Int32).toInt = 0 := by decide
    have hp : 0 ≤ p3.toInt := by
      have : p3.toInt ≠ -1 := fun hx => c1 (i32_eq.2 (by rw [hx, em]))
      rw [i32_lt] at h3; omega
    rcases rng_n p3 (n := min 100 E.length) (by omega) with ⟨i, hi, rfl, hr⟩ | ⟨hno, hr⟩
    · have hiE : i < E.length := by omega
      have hi1 : i < 100 := by omega
      have cl : (nI i).toNatClampNeg = i := by simp (disch := omega) only [nI_add, pn_add, pn_addl, pn_mul, pn_cl, pn_nlt0, false_or, pn_ge, pn_le, Nat.add_zero, Nat.zero_add, ↓reduceIte, Option.bind_some, nI_leI, nI_ltI, nI_eq, pn_ne1, pn_1ne]
      have g : ¬ ((nI i : Int32) < 0 ∨ 100 ≤ i) := by simp (disch := omega) only [nI_add, pn_add, pn_addl, pn_mul, pn_cl, pn_nlt0, false_or, pn_ge, pn_le, Nat.add_zero, Nat.zero_add, ↓reduceIte, Option.bind_some, nI_leI, nI_ltI, nI_eq, pn_ne1, pn_1ne]; simp
      rw [hr, if_pos rfl, h4, if_pos rfl, if_pos ((nI_ltI (by omega) (by omega)).2 hi), cl, if_neg g, if_neg g, if_neg g, List.getElem?_eq_getElem hiE, Option.getD_some, h2 i hiE hi1]
      rcases in012 h4 with rfl | rfl | rfl <;> rfl
    · obtain ⟨j, hj, rfl, _⟩ := i32_nI hp
      have : ¬ nI j < nI (min 100 E.length) := fun hx => hno j ((nI_ltI (by omega) (by omega)).1 hx) rfl
      rw [hr, if_neg this, if_neg (by decide)]
theorem c_stirP {b T : Nat} {V : WV} {x8 : tX8} {x6 : tX6} {x1 : tX1} {xy xz : tX2} {xq : tX7} {l8 : tL8} {x4 : tX4} {x5 : tX5} (hF : 200 ≤ F) (h : RWc V x8 x6 x1 xy xz l8 x4 x5) (ok : OkWV b T V) (hb : b + 61000 < 2147483648) {k wt : Int32} (ha : ArgP k 0 wt (-1) (V.2.2.1.2.2.2 5)) :
    Tot (X8_callPut F k 0 wt 0 x8 x6 x1 xy xz xq l8 x4 x5) (fun y => RC (hearS V.1 V.2.1 (bringS k 0 wt (-1) 0 V.2.2.1).2.1 V.2.2.2.1 (bringS k 0 wt (-1) 0 V.2.2.1).2.2).2.1 y.2.2.1 y.2.2.2.1 y.2.2.2.2.1 y.2.2.2.2.2.1 ∧ QC (hearS V.1 V.2.1 (bringS k 0 wt (-1) 0 V.2.2.1).2.1 V.2.2.2.1 (bringS k 0 wt (-1) 0 V.2.2.1).2.2).2.2.2 y.2.2.2.2.2.2.1) := by
  have b60 : b + 60 < 2147483648 := by omega
  have b64 : b + 64 < 2147483648 := by omega
  have b200 : b + 200 < 2147483648 := by omega
  have f100 : 100 ≤ F := by omega
  obtain ⟨hR, hL, hG, hQ, hx8⟩ := h
  obtain ⟨o1, o2, o3⟩ := bring_ok (v := 0) (d := 0) ok.2.1 b64 ha
  have ov := bring_val (d := 0) ok.2.1.1 b64 ha
  have hbring := fun (qa qb qc qd qe : Nat → Int32) => c_bring (F := F) (v := 0) (xq := (qa, qb, qc, qd, qe, 0, 0, 0)) hR ok.2.1.1 f100 b200 QC_0 ha (fun hr hf => by
    have := room_done (b := b) (d := 0) ok.2.1.1 ok.2.1.2.1 b60 ha.2.2.1 ha.2.2.2.1 hr hf
    simp only [stopT, Bool.and_eq_true, decide_eq_true_eq] at this; exact this.1)
  have hreq := c_req (F := F) (kk := x5.1) (sz := x5.2) hQ hF k
  have hsc : ∀ q, keepQ q → (bringS k 0 wt (-1) 0 V.2.2.1).2.1.2.2.2 q = V.2.2.1.2.2.2 q := fun q hq => bring_sc hq
  obtain ⟨lc, tk, ls, dpp⟩ := x8
  obtain ⟨hap, got, cap, wy, bal, wbt⟩ := x6
  obtain ⟨kK, kV, kW, kC, kL, kT, kP, sz, ld, pl, us, ag, hvv⟩ := x1
  obtain ⟨yk, ys⟩ := xy
  obtain ⟨zk, zs⟩ := xz
  obtain ⟨qa, qb, qc, qd, qe, qs, ql, qp⟩ := xq
  obtain ⟨a0, a1, a2, a3, a4, a5, a6, a7, a8⟩ := l8
  obtain ⟨s0, s1, s2, s3, s4, s5, s6⟩ := x4
  obtain ⟨rk, rs⟩ := x5
  rw [X8_callPut]
  refine tot_b hreq (fun ⟨r1, r2⟩ hr => ?_)
  dsimp only
  rw [X7_open, Option.bind_some]
  show Tot (if (0 : Int32) = 0 then _ else _) _
  rw [if_pos rfl]
  refine tot_b (hbring qa qb qc qd qe) (fun y ⟨g0, g1, g2, g3⟩ => ?_)
  obtain ⟨r, ⟨j1, j2, j3, j4, j5, j6⟩, ⟨j7, j8, j9, j10, j11, j12, j13, j14, j15, j16, j17, j18, j19⟩, ⟨j20, j21⟩, ⟨j22, j23⟩, ⟨j24, j25, j26, j27, j28, j29, j30, j31⟩⟩ := y
  simp only [List.nil_append] at g0 g1 g2 g3 ⊢
  refine tot_b (c_hear (F := F) (n := V.1) (b := b + 64) (H := V.2.1) (S := (bringS k 0 wt (-1) 0 V.2.2.1).2.1) (G := V.2.2.2.1) (E := (bringS k 0 wt (-1) 0 V.2.2.1).2.2) hF ok.1 (by omega) g1 o1 ok.2.2.1 g2 ov hL hG (by rw [hx8, hsc 5 (by simp [keepQ]), hsc 13 (by simp [keepQ]), hsc 17 (by simp [keepQ])]) (Nat.le_trans o2 (by decide))) (fun z ⟨z0, z1, z2, z3, z4⟩ => ?_)
  obtain ⟨⟨m1, m2, m3, m4⟩, ⟨i1, i2, i3, i4, i5, i6⟩, ⟨i7, i8, i9, i10, i11, i12, i13, i14, i15, i16, i17, i18, i19⟩, ⟨i20, i21⟩, ⟨i22, i23⟩, ⟨i24, i25, i26, i27, i28, i29, i30, i31⟩, ⟨l0, l1, l2, l3, l4, l5, l6, l7, l8⟩, ⟨t0, t1, t2, t3, t4, t5, t6⟩⟩ := z
  exact tot_s ⟨z1, z2⟩
theorem m_stirP {b T : Nat} {V : WV} {w went t : Nat → Int32} (hF : 1000 ≤ F) (h : RWm V w 2544) (ok : OkWV b T V) (hb : b + 61000 < 2147483648) {k wt : Int32} (ha : ArgP k 0 wt (-1) (V.2.2.1.2.2.2 5)) :
    Tot (X10_puts F k 0 wt (-1) w 2544 went 0 t 0 0 0) (fun y => Tot (X10_done F y.1 y.2.1 2544 y.2.2.1 y.2.2.2.1 y.2.2.2.2.1 y.2.2.2.2.2 0 0) (fun z => RM (hearS V.1 V.2.1 (bringS k 0 wt (-1) 0 V.2.2.1).2.1 V.2.2.2.1 (bringS k 0 wt (-1) 0 V.2.2.1).2.2).2.1 z.2.1 2544 ∧ QM (hearS V.1 V.2.1 (bringS k 0 wt (-1) 0 V.2.2.1).2.1 V.2.2.2.1 (bringS k 0 wt (-1) 0 V.2.2.1).2.2).2.2.2 z.2.2.2.2.1 z.2.2.2.2.2.1 ∧ (∃ m', z.2.2.2.1 = nI m' ∧ m' ≤ 49000) ∧ ∀ q, q < 2544 → z.2.1 q = w q)) := by
  have b200 : b + 200 < 2147483648 := by omega
  have b64 : b + 64 < 2147483648 := by omega
  obtain ⟨o1, o2, o3⟩ := bring_ok (v := 0) (d := 0) ok.2.1 b64 ha
  have ov := bring_val (d := 0) ok.2.1.1 b64 ha
  refine tot_m (m_puts (F := F) (o := 2544) (E := []) (sil := 0) (v := 0) (d := 0) (m := 0) (went := went) h.1 ok.2.1.1 ok.2.1.2.1 hF b200 (by omega) (by simp) (Or.inl ⟨rfl, by simp, QM_0⟩) ha) (fun y ⟨g0, g1, g2, ⟨m', g3, g3'⟩, g4, _⟩ => ?_)
  obtain ⟨r, y2, y3, y4, y5, y6⟩ := y
  simp only [List.nil_append] at g0 g1 g2 g3 g4 ⊢
  subst g3
  obtain ⟨l1, l2, l3⟩ := RWm.store h rfl g1 g2 (fun q hq => bring_sc hq)
  have g4' : QM (bringS k 0 wt (-1) 0 V.2.2.1).2.2 y5 y6 := by
    rcases g4 with ⟨_, _, g4⟩ | g4
    · exact g4
    · exact absurd g4 (by decide)
  refine tot_m (m_done (F := F) (n := V.1) (o := 2544) (b := b + 64) (H := V.2.1) (G := V.2.2.2.1) (m := m') hF ok.1 r (by omega) (by omega) (Nat.le_trans o2 (by decide)) g1 o1 ok.2.2.1 g4' ov l1 l2) (fun z ⟨z0, z1, z2, ⟨m2, z3, z3'⟩, z4, z5, z6⟩ => ⟨z1, z2, ⟨m2, z3, by omega⟩, fun q hq => ?_⟩)
  rw [z6 q (by omega), g2 q (by omega)]
theorem stir_len {b T : Nat} {V : WV} {w : Nat → Int32} {o : Nat} (h : RWm V w o) (ok : OkWV b T V) (hb : b + 61000 < 2147483648) {k wt : Int32} (ha : ArgP k 0 wt (-1) (V.2.2.1.2.2.2 5)) : (hearS V.1 V.2.1 (bringS k 0 wt (-1) 0 V.2.2.1).2.1 V.2.2.2.1 (bringS k 0 wt (-1) 0 V.2.2.1).2.2).2.2.2.length < 100000 := by
  have b64 : b + 64 < 2147483648 := by omega
  obtain ⟨o1, o2, o3⟩ := bring_ok (v := 0) (d := 0) ok.2.1 b64 ha
  have ov := bring_val (d := 0) ok.2.1.1 b64 ha
  have h18 : (bringS k 0 wt (-1) 0 V.2.2.1).2.1.2.2.2 18 = nI V.2.2.2.1.length := by
    rw [bring_sc (by simp [keepQ]), ← h.1.2.2.2 18 (by omega) (by omega)]; exact h.2.2.1.1
  obtain ⟨_, _, _, ⟨X, hX, hXl⟩, _⟩ := hearA_ok ok.1 100 0 (b + 64) V.2.1 (bringS k 0 wt (-1) 0 V.2.2.1).2.1 V.2.2.2.1 (bringS k 0 wt (-1) 0 V.2.2.1).2.2 (by omega) o1 ok.2.2.1 ov h18 h.2.2.1.2.1
  show (hearA V.1 100 0 (V.2.1, (bringS k 0 wt (-1) 0 V.2.2.1).2.1, V.2.2.2.1, (bringS k 0 wt (-1) 0 V.2.2.1).2.2)).2.2.2.length < 100000
  rw [hX, List.length_append]; omega
end Stir
section SStir
variable {F N : Nat} {x8 : tX8} {x6 : tX6} {x1 : tX1} {xy xz : tX2} {l8 : tL8} {x4 : tX4} {x5 : tX5} {i0 i1 : Option tWi} {w ik went t : Nat → Int32} {wm th came dp : Int32} {u8 : tX8} {u6 : tX6} {u1 : tX1} {uy uz : tX2} {uq : tX7} {ul : tL8} {u4 : tX4} {u5 : tX5}
theorem S_stir (hF : 1000 ≤ F) (hN : N < 512) (hI : Inv N (x8, x6, x1, xy, xz, l8, x4, x5) i0 i1 w ik wm) (p1 p2 p3 p4 : Int32) :
    Tot (X9_stir F p1 p2 p3 p4 x8 x6 x1 xy xz l8 x4 x5 u8 u6 u1 uy uz uq ul u4 u5) (fun y => Tot (X10_stir F p1 p2 p3 p4 th w 0 went wm t came dp 0) (fun z => y.1 = z.1 ∧ z.2.1 = 0 ∧ z.2.2.2.1 = 0 ∧ z.2.2.2.2.2.2.2.2.2 = 0 ∧ Inv (N + 1) (x8, x6, x1, xy, xz, l8, x4, x5) i0 i1 z.2.2.1 ik z.2.2.2.2.2.1)) := by
  have f200 : 200 ≤ F := by omega
  have hb : 3100000 * N + 61000 < 2147483648 := by omega
  obtain ⟨⟨V, hc, hm, ok⟩, _, _, ⟨m, rfl, hmm⟩⟩ := id hI
  obtain ⟨w2, hp, hm2, hf2⟩ := m_paper (F := F) (o := 0) (wm := nI m) (sil := 0) hF hm
  have hcp := c_copy (F := F) (d8 := u8) (d6 := u6) (d1 := u1) (dy := uy) (dz := uz) (dl := ul) (d4 := u4) (d5 := u5) f200 hc ok
  obtain ⟨uc, ut, ull, ud⟩ := u8
  obtain ⟨uhap, ugot, ucap, uwy, ubal, uwbt⟩ := u6
  obtain ⟨uK, uV, uW, uC, uL, uT, uP, usz, uld, upl, uus, uag, uhv⟩ := u1
  obtain ⟨uyk, uys⟩ := uy
  obtain ⟨uzk, uzs⟩ := uz
  obtain ⟨ea, eb, ec, ed, ee, es, el, ep⟩ := uq
  obtain ⟨v0, v1, v2, v3, v4, v5, v6, v7, v8⟩ := ul
  obtain ⟨h0, h1, h2, h3, h4, h5, h6⟩ := u4
  obtain ⟨k0, k1⟩ := u5
  obtain ⟨lc, tk, ls, dpp⟩ := x8
  obtain ⟨hap, got, cap, wy, bal, wbt⟩ := x6
  obtain ⟨kK, kV, kW, kC, kL, kT, kP, sz, ld, pl, us, ag, hvv⟩ := x1
  obtain ⟨yk, ys⟩ := xy
  obtain ⟨zk, zs⟩ := xz
  obtain ⟨a0, a1, a2, a3, a4, a5, a6, a7, a8⟩ := l8
  obtain ⟨s0, s1, s2, s3, s4, s5, s6⟩ := x4
  obtain ⟨rk, rs⟩ := x5
  rw [X9_stir, X10_stir, isKeyC, isKeyM, X10_call, Option.bind_some, Option.bind_some]
  cases hk : (decide (0 ≤ p1) && decide (p1 ≤ 999)) with
  | false =>
    rw [if_pos (show bi false = 0 from rfl)]
    refine tot_s ?_
    show Tot ((some (bi false)).bind _) _
    rw [Option.bind_some, if_pos (show bi false = 0 from rfl)]
    exact tot_s ⟨rfl, rfl, rfl, rfl, hI.same⟩
  | true =>
    rw [if_neg (show ¬ bi true = 0 by decide), isWeightC, Option.bind_some]
    cases hw : (decide (1 ≤ p2) && decide (p2 ≤ 99)) with
    | false =>
      rw [if_pos (show bi false = 0 from rfl)]
      refine tot_s ?_
      show Tot ((some (bi true)).bind _) _
      rw [Option.bind_some, if_neg (show ¬ bi true = 0 by decide), show X10_isIn F p2.toInt64 1 99 = _ from isIn_eq (F := F) p2 1 99, Option.bind_some, hw, if_pos (show bi false = 0 from rfl)]
      exact tot_s ⟨rfl, rfl, rfl, rfl, hI.same⟩
    | true =>
      have k12 := key_of hk
      have w12 := rng_of hw
      have e1 : (1 : Int32).toInt = 1 := by decide
      have e99 : (99 : Int32).toInt = 99 := by decide
      have ha : ArgP p1 0 p2 (-1) (V.2.2.1.2.2.2 5) := ⟨k12.1, k12.2, by omega, by omega, Or.inl rfl, by constructor <;> decide⟩
      have hms := m_stirP (F := F) (went := went) (t := t) hF hm2 ok hb ha
      have hlen := stir_len hm2 ok hb ha
      have hcs := fun (y : tX8 × tX6 × tX1 × tX2 × tX2 × tL8 × tX4 × tX5) (hy : RWc V y.1 y.2.1 y.2.2.1 y.2.2.2.1 y.2.2.2.2.1 y.2.2.2.2.2.1 y.2.2.2.2.2.2.1 y.2.2.2.2.2.2.2) => c_stirP (F := F) (xq := (ea, eb, ec, ed, ee, es, el, ep)) f200 hy ok hb ha
      generalize hearS V.1 V.2.1 (bringS p1 0 p2 (-1) 0 V.2.2.1).2.1 V.2.2.2.1 (bringS p1 0 p2 (-1) 0 V.2.2.1).2.2 = HS at hms hlen hcs
      have hMR : Tot ((some (bi true)).bind fun r5 => (if (r5 : Int32) = 0 then (some ((-1 : Int32), (0 : Int32), w, (0 : Int32), went, nI m, t, (0 : Int32), (0 : Int32), (0 : Int32))) else ((X10_isIn F p2.toInt64 1 99).bind fun r7 => (if (r7 : Int32) = 0 then (some ((-1), 0, w, 0, went, nI m, t, 0, 0, 0)) else ((X10_toPaper F w 0 (nI m) 0).bind fun (w9, o10, m11, s12) => ((X10_puts F p1 0 p2 (-1) w9 o10 went m11 t 0 0 0).bind fun (r14, w15, e16, m17, t18, c19) => ((X10_done F r14 w15 o10 e16 m17 t18 c19 0 0).bind fun (r21, w22, e23, m24, t25, c26, d27) => ((X10_comesBack F o10 0).bind fun (o29, s30) => ((X10_ofStir F p3 p4 w22 t25 c26).bind fun r32 => (some (r32, 0, w22, o29, e23, m24, t25, c26, d27, s30)))))))))))
          (fun z => z.1 = stA p3 p4 HS.2.2.2 (nI HS.2.1.1.length) ∧ z.2.1 = 0 ∧ z.2.2.2.1 = 0 ∧ z.2.2.2.2.2.2.2.2.2 = 0 ∧ Inv (N + 1) ((lc, tk, ls, dpp), (hap, got, cap, wy, bal, wbt), (kK, kV, kW, kC, kL, kT, kP, sz, ld, pl, us, ag, hvv), (yk, ys), (zk, zs), (a0, a1, a2, a3, a4, a5, a6, a7, a8), (s0, s1, s2, s3, s4, s5, s6), (rk, rs)) i0 i1 z.2.2.1 ik z.2.2.2.2.2.1) := by
        rw [Option.bind_some, if_neg (show ¬ bi true = 0 by decide), show X10_isIn F p2.toInt64 1 99 = _ from isIn_eq (F := F) p2 1 99, Option.bind_some, hw, if_neg (show ¬ bi true = 0 by decide), hp, Option.bind_some]
        dsimp only
        refine tot_b hms (fun y hy => ?_)
        obtain ⟨y1, y2, y3, y4, y5, y6⟩ := y
        dsimp only at hy ⊢
        refine tot_b hy (fun z ⟨z1, z2, ⟨m', z3, z4⟩, z5⟩ => ?_)
        obtain ⟨n1, n2, n3, n4, n5, n6, n7⟩ := z
        dsimp only at z1 z2 z3 z5 ⊢
        subst z3
        have hsz : n2 2544 = nI HS.2.1.1.length := by
          obtain ⟨⟨M, pM, hEM⟩, _⟩ := z1
          rw [hEM.1, pM.length_eq]
        rw [show X10_comesBack F 2544 0 = some (0, 0) from rfl, Option.bind_some]
        dsimp only
        rw [m_ofStir z2 hsz hlen p3 p4, Option.bind_some]
        exact tot_s ⟨rfl, rfl, rfl, rfl, hI.paper (fun q hq => (z5 q hq).trans (hf2 q hq)) (by omega)⟩
      rw [if_neg (show ¬ bi true = 0 by decide)]
      have bad : ∀ v, stA p3 p4 HS.2.2.2 (nI HS.2.1.1.length) = v → Tot ((some (bi true)).bind fun r5 => (if (r5 : Int32) = 0 then (some ((-1 : Int32), (0 : Int32), w, (0 : Int32), went, nI m, t, (0 : Int32), (0 : Int32), (0 : Int32))) else ((X10_isIn F p2.toInt64 1 99).bind fun r7 => (if (r7 : Int32) = 0 then (some ((-1), 0, w, 0, went, nI m, t, 0, 0, 0)) else ((X10_toPaper F w 0 (nI m) 0).bind fun (w9, o10, m11, s12) => ((X10_puts F p1 0 p2 (-1) w9 o10 went m11 t 0 0 0).bind fun (r14, w15, e16, m17, t18, c19) => ((X10_done F r14 w15 o10 e16 m17 t18 c19 0 0).bind fun (r21, w22, e23, m24, t25, c26, d27) => ((X10_comesBack F o10 0).bind fun (o29, s30) => ((X10_ofStir F p3 p4 w22 t25 c26).bind fun r32 => (some (r32, 0, w22, o29, e23, m24, t25, c26, d27, s30)))))))))))
          (fun z => v = z.1 ∧ z.2.1 = 0 ∧ z.2.2.2.1 = 0 ∧ z.2.2.2.2.2.2.2.2.2 = 0 ∧ Inv (N + 1) ((lc, tk, ls, dpp), (hap, got, cap, wy, bal, wbt), (kK, kV, kW, kC, kL, kT, kP, sz, ld, pl, us, ag, hvv), (yk, ys), (zk, zs), (a0, a1, a2, a3, a4, a5, a6, a7, a8), (s0, s1, s2, s3, s4, s5, s6), (rk, rs)) i0 i1 z.2.2.1 ik z.2.2.2.2.2.1) := fun v hv =>
        tot_m hMR (fun z ⟨z1, z2⟩ => ⟨by rw [z1, hv], z2⟩)
      by_cases c3 : p3 < -1
      · rw [if_pos c3]
        refine tot_s (bad _ ?_)
        have n1 : ¬ p3 = -1 := fun hx => by rw [hx] at c3; exact absurd c3 (by decide)
        have n2 : ¬ (0 : Int32) ≤ p3 := fun hx => by
          have em : (-1 : Int32).toInt = -1 := by decide
          have e0 : (0 : Int32).toInt = 0 := by decide
          rw [i32_le] at hx; rw [i32_lt] at c3; omega
        rw [stA, if_neg n1, decide_eq_false n2, Bool.false_and, if_neg (by decide)]
      · rw [if_neg c3, within_eq, Option.bind_some]
        cases h4' : (decide (0 ≤ p4) && decide (p4 ≤ 2)) with
        | false =>
          rw [if_pos (show bi false = 0 from rfl)]
          refine tot_s (bad _ ?_)
          have q0 : ¬ p4 = 0 := fun hx => by rw [hx] at h4'; exact absurd h4' (by decide)
          have q1 : ¬ p4 = 1 := fun hx => by rw [hx] at h4'; exact absurd h4' (by decide)
          have q2 : ¬ p4 = 2 := fun hx => by rw [hx] at h4'; exact absurd h4' (by decide)
          rw [stA, if_neg q0, if_neg q1, if_neg q2, h4', if_neg (show ¬ false = true by decide)]
          split <;> simp
        | true =>
          rw [if_neg (show ¬ bi true = 0 by decide)]
          refine tot_b hcp (fun y hy => ?_)
          have hcy := hcs y hy
          obtain ⟨⟨b1, b2, b3, b4⟩, ⟨j1, j2, j3, j4, j5, j6⟩, ⟨j7, j8, j9, j10, j11, j12, j13, j14, j15, j16, j17, j18, j19⟩, ⟨j20, j21⟩, ⟨j22, j23⟩, ⟨l0, l1, l2, l3, l4, l5, l6, l7, l8⟩, ⟨t0, t1, t2, t3, t4, t5, t6⟩, ⟨r1, r2⟩⟩ := y
          dsimp only at hcy ⊢
          refine tot_b hcy (fun y ⟨z1, z2⟩ => ?_)
          obtain ⟨r, ⟨m1, m2, m3, m4⟩, ⟨i1', i2, i3, i4, i5, i6⟩, ⟨i7, i8, i9, i10, i11, i12, i13, i14, i15, i16, i17, i18, i19⟩, ⟨i20, i21⟩, ⟨i22, i23⟩, ⟨i24, i25, i26, i27, i28, i29, i30, i31⟩, ⟨l0, l1, l2, l3, l4, l5, l6, l7, l8⟩, ⟨t0, t1, t2, t3, t4, t5, t6⟩, ⟨r1, r2⟩⟩ := y
          have hsz : i14 = nI HS.2.1.1.length := by
            obtain ⟨⟨L, pL, hE⟩, _⟩ := z1
            rw [hE.1, pL.length_eq]
          have := c_ofStir (sz := i14) z2 c3 h4' ((m1, m2, m3, m4), (i1', i2, i3, i4, i5, i6), (i7, i8, i9, i10, i11, i12, i13, i14, i15, i16, i17, i18, i19), (i20, i21), (i22, i23), (i24, i25, i26, i27, i28, i29, i30, i31), (l0, l1, l2, l3, l4, l5, l6, l7, l8), (t0, t1, t2, t3, t4, t5, t6), (r1, r2))
          refine (show Tot _ _ from ?_)
          rw [hsz] at this
          exact ⟨_, by rw [hsz]; exact this, bad _ rfl⟩
end SStir
