/-! chance: some steps drawn -/
theorem fetch_01 {k d : Int32} {S : SS} : (fetchS k d S).1 = 0 ∨ (fetchS k d S).1 = 1 := by
  rw [fetchS]; split
  · exact Or.inl rfl
  · exact Or.inr rfl
theorem n_par (k : Nat) (h : k < 2147483648) : (nI k - nI k / 2 * 2 = 0 ∧ 1 - (nI k - nI k / 2 * 2) = 1) ∨ (¬ nI k - nI k / 2 * 2 = 0 ∧ 1 - (nI k - nI k / 2 * 2) = 0) := by
  rw [show (2 : Int32) = nI 2 from rfl, n_rem h (by decide) (by decide)]
  rcases Nat.mod_two_eq_zero_or_one k with e | e
  · left; rw [e]; exact ⟨rfl, rfl⟩
  · right; rw [e]; exact ⟨by decide, rfl⟩
theorem dC8 {F n : Nat} (h : n < 2147483648) : X9_drawn F (nI n) 8 = some (nI (n / 64 % 8)) := drawnC (q := 8) h (by decide) (by decide)
theorem dM8 {F n : Nat} (h : n < 2147483648) : X10_draw F 8 (Int64.ofNat n) = some (nI (nxD n / 64 % 8), Int64.ofNat (nxD n)) := drawM (q := 8) h (by decide) (by decide)
theorem dC40 {F n : Nat} (h : n < 2147483648) : X9_drawn F (nI n) 40 = some (nI (n / 64 % 40)) := drawnC (q := 40) h (by decide) (by decide)
theorem dM40 {F n : Nat} (h : n < 2147483648) : X10_draw F 40 (Int64.ofNat n) = some (nI (nxD n / 64 % 40), Int64.ofNat (nxD n)) := drawM (q := 40) h (by decide) (by decide)
theorem dC9 {F n : Nat} (h : n < 2147483648) : X9_drawn F (nI n) 9 = some (nI (n / 64 % 9)) := drawnC (q := 9) h (by decide) (by decide)
theorem dM9 {F n : Nat} (h : n < 2147483648) : X10_draw F 9 (Int64.ofNat n) = some (nI (nxD n / 64 % 9), Int64.ofNat (nxD n)) := drawM (q := 9) h (by decide) (by decide)
section StepM
variable {F n : Nat} {w went t : Nat → Int32} {th wm came dp : Int32}
theorem step_pin (hn : n < 2147483648) {B : Nat} (hB : nxD (nxD n) / 64 % 40 = B) (c1 : (7 : Int32) ≤ nI (nxD n / 64 % 8)) {p r' : Int32} {w' : Nat → Int32} (hp : 1 - (nI B - nI B / 2 * 2) = p) (hy : X10_pins F (nI B) p w 0 = some (r', w')) : X10_step F th w 0 went wm t came dp 0 (Int64.ofNat n) = some (0, th, w', went, wm, t, came, dp, Int64.ofNat (nxD (nxD (nxD n)))) := by
  have e4 : (4 : Int32).toInt = 4 := by decide
  have e7 : (7 : Int32).toInt = 7 := by decide
  have c2 : (4 : Int32) ≤ nI (nxD n / 64 % 8) := by rw [i32_le] at c1 ⊢; omega
  rw [X10_step, dM8 hn, Option.bind_some]
  dsimp only
  rw [dM40 (nxD_lt n), Option.bind_some]
  dsimp only
  rw [dM9 (nxD_lt _), Option.bind_some]
  dsimp only
  rw [if_pos c2, if_pos c1, hB, hp, hy, Option.bind_some]
theorem step_put (hn : n < 2147483648) {B C : Nat} (hB : nxD (nxD n) / 64 % 40 = B) (hC : nxD (nxD (nxD n)) / 64 % 9 = C) (c1 : (4 : Int32) ≤ nI (nxD n / 64 % 8)) (c2 : ¬ (7 : Int32) ≤ nI (nxD n / 64 % 8)) {n1 n2 n5 n7 n8 : Int32} {n3 n4 n6 : Nat → Int32} (hy : X10_putCalled F (nI B) (nI B) (nI C + 1) 0 th w 0 went wm t came dp 0 = some (n1, n2, n3, n4, n5, n6, n7, n8)) : X10_step F th w 0 went wm t came dp 0 (Int64.ofNat n) = some (0, n2, n3, n4, n5, n6, n7, n8, Int64.ofNat (nxD (nxD (nxD n)))) := by
  rw [X10_step, dM8 hn, Option.bind_some]
  dsimp only
  rw [dM40 (nxD_lt n), Option.bind_some]
  dsimp only
  rw [dM9 (nxD_lt _), Option.bind_some]
  dsimp only
  rw [if_pos c1, if_neg c2, hB, hC, hy, Option.bind_some]
theorem step_get (hn : n < 2147483648) {B : Nat} (hB : nxD (nxD n) / 64 % 40 = B) (c1 : ¬ (4 : Int32) ≤ nI (nxD n / 64 % 8)) {n1 n2 n5 n7 n8 : Int32} {n3 n4 n6 : Nat → Int32} (hy : X10_getCalled F (nI B) th w 0 went wm t came dp 0 = some (n1, n2, n3, n4, n5, n6, n7, n8)) (h01 : n1 = 0 ∨ n1 = 1) : X10_step F th w 0 went wm t came dp 0 (Int64.ofNat n) = some (n1, n2, n3, n4, n5, n6, n7, n8, Int64.ofNat (nxD (nxD (nxD n)))) := by
  rw [X10_step, dM8 hn, Option.bind_some]
  dsimp only
  rw [dM40 (nxD_lt n), Option.bind_some]
  dsimp only
  rw [dM9 (nxD_lt _), Option.bind_some]
  dsimp only
  rw [if_neg c1, hB, hy, Option.bind_some]
  dsimp only
  rcases h01 with rfl | rfl
  · rw [if_neg (by decide)]
  · rw [if_pos rfl]
theorem step_L35 {g P i : Nat} {a r : Int32} {x x' : Int64} {th' wm' came' dp' : Int32} {w' went' t' : Nat → Int32} (h : ¬ nI P ≤ nI i) (hs : X10_step F th w 0 went wm t came dp 0 x = some (r, th', w', went', wm', t', came', dp', x')) (h01 : r = 0 ∨ r = 1) : X10_chance_L35 F (g + 1) (nI P) a (nI i) th w 0 went wm t came dp 0 x = X10_chance_L35 F g (nI P) (a + r) (nI (i + 1)) th' w' 0 went' wm' t' came' dp' 0 x' := by
  have hf : X10_flag F r = some r := by rcases h01 with rfl | rfl <;> rfl
  rw [X10_chance_L35, if_neg h, hs, Option.bind_some]
  dsimp only
  rw [hf, Option.bind_some, nI_1]
end StepM
section SChance
variable {F : Nat} {i0 i1 : Option tWi} {ik : Nat → Int32}
theorem pin_wc {V : WV} {x8 : tX8} {x6 : tX6} {x1 x1' : tX1} {xy xz : tX2} {l8 : tL8} {x4 : tX4} {x5 : tX5} {k p : Int32} (hc : RWc V x8 x6 x1 xy xz l8 x4 x5) (e5 : (fastS k p V.2.2.1).2.2.2.2 = V.2.2.1.2.2.2) (g1 : RC (fastS k p V.2.2.1).2 x6 x1' xy xz) : RWc (storeV (fastS k p V.2.2.1).2 V) x8 x6 x1' xy xz l8 x4 x5 := by
  obtain ⟨_, c2, c3, c4, c5⟩ := hc
  exact ⟨g1, c2, c3, c4, by simp only [storeV]; rw [e5]; exact c5⟩
theorem pin_okv {b T : Nat} {V : WV} {k p : Int32} (ok : OkWV b T V) (hz : p = 0 ∨ p = 1) : OkWV b T (storeV (fastS k p V.2.2.1).2 V) := by
  obtain ⟨o1, o2⟩ := fast_ok (k := k) (p := p) hz ok.2.1
  exact ⟨ok.1, o1, ok.2.2.1, ok.2.2.2.1, by simp only [storeV]; rw [o2]; exact ok.2.2.2.2.1, by simp only [storeV]; rw [o2]; exact ok.2.2.2.2.2⟩
theorem chance_loop (hF : 1000 ≤ F) {P K M T : Nat} (hP : P ≤ 60) (hK : K + 10000 < 2147483648) (hM : M < 2147483000) (hT : T ≤ 1000000000) : ∀ (c i n m b f g : Nat) (a : Int32) (V : WV) (x8 : tX8) (x6 : tX6) (x1 : tX1) (xy xz : tX2) (xq : tX7) (l8 : tL8) (x4 : tX4) (x5 : tX5) (th : Int32) (w went t : Nat → Int32) (came dp : Int32), i + c = P → c < f → c < g → n < 2147483648 → RWc V x8 x6 x1 xy xz l8 x4 x5 → RWm V w 0 → OkWV b T V → b + 51264 * (P - i) ≤ K → m + 49000 * (P - i) ≤ M →
    Tot (X9_chance_L25 F f (nI P) a (nI n) (nI i) x8 x6 x1 xy xz xq l8 x4 x5) (fun y => Tot (X10_chance_L35 F g (nI P) a (nI i) th w 0 went (nI m) t came dp 0 (Int64.ofNat n)) (fun z => y.1 = z.1 ∧ MW 0 w z.2.2.1 ∧ (∃ m', z.2.2.2.2.1 = nI m' ∧ m' ≤ M) ∧ ∃ V', RWc V' y.2.1 y.2.2.1 y.2.2.2.1 y.2.2.2.2.1 y.2.2.2.2.2.1 y.2.2.2.2.2.2.2.1 y.2.2.2.2.2.2.2.2.1 y.2.2.2.2.2.2.2.2.2 ∧ RWm V' z.2.2.1 0 ∧ OkWV K T V')) := by
  intro c
  induction c with
  | zero =>
    intro i n m b f g a V x8 x6 x1 xy xz xq l8 x4 x5 th w went t came dp hi hf hg hn hc hm ok hbK hmm
    obtain ⟨f, rfl⟩ : ∃ k, f = k + 1 := ⟨f - 1, by omega⟩
    obtain ⟨g, rfl⟩ : ∃ k, g = k + 1 := ⟨g - 1, by omega⟩
    obtain rfl : i = P := by omega
    obtain ⟨lc, tk, ls, dpp⟩ := x8
    obtain ⟨hap, got, cap, wy, bal, wbt⟩ := x6
    obtain ⟨kK, kV, kW, kC, kL, kT, kP, sz, ld, pl, us, ag, hvv⟩ := x1
    obtain ⟨yk, ys⟩ := xy
    obtain ⟨zk, zs⟩ := xz
    obtain ⟨qa, qb, qc, qd, qe, qs, ql, qp⟩ := xq
    obtain ⟨a0, a1, a2, a3, a4, a5, a6, a7, a8⟩ := l8
    obtain ⟨s0, s1, s2, s3, s4, s5, s6⟩ := x4
    obtain ⟨rk, rs⟩ := x5
    rw [X9_chance_L25, X10_chance_L35, if_pos (Int32.le_refl _), if_pos (Int32.le_refl _)]
    exact tot_s (tot_s ⟨rfl, fun q _ => rfl, ⟨m, rfl, by omega⟩, V, hc, hm, ok.up (by omega) (Nat.le_refl _)⟩)
  | succ c ih =>
    intro i n m b f g a V x8 x6 x1 xy xz xq l8 x4 x5 th w went t came dp hi hf hg hn hc hm ok hbK hmm
    obtain ⟨f, rfl⟩ : ∃ k, f = k + 1 := ⟨f - 1, by omega⟩
    obtain ⟨g, rfl⟩ : ∃ k, g = k + 1 := ⟨g - 1, by omega⟩
    have hb : b + 61000 < 2147483648 := by omega
    have hbn : (b + 51264) + 51264 * (P - (i + 1)) ≤ K := by omega
    have hmb : m + 49000 < 2147483000 := by omega
    have f100 : 100 ≤ F := by omega
    have hn1 := nxD_lt n
    have hn2 := nxD_lt (nxD n)
    have hn3 := nxD_lt (nxD (nxD n))
    have q1 : nxD n / 64 % 8 < 8 := Nat.mod_lt _ (by decide)
    have q2 : nxD (nxD n) / 64 % 40 < 40 := Nat.mod_lt _ (by decide)
    have q3 : nxD (nxD (nxD n)) / 64 % 9 < 9 := Nat.mod_lt _ (by decide)
    have d1 : X9_drawn F (nI (nxD n)) 8 = some (nI (nxD n / 64 % 8)) := dC8 hn1
    have d2 : X9_drawn F (nI (nxD (nxD n))) 40 = some (nI (nxD (nxD n) / 64 % 40)) := dC40 hn2
    have d3 : X9_drawn F (nI (nxD (nxD (nxD n)))) 9 = some (nI (nxD (nxD (nxD n)) / 64 % 9)) := dC9 hn3
    generalize hA : nxD n / 64 % 8 = A at q1 d1
    generalize hB : nxD (nxD n) / 64 % 40 = B at q2 d2
    generalize hC : nxD (nxD (nxD n)) / 64 % 9 = C at q3 d3
    have k1 : 0 ≤ (nI B).toInt := by rw [nI_toInt (by omega)]; omega
    have k2 : (nI B).toInt < 1000 := by rw [nI_toInt (by omega)]; omega
    have ha : ArgC (nI B) (nI B) (nI C + 1) 0 := by
      refine ⟨k1, k2, ?_, ?_, ⟨?_, ?_⟩, by decide, by decide⟩
      · rw [nI_1, nI_toInt (by omega)]; omega
      · rw [nI_1, nI_toInt (by omega)]; omega
      · rw [nI_toInt (by omega)]; omega
      · rw [nI_toInt (by omega)]; omega
    have hput := c_callPut (F := F) (xq := xq) (k := nI B) (v := nI B) (wt := nI C + 1) (lives := 0) (by omega) hc ok hb hT (wr_18 hm) ha
    have mput := m_putCalled (F := F) (went := went) (t := t) (th := th) (came := came) (dp := dp) (k := nI B) (v := nI B) (wt := nI C + 1) (lives := 0) hF hm ok hb hT hmb ha
    have okput := put_ok (k := nI B) (v := nI B) (wt := nI C + 1) (lives := 0) hm ok hb hT ha
    have hget := c_callGet (F := F) (xq := xq) (k := nI B) (by omega) hc ok hb k1 k2
    have mget := m_getCalled (F := F) (went := went) (t := t) (th := th) (came := came) (dp := dp) (k := nI B) hF hm ok hb hmb k1 k2
    have okget := get_ok (k := nI B) hm ok hb k1 k2
    have get01 : (getV (nI B) V).1 = 0 ∨ (getV (nI B) V).1 = 1 := by simp only [getV]; exact fetch_01
    have hp0 := c_fastS (F := F) hc.1 ok.2.1.1 f100 (nI B) (p := 0) (Or.inl rfl)
    have hp1 := c_fastS (F := F) hc.1 ok.2.1.1 f100 (nI B) (p := 1) (Or.inr rfl)
    have mpin := fun p => m_pins (F := F) (o := 0) hm.1 ok.2.1.1 f100 (nI B) p
    have hpar := n_par B (by omega)
    obtain ⟨lc, tk, ls, dpp⟩ := x8
    obtain ⟨hap, got, cap, wy, bal, wbt⟩ := x6
    obtain ⟨kK, kV, kW, kC, kL, kT, kP, sz, ld, pl, us, ag, hvv⟩ := x1
    obtain ⟨yk, ys⟩ := xy
    obtain ⟨zk, zs⟩ := xz
    obtain ⟨qa, qb, qc, qd, qe, qs, ql, qp⟩ := xq
    obtain ⟨a0, a1, a2, a3, a4, a5, a6, a7, a8⟩ := l8
    obtain ⟨s0, s1, s2, s3, s4, s5, s6⟩ := x4
    obtain ⟨rk, rs⟩ := x5
    have hlt : ¬ nI P ≤ nI i := by rw [i32_le, nI_toInt (by omega), nI_toInt (by omega)]; omega
    have pinstep : ∀ (p : Int32) (hz : p = 0 ∨ p = 1) (x1' : tX1) (w' : Nat → Int32), RC (fastS (nI B) p V.2.2.1).2 (hap, got, cap, wy, bal, wbt) x1' (yk, ys) (zk, zs) → RM (fastS (nI B) p V.2.2.1).2 w' 0 → FrO w w' 0 → RWc (storeV (fastS (nI B) p V.2.2.1).2 V) (lc, tk, ls, dpp) (hap, got, cap, wy, bal, wbt) x1' (yk, ys) (zk, zs) (a0, a1, a2, a3, a4, a5, a6, a7, a8) (s0, s1, s2, s3, s4, s5, s6) (rk, rs) ∧ RWm (storeV (fastS (nI B) p V.2.2.1).2 V) w' 0 ∧ OkWV (b + 51264) T (storeV (fastS (nI B) p V.2.2.1).2 V) := by
      intro p hz x1' w' h1 h2 h3
      obtain ⟨o1, o2⟩ := fast_ok (k := nI B) (p := p) hz ok.2.1
      have e5 : (fastS (nI B) p V.2.2.1).2.2.2.2 = V.2.2.1.2.2.2 := o2
      obtain ⟨r1, r2, r3⟩ := RWm.store hm rfl h2 h3 (fun q hq => by rw [e5])
      exact ⟨pin_wc hc e5 h1, ⟨h2, r1, r2, r3⟩, (pin_okv ok hz).up (by omega) (Nat.le_refl _)⟩
    rw [X9_chance_L25, if_neg hlt]
    refine tot_e (drawC hn) (tot_e d1 (tot_e (drawC hn1) (tot_e d2 (tot_e (drawC hn2) (tot_e d3 ?_)))))
    by_cases c1 : (4 : Int32) ≤ nI A
    · rw [if_pos c1]
      by_cases c2 : (7 : Int32) ≤ nI A
      · rw [if_pos c2]
        rcases hpar with ⟨ep, er⟩ | ⟨ep, er⟩
        · rw [if_pos ep]
          refine tot_b hp1 (fun y ⟨g0, g1⟩ => ?_)
          obtain ⟨r, ⟨j7, j8, j9, j10, j11, j12, j13, j14, j15, j16, j17, j18, j19⟩⟩ := y
          obtain ⟨y, hy, h0, h1, h2⟩ := mpin 1
          obtain ⟨r', w'⟩ := y
          rw [step_L35 hlt (step_pin hn hB (by rw [hA]; exact c2) er (show X10_pins F (nI B) 1 w 0 = some (r', w') from hy)) (Or.inl rfl), nI_1, Int32.add_zero]
          obtain ⟨t1, t2, t3⟩ := pinstep 1 (Or.inr rfl) _ w' g1 h1 h2
          refine tot_m (ih (i + 1) _ m _ f g a _ _ _ _ _ _ _ _ _ _ th w' went t came dp (by omega) (by omega) (by omega) hn3 t1 t2 t3 hbn (by omega)) (fun y hy => tot_m hy (fun z ⟨z0, z1, z2, z3⟩ => ⟨z0, fun q hq => by rw [z1 q hq]; exact h2 q (by omega), z2, z3⟩))
        · rw [if_neg ep]
          refine tot_b hp0 (fun y ⟨g0, g1⟩ => ?_)
          obtain ⟨r, ⟨j7, j8, j9, j10, j11, j12, j13, j14, j15, j16, j17, j18, j19⟩⟩ := y
          obtain ⟨y, hy, h0, h1, h2⟩ := mpin 0
          obtain ⟨r', w'⟩ := y
          rw [step_L35 hlt (step_pin hn hB (by rw [hA]; exact c2) er (show X10_pins F (nI B) 0 w 0 = some (r', w') from hy)) (Or.inl rfl), nI_1, Int32.add_zero]
          obtain ⟨t1, t2, t3⟩ := pinstep 0 (Or.inl rfl) _ w' g1 h1 h2
          refine tot_m (ih (i + 1) _ m _ f g a _ _ _ _ _ _ _ _ _ _ th w' went t came dp (by omega) (by omega) (by omega) hn3 t1 t2 t3 hbn (by omega)) (fun y hy => tot_m hy (fun z ⟨z0, z1, z2, z3⟩ => ⟨z0, fun q hq => by rw [z1 q hq]; exact h2 q (by omega), z2, z3⟩))
      · rw [if_neg c2]
        refine tot_b hput (fun y ⟨g0, g1, _⟩ => ?_)
        obtain ⟨r, ⟨m1, m2, m3, m4⟩, ⟨i1', i2, i3, i4, i5, i6⟩, ⟨i7, i8, i9, i10, i11, i12, i13, i14, i15, i16, i17, i18, i19⟩, ⟨i20, i21⟩, ⟨i22, i23⟩, ⟨i24, i25, i26, i27, i28, i29, i30, i31⟩, ⟨l0, l1, l2, l3, l4, l5, l6, l7, l8⟩, ⟨t0, t1, t2, t3, t4, t5, t6⟩, ⟨r1, r2⟩⟩ := y
        obtain ⟨z, hz, z0, z1, z2, m', z3, z4⟩ := mput
        obtain ⟨n1, n2, n3, n4, n5, n6, n7, n8⟩ := z
        simp only at z3
        subst z3
        rw [step_L35 hlt (step_put hn hB hC (by rw [hA]; exact c1) (by rw [hA]; exact c2) hz) (Or.inl rfl), nI_1, Int32.add_zero]
        refine tot_m (ih (i + 1) _ m' _ f g a _ _ _ _ _ _ _ _ _ _ n2 n3 n4 n6 n7 n8 (by omega) (by omega) (by omega) hn3 g1 z1 okput hbn (by omega)) (fun y hy => tot_m hy (fun z ⟨y0, y1, y2, y3⟩ => ⟨y0, fun q hq => by rw [y1 q hq]; exact z2 q hq, y2, y3⟩))
    · rw [if_neg c1]
      refine tot_b hget (fun y ⟨g0, g1⟩ => ?_)
      obtain ⟨r, ⟨m1, m2, m3, m4⟩, ⟨i1', i2, i3, i4, i5, i6⟩, ⟨i7, i8, i9, i10, i11, i12, i13, i14, i15, i16, i17, i18, i19⟩, ⟨i20, i21⟩, ⟨i22, i23⟩, ⟨i24, i25, i26, i27, i28, i29, i30, i31⟩, ⟨l0, l1, l2, l3, l4, l5, l6, l7, l8⟩, ⟨t0, t1, t2, t3, t4, t5, t6⟩, ⟨r1, r2⟩⟩ := y
      obtain ⟨z, hz, z0, z1, z2, m', z3, z4⟩ := mget
      obtain ⟨n1, n2, n3, n4, n5, n6, n7, n8⟩ := z
      simp only at z0 g0 z3
      subst z3
      rw [nI_1]
      have done : ∀ b', b' = (getV (nI B) V).1 → Tot (X9_chance_L25 F f (nI P) (a + r) (nI (nxD (nxD (nxD n)))) (nI (i + 1)) (m1, m2, m3, m4) (i1', i2, i3, i4, i5, i6) (i7, i8, i9, i10, i11, i12, i13, i14, i15, i16, i17, i18, i19) (i20, i21) (i22, i23) (i24, i25, i26, i27, i28, i29, i30, i31) (l0, l1, l2, l3, l4, l5, l6, l7, l8) (t0, t1, t2, t3, t4, t5, t6) (r1, r2)) (fun y => Tot (X10_chance_L35 F g (nI P) (a + b') (nI (i + 1)) n2 n3 0 n4 (nI m') n6 n7 n8 0 (Int64.ofNat (nxD (nxD (nxD n))))) (fun z => y.1 = z.1 ∧ MW 0 w z.2.2.1 ∧ (∃ m', z.2.2.2.2.1 = nI m' ∧ m' ≤ M) ∧ ∃ V', RWc V' y.2.1 y.2.2.1 y.2.2.2.1 y.2.2.2.2.1 y.2.2.2.2.2.1 y.2.2.2.2.2.2.2.1 y.2.2.2.2.2.2.2.2.1 y.2.2.2.2.2.2.2.2.2 ∧ RWm V' z.2.2.1 0 ∧ OkWV K T V')) := by
        intro b' hb'
        rw [hb', ← g0]
        refine tot_m (ih (i + 1) _ m' _ f g _ _ _ _ _ _ _ _ _ _ _ n2 n3 n4 n6 n7 n8 (by omega) (by omega) (by omega) hn3 g1 z1 okget hbn (by omega)) (fun y hy => tot_m hy (fun z ⟨y0, y1, y2, y3⟩ => ⟨y0, fun q hq => by rw [y1 q hq]; exact z2 q hq, y2, y3⟩))
      rw [step_L35 hlt (step_get hn hB (by rw [hA]; exact c1) hz (by rw [z0]; exact get01)) (by rw [z0]; exact get01)]
      exact done n1 z0
theorem S_chance {N : Nat} {x8 : tX8} {x6 : tX6} {x1 : tX1} {xy xz : tX2} {xq : tX7} {l8 : tL8} {x4 : tX4} {x5 : tX5} {w went t : Nat → Int32} {wm th came dp : Int32} {x : Int64} (hF : 1000 ≤ F) (hN : N < 512) (hI : Inv N (x8, x6, x1, xy, xz, l8, x4, x5) i0 i1 w ik wm) (p1 p2 : Int32) :
    Tot (X9_chance F p1 p2 x8 x6 x1 xy xz xq l8 x4 x5) (fun y => Tot (X10_chance F p1 p2 th w 0 went wm t came dp 0 x) (fun z => y.1 = z.1 ∧ Inv (N + 1) (y.2.1, y.2.2.1, y.2.2.2.1, y.2.2.2.2.1, y.2.2.2.2.2.1, y.2.2.2.2.2.2.2.1, y.2.2.2.2.2.2.2.2.1, y.2.2.2.2.2.2.2.2.2) i0 i1 z.2.2.1 ik z.2.2.2.2.1)) := by
  have e0 : (0 : Int32).toInt = 0 := by decide
  have e60 : (60 : Int32).toInt = 60 := by decide
  obtain ⟨⟨V, hc, hm, ok⟩, _, _, ⟨m, rfl, hmm⟩⟩ := id hI
  have loop := fun (P n : Nat) (hP : P ≤ 60) (hn : n < 2147483648) => chance_loop (F := F) hF (P := P) (K := 3100000 * (N + 1)) (M := 3100000 * (N + 1)) (T := 1000 * N) hP (by omega) (by omega) (by omega) P 0 n m (3100000 * N) F F 0 V x8 x6 x1 xy xz xq l8 x4 x5 0 w went t came dp (by omega) (by omega) (by omega) hn hc hm ok (by omega) (by omega)
  obtain ⟨lc, tk, ls, dpp⟩ := x8
  obtain ⟨hap, got, cap, wy, bal, wbt⟩ := x6
  obtain ⟨kK, kV, kW, kC, kL, kT, kP, sz, ld, pl, us, ag, hvv⟩ := x1
  obtain ⟨yk, ys⟩ := xy
  obtain ⟨zk, zs⟩ := xz
  obtain ⟨qa, qb, qc, qd, qe, qs, ql, qp⟩ := xq
  obtain ⟨a0, a1, a2, a3, a4, a5, a6, a7, a8⟩ := l8
  obtain ⟨s0, s1, s2, s3, s4, s5, s6⟩ := x4
  obtain ⟨rk, rs⟩ := x5
  rw [X9_chance, X10_chance]
  by_cases c1 : p1 < 0
  · rw [if_pos c1, if_pos c1]
    exact tot_s (tot_s ⟨rfl, hI.same⟩)
  · rw [if_neg c1, if_neg c1, within_eq, show X10_isIn F p2.toInt64 0 60 = _ from isIn_eq (F := F) p2 0 60]
    rw [Option.bind_some, Option.bind_some]
    cases hk : (decide (0 ≤ p2) && decide (p2 ≤ 60)) with
    | false =>
      rw [if_pos (show bi false = 0 from rfl), if_pos (show bi false = 0 from rfl)]
      exact tot_s (tot_s ⟨rfl, hI.same⟩)
    | true =>
      rw [if_neg (show ¬ bi true = 0 by decide), if_neg (show ¬ bi true = 0 by decide)]
      obtain ⟨r1, r2⟩ := rng_of hk
      obtain ⟨P, hP1, rfl, hP2⟩ := i32_nI (x := p2) (by omega)
      have c1' : 0 ≤ p1.toInt := by rw [i32_lt] at c1; omega
      obtain ⟨n, hn1, rfl, hn2⟩ := i32_nI (x := p1) c1'
      rw [l_64 hn1]
      refine tot_b (loop P n (by omega) hn1) (fun y hy => ?_)
      obtain ⟨r, ⟨m1, m2, m3, m4⟩, ⟨i1', i2, i3, i4, i5, i6⟩, ⟨i7, i8, i9, i10, i11, i12, i13, i14, i15, i16, i17, i18, i19⟩, ⟨i20, i21⟩, ⟨i22, i23⟩, ⟨i24, i25, i26, i27, i28, i29, i30, i31⟩, ⟨l0, l1, l2, l3, l4, l5, l6, l7, l8⟩, ⟨t0, t1, t2, t3, t4, t5, t6⟩, ⟨r1, r2⟩⟩ := y
      refine tot_s ?_
      refine tot_b hy (fun z ⟨z0, z1, ⟨m', z2, z3⟩, V', v1, v2, v3⟩ => ?_)
      obtain ⟨n1, n2, n3, n4, n5, n6, n7, n8, n9⟩ := z
      exact tot_s ⟨z0, hI.go ⟨V', v1, v2, v3.up (Nat.le_refl _) (by omega)⟩ (fun q q1 q2 => z1 q (by omega)) ⟨m', z2, z3⟩⟩
end SChance
