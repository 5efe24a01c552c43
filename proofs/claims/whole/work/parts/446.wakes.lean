/-! who wakes whom -/
def hitK (sh d r : Int32) (k : Nat) : Prop := fmod (nI k + sh) 1000 - fmod (nI k + sh) 1000 / d * d = r
def Meet (m r : Nat) (sh d s : Int32) (i : Nat) (v : Int32) : Prop := (v = 1 ∧ ∃ k, i ≤ k ∧ k < 1000 ∧ k % m = r ∧ hitK sh d s k) ∨ (v = 0 ∧ ∀ k, i ≤ k → k < 1000 → k % m = r → ¬ hitK sh d s k)
theorem Meet.eq {m r : Nat} {sh d s v u : Int32} {i j : Nat} (h1 : Meet m r sh d s i v) (h2 : Meet m r sh d s j u) (hij : ∀ k, k < 1000 → k % m = r → (i ≤ k ↔ j ≤ k)) : v = u := by
  rcases h1 with ⟨rfl, k, k1, k2, k3, k4⟩ | ⟨rfl, h1⟩ <;> rcases h2 with ⟨rfl, l, l1, l2, l3, l4⟩ | ⟨rfl, h2⟩
  · rfl
  · exact absurd k4 (h2 k ((hij k k2 k3).1 k1) k2 k3)
  · exact absurd l4 (h1 l ((hij l l2 l3).2 l1) l2 l3)
  · rfl
section Wakes
variable {F : Nat}
theorem c_meet {m r : Nat} (hm1 : 1 ≤ m) (hm9 : m ≤ 9) (hr : r < m) {sh d s : Int32} (hd : 0 < d) : ∀ (c i f : Nat), i + c = 1000 → c < f → Tot (X3_rouses_L56 F f (nI i) (nI m) (nI r) sh d s) (fun v => Meet m r sh d s i v) := by
  have hd0 : ¬ d ≤ 0 := by rw [Int32.not_le]; exact hd
  have hd1 : ¬ d = 0 := fun e => by rw [e] at hd; exact absurd hd (by decide)
  have hm0 : ¬ nI m ≤ 0 := by rw [i32_le, nI_toInt (by omega)]; have e : (0 : Int32).toInt = 0 := by decide
                              omega
  have hm2 : ¬ nI m = 0 := fun e => by have := congrArg Int32.toInt e; rw [nI_toInt (by omega)] at this; have e : (0 : Int32).toInt = 0 := by decide
                                       omega
  intro c
  induction c with
  | zero =>
    intro i f hi hf
    obtain ⟨f, rfl⟩ : ∃ k, f = k + 1 := ⟨f - 1, by omega⟩
    obtain rfl : i = 1000 := by omega
    rw [X3_rouses_L56, if_pos (by decide)]
    exact tot_s (Or.inr ⟨rfl, fun k h1 h2 => by omega⟩)
  | succ c ih =>
    intro i f hi hf
    obtain ⟨f, rfl⟩ : ∃ k, f = k + 1 := ⟨f - 1, by omega⟩
    have hlt : ¬ (1000 : Int32) ≤ nI i := by rw [i32_le, nI_toInt (by omega)]; have e : (1000 : Int32).toInt = 1000 := by decide
                                             omega
    have next : (i % m = r → ¬ hitK sh d s i) → Tot (X3_rouses_L56 F f (nI (i + 1)) (nI m) (nI r) sh d s) (fun v => Meet m r sh d s i v) := fun hno =>
      tot_m (ih (i + 1) f (by omega) (by omega)) (fun v hv => by
        rcases hv with ⟨rfl, k, k1, k2, k3, k4⟩ | ⟨rfl, h1⟩
        · exact Or.inl ⟨rfl, k, by omega, k2, k3, k4⟩
        · refine Or.inr ⟨rfl, fun k k1 k2 k3 => ?_⟩
          by_cases ck : k = i
          · subst ck; exact hno k3
          · exact h1 k (by omega) k2 k3)
    rw [X3_rouses_L56, if_neg hlt, X3_hearsKey, if_neg hm0, if_neg hm2, n_rem (by omega) (by omega) (by omega)]
    by_cases cr : i % m = r
    · rw [if_pos (by rw [cr]), Option.bind_some, if_neg (by decide), X3_keyFor, Option.bind_some, X3_hearsKey, if_neg hd0, if_neg hd1]
      by_cases ch : hitK sh d s i
      · rw [if_pos (show fmod (nI i + sh) 1000 - fmod (nI i + sh) 1000 / d * d = s from ch), Option.bind_some, if_neg (by decide)]
        exact tot_s (Or.inl ⟨rfl, i, Nat.le_refl _, by omega, cr, ch⟩)
      · rw [if_neg (show ¬ fmod (nI i + sh) 1000 - fmod (nI i + sh) 1000 / d * d = s from ch), Option.bind_some, if_pos rfl, nI_1]
        exact next (fun _ => ch)
    · have hne : ¬ nI (i % m) = nI r := fun e => by
        have := congrArg Int32.toInt e
        have h9 : i % m < m := Nat.mod_lt _ (by omega)
        rw [nI_toInt (by omega), nI_toInt (by omega)] at this; omega
      rw [if_neg hne, Option.bind_some, if_pos rfl, nI_1]
      exact next (fun h => absurd h cr)
theorem m_meet {m r A B : Nat} (hm1 : 1 ≤ m) (hm9 : m ≤ 9) (hA : A + 9 ≤ 3000) (hB : B + 9 ≤ 3000) {sh d s : Int32} (hd : 0 < d) (s1 : -999 ≤ sh.toInt) (s2 : sh.toInt ≤ 999) {w : Nat → Int32} (w4 : w (A + 4) = sh) (w1 : w (A + 1) = nI m) (wd : w (B + 1) = d) (ws : w (B + 2) = s) : ∀ (f x : Nat), x % m = r → x ≤ 1008 → 1000 - x < f → Tot (X10_meets_L23 F f (nI A) (nI B) (nI x) w) (fun v => Meet m r sh d s x v) := by
  have hd1 : ¬ d = 0 := fun e => by rw [e] at hd; exact absurd hd (by decide)
  have i4 : (nI A + 4 : Int32) = nI (A + 4) := by simp (disch := omega) only [nI_add, pn_add, pn_addl, pn_mul, pn_cl, pn_nlt0, false_or, pn_ge, pn_le, Nat.add_zero, Nat.zero_add, ↓reduceIte, Option.bind_some, nI_leI, nI_ltI, nI_eq, pn_ne1, pn_1ne]
  have i1 : (nI A + 1 : Int32) = nI (A + 1) := nI_1 _
  have j1 : (nI B + 1 : Int32) = nI (B + 1) := nI_1 _
  have j2 : (nI B + 2 : Int32) = nI (B + 2) := by simp (disch := omega) only [nI_add, pn_add, pn_addl, pn_mul, pn_cl, pn_nlt0, false_or, pn_ge, pn_le, Nat.add_zero, Nat.zero_add, ↓reduceIte, Option.bind_some, nI_leI, nI_ltI, nI_eq, pn_ne1, pn_1ne]
  have ok : ∀ q, q < 3392 → ¬ ((nI q : Int32) < 0 ∨ 3392 ≤ (nI q : Int32).toNatClampNeg) := fun q hq => by simp (disch := omega) only [nI_add, pn_add, pn_addl, pn_mul, pn_cl, pn_nlt0, false_or, pn_ge, pn_le, Nat.add_zero, Nat.zero_add, ↓reduceIte, Option.bind_some, nI_leI, nI_ltI, nI_eq, pn_ne1, pn_1ne]; simp
  have cl : ∀ q, q < 3392 → (nI q : Int32).toNatClampNeg = q := fun q hq => by simp (disch := omega) only [nI_add, pn_add, pn_addl, pn_mul, pn_cl, pn_nlt0, false_or, pn_ge, pn_le, Nat.add_zero, Nat.zero_add, ↓reduceIte, Option.bind_some, nI_leI, nI_ltI, nI_eq, pn_ne1, pn_1ne]
  have ok2 : ∀ q, q < 3392 → ¬ ((nI q : Int32) < 0 ∨ 3392 ≤ q) := fun q hq => by simp (disch := omega) only [nI_add, pn_add, pn_addl, pn_mul, pn_cl, pn_nlt0, false_or, pn_ge, pn_le, Nat.add_zero, Nat.zero_add, ↓reduceIte, Option.bind_some, nI_leI, nI_ltI, nI_eq, pn_ne1, pn_1ne]; simp
  intro f
  induction f with
  | zero => intro x _ _ h; omega
  | succ f ih =>
    intro x hx hx2 hf
    rw [X10_meets_L23]
    by_cases c1 : 1000 ≤ x
    · rw [if_pos (by rw [i32_le, nI_toInt (by omega)]; have e : (1000 : Int32).toInt = 1000 := by decide
                     omega)]
      exact tot_s (Or.inr ⟨rfl, fun k h1 h2 => by omega⟩)
    · have hlt : ¬ (1000 : Int32) ≤ nI x := by rw [i32_le, nI_toInt (by omega)]; have e : (1000 : Int32).toInt = 1000 := by decide
                                               omega
      rw [if_neg hlt, i4, i1, j1, j2, if_neg (ok _ (by omega)), if_neg (ok _ (by omega)), cl _ (by omega), cl _ (by omega), cl _ (by omega), cl _ (by omega), w4, w1, wd, ws, if_neg hd1, if_neg (ok2 (B + 2) (by omega)), if_neg (ok2 (A + 1) (by omega))]
      obtain ⟨r1, r2⟩ := key_rng (key := nI x) (sh := sh) (by rw [nI_toInt (by omega)]; omega) (by rw [nI_toInt (by omega)]; omega) s1 s2
      obtain ⟨f1, _, _⟩ := keyF r1 r2
      rw [← f1]
      by_cases ch : hitK sh d s x
      · rw [if_pos (show fmod (nI x + sh) 1000 - fmod (nI x + sh) 1000 / d * d = s from ch)]
        exact tot_s (Or.inl ⟨rfl, x, Nat.le_refl _, by omega, hx, ch⟩)
      · rw [if_neg (show ¬ fmod (nI x + sh) 1000 - fmod (nI x + sh) 1000 / d * d = s from ch), nI_add]
        have hgap : ∀ k, x < k → k % m = r → x + m ≤ k := fun k hk hkr => by
          have e1 := Nat.div_add_mod k m
          have e2 := Nat.div_add_mod x m
          rw [hkr] at e1
          rw [hx] at e2
          have : x / m < k / m := by
            rcases Nat.lt_or_ge (x / m) (k / m) with h | h
            · exact h
            · have := Nat.mul_le_mul_left m h; omega
          have h3 := Nat.mul_le_mul_left m (show x / m + 1 ≤ k / m from this)
          rw [Nat.mul_add, Nat.mul_one] at h3
          omega
        refine tot_m (ih (x + m) (by rw [Nat.add_mod_right]; exact hx) (by omega) (by omega)) (fun v hv => ?_)
        rcases hv with ⟨rfl, k, k1, k2, k3, k4⟩ | ⟨rfl, h1⟩
        · exact Or.inl ⟨rfl, k, by omega, k2, k3, k4⟩
        · refine Or.inr ⟨rfl, fun k k1 k2 k3 => ?_⟩
          by_cases ck : k = x
          · subst ck; exact ch
          · exact h1 k (hgap k (by omega) k3) k2 k3
def kB (g k : Int32) : Bool := decide (g = -1) || decide (g = k)
theorem c_hk (k g : Int32) : X3_hearsKind F k g = some (bi (kB g k)) := by
  rw [X3_hearsKind, kB]
  by_cases c1 : g = -1
  · simp [c1, bi]
  · by_cases c2 : g = k <;> simp [c1, c2, bi]
theorem m_hk {w : Nat → Int32} {j : Nat} (hj : j < 8) {g : Int32} (h : w (476 + 9 * j) = g) (k : Int32) : X10_hearsKind F (nI j) k w 0 = some (bi (kB g k)) := by
  have e : ((0 + 476 : Int32) + 9 * nI j) + 0 = nI (476 + 9 * j) := by
    rw [show (0 + 476 : Int32) = nI 476 from rfl, Int32.add_zero]; simp (disch := omega) only [nI_add, pn_add, pn_addl, pn_mul, pn_cl, pn_nlt0, false_or, pn_ge, pn_le, Nat.add_zero, Nat.zero_add, ↓reduceIte, Option.bind_some, nI_leI, nI_ltI, nI_eq, pn_ne1, pn_1ne]
  have ok : ¬ ((nI (476 + 9 * j) : Int32) < 0 ∨ 3392 ≤ (nI (476 + 9 * j) : Int32).toNatClampNeg) := by simp (disch := omega) only [nI_add, pn_add, pn_addl, pn_mul, pn_cl, pn_nlt0, false_or, pn_ge, pn_le, Nat.add_zero, Nat.zero_add, ↓reduceIte, Option.bind_some, nI_leI, nI_ltI, nI_eq, pn_ne1, pn_1ne]; simp
  have cl : (nI (476 + 9 * j) : Int32).toNatClampNeg = 476 + 9 * j := by simp (disch := omega) only [nI_add, pn_add, pn_addl, pn_mul, pn_cl, pn_nlt0, false_or, pn_ge, pn_le, Nat.add_zero, Nat.zero_add, ↓reduceIte, Option.bind_some, nI_leI, nI_ltI, nI_eq, pn_ne1, pn_1ne]
  rw [X10_hearsKind, X10_hearerAt, Option.bind_some, e, if_neg ok, cl, h, Option.bind_some, e, if_neg ok, cl, h, kB]
  by_cases c1 : g = -1
  · simp [c1, bi]
  · by_cases c2 : g = k <;> simp [c1, c2, bi]
theorem bi_ne {b : Bool} : (bi b = 0) = (b = false) := by cases b <;> simp [bi]
theorem wake_eq (hF : 2000 ≤ F) {H : Nat → Nat → Int32} {w : Nat → Int32} {i j : Nat} (hi : i < 8) (hj : j < 8) (hw : ∀ q, q < 9 → w (476 + 9 * i + q) = H i q) (hv : ∀ q, q < 9 → w (476 + 9 * j + q) = H j q) (oi : OkH (H i)) (oj : OkH (H j)) :
    ∃ v, (v = 0 ∨ v = 1) ∧ X3_rouses F (H i 1) (H i 2) (H i 3) (H i 4) (H j 0) (H j 1) (H j 2) = some v ∧ X10_doesWake F (nI i) (nI j) w 0 = some v := by
  obtain ⟨⟨a1, a2, a3, a4⟩, s1, s2, _⟩ := oi
  obtain ⟨⟨b1, b2, b3, b4⟩, _⟩ := oj
  obtain ⟨m, hm, em, em2⟩ := i32_nI (x := H i 1) (by omega)
  obtain ⟨r, hr, er, er2⟩ := i32_nI (x := H i 2) (by omega)
  have hA : ((0 + 476 : Int32) + 9 * nI i) = nI (476 + 9 * i) := by
    rw [show (0 + 476 : Int32) = nI 476 from rfl]; simp (disch := omega) only [nI_add, pn_add, pn_addl, pn_mul, pn_cl, pn_nlt0, false_or, pn_ge, pn_le, Nat.add_zero, Nat.zero_add, ↓reduceIte, Option.bind_some, nI_leI, nI_ltI, nI_eq, pn_ne1, pn_1ne]
  have hB : ((0 + 476 : Int32) + 9 * nI j) = nI (476 + 9 * j) := by
    rw [show (0 + 476 : Int32) = nI 476 from rfl]; simp (disch := omega) only [nI_add, pn_add, pn_addl, pn_mul, pn_cl, pn_nlt0, false_or, pn_ge, pn_le, Nat.add_zero, Nat.zero_add, ↓reduceIte, Option.bind_some, nI_leI, nI_ltI, nI_eq, pn_ne1, pn_1ne]
  have cl : ∀ q, q < 3392 → (nI q : Int32).toNatClampNeg = q := fun q hq => by simp (disch := omega) only [nI_add, pn_add, pn_addl, pn_mul, pn_cl, pn_nlt0, false_or, pn_ge, pn_le, Nat.add_zero, Nat.zero_add, ↓reduceIte, Option.bind_some, nI_leI, nI_ltI, nI_eq, pn_ne1, pn_1ne]
  have ok : ∀ q, q < 3392 → ¬ ((nI q : Int32) < 0 ∨ 3392 ≤ (nI q : Int32).toNatClampNeg) := fun q hq => by simp (disch := omega) only [nI_add, pn_add, pn_addl, pn_mul, pn_cl, pn_nlt0, false_or, pn_ge, pn_le, Nat.add_zero, Nat.zero_add, ↓reduceIte, Option.bind_some, nI_leI, nI_ltI, nI_eq, pn_ne1, pn_1ne]; simp
  have i2 : (nI (476 + 9 * i) + 2 : Int32) = nI (476 + 9 * i + 2) := by simp (disch := omega) only [nI_add, pn_add, pn_addl, pn_mul, pn_cl, pn_nlt0, false_or, pn_ge, pn_le, Nat.add_zero, Nat.zero_add, ↓reduceIte, Option.bind_some, nI_leI, nI_ltI, nI_eq, pn_ne1, pn_1ne]
  have i3 : (nI (476 + 9 * i) + 3 : Int32) = nI (476 + 9 * i + 3) := by simp (disch := omega) only [nI_add, pn_add, pn_addl, pn_mul, pn_cl, pn_nlt0, false_or, pn_ge, pn_le, Nat.add_zero, Nat.zero_add, ↓reduceIte, Option.bind_some, nI_leI, nI_ltI, nI_eq, pn_ne1, pn_1ne]
  have i4 : (nI (476 + 9 * i) + 4 : Int32) = nI (476 + 9 * i + 4) := by simp (disch := omega) only [nI_add, pn_add, pn_addl, pn_mul, pn_cl, pn_nlt0, false_or, pn_ge, pn_le, Nat.add_zero, Nat.zero_add, ↓reduceIte, Option.bind_some, nI_leI, nI_ltI, nI_eq, pn_ne1, pn_1ne]
  obtain ⟨μ, hμ, hM⟩ := c_meet (F := F) (m := m) (r := r) (by omega) (by omega) (by omega) (sh := H i 4) (d := H j 1) (s := H j 2) b1 1000 0 F (by omega) (by omega)
  obtain ⟨ν, hν, hN⟩ := m_meet (F := F) (m := m) (r := r) (A := 476 + 9 * i) (B := 476 + 9 * j) (by omega) (by omega) (by omega) (by omega) (sh := H i 4) (d := H j 1) (s := H j 2) b1 s1 s2 (w := w) (hw 4 (by omega)) (by rw [hw 1 (by omega)]; exact em) (hv 1 (by omega)) (hv 2 (by omega)) F r (Nat.mod_eq_of_lt (by omega)) (by omega) (by omega)
  have hμν : μ = ν := Meet.eq hM hN (fun k _ hk => ⟨fun _ => by rw [← hk]; exact Nat.mod_le k m, fun _ => Nat.zero_le k⟩)
  subst hμν
  have hμ01 : μ = 0 ∨ μ = 1 := by rcases hM with ⟨h, _⟩ | ⟨h, _⟩ <;> simp [h]
  have hmt : X10_meets F (nI i) (nI j) w 0 = some μ := by
    rw [X10_meets, X10_hearerAt, X10_hearerAt, Option.bind_some, Option.bind_some, hA, hB, i2, if_neg (ok _ (by omega)), cl _ (by omega), hw 2 (by omega), er]
    exact hν
  have hμ' : X3_rouses_L56 F F 0 (H i 1) (H i 2) (H i 4) (H j 1) (H j 2) = some μ := by rw [em, er]; exact hμ
  have hk := fun k => m_hk (F := F) (w := w) hj (hv 0 (by omega)) k
  rw [X3_rouses, X10_doesWake, X10_hearerAt, Option.bind_some, hA, i3, if_neg (ok _ (by omega)), cl _ (by omega), hw 3 (by omega), hμ', hmt]
  have ok4 : ¬ ((nI (476 + 9 * i + 4) : Int32) < 0 ∨ 3392 ≤ 476 + 9 * i + 4) := by simp (disch := omega) only [nI_add, pn_add, pn_addl, pn_mul, pn_cl, pn_nlt0, false_or, pn_ge, pn_le, Nat.add_zero, Nat.zero_add, ↓reduceIte, Option.bind_some, nI_leI, nI_ltI, nI_eq, pn_ne1, pn_1ne]; simp
  simp only [if_neg ok4, hk, c_hk, X3_makesKindFor, Option.bind_some, bi_ne, i4, cl (476 + 9 * i + 4) (by omega), hw 4 (by omega), if_neg (ok (476 + 9 * i + 4) (by omega))]
  generalize kB (H j 0) 2 = k2
  generalize kB (H j 0) 0 = k0
  generalize kB (H j 0) 1 = k1
  generalize kB (H j 0) 6 = k6
  generalize kB (H j 0) 5 = k5
  generalize kB (H j 0) 4 = k4
  by_cases c1 : H i 3 = 1
  · rcases hμ01 with rfl | rfl <;> cases k2 <;> cases k0 <;> cases k1 <;> cases k6 <;> simp [c1, bi]
  by_cases c2 : H i 3 = 2
  · rcases hμ01 with rfl | rfl <;> cases k5 <;> simp [c2, bi]
  by_cases c3 : H i 3 = 3
  · rcases hμ01 with rfl | rfl <;> cases k4 <;> simp [c3, bi]
  by_cases c6 : H i 3 = 6
  · by_cases c7 : 0 ≤ H i 4 <;> cases k2 <;> simp [c6, c7, bi]
  · simp [c1, c2, c3, c6]
theorem q_wakes {n : Nat} {H : Nat → Nat → Int32} {w : Nat → Int32} {x8 : tX8} {l8 : tL8} (hF : 2000 ≤ F) (h8 : x8.1 = nI n) (hc : LC n H l8) (hm : LM n H w 0) (hH : ∀ i, i < n → OkH (H i)) (p1 p2 th : Int32) : ∃ r, X9_wakes F p1 p2 x8 l8 = some r ∧ X10_wakes F p1 p2 th w 0 = some (r, 0) := by
  obtain ⟨lc, tk, ls, dp⟩ := x8
  obtain ⟨a0, a1, a2, a3, a4, a5, a6, a7, a8⟩ := l8
  simp only at h8
  subst h8
  have hn := hc.1
  have hrd : ∀ i q, i < n → q < 9 → w (476 + 9 * i + q) = H i q := fun i q hi hq => by
    have := hm.2.2 i q hi hq
    rw [Nat.zero_add] at this; exact this
  rw [X9_wakes, X10_wakes, isHearerM hm, isHearerM hm]
  simp only [Option.bind_some]
  rcases rng_n p1 (n := n) (by omega) with ⟨i, hi, rfl, hr⟩ | ⟨hno, hr⟩
  · rw [listenerAt_in hn hi, hr, if_neg (show ¬ bi true = 0 by decide)]
    simp only [Option.bind_some]
    rcases rng_n p2 (n := n) (by omega) with ⟨j, hj, rfl, hr2⟩ | ⟨hno2, hr2⟩
    · obtain ⟨_, l1, l2, l3, l4, _⟩ := hc.2.1 i hi
      obtain ⟨k0, k1, k2, _⟩ := hc.2.1 j hj
      obtain ⟨v, v01, e1, e2⟩ := wake_eq (F := F) hF (i := i) (j := j) (by omega) (by omega) (fun q hq => hrd i q hi hq) (fun q hq => hrd j q hj hq) (hH i hi) (hH j hj)
      rw [listenerAt_in hn hj, hr2, if_neg (show ¬ bi true = 0 by decide), e2]
      simp only [Option.bind_some]
      rw [l1, l2, l3, l4, k0, k1, k2, e1]
      refine ⟨v, ?_, ?_⟩
      · rcases v01 with rfl | rfl <;> rfl
      · rcases v01 with rfl | rfl <;> rfl
    · rw [listenerAt_out hn hno2, hr2]
      exact ⟨-1, rfl, by rw [if_pos (show bi false = 0 from rfl)]⟩
  · rw [listenerAt_out hn hno, hr, if_pos (show bi false = 0 from rfl)]
    simp only [Option.bind_some]
    rcases rng_n p2 (n := n) (by omega) with ⟨j, hj, rfl, hr2⟩ | ⟨hno2, hr2⟩
    · rw [listenerAt_in hn hj]; exact ⟨-1, rfl, rfl⟩
    · rw [listenerAt_out hn hno2]; exact ⟨-1, rfl, rfl⟩
end Wakes
