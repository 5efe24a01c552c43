/-! distance, profile -/
section Dist
variable {F : Nat} {Q : List Int32} {K nx f g s w : Nat → Int32} {hi hs : Int32}
theorem distS_none {k : Nat} (hk : k < Q.length) (hp : pvA Q Q[k] k = none) : distS Q k = -1 := by
  rw [distS, List.getElem?_eq_getElem hk]; dsimp only; rw [hp]
theorem distS_some {k j : Nat} (hk : k < Q.length) (hp : pvA Q Q[k] k = some j) : distS Q k = nI (cF (sg Q (j + 1) k)) := by
  rw [distS, List.getElem?_eq_getElem hk]; dsimp only; rw [hp]
theorem c_prevL (hl : Q.length ≤ 100) (hK : ∀ i (h : i < Q.length), K i = Q[i]) {k : Nat} (hk : k < Q.length) : ∀ (n i : Nat), i ≤ k → i < n → X0_previousOf_L4 F n (nI k) (nI i - 1) (K, nx, f, g, s, nI Q.length, hi, hs) = some (match pvA Q Q[k] i with | none => -1 | some j => nI j) := by
  intro n
  induction n with
  | zero => intro i _ h; omega
  | succ n ih =>
    intro i hi2 hn
    cases i with
    | zero =>
      rw [X0_previousOf_L4, if_pos (show (nI 0 - 1 : Int32) < 0 by decide)]; rfl
    | succ i =>
      have g0 : ¬ (nI i : Int32) < 0 := by simp (disch := omega) only [nI_add, pn_add, pn_addl, pn_mul, pn_cl, pn_nlt0, false_or, pn_ge, pn_le, Nat.add_zero, Nat.zero_add, ↓reduceIte, Option.bind_some, nI_leI, nI_ltI, nI_eq, pn_ne1, pn_1ne]; simp
      rw [nI_pred, X0_previousOf_L4, if_neg g0, if_neg (k100 (by omega)), if_neg (k100 (by omega)), kcl (by omega), kcl (by omega), hK i (by omega), hK k hk, pvA, List.getElem?_eq_getElem (show i < Q.length by omega)]
      by_cases c : Q[i] = Q[k]
      · rw [if_pos c, if_pos (by rw [c])]
      · rw [if_neg c, if_neg (fun hx => c (Option.some.inj hx))]
        have : (nI i + -1 : Int32) = nI i - 1 := by rw [Int32.sub_eq_add_neg]
        rw [this]; exact ih i (by omega) (by omega)
theorem c_othersL (hl : Q.length ≤ 100) (hN : ∀ i (h : i < Q.length), nx i = nI (nxA Q Q[i] (i + 1))) {k f0 : Nat} (hk : k < Q.length) (hnot : ∀ q, f0 < q → q < k → Q[q]? ≠ Q[k]?) : ∀ (n i v : Nat), f0 < i → i ≤ k → k - i < n → v + cF (sg Q i k) < 1000 → X0_othersSince_L34 F n (nI k) (nI v) (nI i) (K, nx, f, g, s, nI Q.length, hi, hs) = some (nI (v + cF (sg Q i k))) := by
  intro n
  induction n with
  | zero => intro i v _ _ h; omega
  | succ n ih =>
    intro i v hf hi2 hn hv
    rw [X0_othersSince_L34]
    by_cases c : k ≤ i
    · have : i = k := by omega
      subst this
      rw [if_pos ((nI_leI (by omega) (by omega)).2 c), sg_nil]; rfl
    · have hiq : i < Q.length := by omega
      obtain ⟨a1, a2, a3, a4⟩ := nxA_spec Q Q[i] (i := i + 1) (by omega)
      rw [if_neg (fun hx => c ((nI_leI (by omega) (by omega)).1 hx)), if_neg (k100 (by omega)), kcl (by omega), hN i hiq, sg_cons (by omega) (by omega), cF, nI_1, nI_1]
      rw [sg_cons (by omega) (by omega), cF] at hv
      by_cases cn : nxA Q Q[i] (i + 1) ≤ k
      · rw [if_pos ((nI_leI (by omega) (by omega)).2 cn)]
        have hne : nxA Q Q[i] (i + 1) ≠ k := fun e => by
          have := a3 (by omega)
          rw [e, ← List.getElem?_eq_getElem hiq] at this
          exact hnot i hf (by omega) this.symm
        have hm : Q[i] ∈ sg Q (i + 1) k := (mem_sg (by omega)).2 ⟨nxA Q Q[i] (i + 1), a1, by omega, a3 (by omega)⟩
        rw [if_pos hm] at hv ⊢
        rw [ih (i + 1) v (by omega) (by omega) (by omega) (by omega), Nat.zero_add]
      · rw [if_neg (fun hx => cn ((nI_leI (by omega) (by omega)).1 hx))]
        have hm : ¬ Q[i] ∈ sg Q (i + 1) k := fun hx => by
          obtain ⟨j, j1, j2, j3⟩ := (mem_sg (by omega)).1 hx
          exact a4 j j1 (by omega) j3
        rw [if_neg hm] at hv ⊢
        rw [ih (i + 1) (v + 1) (by omega) (by omega) (by omega) (by omega), Nat.add_assoc]
theorem c_others (hF : 200 ≤ F) {x0 : tX0} (h : RA Q x0) (p : Int32) : ∃ r, X0_othersSince F p x0 = some r ∧ ((∃ k, k < Q.length ∧ p = nI k ∧ r = distS Q k) ∨ ((∀ k, k < Q.length → p ≠ nI k) ∧ r = -1)) := by
  obtain ⟨K, nx, f, g, s, sz, hi, hs⟩ := x0
  obtain ⟨rfl, hl, hK, hN⟩ := h
  have e0 : (0 : Int32).toInt = 0 := by decide
  rw [X0_othersSince]
  by_cases c0 : p < 0
  · rw [if_pos c0]
    refine ⟨-1, rfl, Or.inr ⟨fun k hk e => ?_, rfl⟩⟩
    rw [e, i32_lt, nI_toInt (by omega)] at c0; omega
  · rw [if_neg c0]
    obtain ⟨k, hk, rfl, _⟩ := i32_nI (x := p) (by rw [i32_lt] at c0; omega)
    by_cases c1 : k < Q.length
    · rw [if_pos ((nI_ltI (by omega) (by omega)).2 c1), X0_previousOf, c_prevL hl hK c1 F k (by omega) (by omega), Option.bind_some]
      refine ⟨distS Q k, ?_, Or.inl ⟨k, c1, rfl, rfl⟩⟩
      cases hp : pvA Q Q[k] k with
      | none => dsimp only; rw [if_pos rfl, distS_none c1 hp]
      | some j =>
        obtain ⟨b1, b2, b3⟩ := pvA_spec hp
        have hle := cF_le (sg Q (j + 1) k)
        have hle2 : (sg Q (j + 1) k).length ≤ 100 := by rw [sg, List.length_take, List.length_drop]; omega
        have := c_othersL (F := F) (K := K) (nx := nx) (f := f) (g := g) (s := s) (hi := hi) (hs := hs) hl hN (f0 := j) c1 (fun q q1 q2 => by rw [List.getElem?_eq_getElem c1]; exact b3 q q1 q2) F (j + 1) 0 (by omega) (by omega) (by omega) (by omega)
        rw [Nat.zero_add] at this
        dsimp only
        rw [distS_some c1 hp, if_neg (show ¬ nI j = -1 by simp (disch := omega) only [nI_add, pn_add, pn_addl, pn_mul, pn_cl, pn_nlt0, false_or, pn_ge, pn_le, Nat.add_zero, Nat.zero_add, ↓reduceIte, Option.bind_some, nI_leI, nI_ltI, nI_eq, pn_ne1, pn_1ne]; simp), nI_1, show X0_othersSince_L34 F F (nI k) 0 (nI (j + 1)) (K, nx, f, g, s, nI Q.length, hi, hs) = _ from this, Option.bind_some]
    · rw [if_neg (fun hx => c1 ((nI_ltI (by omega) (by omega)).1 hx))]
      refine ⟨-1, rfl, Or.inr ⟨fun q hq e => ?_, rfl⟩⟩
      rw [nI_eq (by omega) (by omega)] at e; omega
theorem m748 {i : Nat} (h : i < 100) : (748 + nI i : Int32) = nI (748 + i) := by simp (disch := omega) only [nI_add, pn_add, pn_addl, pn_mul, pn_cl, pn_nlt0, false_or, pn_ge, pn_le, Nat.add_zero, Nat.zero_add, ↓reduceIte, Option.bind_some, nI_leI, nI_ltI, nI_eq, pn_ne1, pn_1ne]
theorem g748 {i : Nat} (h : i < 100) : ¬ ((nI (748 + i) : Int32) < 0 ∨ 3392 ≤ (nI (748 + i)).toNatClampNeg) := by simp (disch := omega) only [nI_add, pn_add, pn_addl, pn_mul, pn_cl, pn_nlt0, false_or, pn_ge, pn_le, Nat.add_zero, Nat.zero_add, ↓reduceIte, Option.bind_some, nI_leI, nI_ltI, nI_eq, pn_ne1, pn_1ne]; simp
theorem m_prevL (hl : Q.length ≤ 100) (hW : ∀ i (h : i < Q.length), w (748 + i) = Q[i]) {k : Nat} (hk : k < Q.length) : ∀ (n i : Nat), i ≤ k → i < n → X10_distance_L30 F n (nI k) (nI i - 1) w = some (match pvA Q Q[k] i with | none => -1 | some j => nI j) := by
  intro n
  induction n with
  | zero => intro i _ h; omega
  | succ n ih =>
    intro i hi2 hn
    cases i with
    | zero =>
      rw [X10_distance_L30, if_pos (show (nI 0 - 1 : Int32) < 0 by decide)]; rfl
    | succ i =>
      have g0 : ¬ (nI i : Int32) < 0 := by simp (disch := omega) only [nI_add, pn_add, pn_addl, pn_mul, pn_cl, pn_nlt0, false_or, pn_ge, pn_le, Nat.add_zero, Nat.zero_add, ↓reduceIte, Option.bind_some, nI_leI, nI_ltI, nI_eq, pn_ne1, pn_1ne]; simp
      rw [nI_pred, X10_distance_L30, if_neg g0, m748 (by omega), m748 (by omega), if_neg (g748 (by omega)), if_neg (g748 (by omega)), kcl (by omega), kcl (by omega), hW i (by omega), hW k hk, pvA, List.getElem?_eq_getElem (show i < Q.length by omega)]
      by_cases c : Q[i] = Q[k]
      · rw [if_pos c, if_pos (by rw [c])]
      · rw [if_neg c, if_neg (fun hx => c (Option.some.inj hx))]
        have : (nI i + -1 : Int32) = nI i - 1 := by rw [Int32.sub_eq_add_neg]
        rw [this]; exact ih i (by omega) (by omega)
theorem m_newL (hl : Q.length ≤ 100) (hW : ∀ i (h : i < Q.length), w (748 + i) = Q[i]) {k : Nat} (hk : k < Q.length) : ∀ (n i : Nat), i ≤ k → k - i < n → X10_isNewFrom_L2 F n (nI k) (nI i) w = some (bi (!decide (Q[k] ∈ sg Q i k))) := by
  intro n
  induction n with
  | zero => intro i _ h; omega
  | succ n ih =>
    intro i hi2 hn
    rw [X10_isNewFrom_L2]
    by_cases c : k ≤ i
    · have : i = k := by omega
      subst this
      rw [if_pos ((nI_leI (by omega) (by omega)).2 c), sg_nil]; simp [bi]
    · rw [if_neg (fun hx => c ((nI_leI (by omega) (by omega)).1 hx)), m748 (by omega), m748 (by omega), if_neg (g748 (by omega)), if_neg (g748 (by omega)), kcl (by omega), kcl (by omega), hW i (by omega), hW k hk, sg_cons (by omega) (by omega), nI_1]
      by_cases cc : Q[i] = Q[k]
      · rw [if_pos cc]; simp [bi, cc]
      · rw [if_neg cc, ih (i + 1) (by omega) (by omega)]
        have : ¬ Q[k] = Q[i] := fun e => cc e.symm
        simp [this]
theorem m_distL (hF : 200 ≤ F) (hl : Q.length ≤ 100) (hW : ∀ i (h : i < Q.length), w (748 + i) = Q[i]) {k f0 : Nat} (hk : k < Q.length) (hf : f0 < k) : ∀ (n i : Nat), f0 + 1 ≤ i → i ≤ k → k - i < n → X10_distance_L76 F n (nI k) (nI f0) (nI (cF (sg Q (f0 + 1) i))) (nI i) w = some (nI (cF (sg Q (f0 + 1) k))) := by
  intro n
  induction n with
  | zero => intro i _ _ h; omega
  | succ n ih =>
    intro i h1 hi2 hn
    rw [X10_distance_L76]
    by_cases c : k ≤ i
    · have : i = k := by omega
      subst this
      rw [if_pos ((nI_leI (by omega) (by omega)).2 c)]
    · have hiq : i < Q.length := by omega
      rw [if_neg (fun hx => c ((nI_leI (by omega) (by omega)).1 hx)), nI_1, X10_isNewFrom, m_newL hl hW hiq F (f0 + 1) (by omega) (by omega), Option.bind_some, X10_flag, nI_1]
      have e := sg_snoc (Q := Q) (i := f0 + 1) (k := i) (by omega) hiq
      have hc := cF_snoc (sg Q (f0 + 1) i) Q[i]
      rw [← e] at hc
      by_cases cm : Q[i] ∈ sg Q (f0 + 1) i
      · rw [decide_eq_true cm, Bool.not_true, if_pos (show bi false = 0 from rfl), Option.bind_some, Int32.add_zero]
        have hc2 : cF (sg Q (f0 + 1) (i + 1)) = cF (sg Q (f0 + 1) i) := by rw [hc, if_pos cm]; exact Nat.add_zero _
        rw [← hc2]; exact ih (i + 1) (by omega) (by omega) (by omega)
      · rw [decide_eq_false cm, Bool.not_false, if_neg (show ¬ bi true = 0 by decide), Option.bind_some, nI_1]
        rw [if_neg cm] at hc
        rw [← hc]; exact ih (i + 1) (by omega) (by omega) (by omega)
theorem m_dist (hF : 200 ≤ F) (hm : RQm Q w 0) (p th : Int32) : ∃ r, X10_distance F p th w = some (r, 0) ∧ ((∃ k, k < Q.length ∧ p = nI k ∧ r = distS Q k) ∨ ((∀ k, k < Q.length → p ≠ nI k) ∧ r = -1)) := by
  obtain ⟨m0, hl, m2⟩ := hm
  have m0' : w (14 : Int32).toNatClampNeg = nI Q.length := m0
  have hW : ∀ i (h : i < Q.length), w (748 + i) = Q[i] := fun i h => by have := m2 i h; rw [Nat.zero_add] at this; exact this.symm
  rw [X10_distance, m0', show X10_isIn F p.toInt64 0 (nI Q.length - 1).toInt64 = _ from isIn_eq (F := F) p 0 (nI Q.length - 1), Option.bind_some]
  rcases rng_n p (n := Q.length) (by omega) with ⟨k, c1, rfl, hr⟩ | ⟨hno, hr⟩
  · rw [hr, if_neg (show ¬ bi true = 0 by decide), m_prevL hl hW c1 F k (by omega) (by omega), Option.bind_some]
    refine ⟨distS Q k, ?_, Or.inl ⟨k, c1, rfl, rfl⟩⟩
    cases hp : pvA Q Q[k] k with
    | none => dsimp only; rw [if_neg (by decide), distS_none c1 hp]
    | some j =>
      obtain ⟨b1, b2, b3⟩ := pvA_spec hp
      have := m_distL (F := F) hF hl hW (f0 := j) c1 b1 F (j + 1) (by omega) (by omega) (by omega)
      rw [sg_nil] at this
      dsimp only
      have hj0 : (0 : Int32) ≤ nI j := by
        have e0 : (0 : Int32).toInt = 0 := by decide
        rw [i32_le, nI_toInt (by omega)]; omega
      rw [distS_some c1 hp, if_pos hj0, nI_1, show X10_distance_L76 F F (nI k) (nI j) 0 (nI (j + 1)) w = _ from this, Option.bind_some]
  · rw [hr, if_pos (show bi false = 0 from rfl)]
    exact ⟨-1, rfl, Or.inr ⟨hno, rfl⟩⟩
theorem q_distance (hF : 200 ≤ F) {x5 : tX5} {x0 : tX0} (hc : RQc Q x5) (hm : RQm Q w 0) (p th : Int32) : Tot (X9_distance F p x5 x0) (fun y => X10_distance F p th w = some (y.1, 0)) := by
  have hrd := c_read (F := F) (x0 := x0) hF hc
  obtain ⟨K, nx, f, g, s, sz, hi, hs⟩ := x0
  obtain ⟨rk, rs⟩ := x5
  rw [X9_distance]
  refine tot_b hrd (fun y hy => ?_)
  obtain ⟨r, hr, hr2⟩ := c_others (F := F) hF hy p
  obtain ⟨r', hr', hr2'⟩ := m_dist (F := F) hF hm p th
  obtain ⟨K, nx, f, g, s, sz, hi, hs⟩ := y
  have hl := hm.2.1
  have : r = r' := by
    rcases hr2 with ⟨k, k1, k2, k3⟩ | ⟨k1, k2⟩ <;> rcases hr2' with ⟨j, j1, j2, j3⟩ | ⟨j1, j2⟩
    · rw [k2, nI_eq (by omega) (by omega)] at j2
      rw [k3, j3, j2]
    · exact absurd k2 (j1 k k1)
    · exact absurd j2 (k1 j j1)
    · rw [k2, j2]
  dsimp only
  rw [hr, Option.bind_some]
  exact tot_s (by rw [hr', this])
theorem dist_ge {k : Nat} (hl : Q.length ≤ 100) (hk : k < Q.length) : -1 ≤ (distS Q k).toInt := by
  cases hp : pvA Q Q[k] k with
  | none => rw [distS_none hk hp]; decide
  | some f =>
    have hle := cF_le (sg Q (f + 1) k)
    have hle2 : (sg Q (f + 1) k).length ≤ 100 := by rw [sg, List.length_take, List.length_drop]; omega
    rw [distS_some hk hp, nI_toInt (by omega)]; omega
def profS (Q : List Int32) (p : Int32) : Nat → Nat → Int32 → Int32
  | 0, _, v => v
  | c + 1, i, v => profS Q p c (i + 1) (if distS Q i = p then v + 1 else v)
theorem c_profL (hF : 200 ≤ F) {x0 : tX0} (h : RA Q x0) (p : Int32) : ∀ (n i : Nat) (v : Int32), i ≤ Q.length → Q.length - i < n → X9_profile_L25 F n p v (nI i) x0 = some (profS Q p (Q.length - i) i v) := by
  have hco := fun q => c_others (F := F) hF h q
  obtain ⟨K, nx, f, g, s, sz, hi, hs⟩ := x0
  obtain ⟨rfl, hl, hK, hN⟩ := h
  intro n
  induction n with
  | zero => intro i v _ h; omega
  | succ n ih =>
    intro i v hi2 hn
    rw [X9_profile_L25]
    by_cases c : Q.length ≤ i
    · rw [if_pos ((nI_leI (by omega) (by omega)).2 c), show Q.length - i = 0 by omega]; rfl
    · have hst : Q.length - i = (Q.length - (i + 1)) + 1 := by omega
      obtain ⟨r, hr, hr2⟩ := hco (nI i)
      have hrd : r = distS Q i := by
        rcases hr2 with ⟨k, k1, k2, k3⟩ | ⟨k1, k2⟩
        · rw [nI_eq (by omega) (by omega)] at k2; rw [k3, k2]
        · exact absurd rfl (k1 i (by omega))
      rw [if_neg (fun hx => c ((nI_leI (by omega) (by omega)).1 hx)), hr, Option.bind_some, nI_1, hst, profS, ← hrd]
      by_cases cc : r = p
      · rw [if_pos cc, if_pos cc]; exact ih (i + 1) _ (by omega) (by omega)
      · rw [if_neg cc, if_neg cc]; exact ih (i + 1) _ (by omega) (by omega)
theorem m_profL (hF : 200 ≤ F) (hm : RQm Q w 0) (p : Int32) : ∀ (n i : Nat) (v : Int32), i ≤ Q.length → Q.length - i < n → X10_profile_L9 F n p v (nI i) 0 w = some (profS Q p (Q.length - i) i v, 0) := by
  have hco := fun q => m_dist (F := F) hF hm q 0
  obtain ⟨m0, hl, m2⟩ := hm
  have m0' : w (14 : Int32).toNatClampNeg = nI Q.length := m0
  intro n
  induction n with
  | zero => intro i v _ h; omega
  | succ n ih =>
    intro i v hi2 hn
    rw [X10_profile_L9, m0']
    by_cases c : Q.length ≤ i
    · rw [if_pos ((nI_leI (by omega) (by omega)).2 c), show Q.length - i = 0 by omega]; rfl
    · have hst : Q.length - i = (Q.length - (i + 1)) + 1 := by omega
      obtain ⟨r, hr, hr2⟩ := hco (nI i)
      have hrd : r = distS Q i := by
        rcases hr2 with ⟨k, k1, k2, k3⟩ | ⟨k1, k2⟩
        · rw [nI_eq (by omega) (by omega)] at k2; rw [k3, k2]
        · exact absurd rfl (k1 i (by omega))
      rw [if_neg (fun hx => c ((nI_leI (by omega) (by omega)).1 hx)), hr, Option.bind_some, nI_1, hst, profS, ← hrd]
      dsimp only
      by_cases cc : r = p
      · rw [if_pos cc, if_pos cc]; exact ih (i + 1) _ (by omega) (by omega)
      · rw [if_neg cc, if_neg cc]
        have := ih (i + 1) v (by omega) (by omega)
        rw [X10_flag, if_pos rfl, Option.bind_some, Int32.add_zero]; exact this
theorem profS_0 (hl : Q.length ≤ 100) {p : Int32} (hp : p.toInt < -1) : ∀ (c i : Nat) (v : Int32), i + c ≤ Q.length → profS Q p c i v = v
  | 0, i, v, _ => rfl
  | c + 1, i, v, h => by
    have : ¬ distS Q i = p := fun e => by have := dist_ge hl (k := i) (by omega); rw [e] at this; omega
    rw [profS, if_neg this]; exact profS_0 hl hp c (i + 1) v (by omega)
theorem q_profile (hF : 200 ≤ F) {x5 : tX5} {x0 : tX0} (hc : RQc Q x5) (hm : RQm Q w 0) (p th : Int32) : Tot (X9_profile F p x5 x0) (fun y => X10_profile F p th w = some (y.1, 0)) := by
  have hrd := c_read (F := F) (x0 := x0) hF hc
  have hl := hm.2.1
  have hmp : X10_profile F p th w = some (profS Q p Q.length 0 0, 0) := by
    have := m_profL (F := F) hF hm p F 0 0 (by omega) (by omega)
    rw [X10_profile, show X10_profile_L9 F F p 0 0 0 w = _ from this, Option.bind_some]; rfl
  obtain ⟨K, nx, f, g, s, sz, hi, hs⟩ := x0
  obtain ⟨rk, rs⟩ := x5
  rw [X9_profile, hmp]
  by_cases c : (-1 : Int32) ≤ p
  · rw [if_pos c]
    refine tot_b hrd (fun y hy => ?_)
    have := c_profL (F := F) hF hy p F 0 0 (by omega) (by omega)
    obtain ⟨K, nx, f, g, s, sz, hi, hs⟩ := y
    dsimp only
    rw [show X9_profile_L25 F F p 0 0 (K, nx, f, g, s, sz, hi, hs) = _ from this, Option.bind_some]
    exact tot_s rfl
  · rw [if_neg c]
    have em : (-1 : Int32).toInt = -1 := by decide
    rw [profS_0 hl (by rw [i32_le] at c; omega) _ _ _ (by omega)]
    exact tot_s rfl
end Dist
