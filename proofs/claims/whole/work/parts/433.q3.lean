/-! counts; the log; listeners come and turn -/
theorem fold_perm {α β : Type} {f : β → α → β} (hf : ∀ b x y, f (f b x) y = f (f b y) x) {l m : List α} (p : l.Perm m) : ∀ b, l.foldl f b = m.foldl f b := by
  induction p with
  | nil => intro b; rfl
  | cons x _ ih => intro b; exact ih _
  | swap x y l => intro b; simp only [List.foldl_cons]; rw [hf]
  | trans _ _ h1 h2 => intro b; rw [h1, h2]
theorem fold_loop {α β γ : Type} (g : Nat → β → Nat → Option γ) (f : β → α → β) (L : List α) (fin : β → γ) (b0 : β)
    (he : ∀ n v, g (n + 1) v L.length = some (fin v))
    (hs : ∀ n v i (h : i < L.length), g (n + 1) v i = g n (f v L[i]) (i + 1)) :
    ∀ n, L.length < n → g n b0 0 = some (fin (L.foldl f b0)) := by
  have key : ∀ n i, i ≤ L.length → L.length - i < n → g n ((L.take i).foldl f b0) i = some (fin (L.foldl f b0)) := by
    intro n
    induction n with
    | zero => intro i _ hn; omega
    | succ n ih =>
      intro i hi hn
      by_cases c : i < L.length
      · rw [hs n _ i c]
        have : f ((L.take i).foldl f b0) L[i] = (L.take (i + 1)).foldl f b0 := by
          rw [← List.take_append_getElem c, List.foldl_append]; rfl
        rw [this]
        exact ih (i + 1) (by omega) (by omega)
      · have e : i = L.length := by omega
        subst e
        rw [he, List.take_length]
  intro n hn
  have := key n 0 (by omega) (by omega)
  rwa [List.take_zero] at this
theorem ring_40 : ∀ x, x < 40 → (((List.range 40).map (fun k => (x + 39 - k) % 40)).isPerm (List.range 40)) = true := by decide +kernel
theorem ring_n : ∀ n, n < 40 → (((List.range n).map (fun k => (n + 39 - k) % 40)).isPerm (List.range n)) = true := by decide +kernel
theorem ring_perm {x n : Nat} (hx : x < 40) (hn : n ≤ 40) (h : n < 40 → x = n) : ((List.range n).map (fun k => (x + 39 - k) % 40)).Perm (List.range n) := by
  by_cases c : n < 40
  · have := h c; subst this; exact List.isPerm_iff.1 (ring_n _ c)
  · have e : n = 40 := by omega
    subst e; exact List.isPerm_iff.1 (ring_40 x hx)
/-- the slots of the log, as they lie -/
def slots (n : Nat) (a b c d e : Nat → Int32) : List Lg := (List.range n).map (fun i => (a i, b i, c i, d i, e i))
theorem slots_len {n : Nat} {a b c d e : Nat → Int32} : (slots n a b c d e).length = n := by simp [slots]
theorem slots_get {n : Nat} {a b c d e : Nat → Int32} {i : Nat} (h : i < (slots n a b c d e).length) : (slots n a b c d e)[i] = (a i, b i, c i, d i, e i) := by simp [slots]
theorem slots_perm {G : List Lg} {a b c d e : Nat → Int32} {sz nx : Int32} (h : GLc G (a, b, c, d, e, sz, nx)) : G.Perm (slots G.length a b c d e) := by
  obtain ⟨x, _, hx, _, hl, hlt, hg⟩ := h
  have e1 : G = ((List.range G.length).map (fun k => (x + 39 - k) % 40)).map (fun i => (a i, b i, c i, d i, e i)) := by
    apply List.ext_getElem
    · simp
    · intro k h1 h2
      rw [hg k h1]; simp
  have := (ring_perm hx hl hlt).map (fun i => ((a i, b i, c i, d i, e i) : Lg))
  rw [← e1] at this
  exact this
theorem fmod_40 : ∀ x, x < 40 → ∀ k, k < 40 → fmod (nI x - 1 - nI k) 40 = nI ((x + 39 - k) % 40) := by
  have h : (List.range 40).all (fun x => (List.range 40).all (fun k => decide (fmod (nI x - 1 - nI k) 40 = nI ((x + 39 - k) % 40)))) = true := by decide +kernel
  intro x hx k hk
  rw [List.all_eq_true] at h
  have h1 := h x (List.mem_range.2 hx)
  rw [List.all_eq_true] at h1
  simpa using h1 k (List.mem_range.2 hk)
section Q3
variable {F b n : Nat} {S : SS} {x6 : tX6} {x1 : tX1} {xy xz : tX2} {w : Nat → Int32}
theorem q_heard {G : List Lg} {x4 : tX4} (hc : GLc G x4) (hm : GLm G w 0) (p1 p2 th : Int32) : ∃ r, X9_heard F p1 p2 x4 = some r ∧ X10_heard F p1 p2 th w = some (r, 0) := by
  obtain ⟨a, b, c, d, e, sz, nx⟩ := x4
  obtain ⟨x, rfl, hx, rfl, hl, hlt, hg⟩ := hc
  obtain ⟨m0, _, m2⟩ := hm
  have m0' : w (18 : Int32).toNatClampNeg = nI G.length := m0
  rw [X9_heard, X10_heard, X4_latest, m0', show X10_isIn F p1.toInt64 0 (nI G.length - 1).toInt64 = _ from isIn_eq (F := F) p1 0 (nI G.length - 1), show X10_isIn F p2.toInt64 0 4 = _ from isIn_eq (F := F) p2 0 4]
  simp only [Option.bind_some]
  rcases rng_n p1 (n := G.length) (by omega) with ⟨i, hi, rfl, hr⟩ | ⟨hno, hr⟩
  · rw [hr, if_neg (show ¬ bi true = 0 by decide), if_neg (nI_pos (by omega)), if_pos (by exact nI_lt hi (by omega)), fmod_40 x hx i (by omega)]
    simp only [Option.bind_some]
    have hy : (x + 39 - i) % 40 < 40 := Nat.mod_lt _ (by omega)
    have hrow := hg i hi
    have hrow2 := m2 i hi
    generalize hyy : (x + 39 - i) % 40 = y at hy hrow
    rw [if_neg (by simp (disch := omega) only [nI_add, pn_add, pn_addl, pn_mul, pn_cl, pn_nlt0, false_or, pn_ge, pn_le, Nat.add_zero, Nat.zero_add, ↓reduceIte, Option.bind_some, nI_leI, nI_ltI, nI_eq, pn_ne1, pn_1ne]; simp)]
    simp (disch := omega) only [nI_add, pn_add, pn_addl, pn_mul, pn_cl, pn_nlt0, false_or, pn_ge, pn_le, Nat.add_zero, Nat.zero_add, ↓reduceIte, Option.bind_some, nI_leI, nI_ltI, nI_eq, pn_ne1, pn_1ne]
    rw [Nat.zero_add] at hrow2
    have hab : ((a y, b y, c y, d y, e y) : Lg) = (w (548 + 5 * i), w (548 + 5 * i + 1), w (548 + 5 * i + 2), w (548 + 5 * i + 3), w (548 + 5 * i + 4)) := by rw [← hrow, hrow2]
    simp only [Prod.mk.injEq] at hab
    obtain ⟨q0, q1, q2, q3, q4⟩ := hab
    cases hk : (decide (0 ≤ p2) && decide (p2 ≤ 4)) with
    | false =>
      have ne : ∀ k : Nat, k ≤ 4 → ¬ p2 = nI k := by
        intro k hk4 hx; subst hx
        have : (decide (0 ≤ nI k) && decide (nI k ≤ 4)) = true := by
          simp only [Bool.and_eq_true, decide_eq_true_eq]
          exact ⟨nI_pos' (by omega), nI_le (b := 4) hk4 (by omega)⟩
        rw [this] at hk; cases hk
      exact ⟨-1, by rw [if_neg (show ¬ p2 = 0 from ne 0 (by omega)), if_neg (show ¬ p2 = 1 from ne 1 (by omega)), if_neg (show ¬ p2 = 2 from ne 2 (by omega)), if_neg (show ¬ p2 = 3 from ne 3 (by omega)), if_neg (show ¬ p2 = 4 from ne 4 (by omega))], by rw [if_pos (show bi false = 0 from rfl)]⟩
    | true =>
      rw [if_neg (show ¬ bi true = 0 by decide)]
      obtain ⟨r1, r2⟩ := rng_of hk
      have e0 : (0 : Int32).toInt = 0 := by decide
      have e4 : (4 : Int32).toInt = 4 := by decide
      obtain ⟨k, hk1, rfl, hk3⟩ := i32_nI (x := p2) (by omega)
      have hk4 : k ≤ 4 := by omega
      simp (disch := omega) only [nI_add, pn_add, pn_addl, pn_mul, pn_cl, pn_nlt0, false_or, pn_ge, pn_le, Nat.add_zero, Nat.zero_add, ↓reduceIte, Option.bind_some, nI_leI, nI_ltI, nI_eq, pn_ne1, pn_1ne]
      have h5 : k = 0 ∨ k = 1 ∨ k = 2 ∨ k = 3 ∨ k = 4 := by omega
      rcases h5 with rfl | rfl | rfl | rfl | rfl
      · exact ⟨a y, by rw [if_pos (by decide)], by rw [q0]; rfl⟩
      · exact ⟨b y, by rw [if_neg (by decide), if_pos (by decide)], by rw [q1]⟩
      · exact ⟨c y, by rw [if_neg (by decide), if_neg (by decide), if_pos (by decide)], by rw [q2]⟩
      · exact ⟨d y, by rw [if_neg (by decide), if_neg (by decide), if_neg (by decide), if_pos (by decide)], by rw [q3]⟩
      · exact ⟨e y, by rw [if_neg (by decide), if_neg (by decide), if_neg (by decide), if_neg (by decide), if_pos (by decide)], by rw [q4]⟩
  · rw [hr, if_pos (show bi false = 0 from rfl)]
    refine ⟨-1, ?_, rfl⟩
    by_cases c0 : p1 < 0
    · rw [if_pos c0]; rfl
    · rw [if_neg c0]
      obtain ⟨i, hi, rfl⟩ := nI_of c0
      rw [if_neg (by
        rw [nI_ltI hi (by omega)]
        intro h; exact absurd rfl (hno i h))]; rfl
def lgN (k : Int32) (e : Lg) : Int32 := if e.1 = k then 1 else 0
def lgU (k : Int32) (e : Lg) : Int32 := if e.1 = k then (if e.2.2.2.2 = 0 then 1 else 0) else 0
def lgD (k : Int32) (v : Int32) (e : Lg) : Int32 := if e.1 = k then (if v < e.2.2.1 then e.2.2.1 else v) else v
theorem lgD_comm (k : Int32) (v : Int32) (x y : Lg) : lgD k (lgD k v x) y = lgD k (lgD k v y) x := by
  simp only [lgD]
  by_cases c1 : x.1 = k <;> by_cases c2 : y.1 = k <;> simp only [c1, c2, if_true, if_false]
  by_cases d1 : v < x.2.2.1 <;> by_cases d2 : v < y.2.2.1 <;> simp only [d1, d2, if_true, if_false]
  · by_cases d3 : x.2.2.1 < y.2.2.1
    · rw [if_pos d3, if_neg (by rw [i32_lt] at *; omega)]
    · rw [if_neg d3]
      by_cases d4 : y.2.2.1 < x.2.2.1
      · rw [if_pos d4]
      · rw [if_neg d4]; rw [i32_lt] at d3 d4; exact i32_eq.2 (by omega)
  · rw [if_neg (by rw [i32_lt] at *; omega)]
  · rw [if_neg (by rw [i32_lt] at *; omega)]
theorem q_logged {G : List Lg} {x4 : tX4} (hc : GLc G x4) (hm : GLm G w 0) (hF : 100 ≤ F) (p1 p2 th : Int32) : ∃ r, X9_logged F p1 p2 x4 = some r ∧ X10_logged F p1 p2 th w = some (r, 0) := by
  obtain ⟨a, b, c, d, e, sz, nx⟩ := x4
  have hp := slots_perm hc
  obtain ⟨x, rfl, hx, rfl, hl, hlt, hg⟩ := hc
  obtain ⟨m0, _, m2⟩ := hm
  have m0' : w (18 : Int32).toNatClampNeg = nI G.length := m0
  have hsl := slots_len (n := G.length) (a := a) (b := b) (c := c) (d := d) (e := e)
  have h1 : X4_howMany F p1 a (nI G.length) = some (sumBy (lgN p1) G) := by
    rw [X4_howMany, sumBy_perm (lgN p1) hp, show X4_howMany_L4 F F p1 0 0 a (nI G.length) = some (sumBy (lgN p1) (slots G.length a b c d e)) from sum_loop (fun n v i => X4_howMany_L4 F n p1 v (nI i) a (nI G.length)) (lgN p1) _ id ?_ ?_ F (by omega)]
    · rfl
    · intro n v
      rw [X4_howMany_L4, hsl]
      simp (disch := omega) only [nI_add, pn_add, pn_addl, pn_mul, pn_cl, pn_nlt0, false_or, pn_ge, pn_le, Nat.add_zero, Nat.zero_add, ↓reduceIte, Option.bind_some, nI_leI, nI_ltI, nI_eq, pn_ne1, pn_1ne, Nat.le_refl, id]
    · intro n v i hi
      rw [slots_get hi]
      rw [hsl] at hi
      rw [X4_howMany_L4]
      simp (disch := omega) only [nI_add, pn_add, pn_addl, pn_mul, pn_cl, pn_nlt0, false_or, pn_ge, pn_le, Nat.add_zero, Nat.zero_add, ↓reduceIte, Option.bind_some, nI_leI, nI_ltI, nI_eq, pn_ne1, pn_1ne, lgN]
      split <;> simp
  have h3 : X4_unheard F p1 a e (nI G.length) = some (sumBy (lgU p1) G) := by
    rw [X4_unheard, sumBy_perm (lgU p1) hp, show X4_unheard_L4 F F p1 0 0 a e (nI G.length) = some (sumBy (lgU p1) (slots G.length a b c d e)) from sum_loop (fun n v i => X4_unheard_L4 F n p1 v (nI i) a e (nI G.length)) (lgU p1) _ id ?_ ?_ F (by omega)]
    · rfl
    · intro n v
      rw [X4_unheard_L4, hsl]
      simp (disch := omega) only [nI_add, pn_add, pn_addl, pn_mul, pn_cl, pn_nlt0, false_or, pn_ge, pn_le, Nat.add_zero, Nat.zero_add, ↓reduceIte, Option.bind_some, nI_leI, nI_ltI, nI_eq, pn_ne1, pn_1ne, Nat.le_refl, id]
    · intro n v i hi
      rw [slots_get hi]
      rw [hsl] at hi
      rw [X4_unheard_L4]
      simp (disch := omega) only [nI_add, pn_add, pn_addl, pn_mul, pn_cl, pn_nlt0, false_or, pn_ge, pn_le, Nat.add_zero, Nat.zero_add, ↓reduceIte, Option.bind_some, nI_leI, nI_ltI, nI_eq, pn_ne1, pn_1ne, lgU]
      split
      · split <;> simp
      · simp
  have h2 : X4_deepest F p1 a c (nI G.length) = some (G.foldl (lgD p1) (-1)) := by
    rw [X4_deepest, fold_perm (lgD_comm p1) hp, show X4_deepest_L4 F F p1 (-1) 0 a c (nI G.length) = some ((slots G.length a b c d e).foldl (lgD p1) (-1)) from fold_loop (fun n v i => X4_deepest_L4 F n p1 v (nI i) a c (nI G.length)) (lgD p1) _ id (-1) ?_ ?_ F (by omega)]
    · rfl
    · intro n v
      rw [X4_deepest_L4, hsl]
      simp (disch := omega) only [nI_add, pn_add, pn_addl, pn_mul, pn_cl, pn_nlt0, false_or, pn_ge, pn_le, Nat.add_zero, Nat.zero_add, ↓reduceIte, Option.bind_some, nI_leI, nI_ltI, nI_eq, pn_ne1, pn_1ne, Nat.le_refl, id]
    · intro n v i hi
      rw [slots_get hi]
      rw [hsl] at hi
      rw [X4_deepest_L4]
      simp (disch := omega) only [nI_add, pn_add, pn_addl, pn_mul, pn_cl, pn_nlt0, false_or, pn_ge, pn_le, Nat.add_zero, Nat.zero_add, ↓reduceIte, Option.bind_some, nI_leI, nI_ltI, nI_eq, pn_ne1, pn_1ne, lgD]
      split <;> rfl
  have hL : X10_logged_L42 F F p1 p2 0 (-1) 0 0 w = some (sumBy (lgN p1) G, G.foldl (lgD p1) (-1), sumBy (lgU p1) G) := by
    have hf := fold_loop (fun n (v : Int32 × Int32 × Int32) i => X10_logged_L42 F n p1 p2 v.1 v.2.1 v.2.2 (nI i) w) (fun (v : Int32 × Int32 × Int32) (e : Lg) => (v.1 + lgN p1 e, lgD p1 v.2.1 e, v.2.2 + lgU p1 e)) G id (0, -1, 0) ?_ ?_ F (by omega)
    · rw [show X10_logged_L42 F F p1 p2 0 (-1) 0 0 w = _ from hf]
      congr 1
      have : ∀ (L : List Lg) (u v z : Int32), L.foldl (fun (v : Int32 × Int32 × Int32) (e : Lg) => (v.1 + lgN p1 e, lgD p1 v.2.1 e, v.2.2 + lgU p1 e)) (u, v, z) = (u + sumBy (lgN p1) L, L.foldl (lgD p1) v, z + sumBy (lgU p1) L) := by
        intro L
        induction L with
        | nil => intro u v z; simp [sumBy]
        | cons x l ih => intro u v z; simp only [List.foldl_cons, sumBy]; rw [ih]; simp only [Int32.add_assoc]
      rw [id, this, Int32.zero_add, Int32.zero_add]
    · intro n v
      rw [X10_logged_L42, m0']
      simp (disch := omega) only [nI_add, pn_add, pn_addl, pn_mul, pn_cl, pn_nlt0, false_or, pn_ge, pn_le, Nat.add_zero, Nat.zero_add, ↓reduceIte, Option.bind_some, nI_leI, nI_ltI, nI_eq, pn_ne1, pn_1ne, Nat.le_refl, id]
    · intro n v i hi
      have hrow2 := m2 i hi
      rw [Nat.zero_add] at hrow2
      rw [X10_logged_L42, m0', hrow2]
      simp (maxSteps := 3000000) (disch := omega) only [nI_add, pn_add, pn_addl, pn_mul, pn_cl, pn_nlt0, false_or, pn_ge, pn_le, Nat.add_zero, Nat.zero_add, ↓reduceIte, Option.bind_some, nI_leI, nI_ltI, nI_eq, pn_ne1, pn_1ne, lgN, lgD, lgU, X10_flag]
      by_cases c1 : w (548 + 5 * i) = p1
      · simp only [c1, if_true]
        by_cases c2 : w (548 + 5 * i + 2) ≤ v.2.1
        · have c2' : ¬ v.2.1 < w (548 + 5 * i + 2) := by rw [Int32.not_lt]; exact c2
          simp only [c2, c2', if_true, if_false]
          by_cases c3 : w (548 + 5 * i + 4) = 0 <;> simp [c3]
        · have c2' : v.2.1 < w (548 + 5 * i + 2) := by rwa [Int32.not_le] at c2
          simp only [c2, c2', if_true, if_false]
          by_cases c3 : w (548 + 5 * i + 4) = 0 <;> simp [c3]
      · simp only [c1, if_false]; simp
  rw [X9_logged, X10_logged, within_eq, show X10_isIn F p1.toInt64 0 6 = _ from isIn_eq (F := F) p1 0 6, show X10_isIn F p2.toInt64 0 2 = _ from isIn_eq (F := F) p2 0 2, h1, h2, h3, hL]
  simp only [Option.bind_some]
  cases hk : (decide (0 ≤ p1) && decide (p1 ≤ 6)) with
  | false => exact ⟨-1, by rw [if_pos (show bi false = 0 from rfl)], by rw [if_pos (show bi false = 0 from rfl)]⟩
  | true =>
    rw [if_neg (show ¬ bi true = 0 by decide), if_neg (show ¬ bi true = 0 by decide)]
    cases hk2 : (decide (0 ≤ p2) && decide (p2 ≤ 2)) with
    | false =>
      have n0 : ¬ p2 = 0 := fun e => by subst e; exact absurd hk2 (by decide)
      have n1 : ¬ p2 = 1 := fun e => by subst e; exact absurd hk2 (by decide)
      have n2 : ¬ p2 = 2 := fun e => by subst e; exact absurd hk2 (by decide)
      exact ⟨-1, by rw [if_neg n0, if_neg n1, if_neg n2], by rw [if_pos (show bi false = 0 from rfl)]⟩
    | true =>
      rw [if_neg (show ¬ bi true = 0 by decide)]
      by_cases c0 : p2 = 0
      · exact ⟨_, by rw [if_pos c0], by rw [if_pos c0]⟩
      · rw [if_neg c0, if_neg c0]
        by_cases c1 : p2 = 1
        · exact ⟨_, by rw [if_pos c1], by rw [if_pos c1]⟩
        · rw [if_neg c1, if_neg c1]
          by_cases c2 : p2 = 2
          · exact ⟨_, by rw [if_pos c2], rfl⟩
          · exfalso
            obtain ⟨r1, r2⟩ := rng_of hk2
            have e0 : (0 : Int32).toInt = 0 := by decide
            have e1 : (1 : Int32).toInt = 1 := by decide
            have e2 : (2 : Int32).toInt = 2 := by decide
            have : p2.toInt = 0 ∨ p2.toInt = 1 ∨ p2.toInt = 2 := by omega
            rcases this with h | h | h
            · exact c0 (i32_eq.2 (by omega))
            · exact c1 (i32_eq.2 (by omega))
            · exact c2 (i32_eq.2 (by omega))
theorem q_count {V : WV} {x8 : tX8} {l8 : tL8} {x4 : tX4} {x5 : tX5} (hc : RWc V x8 x6 x1 xy xz l8 x4 x5) (hm : RWm V w 0) (ok : Ok b V.2.2.1) (hF : 100 ≤ F) (p1 th : Int32) : ∃ r, X9_count F p1 x8 x6 x1 x5 = some r ∧ X10_count F p1 th w 0 = some (r, 0) := by
  obtain ⟨lc, tk, ls, dp⟩ := x8
  obtain ⟨hap, got, cap, wy, bal, wbt⟩ := x6
  obtain ⟨kK, kV, kW, kC, kL, kT, kP, sz, ld, pl, us, ag, hv⟩ := x1
  obtain ⟨rk, rs⟩ := x5
  obtain ⟨c1, c2, c3, c4, c5⟩ := hc
  simp only [Prod.mk.injEq] at c5
  obtain ⟨d1, d2, d3, d4⟩ := c5
  obtain ⟨⟨L, p, hE⟩, hld, hpl, _, _, n1, n2, n3, n4, n5, n6, n7, n8, n9, n10, n11, n12⟩ := c1
  have hR := hm.1
  have e0 : sz = w (0 : Int32).toNatClampNeg := by rw [hE.1, p.length_eq]; exact hR.many.symm
  have hpin0 : sumBy (pinW (-1)) V.2.2.1.1 = sumBy pinA V.2.2.1.1 := pin_none ok.1.PB (fun e he hx => by
    have := (ok.1.2.2.2 e he).1
    rw [hx] at this; exact absurd this (by decide))
  have e1 : X10_load F w 0 = some ld := by rw [hld]; exact hR.load hF
  have e16 : X10_pinned F (-1) w 0 = some pl := by
    have := hR.pinned hF (-1); rw [hpin0, ← hpl] at this; exact this
  have nm : ∀ q, 1 ≤ q → q ≤ 18 → w q = V.2.2.1.2.2.2 q := fun q q1 q2 => by have := hR.2.2.2 q q1 q2; rwa [Nat.zero_add] at this
  have g1 : cap = w (1 : Int32).toNatClampNeg := n6.trans (nm 1 (by omega) (by omega)).symm
  have g2 : wy = w (2 : Int32).toNatClampNeg := n7.trans (nm 2 (by omega) (by omega)).symm
  have g3 : bal = w (3 : Int32).toNatClampNeg := n8.trans (nm 3 (by omega) (by omega)).symm
  have g4 : us = w (4 : Int32).toNatClampNeg := n10.trans (nm 4 (by omega) (by omega)).symm
  have g5 : tk = w (5 : Int32).toNatClampNeg := d2.trans (nm 5 (by omega) (by omega)).symm
  have g6 : ag = w (6 : Int32).toNatClampNeg := n11.trans (nm 6 (by omega) (by omega)).symm
  have g7 : lc = w (7 : Int32).toNatClampNeg := by rw [d1]; exact hm.2.1.2.1.symm
  have g8 : got = w (8 : Int32).toNatClampNeg := n5.trans (nm 8 (by omega) (by omega)).symm
  have g9 : hap (5 : Int32).toNatClampNeg = w (9 : Int32).toNatClampNeg := n1.trans (nm 9 (by omega) (by omega)).symm
  have g10 : hap (2 : Int32).toNatClampNeg = w (10 : Int32).toNatClampNeg := n2.trans (nm 10 (by omega) (by omega)).symm
  have g11 : hap (3 : Int32).toNatClampNeg = w (11 : Int32).toNatClampNeg := n3.trans (nm 11 (by omega) (by omega)).symm
  have g12 : hap (6 : Int32).toNatClampNeg = w (12 : Int32).toNatClampNeg := n4.trans (nm 12 (by omega) (by omega)).symm
  have g13 : ls = w (13 : Int32).toNatClampNeg := d3.trans (nm 13 (by omega) (by omega)).symm
  have g14 : rs = w (14 : Int32).toNatClampNeg := by rw [show rs = nI V.2.2.2.2.length from c4.1]; exact hm.2.2.2.1.symm
  have g15 : hv = w (15 : Int32).toNatClampNeg := n12.trans (nm 15 (by omega) (by omega)).symm
  have g16 : wbt = w (16 : Int32).toNatClampNeg := n9.trans (nm 16 (by omega) (by omega)).symm
  have g17 : dp = w (17 : Int32).toNatClampNeg := d4.trans (nm 17 (by omega) (by omega)).symm
  rw [X9_count, X10_count, e1, e16, ← e0, ← g1, ← g2, ← g3, ← g4, ← g5, ← g6, ← g7, ← g8, ← g9, ← g10, ← g11, ← g12, ← g13, ← g14, ← g15, ← g16, ← g17]
  simp only [Option.bind_some]
  by_cases k0 : p1 = 0
  · exact ⟨_, by rw [if_pos k0], by rw [if_pos k0]⟩
  rw [if_neg k0, if_neg k0]
  by_cases k1 : p1 = 1
  · exact ⟨_, by rw [if_pos k1], by rw [if_pos k1]⟩
  rw [if_neg k1, if_neg k1]
  by_cases k2 : p1 = 2
  · exact ⟨_, by rw [if_pos k2], by rw [if_pos k2]⟩
  rw [if_neg k2, if_neg k2]
  by_cases k3 : p1 = 3
  · exact ⟨_, by rw [if_pos k3], by rw [if_pos k3]⟩
  rw [if_neg k3, if_neg k3]
  by_cases k4 : p1 = 4
  · exact ⟨_, by rw [if_pos k4], by rw [if_pos k4]⟩
  rw [if_neg k4, if_neg k4]
  by_cases k5 : p1 = 5
  · exact ⟨_, by rw [if_pos k5], by rw [if_pos k5]⟩
  rw [if_neg k5, if_neg k5]
  by_cases k6 : p1 = 6
  · exact ⟨_, by rw [if_pos k6], by rw [if_pos k6]⟩
  rw [if_neg k6, if_neg k6]
  by_cases k7 : p1 = 7
  · exact ⟨_, by rw [if_pos k7], by rw [if_pos k7]⟩
  rw [if_neg k7, if_neg k7]
  by_cases k8 : p1 = 8
  · exact ⟨_, by rw [if_pos k8], by rw [if_pos k8]⟩
  rw [if_neg k8, if_neg k8]
  by_cases k9 : p1 = 9
  · exact ⟨_, by rw [if_pos k9], by rw [if_pos k9]⟩
  rw [if_neg k9, if_neg k9]
  by_cases k10 : p1 = 10
  · exact ⟨_, by rw [if_pos k10], by rw [if_pos k10]⟩
  rw [if_neg k10, if_neg k10]
  by_cases k11 : p1 = 11
  · exact ⟨_, by rw [if_pos k11], by rw [if_pos k11]⟩
  rw [if_neg k11, if_neg k11]
  by_cases k12 : p1 = 12
  · exact ⟨_, by rw [if_pos k12], by rw [if_pos k12]⟩
  rw [if_neg k12, if_neg k12]
  by_cases k13 : p1 = 13
  · exact ⟨_, by rw [if_pos k13], by rw [if_pos k13]⟩
  rw [if_neg k13, if_neg k13]
  by_cases k14 : p1 = 14
  · exact ⟨_, by rw [if_pos k14], by rw [if_pos k14]⟩
  rw [if_neg k14, if_neg k14]
  by_cases k15 : p1 = 15
  · exact ⟨_, by rw [if_pos k15], by rw [if_pos k15]⟩
  rw [if_neg k15, if_neg k15]
  by_cases k16 : p1 = 16
  · exact ⟨_, by rw [if_pos k16], by rw [if_pos k16]⟩
  rw [if_neg k16, if_neg k16]
  by_cases k17 : p1 = 17
  · exact ⟨_, by rw [if_pos k17], by rw [if_pos k17]⟩
  rw [if_neg k17, if_neg k17]
  by_cases k18 : p1 = 18
  · exact ⟨_, by rw [if_pos k18], by rw [if_pos k18]⟩
  rw [if_neg k18, if_neg k18]
  by_cases k19 : p1 = 19
  · exact ⟨_, by rw [if_pos k19], by rw [if_pos k19]⟩
  rw [if_neg k19, if_neg k19]
  exact ⟨_, rfl, rfl⟩
end Q3
