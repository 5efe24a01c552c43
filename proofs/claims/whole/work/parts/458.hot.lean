/-! hot: keys by how often they came -/
def lastD : List Int32 → List Int32
  | [] => []
  | a :: l => if a ∈ l then lastD l else a :: lastD l
theorem mem_lastD {x : Int32} : ∀ {l : List Int32}, x ∈ lastD l ↔ x ∈ l
  | [] => Iff.rfl
  | a :: l => by
    simp only [lastD]
    by_cases c : a ∈ l
    · rw [if_pos c, mem_lastD, List.mem_cons]
      exact ⟨Or.inr, fun h => h.elim (fun e => e ▸ c) id⟩
    · rw [if_neg c, List.mem_cons, List.mem_cons, mem_lastD]
theorem nodup_lastD : ∀ (l : List Int32), (lastD l).Nodup
  | [] => List.nodup_nil
  | a :: l => by
    simp only [lastD]
    by_cases c : a ∈ l
    · rw [if_pos c]; exact nodup_lastD l
    · rw [if_neg c, List.nodup_cons]; exact ⟨fun h => c (mem_lastD.1 h), nodup_lastD l⟩
theorem len_lastD : ∀ (l : List Int32), (lastD l).length = cF l
  | [] => rfl
  | a :: l => by
    simp only [lastD, cF]
    by_cases c : a ∈ l
    · rw [if_pos c, if_pos c, len_lastD l]; omega
    · rw [if_neg c, if_neg c, List.length_cons, len_lastD l]; omega
def hotB (Q : List Int32) (a b : Int32) : Bool := decide (Q.count b < Q.count a) || (decide (Q.count a = Q.count b) && decide (a < b))
theorem hotB_iff {Q : List Int32} {a b : Int32} : hotB Q a b = true ↔ Q.count b < Q.count a ∨ (Q.count a = Q.count b ∧ a.toInt < b.toInt) := by
  simp only [hotB, Bool.or_eq_true, Bool.and_eq_true, decide_eq_true_eq, i32_lt]
theorem hotB_irr {Q : List Int32} {a : Int32} : hotB Q a a = false := by
  cases h : hotB Q a a with
  | false => rfl
  | true => rw [hotB_iff] at h; omega
theorem hotB_tr {Q : List Int32} {a b c : Int32} (h1 : hotB Q a b = true) (h2 : hotB Q b c = true) : hotB Q a c = true := by
  rw [hotB_iff] at *; omega
theorem hotB_tot {Q : List Int32} {a b : Int32} (h : a ≠ b) : hotB Q a b = true ∨ hotB Q b a = true := by
  have : a.toInt ≠ b.toInt := fun e => h (i32_eq.2 e)
  rw [hotB_iff, hotB_iff]; omega
def rank (Q : List Int32) (x : Int32) : Nat := (lastD Q).countP (fun d => hotB Q d x)
theorem rank_next {Q : List Int32} {x y : Int32} (hx : x ∈ Q) (h : hotB Q x y = true) (hn : ∀ z ∈ Q, hotB Q x z = true → z = y ∨ hotB Q y z = true) : rank Q y = rank Q x + 1 := by
  have h1 : ∀ (l : List Int32), l.Nodup → (∀ z ∈ l, z ∈ Q) → l.countP (fun d => hotB Q d y) = l.countP (fun d => hotB Q d x) + if x ∈ l then 1 else 0 := by
    intro l
    induction l with
    | nil => intro _ _; rfl
    | cons a l ih =>
      intro hnd hm
      rw [List.nodup_cons] at hnd
      rw [List.countP_cons, List.countP_cons, ih hnd.2 (fun z hz => hm z (by simp [hz]))]
      by_cases ca : a = x
      · subst ca
        rw [if_pos h, hotB_irr, if_neg hnd.1, if_neg (show ¬ false = true by decide), if_pos (by simp)]
      · have e1 : hotB Q a y = hotB Q a x := by
          cases h2 : hotB Q a x with
          | true => exact hotB_tr h2 h
          | false =>
            cases h3 : hotB Q a y with
            | false => rfl
            | true =>
              rcases hotB_tot (Q := Q) ca with h4 | h4
              · rw [h2] at h4; cases h4
              · rcases hn a (hm a (by simp)) h4 with e | h5
                · subst e; rw [hotB_irr] at h3; cases h3
                · have := hotB_tr h3 h5; rw [hotB_irr] at this; cases this
        have e2 : (x ∈ a :: l) = (x ∈ l) := by
          rw [List.mem_cons]; exact propext ⟨fun h => h.elim (fun e => absurd e.symm ca) id, Or.inr⟩
        simp only [e1, e2]; omega
  have := h1 (lastD Q) (nodup_lastD Q) (fun z hz => mem_lastD.1 hz)
  rw [if_pos (mem_lastD.2 hx)] at this; exact this
theorem rank_first {Q : List Int32} {y : Int32} (hn : ∀ z ∈ Q, z = y ∨ hotB Q y z = true) : rank Q y = 0 := by
  rw [rank, List.countP_eq_zero]
  intro z hz h
  rcases hn z (mem_lastD.1 hz) with e | h2
  · subst e; rw [hotB_irr] at h; cases h
  · have := hotB_tr h h2; rw [hotB_irr] at this; cases this
theorem rank_end {Q : List Int32} {x : Int32} (hx : x ∈ Q) (hn : ∀ z ∈ Q, ¬ hotB Q x z = true) : rank Q x + 1 = cF Q := by
  have h1 : ∀ (l : List Int32), l.Nodup → (∀ z ∈ l, z ∈ Q) → l.countP (fun d => hotB Q d x) + (if x ∈ l then 1 else 0) = l.length := by
    intro l
    induction l with
    | nil => intro _ _; rfl
    | cons a l ih =>
      intro hnd hm
      rw [List.nodup_cons] at hnd
      have := ih hnd.2 (fun z hz => hm z (by simp [hz]))
      rw [List.countP_cons, List.length_cons]
      by_cases ca : a = x
      · subst ca
        rw [if_neg hnd.1] at this
        rw [hotB_irr, if_neg (by decide), if_pos (by simp)]; omega
      · have e1 : hotB Q a x = true := by
          rcases hotB_tot (Q := Q) ca with h4 | h4
          · exact h4
          · exact absurd h4 (hn a (hm a (by simp)))
        have e2 : (x ∈ a :: l) = (x ∈ l) := by
          rw [List.mem_cons]; exact propext ⟨fun h => h.elim (fun e => absurd e.symm ca) id, Or.inr⟩
        rw [if_pos e1]
        simp only [e2]; omega
  have := h1 (lastD Q) (nodup_lastD Q) (fun z hz => mem_lastD.1 hz)
  rw [if_pos (mem_lastD.2 hx), len_lastD] at this; exact this
theorem rank_mono {Q : List Int32} {x y : Int32} (hx : x ∈ Q) (h : hotB Q x y = true) : rank Q x < rank Q y := by
  have h1 : ∀ (l : List Int32), l.countP (fun d => hotB Q d x) + (if x ∈ l then 1 else 0) ≤ l.countP (fun d => hotB Q d y) := by
    intro l
    induction l with
    | nil => simp
    | cons a l ih =>
      rw [List.countP_cons, List.countP_cons]
      by_cases ca : a = x
      · subst ca
        rw [if_pos h, hotB_irr, if_neg (by decide), if_pos (by simp)]
        split at ih <;> omega
      · have e2 : (x ∈ a :: l) = (x ∈ l) := by
          rw [List.mem_cons]; exact propext ⟨fun h => h.elim (fun e => absurd e.symm ca) id, Or.inr⟩
        simp only [e2]
        cases h2 : hotB Q a x with
        | true => rw [if_pos rfl, hotB_tr h2 h, if_pos rfl]; omega
        | false => rw [if_neg (by decide)]; split <;> split <;> simp_all <;> omega
  have := h1 (lastD Q)
  rw [if_pos (mem_lastD.2 hx)] at this
  exact this
theorem rank_inj {Q : List Int32} {x y : Int32} (hx : x ∈ Q) (hy : y ∈ Q) (h : rank Q x = rank Q y) : x = y := by
  by_cases c : x = y
  · exact c
  · rcases hotB_tot (Q := Q) c with h1 | h1
    · have := rank_mono hx h1; omega
    · have := rank_mono hy h1; omega
theorem rank_lt {Q : List Int32} {x : Int32} (hx : x ∈ Q) : rank Q x < cF Q := by
  have h1 : ∀ (l : List Int32), l.countP (fun d => hotB Q d x) + (if x ∈ l then 1 else 0) ≤ l.length := by
    intro l
    induction l with
    | nil => simp
    | cons a l ih =>
      rw [List.countP_cons, List.length_cons]
      by_cases ca : a = x
      · subst ca
        rw [hotB_irr, if_neg (by decide), if_pos (by simp)]
        split at ih <;> omega
      · have e2 : (x ∈ a :: l) = (x ∈ l) := by
          rw [List.mem_cons]; exact propext ⟨fun h => h.elim (fun e => absurd e.symm ca) id, Or.inr⟩
        simp only [e2]
        split <;> omega
  have := h1 (lastD Q)
  rw [if_pos (mem_lastD.2 hx), len_lastD] at this; exact this
section HotC
variable {F : Nat} {Q : List Int32} {K nx f g s w : Nat → Int32} {hi hs : Int32}
theorem last_iff (hl : Q.length ≤ 100) {i : Nat} (hi2 : i < Q.length) : nI (nxA Q Q[i] (i + 1)) = nI Q.length ↔ ¬ Q[i] ∈ Q.drop (i + 1) := by
  obtain ⟨a1, a2, a3, a4⟩ := nxA_spec Q Q[i] (i := i + 1) (by omega)
  rw [nI_eq (by omega) (by omega)]
  constructor
  · intro e hm
    obtain ⟨j, hj⟩ := List.mem_iff_getElem?.1 hm
    rw [List.getElem?_drop] at hj
    have hlt : i + 1 + j < Q.length := by
      have := List.getElem?_eq_some_iff.1 hj
      exact this.1
    exact a4 (i + 1 + j) (by omega) (by omega) hj
  · intro hm
    by_cases c : nxA Q Q[i] (i + 1) < Q.length
    · exact absurd (List.mem_iff_getElem?.2 ⟨nxA Q Q[i] (i + 1) - (i + 1), by rw [List.getElem?_drop, show i + 1 + (nxA Q Q[i] (i + 1) - (i + 1)) = nxA Q Q[i] (i + 1) by omega]; exact a3 c⟩) hm
    · omega
theorem lastD_drop {i : Nat} (h : i < Q.length) : lastD (Q.drop i) = if Q[i] ∈ Q.drop (i + 1) then lastD (Q.drop (i + 1)) else Q[i] :: lastD (Q.drop (i + 1)) := by
  rw [List.drop_eq_getElem_cons h, lastD]
theorem c_unlikeA (hF : 200 ≤ F) {x0 : tX0} (h : RA Q x0) : X0_unlike F x0 = some (nI (cF Q)) := by
  obtain ⟨K, nx, f, g, s, sz, hi, hs⟩ := x0
  obtain ⟨rfl, hl, hK, hN⟩ := h
  have key : ∀ (n i v : Nat), i ≤ Q.length → Q.length - i < n → X0_unlike_L4 F n (nI v) (nI i) (K, nx, f, g, s, nI Q.length, hi, hs) = some (nI (v + cF (Q.drop i))) := by
    intro n
    induction n with
    | zero => intro i v _ h; omega
    | succ n ih =>
      intro i v hi2 hn
      rw [X0_unlike_L4]
      by_cases c : Q.length ≤ i
      · rw [if_pos ((nI_leI (by omega) (by omega)).2 c), List.drop_eq_nil_of_le c]; rfl
      · have hiq : i < Q.length := by omega
        rw [if_neg (fun hx => c ((nI_leI (by omega) (by omega)).1 hx)), if_neg (k100 (by omega)), kcl (by omega), hN i hiq, nI_1, nI_1, List.drop_eq_getElem_cons hiq, cF]
        by_cases cl : Q[i] ∈ Q.drop (i + 1)
        · rw [if_neg (fun hx => (last_iff hl hiq).1 hx cl), if_pos cl, ih (i + 1) v (by omega) (by omega), Nat.zero_add]
        · rw [if_pos ((last_iff hl hiq).2 cl), if_neg cl, ih (i + 1) (v + 1) (by omega) (by omega), Nat.add_assoc]
  rw [X0_unlike, show X0_unlike_L4 F F 0 0 (K, nx, f, g, s, nI Q.length, hi, hs) = _ from key F 0 0 (by omega) (by omega), Option.bind_some, Nat.zero_add]; rfl
def oftS (Q : List Int32) (i : Nat) (h : i < Q.length) : Int32 := if Q[i] ∈ Q.drop (i + 1) then 0 else nI (Q.count Q[i])
theorem c_oftL (hl : Q.length ≤ 100) (hK : ∀ i (h : i < Q.length), K i = Q[i]) {i : Nat} (hi2 : i < Q.length) (hN : nx i = nI Q.length) : ∀ (n j : Nat) (f : Nat → Int32), j ≤ i + 1 → i + 1 - j < n → f i = nI ((Q.take j).count Q[i]) → Tot (X0_countOften_L19 F n (nI i) (nI j) (K, nx, f, g, s, nI Q.length, hi, hs)) (fun y => ∃ f', y = (K, nx, f', g, s, nI Q.length, hi, hs) ∧ f' i = nI ((Q.take (i + 1)).count Q[i]) ∧ ∀ q, q ≠ i → f' q = f q) := by
  intro n
  induction n with
  | zero => intro j f _ h; omega
  | succ n ih =>
    intro j f hj hn hf
    rw [X0_countOften_L19]
    by_cases c : i < j
    · have : j = i + 1 := by omega
      subst this
      rw [if_pos ((nI_ltI (by omega) (by omega)).2 c)]
      exact tot_s ⟨f, rfl, hf, fun _ _ => rfl⟩
    · have hjq : j < Q.length := by omega
      have gi : ¬ ((nI i : Int32) < 0 ∨ 100 ≤ i) := by simp (disch := omega) only [nI_add, pn_add, pn_addl, pn_mul, pn_cl, pn_nlt0, false_or, pn_ge, pn_le, Nat.add_zero, Nat.zero_add, ↓reduceIte, Option.bind_some, nI_leI, nI_ltI, nI_eq, pn_ne1, pn_1ne]; simp
      have gj : ¬ ((nI j : Int32) < 0 ∨ 100 ≤ j) := by simp (disch := omega) only [nI_add, pn_add, pn_addl, pn_mul, pn_cl, pn_nlt0, false_or, pn_ge, pn_le, Nat.add_zero, Nat.zero_add, ↓reduceIte, Option.bind_some, nI_leI, nI_ltI, nI_eq, pn_ne1, pn_1ne]; simp
      rw [if_neg (fun hx => c ((nI_ltI (by omega) (by omega)).1 hx)), kcl (show i < 2147483648 by omega), kcl (show j < 2147483648 by omega), if_neg gi, hN, if_pos rfl, if_neg gj, if_neg gi, hK j hjq, hK i hi2, nI_1]
      have ht : (Q.take (j + 1)).count Q[i] = (Q.take j).count Q[i] + if Q[j] = Q[i] then 1 else 0 := by
        rw [← List.take_append_getElem hjq, List.count_append, List.count_singleton]
        simp only [beq_iff_eq]
      by_cases cc : Q[j] = Q[i]
      · rw [if_pos cc] at ht
        rw [if_pos cc, if_neg gi, if_neg gi]
        refine tot_m (ih (j + 1) _ (by omega) (by omega) ?_) (fun y ⟨f', y1, y2, y3⟩ => ⟨f', y1, y2, fun q hq => by rw [y3 q hq, upd_n hq]⟩)
        rw [upd_s, hf, ht, nI_1]
      · rw [if_neg cc] at ht
        rw [if_neg cc]
        exact ih (j + 1) f (by omega) (by omega) (by rw [hf, ht]; rfl)
theorem c_oft (hF : 200 ≤ F) (hl : Q.length ≤ 100) (hK : ∀ i (h : i < Q.length), K i = Q[i]) (hN : ∀ i (h : i < Q.length), nx i = nI (nxA Q Q[i] (i + 1))) : ∀ (n i : Nat) (f : Nat → Int32), i ≤ Q.length → Q.length - i < n → (∀ q (h : q < Q.length), q < i → f q = oftS Q q h) → Tot (X0_countOften_L2 F n (nI i) (K, nx, f, g, s, nI Q.length, hi, hs)) (fun y => ∃ f', y = (K, nx, f', g, s, nI Q.length, hi, hs) ∧ ∀ q (h : q < Q.length), f' q = oftS Q q h) := by
  intro n
  induction n with
  | zero => intro i f _ h; omega
  | succ n ih =>
    intro i f hi2 hn h
    rw [X0_countOften_L2]
    by_cases c : Q.length ≤ i
    · rw [if_pos ((nI_leI (by omega) (by omega)).2 c)]
      exact tot_s ⟨f, rfl, fun q hq => h q hq (by omega)⟩
    · have hiq : i < Q.length := by omega
      rw [if_neg (fun hx => c ((nI_leI (by omega) (by omega)).1 hx)), if_neg (k100 (by omega)), kcl (by omega), nI_1]
      have inner : Tot (X0_countOften_L19 F F (nI i) 0 (K, nx, upd f i 0, g, s, nI Q.length, hi, hs)) (fun y => ∃ f', y = (K, nx, f', g, s, nI Q.length, hi, hs) ∧ f' i = oftS Q i hiq ∧ ∀ q, q ≠ i → f' q = f q) := by
        by_cases cl : Q[i] ∈ Q.drop (i + 1)
        · obtain ⟨F', hF'⟩ : ∃ F', F = F' + 1 := ⟨F - 1, by omega⟩
          have gi : ¬ ((nI i : Int32) < 0 ∨ 100 ≤ i) := by simp (disch := omega) only [nI_add, pn_add, pn_addl, pn_mul, pn_cl, pn_nlt0, false_or, pn_ge, pn_le, Nat.add_zero, Nat.zero_add, ↓reduceIte, Option.bind_some, nI_leI, nI_ltI, nI_eq, pn_ne1, pn_1ne]; simp
          have g0 : ¬ (nI i : Int32) < 0 := by simp (disch := omega) only [nI_add, pn_add, pn_addl, pn_mul, pn_cl, pn_nlt0, false_or, pn_ge, pn_le, Nat.add_zero, Nat.zero_add, ↓reduceIte, Option.bind_some, nI_leI, nI_ltI, nI_eq, pn_ne1, pn_1ne]; simp
          conv => arg 1; rw [show X0_countOften_L19 F F = X0_countOften_L19 F (F' + 1) by rw [← hF']]
          rw [X0_countOften_L19, if_neg g0, kcl (by omega), if_neg gi, hN i hiq, if_neg (fun hx => (last_iff hl hiq).1 hx cl)]
          exact tot_s ⟨_, rfl, by rw [upd_s, oftS, if_pos cl], fun q hq => upd_n hq⟩
        · have := c_oftL (F := F) (K := K) (nx := nx) (g := g) (s := s) (hi := hi) (hs := hs) hl hK hiq (by rw [hN i hiq]; exact (last_iff hl hiq).2 cl) F 0 (upd f i 0) (by omega) (by omega) (by rw [upd_s, List.take_zero]; rfl)
          refine tot_m this (fun y ⟨f', y1, y2, y3⟩ => ⟨f', y1, ?_, fun q hq => by rw [y3 q hq, upd_n hq]⟩)
          rw [y2, oftS, if_neg cl]
          congr 1
          have e : Q.count Q[i] = (Q.take (i + 1)).count Q[i] + (Q.drop (i + 1)).count Q[i] := by rw [← List.count_append, List.take_append_drop]
          rw [e, List.count_eq_zero.2 cl]; rfl
      refine tot_b inner (fun y ⟨f', y1, y2, y3⟩ => ?_)
      subst y1
      refine ih (i + 1) f' (by omega) (by omega) (fun q hq hq2 => ?_)
      by_cases cq : q = i
      · subst cq; exact y2
      · rw [y3 q cq]; exact h q hq (by omega)
theorem c_hotter (hF : 200 ≤ F) (hl : Q.length ≤ 100) (hK : ∀ i (h : i < Q.length), K i = Q[i]) (hf : ∀ q (h : q < Q.length), f q = oftS Q q h) {a : Nat} (ha : a < Q.length) (hla : ¬ Q[a] ∈ Q.drop (a + 1)) : X0_hotterThan F (nI a) (K, nx, f, g, s, nI Q.length, hi, hs) = some (nI (rank Q Q[a])) := by
  have hcn : ∀ x, Q.count x ≤ 100 := fun x => Nat.le_trans List.count_le_length hl
  have hca : 0 < Q.count Q[a] := List.count_pos_iff.2 (List.getElem_mem ha)
  have fa : f a = nI (Q.count Q[a]) := by rw [hf a ha, oftS, if_neg hla]
  have key : ∀ (n i v : Nat), i ≤ Q.length → Q.length - i < n → v ≤ i → X0_hotterThan_L4 F n (nI a) (nI v) (nI i) (K, nx, f, g, s, nI Q.length, hi, hs) = some (nI (v + (lastD (Q.drop i)).countP (fun d => hotB Q d Q[a]))) := by
    intro n
    induction n with
    | zero => intro i v _ h; omega
    | succ n ih =>
      intro i v hi2 hn hv
      rw [X0_hotterThan_L4]
      by_cases c : Q.length ≤ i
      · rw [if_pos ((nI_leI (by omega) (by omega)).2 c), List.drop_eq_nil_of_le c]; rfl
      · have hiq : i < Q.length := by omega
        have gi : ¬ ((nI i : Int32) < 0 ∨ 100 ≤ i) := by simp (disch := omega) only [nI_add, pn_add, pn_addl, pn_mul, pn_cl, pn_nlt0, false_or, pn_ge, pn_le, Nat.add_zero, Nat.zero_add, ↓reduceIte, Option.bind_some, nI_leI, nI_ltI, nI_eq, pn_ne1, pn_1ne]; simp
        have ga : ¬ ((nI a : Int32) < 0 ∨ 100 ≤ a) := by simp (disch := omega) only [nI_add, pn_add, pn_addl, pn_mul, pn_cl, pn_nlt0, false_or, pn_ge, pn_le, Nat.add_zero, Nat.zero_add, ↓reduceIte, Option.bind_some, nI_leI, nI_ltI, nI_eq, pn_ne1, pn_1ne]; simp
        have c1 := hcn Q[a]
        have c2 := hcn Q[i]
        rw [if_neg (fun hx => c ((nI_leI (by omega) (by omega)).1 hx)), kcl (show i < 2147483648 by omega), kcl (show a < 2147483648 by omega), if_neg gi, if_neg ga, if_neg gi, if_neg ga, if_neg gi, if_neg ga, hK a ha, hK i hiq, fa, hf i hiq, nI_1, nI_1, lastD_drop hiq, oftS]
        by_cases cl : Q[i] ∈ Q.drop (i + 1)
        · rw [if_pos cl, if_pos cl, if_neg (show ¬ nI (Q.count Q[a]) < 0 by simp (disch := omega) only [nI_add, pn_add, pn_addl, pn_mul, pn_cl, pn_nlt0, false_or, pn_ge, pn_le, Nat.add_zero, Nat.zero_add, ↓reduceIte, Option.bind_some, nI_leI, nI_ltI, nI_eq, pn_ne1, pn_1ne]; simp), if_neg (show ¬ (0 : Int32) = nI (Q.count Q[a]) from fun e => by
            have e' : nI 0 = nI (Q.count Q[a]) := e
            rw [nI_eq (by omega) (by omega)] at e'; omega)]
          exact ih (i + 1) v (by omega) (by omega) (by omega)
        · rw [if_neg cl, if_neg cl, List.countP_cons]
          by_cases d1 : Q.count Q[a] < Q.count Q[i]
          · have hb : hotB Q Q[i] Q[a] = true := hotB_iff.2 (Or.inl d1)
            rw [if_pos ((nI_ltI (by omega) (by omega)).2 d1), ih (i + 1) (v + 1) (by omega) (by omega) (by omega), if_pos hb, Nat.add_assoc v 1, Nat.add_comm 1]
          · rw [if_neg (fun hx => d1 ((nI_ltI (by omega) (by omega)).1 hx))]
            by_cases d2 : Q.count Q[i] = Q.count Q[a]
            · rw [if_pos (by rw [d2])]
              by_cases d3 : Q[a] ≤ Q[i]
              · have hb : ¬ hotB Q Q[i] Q[a] = true := fun hx => by rw [hotB_iff] at hx; rw [i32_le] at d3; omega
                rw [if_pos d3, ih (i + 1) v (by omega) (by omega) (by omega), if_neg hb]; rfl
              · have hb : hotB Q Q[i] Q[a] = true := hotB_iff.2 (Or.inr ⟨d2, by rw [i32_le] at d3; omega⟩)
                rw [if_neg d3, ih (i + 1) (v + 1) (by omega) (by omega) (by omega), if_pos hb, Nat.add_assoc v 1, Nat.add_comm 1]
            · have hb : ¬ hotB Q Q[i] Q[a] = true := fun hx => by rw [hotB_iff] at hx; omega
              rw [if_neg (fun hx => d2 (by rw [nI_eq (by omega) (by omega)] at hx; exact hx)), ih (i + 1) v (by omega) (by omega) (by omega), if_neg hb]; rfl
  rw [X0_hotterThan, show X0_hotterThan_L4 F F (nI a) 0 0 (K, nx, f, g, s, nI Q.length, hi, hs) = _ from key F 0 0 (by omega) (by omega) (by omega), Option.bind_some, Nat.zero_add]; rfl
theorem c_hottest (hF : 200 ≤ F) {x0 : tX0} (h : RA Q x0) (p : Int32) : Tot (X0_hottest F p x0) (fun y => (∃ f', y.2 = (x0.1, x0.2.1, f', x0.2.2.2) ∧ ∀ q (h : q < Q.length), f' q = oftS Q q h) ∧ ((y.1 = -1 ∧ ∀ i (h : i < Q.length), ¬ Q[i] ∈ Q.drop (i + 1) → nI (rank Q Q[i]) ≠ p) ∨ ∃ i, ∃ h : i < Q.length, y.1 = nI i ∧ ¬ Q[i] ∈ Q.drop (i + 1) ∧ nI (rank Q Q[i]) = p)) := by
  obtain ⟨K, nx, f, g, s, sz, hi, hs⟩ := x0
  obtain ⟨rfl, hl, hK, hN⟩ := h
  rw [X0_hottest, X0_countOften]
  refine tot_b (tot_b (show Tot (X0_countOften_L2 F F 0 (K, nx, f, g, s, nI Q.length, hi, hs)) (fun y => ∃ f', y = (K, nx, f', g, s, nI Q.length, hi, hs) ∧ ∀ q (h : q < Q.length), f' q = oftS Q q h) from c_oft (F := F) (g := g) (s := s) (hi := hi) (hs := hs) hF hl hK hN F 0 f (by omega) (by omega) (fun q _ hq => by omega)) (Q := fun y => ∃ f', y = (K, nx, f', g, s, nI Q.length, hi, hs) ∧ ∀ q (h : q < Q.length), f' q = oftS Q q h) (P := fun y => ∃ f', y = (K, nx, f', g, s, nI Q.length, hi, hs) ∧ ∀ q (h : q < Q.length), f' q = oftS Q q h) (fun y ⟨f', y1, y2⟩ => by subst y1; exact tot_s ⟨f', rfl, y2⟩)) (fun y ⟨f', y1, y2⟩ => ?_)
  subst y1
  dsimp only
  have key : ∀ (n i : Nat), i ≤ Q.length → Q.length - i < n → (∀ j (h : j < Q.length), j < i → ¬ Q[j] ∈ Q.drop (j + 1) → nI (rank Q Q[j]) ≠ p) → Tot (X0_hottest_L6 F n p (nI i) (K, nx, f', g, s, nI Q.length, hi, hs)) (fun y => y.2 = (K, nx, f', g, s, nI Q.length, hi, hs) ∧ ((y.1 = -1 ∧ ∀ i (h : i < Q.length), ¬ Q[i] ∈ Q.drop (i + 1) → nI (rank Q Q[i]) ≠ p) ∨ ∃ i, ∃ h : i < Q.length, y.1 = nI i ∧ ¬ Q[i] ∈ Q.drop (i + 1) ∧ nI (rank Q Q[i]) = p)) := by
    intro n
    induction n with
    | zero => intro i _ h; omega
    | succ n ih =>
      intro i hi2 hn hno
      rw [X0_hottest_L6]
      by_cases c : Q.length ≤ i
      · rw [if_pos ((nI_leI (by omega) (by omega)).2 c)]
        exact tot_s ⟨rfl, Or.inl ⟨rfl, fun j hj => hno j hj (by omega)⟩⟩
      · have hiq : i < Q.length := by omega
        have hcn : Q.count Q[i] ≤ 100 := Nat.le_trans List.count_le_length hl
        have hca : 0 < Q.count Q[i] := List.count_pos_iff.2 (List.getElem_mem hiq)
        have e0 : (0 : Int32).toInt = 0 := by decide
        rw [if_neg (fun hx => c ((nI_leI (by omega) (by omega)).1 hx)), if_neg (k100 (by omega)), kcl (by omega), y2 i hiq, nI_1, oftS]
        by_cases cl : Q[i] ∈ Q.drop (i + 1)
        · rw [if_pos cl, if_pos (by decide)]
          refine ih (i + 1) (by omega) (by omega) (fun j hj hj2 hjl => ?_)
          by_cases cj : j = i
          · subst cj; exact absurd cl hjl
          · exact hno j hj (by omega) hjl
        · rw [if_neg cl, if_neg (show ¬ nI (Q.count Q[i]) ≤ 0 by rw [i32_le, nI_toInt (by omega), e0]; omega), c_hotter hF hl hK y2 hiq cl, Option.bind_some]
          by_cases cr : nI (rank Q Q[i]) = p
          · rw [if_pos cr]
            exact tot_s ⟨rfl, Or.inr ⟨i, hiq, rfl, cl, cr⟩⟩
          · rw [if_neg cr]
            refine ih (i + 1) (by omega) (by omega) (fun j hj hj2 hjl => ?_)
            by_cases cj : j = i
            · subst cj; exact cr
            · exact hno j hj (by omega) hjl
  exact tot_m (key F 0 (by omega) (by omega) (fun j _ hj => by omega)) (fun y ⟨z1, z2⟩ => ⟨⟨f', z1, y2⟩, z2⟩)
/-! the reference's side -/
theorem m_often (hF : 200 ≤ F) (hm : RQm Q w 0) (k : Int32) : X10_oftenOf F k w = some (nI (Q.count k)) := by
  obtain ⟨m0, hl, m2⟩ := hm
  have m0' : w (14 : Int32).toNatClampNeg = nI Q.length := m0
  have hW : ∀ i (h : i < Q.length), w (748 + i) = Q[i] := fun i h => by have := m2 i h; rw [Nat.zero_add] at this; exact this.symm
  have key : ∀ (n i : Nat), i ≤ Q.length → Q.length - i < n → X10_oftenOf_L4 F n k (nI ((Q.take i).count k)) (nI i) w = some (nI (Q.count k)) := by
    intro n
    induction n with
    | zero => intro i _ h; omega
    | succ n ih =>
      intro i hi2 hn
      rw [X10_oftenOf_L4, m0']
      by_cases c : Q.length ≤ i
      · rw [if_pos ((nI_leI (by omega) (by omega)).2 c), List.take_of_length_le c]
      · have hiq : i < Q.length := by omega
        have ht : (Q.take (i + 1)).count k = (Q.take i).count k + if Q[i] = k then 1 else 0 := by
          rw [← List.take_append_getElem hiq, List.count_append, List.count_singleton]
          simp only [beq_iff_eq]
        have := ih (i + 1) (by omega) (by omega)
        rw [if_neg (fun hx => c ((nI_leI (by omega) (by omega)).1 hx)), m748 (by omega), if_neg (g748 (by omega)), kcl (by omega), hW i hiq, nI_1]
        by_cases cc : Q[i] = k
        · rw [if_pos cc] at ht
          rw [if_pos cc, show X10_flag F 1 = some 1 from rfl, Option.bind_some, nI_1, ← ht]; exact this
        · rw [if_neg cc] at ht
          rw [if_neg cc, show X10_flag F 0 = some 0 from rfl, Option.bind_some, Int32.add_zero]
          rw [ht] at this; exact this
  have := key F 0 (by omega) (by omega)
  rw [List.take_zero] at this
  rw [X10_oftenOf, show X10_oftenOf_L4 F F k 0 0 w = _ from this, Option.bind_some]
def elig (Q : List Int32) (key z : Int32) : Prop := key = -1 ∨ hotB Q key z = true
theorem m_behindL (hF : 200 ≤ F) (hm : RQm Q w 0) (hk : ∀ k ∈ Q, 0 ≤ k.toInt) {key v2 : Int32} (hv : key = -1 ∨ v2 = nI (Q.count key)) : ∀ (n i : Nat) (v3 v4 : Int32), i ≤ Q.length → Q.length - i < n → ((v3 = -1 ∧ ∀ z ∈ Q.take i, ¬ elig Q key z) ∨ (v3 ∈ Q.take i ∧ elig Q key v3 ∧ v4 = nI (Q.count v3) ∧ ∀ z ∈ Q.take i, elig Q key z → z = v3 ∨ hotB Q v3 z = true)) →
    Tot (X10_hotBehind_L8 F n key v2 v3 v4 (nI i) w) (fun r => (r = -1 ∧ ∀ z ∈ Q, ¬ elig Q key z) ∨ (r ∈ Q ∧ elig Q key r ∧ ∀ z ∈ Q, elig Q key z → z = r ∨ hotB Q r z = true)) := by
  have hof := fun k => m_often (F := F) hF hm k
  obtain ⟨m0, hl, m2⟩ := hm
  have m0' : w (14 : Int32).toNatClampNeg = nI Q.length := m0
  have hW : ∀ i (h : i < Q.length), w (748 + i) = Q[i] := fun i h => by have := m2 i h; rw [Nat.zero_add] at this; exact this.symm
  have hcn : ∀ x, Q.count x ≤ 100 := fun x => Nat.le_trans List.count_le_length hl
  have em : (-1 : Int32).toInt = -1 := by decide
  intro n
  induction n with
  | zero => intro i v3 v4 _ h; omega
  | succ n ih =>
    intro i v3 v4 hi2 hn hinv
    rw [X10_hotBehind_L8, m0']
    by_cases c : Q.length ≤ i
    · rw [if_pos ((nI_leI (by omega) (by omega)).2 c)]
      rw [List.take_of_length_le c] at hinv
      refine tot_s ?_
      rcases hinv with h | ⟨h1, h2, _, h4⟩
      · exact Or.inl h
      · exact Or.inr ⟨h1, h2, h4⟩
    · have hiq : i < Q.length := by omega
      have hmem : Q[i] ∈ Q := List.getElem_mem hiq
      have c2 := hcn Q[i]
      have c3 := hcn v3
      have c4 := hcn key
      have mt : ∀ z, z ∈ Q.take (i + 1) ↔ z ∈ Q.take i ∨ z = Q[i] := fun z => by
        rw [← List.take_append_getElem hiq, List.mem_append, List.mem_singleton]
      -- not eligible
      have skip : ¬ elig Q key Q[i] → Tot (X10_hotBehind_L8 F n key v2 v3 v4 (nI (i + 1)) w) (fun r => (r = -1 ∧ ∀ z ∈ Q, ¬ elig Q key z) ∨ (r ∈ Q ∧ elig Q key r ∧ ∀ z ∈ Q, elig Q key z → z = r ∨ hotB Q r z = true)) := fun he => by
        refine ih (i + 1) v3 v4 (by omega) (by omega) ?_
        rcases hinv with ⟨h1, h2⟩ | ⟨h1, h2, h3, h4⟩
        · exact Or.inl ⟨h1, fun z hz => ((mt z).1 hz).elim (h2 z) (fun e => e ▸ he)⟩
        · exact Or.inr ⟨(mt _).2 (Or.inl h1), h2, h3, fun z hz hez => ((mt z).1 hz).elim (fun h => h4 z h hez) (fun e => absurd (e ▸ hez) he)⟩
      have take : elig Q key Q[i] → (v3 = -1 ∨ hotB Q Q[i] v3 = true) → Tot (X10_hotBehind_L8 F n key v2 Q[i] (nI (Q.count Q[i])) (nI (i + 1)) w) (fun r => (r = -1 ∧ ∀ z ∈ Q, ¬ elig Q key z) ∨ (r ∈ Q ∧ elig Q key r ∧ ∀ z ∈ Q, elig Q key z → z = r ∨ hotB Q r z = true)) := fun he hb => by
        refine ih (i + 1) _ _ (by omega) (by omega) (Or.inr ⟨(mt _).2 (Or.inr rfl), he, rfl, fun z hz hez => ?_⟩)
        rcases (mt z).1 hz with h | h
        · rcases hinv with ⟨h1, h2⟩ | ⟨h1, h2, h3, h4⟩
          · exact absurd hez (h2 z h)
          · have hv3 : ¬ v3 = -1 := fun e => by
              have := hk v3 (List.mem_of_mem_take h1)
              rw [e, em] at this; omega
            have hb' := hb.resolve_left hv3
            rcases h4 z h hez with e | h5
            · exact Or.inr (e ▸ hb')
            · exact Or.inr (hotB_tr hb' h5)
        · exact Or.inl h
      have stay : elig Q key Q[i] → ¬ v3 = -1 → ¬ hotB Q Q[i] v3 = true → Tot (X10_hotBehind_L8 F n key v2 v3 v4 (nI (i + 1)) w) (fun r => (r = -1 ∧ ∀ z ∈ Q, ¬ elig Q key z) ∨ (r ∈ Q ∧ elig Q key r ∧ ∀ z ∈ Q, elig Q key z → z = r ∨ hotB Q r z = true)) := fun he hv3 hb => by
        refine ih (i + 1) v3 v4 (by omega) (by omega) ?_
        rcases hinv with ⟨h1, h2⟩ | ⟨h1, h2, h3, h4⟩
        · exact absurd h1 hv3
        · refine Or.inr ⟨(mt _).2 (Or.inl h1), h2, h3, fun z hz hez => ((mt z).1 hz).elim (fun h => h4 z h hez) (fun e => ?_)⟩
          by_cases ce : z = v3
          · exact Or.inl ce
          · rcases hotB_tot (Q := Q) ce with h5 | h5
            · rw [e] at h5; exact absurd h5 hb
            · exact Or.inr h5
      have inner : elig Q key Q[i] → Tot (if v3 = -1 then X10_hotBehind_L8 F n key v2 Q[i] (nI (Q.count Q[i])) (nI (i + 1)) w else if nI (Q.count Q[i]) < v4 then X10_hotBehind_L8 F n key v2 v3 v4 (nI (i + 1)) w else if nI (Q.count Q[i]) = v4 then (if Q[i] < v3 then X10_hotBehind_L8 F n key v2 Q[i] (nI (Q.count Q[i])) (nI (i + 1)) w else X10_hotBehind_L8 F n key v2 v3 v4 (nI (i + 1)) w) else X10_hotBehind_L8 F n key v2 Q[i] (nI (Q.count Q[i])) (nI (i + 1)) w) (fun r => (r = -1 ∧ ∀ z ∈ Q, ¬ elig Q key z) ∨ (r ∈ Q ∧ elig Q key r ∧ ∀ z ∈ Q, elig Q key z → z = r ∨ hotB Q r z = true)) := fun he => by
        by_cases cv : v3 = -1
        · rw [if_pos cv]; exact take he (Or.inl cv)
        · have hv4 : v4 = nI (Q.count v3) := by
            rcases hinv with ⟨h1, _⟩ | ⟨_, _, h3, _⟩
            · exact absurd h1 cv
            · exact h3
          rw [if_neg cv]
          by_cases d1 : Q.count Q[i] < Q.count v3
          · rw [if_pos (by rw [hv4]; exact (nI_ltI (by omega) (by omega)).2 d1)]
            exact stay he cv (fun hx => by rw [hotB_iff] at hx; omega)
          · rw [if_neg (fun hx => d1 (by rw [hv4] at hx; exact (nI_ltI (by omega) (by omega)).1 hx))]
            by_cases d2 : Q.count Q[i] = Q.count v3
            · rw [if_pos (by rw [hv4, d2])]
              by_cases d3 : Q[i] < v3
              · rw [if_pos d3]; exact take he (Or.inr (hotB_iff.2 (Or.inr ⟨d2, i32_lt.1 d3⟩)))
              · rw [if_neg d3]; exact stay he cv (fun hx => by rw [hotB_iff] at hx; rw [i32_lt] at d3; omega)
            · rw [if_neg (fun hx => d2 (by rw [hv4, nI_eq (by omega) (by omega)] at hx; exact hx))]
              exact take he (Or.inr (hotB_iff.2 (Or.inl (by omega))))
      rw [if_neg (fun hx => c ((nI_leI (by omega) (by omega)).1 hx)), m748 (by omega), if_neg (g748 (by omega)), kcl (by omega), hW i hiq, hof, Option.bind_some, nI_1]
      by_cases ck : key = -1
      · rw [if_pos ck]; exact inner (Or.inl ck)
      · have hv2 := hv.resolve_left ck
        rw [if_neg ck, hv2]
        have nel : ∀ z, elig Q key z → hotB Q key z = true := fun z hz => hz.resolve_left ck
        rw [← hv2]
        by_cases d1 : Q.count key < Q.count Q[i]
        · rw [if_pos (by rw [hv2]; exact (nI_ltI (by omega) (by omega)).2 d1)]
          exact skip (fun hx => by have := nel _ hx; rw [hotB_iff] at this; omega)
        · rw [if_neg (fun hx => d1 (by rw [hv2] at hx; exact (nI_ltI (by omega) (by omega)).1 hx))]
          by_cases d2 : Q.count Q[i] = Q.count key
          · rw [if_pos (by rw [hv2, d2])]
            by_cases d3 : key < Q[i]
            · rw [if_pos d3]; exact inner (Or.inr (hotB_iff.2 (Or.inr ⟨d2.symm, i32_lt.1 d3⟩)))
            · rw [if_neg d3]; exact skip (fun hx => by have := nel _ hx; rw [hotB_iff] at this; rw [i32_lt] at d3; omega)
          · rw [if_neg (fun hx => d2 (by rw [hv2, nI_eq (by omega) (by omega)] at hx; exact hx))]
            exact inner (Or.inr (hotB_iff.2 (Or.inl (by omega))))
theorem m_behindH (hF : 200 ≤ F) (hm : RQm Q w 0) (hk : ∀ k ∈ Q, 0 ≤ k.toInt) {key v2 : Int32} (hv : key = -1 ∨ v2 = nI (Q.count key)) : Tot (X10_hotBehind F key v2 w) (fun r => (r = -1 ∧ ∀ z ∈ Q, ¬ elig Q key z) ∨ (r ∈ Q ∧ elig Q key r ∧ ∀ z ∈ Q, elig Q key z → z = r ∨ hotB Q r z = true)) := by
  have hl := hm.2.1
  rw [X10_hotBehind]
  exact tot_b (m_behindL (F := F) hF hm hk hv F 0 (-1) 0 (by omega) (by omega) (Or.inl ⟨rfl, fun z hz => by simp at hz⟩)) (fun y hy => tot_s hy)
theorem m_hotL (hF : 200 ≤ F) (hm : RQm Q w 0) (hk : ∀ k ∈ Q, 0 ≤ k.toInt) (p1 p2 : Int32) : ∀ (n j : Nat) (key : Int32), j ≤ cF Q → cF Q - j < n → ((key = -1 ∧ j = cF Q) ∨ (key ∈ Q ∧ rank Q key = j)) → (∀ i, i < j → p1 ≠ nI i) →
    Tot (X10_hot_L37 F n p1 p2 (nI j) key 0 w) (fun y => y.2 = 0 ∧ ((p1 = -1 ∧ y.1 = nI (cF Q)) ∨ (p1 ≠ -1 ∧ (∀ i, i < cF Q → p1 ≠ nI i) ∧ y.1 = -1) ∨ ∃ x, x ∈ Q ∧ p1 = nI (rank Q x) ∧ y.1 = if p2 = 0 then x else nI (Q.count x))) := by
  have hl := hm.2.1
  have hcl : cF Q ≤ 100 := Nat.le_trans (cF_le Q) hl
  have em : (-1 : Int32).toInt = -1 := by decide
  intro n
  induction n with
  | zero => intro j key _ h; omega
  | succ n ih =>
    intro j key hj hn hkey hno
    rw [X10_hot_L37]
    rcases hkey with ⟨rfl, hjc⟩ | ⟨hq, hr⟩
    · rw [if_pos rfl]
      by_cases c : p1 = -1
      · rw [if_pos c, hjc]; exact tot_s ⟨rfl, Or.inl ⟨c, rfl⟩⟩
      · rw [if_neg c]; exact tot_s ⟨rfl, Or.inr (Or.inl ⟨c, fun i hi => hno i (by omega), rfl⟩)⟩
    · have hk1 : ¬ key = -1 := fun e => by have := hk key hq; rw [e, em] at this; omega
      have hrl := rank_lt hq
      rw [if_neg hk1]
      by_cases cj : nI j = p1
      · rw [if_pos cj]
        by_cases c2 : p2 = 0
        · rw [if_pos c2]; exact tot_s ⟨rfl, Or.inr (Or.inr ⟨key, hq, by rw [hr, cj], by rw [if_pos c2]⟩)⟩
        · rw [if_neg c2, m_often hF hm, Option.bind_some]; exact tot_s ⟨rfl, Or.inr (Or.inr ⟨key, hq, by rw [hr, cj], by rw [if_neg c2]⟩)⟩
      · rw [if_neg cj, m_often hF hm, Option.bind_some, nI_1]
        refine tot_b (m_behindH (F := F) hF hm hk (key := key) (Or.inr rfl)) (fun r hr2 => ?_)
        refine ih (j + 1) r (by omega) (by omega) ?_ (fun i hi => ?_)
        · rcases hr2 with ⟨h1, h2⟩ | ⟨h1, h2, h3⟩
          · refine Or.inl ⟨h1, ?_⟩
            have := rank_end hq (fun z hz hx => h2 z hz (Or.inr hx))
            omega
          · refine Or.inr ⟨h1, ?_⟩
            have := rank_next hq (h2.resolve_left hk1) (fun z hz hx => h3 z hz (Or.inr hx))
            omega
        · by_cases ci : i = j
          · subst ci; exact fun e => cj e.symm
          · exact hno i (by omega)
theorem m_hot (hF : 200 ≤ F) (hm : RQm Q w 0) (hk : ∀ k ∈ Q, 0 ≤ k.toInt) (p1 p2 : Int32) : Tot ((X10_hotBehind F (-1) 0 w).bind fun r1 => X10_hot_L37 F F p1 p2 0 r1 0 w) (fun y => y.2 = 0 ∧ ((p1 = -1 ∧ y.1 = nI (cF Q)) ∨ (p1 ≠ -1 ∧ (∀ i, i < cF Q → p1 ≠ nI i) ∧ y.1 = -1) ∨ ∃ x, x ∈ Q ∧ p1 = nI (rank Q x) ∧ y.1 = if p2 = 0 then x else nI (Q.count x))) := by
  have hl := hm.2.1
  have hcl : cF Q ≤ 100 := Nat.le_trans (cF_le Q) hl
  refine tot_b (m_behindH (F := F) hF hm hk (key := -1) (v2 := 0) (Or.inl rfl)) (fun r hr2 => ?_)
  refine m_hotL (F := F) hF hm hk p1 p2 F 0 r (by omega) (by omega) ?_ (fun i hi => by omega)
  rcases hr2 with ⟨h1, h2⟩ | ⟨h1, h2, h3⟩
  · refine Or.inl ⟨h1, ?_⟩
    have : Q = [] := List.eq_nil_iff_forall_not_mem.2 (fun z hz => h2 z hz (Or.inl rfl))
    rw [this]; rfl
  · exact Or.inr ⟨h1, rank_first (fun z hz => h3 z hz (Or.inl rfl))⟩
theorem q_hot (hF : 200 ≤ F) {x5 : tX5} {x0 : tX0} (hc : RQc Q x5) (hm : RQm Q w 0) (hk : ∀ k ∈ Q, 0 ≤ k.toInt) (p1 p2 th : Int32) : Tot (X9_hot F p1 p2 x5 x0) (fun y => X10_hot F p1 p2 th w = some (y.1, 0)) := by
  have hrd := c_read (F := F) (x0 := x0) hF hc
  have hl := hm.2.1
  have hcl : cF Q ≤ 100 := Nat.le_trans (cF_le Q) hl
  have em : (-1 : Int32).toInt = -1 := by decide
  have lastM : ∀ i (h : i < Q.length), ¬ Q[i] ∈ Q.drop (i + 1) → Q[i] ∈ Q := fun i h _ => List.getElem_mem h
  have exi : ∀ x ∈ Q, ∃ i, ∃ h : i < Q.length, Q[i] = x ∧ ¬ Q[i] ∈ Q.drop (i + 1) := by
    intro x
    have : ∀ (l : List Int32), x ∈ l → ∃ i, ∃ h : i < l.length, l[i] = x ∧ ¬ l[i] ∈ l.drop (i + 1) := by
      intro l
      induction l with
      | nil => intro h; cases h
      | cons a l ih =>
        intro h
        by_cases c : x ∈ l
        · obtain ⟨i, hi, h1, h2⟩ := ih c
          exact ⟨i + 1, by simp; exact hi, by simpa using h1, by simpa using h2⟩
        · have : a = x := by
            rcases List.mem_cons.1 h with e | e
            · exact e.symm
            · exact absurd e c
          exact ⟨0, by simp, by simpa using this, by simp [this]; exact c⟩
    exact this Q
  obtain ⟨ym, hym, hy0, hy1⟩ := m_hot (F := F) hF hm hk p1 p2
  obtain ⟨K, nx, f, g, s, sz, hi, hs⟩ := x0
  obtain ⟨rk, rs⟩ := x5
  rw [X9_hot]
  refine tot_b hrd (fun y hy => ?_)
  have hun := c_unlikeA (F := F) hF hy
  have hho := c_hottest (F := F) hF hy p1
  have hKy : ∀ i (h : i < Q.length), y.1 i = Q[i] := by
    obtain ⟨K, nx, f, g, s, sz, hi, hs⟩ := y
    exact hy.2.2.1
  obtain ⟨K, nx, f, g, s, sz, hi, hs⟩ := y
  dsimp only at hKy ⊢
  rw [X10_hot]
  by_cases c1 : p1 = -1
  · have n1 : ¬ p1 < -1 := fun hx => by rw [c1] at hx; exact absurd hx (by decide)
    rw [if_pos c1, hun, Option.bind_some, if_neg n1, if_pos c1, hym]
    refine tot_s ?_
    obtain ⟨ya, yb⟩ := ym
    simp only at hy0 hy1
    subst hy0
    rcases hy1 with ⟨_, h⟩ | ⟨h, _⟩ | ⟨x, hx, h, _⟩
    · rw [h]
    · exact absurd c1 h
    · have := rank_lt hx
      rw [c1] at h
      have h' := congrArg Int32.toInt h
      rw [nI_toInt (by omega), em] at h'; omega
  · rw [if_neg c1]
    refine tot_b hho (fun z ⟨⟨f', z1, z2⟩, z3⟩ => ?_)
    obtain ⟨r, K', nx', f'', g', s', sz', hi', hs'⟩ := z
    simp only [Prod.mk.injEq] at z1
    obtain ⟨rfl, rfl, rfl, rfl, rfl, rfl, rfl, rfl⟩ := z1
    dsimp only at z3 ⊢
    by_cases c2 : p1 < -1
    · rw [if_pos c2]
      rcases z3 with ⟨h1, h2⟩ | ⟨i, hi2, h1, h2, h3⟩
      · rw [if_pos h1]; exact tot_s rfl
      · have := rank_lt (List.getElem_mem hi2 : Q[i] ∈ Q)
        rw [← h3, i32_lt, nI_toInt (by omega), em] at c2; omega
    · rw [if_neg c2, if_neg c1, show X10_isIn F p2.toInt64 0 1 = _ from isIn_eq (F := F) p2 0 1, Option.bind_some]
      have e0 : (0 : Int32).toInt = 0 := by decide
      have e1 : (1 : Int32).toInt = 1 := by decide
      cases hp : (decide (0 ≤ p2) && decide (p2 ≤ 1)) with
      | false =>
        have q0 : ¬ p2 = 0 := fun hx => by rw [hx] at hp; exact absurd hp (by decide)
        have q1 : ¬ p2 = 1 := fun hx => by rw [hx] at hp; exact absurd hp (by decide)
        rw [if_pos (show bi false = 0 from rfl), if_neg q0, if_neg q1]
        by_cases cr : r = -1
        · rw [if_pos cr]; exact tot_s rfl
        · rw [if_neg cr]; exact tot_s rfl
      | true =>
        have hp2 : p2 = 0 ∨ p2 = 1 := by
          have := rng_of hp
          have : p2.toInt = 0 ∨ p2.toInt = 1 := by omega
          rcases this with h | h
          · left; exact i32_eq.2 (by rw [h, e0])
          · right; exact i32_eq.2 (by rw [h, e1])
        rw [if_neg (show ¬ bi true = 0 by decide), hym]
        obtain ⟨ya, yb⟩ := ym
        simp only at hy0 hy1
        subst hy0
        rcases z3 with ⟨h1, h2⟩ | ⟨i, hi2, h1, h2, h3⟩
        · rw [if_pos h1]
          refine tot_s ?_
          rcases hy1 with ⟨h, _⟩ | ⟨_, _, h⟩ | ⟨x, hx, h, _⟩
          · exact absurd h c1
          · rw [h]
          · obtain ⟨i, hi2, k1, k2⟩ := exi x hx
            exact absurd (by rw [k1, h]) (h2 i hi2 k2)
        · have hne : ¬ r = -1 := by rw [h1]; simp (disch := omega) only [nI_add, pn_add, pn_addl, pn_mul, pn_cl, pn_nlt0, false_or, pn_ge, pn_le, Nat.add_zero, Nat.zero_add, ↓reduceIte, Option.bind_some, nI_leI, nI_ltI, nI_eq, pn_ne1, pn_1ne]; simp
          have hrl := rank_lt (List.getElem_mem hi2 : Q[i] ∈ Q)
          rw [if_neg hne]
          rcases hy1 with ⟨h, _⟩ | ⟨_, h, _⟩ | ⟨x, hx, h, hval⟩
          · exact absurd h c1
          · exact absurd h3.symm (h _ hrl)
          · have hrx := rank_lt hx
            have hxe : Q[i] = x := rank_inj (List.getElem_mem hi2) hx (by
              rw [h, nI_eq (by omega) (by omega)] at h3; exact h3)
            rw [h1, if_neg (k100 (by omega)), if_neg (k100 (by omega)), kcl (by omega), hKy i hi2, z2 i hi2, oftS, if_neg h2, hxe]
            rcases hp2 with rfl | rfl
            · rw [if_pos rfl] at hval ⊢; exact tot_s (by rw [hval])
            · rw [if_neg (by decide)] at hval ⊢
              rw [if_pos rfl]; exact tot_s (by rw [hval])
end HotC
