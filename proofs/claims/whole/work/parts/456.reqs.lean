/-! the requests of late, as a list -/
def nxF (Q : List Int32) (k : Int32) : Nat → Nat → Nat
  | 0, i => i
  | c + 1, i => if Q[i]? = some k then i else nxF Q k c (i + 1)
def nxA (Q : List Int32) (k : Int32) (i : Nat) : Nat := nxF Q k (Q.length - i) i
theorem nxF_spec (Q : List Int32) (k : Int32) : ∀ (c i : Nat), i + c = Q.length → i ≤ nxF Q k c i ∧ nxF Q k c i ≤ Q.length ∧ (nxF Q k c i < Q.length → Q[nxF Q k c i]? = some k) ∧ ∀ j, i ≤ j → j < nxF Q k c i → Q[j]? ≠ some k
  | 0, i, h => ⟨Nat.le_refl _, by simp only [nxF]; omega, fun hx => by simp only [nxF] at hx; omega, fun j h1 h2 => by simp only [nxF] at h2; omega⟩
  | c + 1, i, h => by
    simp only [nxF]
    by_cases hc : Q[i]? = some k
    · rw [if_pos hc]; exact ⟨Nat.le_refl _, by omega, fun _ => hc, fun j h1 h2 => by omega⟩
    · rw [if_neg hc]
      obtain ⟨a1, a2, a3, a4⟩ := nxF_spec Q k c (i + 1) (by omega)
      refine ⟨by omega, a2, a3, fun j h1 h2 => ?_⟩
      by_cases hj : j = i
      · subst hj; exact hc
      · exact a4 j (by omega) h2
theorem nxA_spec (Q : List Int32) (k : Int32) {i : Nat} (h : i ≤ Q.length) : i ≤ nxA Q k i ∧ nxA Q k i ≤ Q.length ∧ (nxA Q k i < Q.length → Q[nxA Q k i]? = some k) ∧ ∀ j, i ≤ j → j < nxA Q k i → Q[j]? ≠ some k := nxF_spec Q k _ i (by omega)
theorem nxA_end (Q : List Int32) (k : Int32) : nxA Q k Q.length = Q.length := by simp [nxA, nxF]
theorem nxA_step (Q : List Int32) (k : Int32) {i : Nat} (h : i < Q.length) : nxA Q k i = if Q[i] = k then i else nxA Q k (i + 1) := by
  have e : Q.length - i = (Q.length - (i + 1)) + 1 := by omega
  rw [nxA, e, nxF, List.getElem?_eq_getElem h]
  simp only [Option.some.injEq, nxA]
/-- a stretch of the list -/
def sg (Q : List Int32) (i k : Nat) : List Int32 := (Q.drop i).take (k - i)
theorem mem_sg {Q : List Int32} {i k : Nat} (hk : k ≤ Q.length) {x : Int32} : x ∈ sg Q i k ↔ ∃ j, i ≤ j ∧ j < k ∧ Q[j]? = some x := by
  rw [sg, List.mem_iff_getElem?]
  constructor
  · rintro ⟨j, hj⟩
    rw [List.getElem?_take] at hj
    split at hj
    · rw [List.getElem?_drop] at hj; exact ⟨i + j, by omega, by omega, hj⟩
    · cases hj
  · rintro ⟨j, h1, h2, h3⟩
    refine ⟨j - i, ?_⟩
    rw [List.getElem?_take, if_pos (by omega), List.getElem?_drop, show i + (j - i) = j by omega]; exact h3
theorem sg_cons {Q : List Int32} {i k : Nat} (h : i < k) (hk : k ≤ Q.length) : sg Q i k = Q[i] :: sg Q (i + 1) k := by
  rw [sg, sg, List.drop_eq_getElem_cons (by omega), show k - i = (k - (i + 1)) + 1 by omega, List.take_succ_cons]
theorem sg_snoc {Q : List Int32} {i k : Nat} (h : i ≤ k) (hk : k < Q.length) : sg Q i (k + 1) = sg Q i k ++ [Q[k]] := by
  rw [sg, sg, show k + 1 - i = (k - i) + 1 by omega, List.take_succ, List.getElem?_drop, show i + (k - i) = k by omega, List.getElem?_eq_getElem hk]; rfl
theorem sg_nil {Q : List Int32} {i : Nat} : sg Q i i = [] := by simp [sg]
/-- how many unlike ones -/
def cF : List Int32 → Nat
  | [] => 0
  | a :: l => (if a ∈ l then 0 else 1) + cF l
theorem cF_snoc (l : List Int32) (a : Int32) : cF (l ++ [a]) = cF l + if a ∈ l then 0 else 1 := by
  induction l with
  | nil => simp [cF]
  | cons b l ih =>
    simp only [List.cons_append, cF, ih, List.mem_append, List.mem_singleton, List.mem_cons]
    by_cases h1 : b ∈ l <;> by_cases h2 : a ∈ l <;> by_cases h3 : a = b
    · subst h3; simp [h1]; 
    · simp [h1, h2, Ne.symm h3, h3]
    · subst h3; exact absurd h1 h2
    · simp [h1, h2, Ne.symm h3, h3]
    · subst h3; exact absurd h2 h1
    · have h4 : ¬ b = a := fun e => h3 e.symm
      simp [h1, h2, h4]
    · subst h3; simp [h1]; omega
    · have h4 : ¬ b = a := fun e => h3 e.symm
      simp [h1, h2, h3, h4]; omega
theorem cF_le (l : List Int32) : cF l ≤ l.length := by
  induction l with
  | nil => simp [cF]
  | cons a l ih => simp only [cF, List.length_cons]; split <;> omega
/-- the place of the request before, of the same key -/
def pvA (Q : List Int32) (x : Int32) : Nat → Option Nat
  | 0 => none
  | i + 1 => if Q[i]? = some x then some i else pvA Q x i
theorem pvA_spec {Q : List Int32} {x : Int32} : ∀ {i j : Nat}, pvA Q x i = some j → j < i ∧ Q[j]? = some x ∧ ∀ q, j < q → q < i → Q[q]? ≠ some x
  | 0, j, h => by cases h
  | i + 1, j, h => by
    simp only [pvA] at h
    by_cases c : Q[i]? = some x
    · rw [if_pos c] at h; cases h; exact ⟨by omega, c, fun q h1 h2 => by omega⟩
    · rw [if_neg c] at h
      obtain ⟨a1, a2, a3⟩ := pvA_spec h
      refine ⟨by omega, a2, fun q h1 h2 => ?_⟩
      by_cases cq : q = i
      · subst cq; exact c
      · exact a3 q h1 (by omega)
def distS (Q : List Int32) (k : Nat) : Int32 := match Q[k]? with
  | none => -1
  | some x => match pvA Q x k with
    | none => -1
    | some f => nI (cF (sg Q (f + 1) k))
/-! the class's rows -/
def RA (Q : List Int32) : tX0 → Prop
  | (K, nx, _, _, _, sz, _, _) => sz = nI Q.length ∧ Q.length ≤ 100 ∧ (∀ i (h : i < Q.length), K i = Q[i]) ∧ ∀ i (h : i < Q.length), nx i = nI (nxA Q Q[i] (i + 1))
section Reqs
variable {F : Nat} {Q : List Int32} {K nx f g s : Nat → Int32} {sz hi hs : Int32}
theorem k100 {j : Nat} (h : j < 100) : ¬ ((nI j : Int32) < 0 ∨ 100 ≤ (nI j).toNatClampNeg) := by simp (disch := omega) only [nI_add, pn_add, pn_addl, pn_mul, pn_cl, pn_nlt0, false_or, pn_ge, pn_le, Nat.add_zero, Nat.zero_add, ↓reduceIte, Option.bind_some, nI_leI, nI_ltI, nI_eq, pn_ne1, pn_1ne]; simp
theorem kcl {j : Nat} (h : j < 2147483648) : (nI j).toNatClampNeg = j := by simp (disch := omega) only [nI_add, pn_add, pn_addl, pn_mul, pn_cl, pn_nlt0, false_or, pn_ge, pn_le, Nat.add_zero, Nat.zero_add, ↓reduceIte, Option.bind_some, nI_leI, nI_ltI, nI_eq, pn_ne1, pn_1ne]
theorem c_nextL (hl : Q.length ≤ 100) (hK : ∀ i (h : i < Q.length), K i = Q[i]) (k : Int32) : ∀ (n i : Nat), i ≤ Q.length → Q.length - i < n → X0_nextOf_L4 F n k (nI i) (K, nx, f, g, s, nI Q.length, hi, hs) = some (nI (nxA Q k i)) := by
  intro n
  induction n with
  | zero => intro i _ h; omega
  | succ n ih =>
    intro i hi2 hn
    rw [X0_nextOf_L4]
    by_cases c : Q.length ≤ i
    · rw [if_pos ((nI_leI (by omega) (by omega)).2 c)]
      have : i = Q.length := by omega
      subst this
      rw [nxA_end]
    · have hiq : i < Q.length := by omega
      rw [if_neg (fun hx => c ((nI_leI (by omega) (by omega)).1 hx)), if_neg (k100 (by omega)), kcl (by omega), hK i hiq, nxA_step Q k hiq, nI_1]
      by_cases ck : Q[i] = k
      · rw [if_pos ck, if_pos ck]
      · rw [if_neg ck, if_neg ck]; exact ih (i + 1) (by omega) (by omega)
theorem c_next (hF : 200 ≤ F) (hl : Q.length ≤ 100) (hK : ∀ i (h : i < Q.length), K i = Q[i]) (k : Int32) {i : Nat} (hi2 : i < Q.length) : X0_nextOf F k (nI i) (K, nx, f, g, s, nI Q.length, hi, hs) = some (nI (nxA Q k (i + 1))) := by
  rw [X0_nextOf, nI_1]; exact c_nextL hl hK k F (i + 1) (by omega) (by omega)
theorem c_readL (hF : 200 ≤ F) (hl : Q.length ≤ 100) (hK : ∀ i (h : i < Q.length), K i = Q[i]) : ∀ (n i : Nat) (nx : Nat → Int32), i ≤ Q.length → Q.length - i < n → (∀ j (h : j < Q.length), j < i → nx j = nI (nxA Q Q[j] (j + 1))) → Tot (X0_read_L25 F n (nI i) (K, nx, f, g, s, nI Q.length, hi, hs)) (fun y => RA Q y) := by
  intro n
  induction n with
  | zero => intro i nx _ h; omega
  | succ n ih =>
    intro i nx hi2 hn h
    rw [X0_read_L25]
    by_cases c : Q.length ≤ i
    · rw [if_pos ((nI_leI (by omega) (by omega)).2 c)]
      exact tot_s ⟨rfl, hl, hK, fun j hj => h j hj (by omega)⟩
    · have hiq : i < Q.length := by omega
      rw [if_neg (fun hx => c ((nI_leI (by omega) (by omega)).1 hx)), if_neg (k100 (by omega)), kcl (by omega), hK i hiq, c_next hF hl hK _ hiq, Option.bind_some, if_neg (show ¬ ((nI i : Int32) < 0 ∨ 100 ≤ i) by simp (disch := omega) only [nI_add, pn_add, pn_addl, pn_mul, pn_cl, pn_nlt0, false_or, pn_ge, pn_le, Nat.add_zero, Nat.zero_add, ↓reduceIte, Option.bind_some, nI_leI, nI_ltI, nI_eq, pn_ne1, pn_1ne]; simp), nI_1]
      refine ih (i + 1) _ (by omega) (by omega) (fun j hj hj2 => ?_)
      by_cases cj : j = i
      · subst cj; rw [upd_s]
      · rw [upd_n cj]; exact h j hj (by omega)
theorem c_read {x5 : tX5} {x0 : tX0} (hF : 200 ≤ F) (hq : RQc Q x5) : Tot (X0_read F x0 x5) (fun y => RA Q y) := by
  obtain ⟨K0, n0, f0, g0, s0, z0, i0, h0⟩ := x0
  obtain ⟨rk, rs⟩ := x5
  obtain ⟨h1, h2, h3⟩ := hq
  have h1' : rs = nI Q.length := h1
  subst h1'
  have c100 : Int32.toNatClampNeg 100 = 100 := by decide
  rw [X0_read]
  refine tot_b (c_readL (F := F) hF h2 (fun i hi => ?_) F 0 n0 (by omega) (by omega) (fun j _ hj => by omega)) (fun y hy => ?_)
  · rw [cpy_at c100 (by omega)]; exact (h3 i hi).symm
  · obtain ⟨K0, n0, f0, g0, s0, z0, i0, h0⟩ := y
    exact tot_s hy
end Reqs
