/-! pure part: options that stand, numbers, loops -/
def Tot {α : Type} (x : Option α) (P : α → Prop) : Prop := ∃ a, x = some a ∧ P a
theorem tot_s {α : Type} {a : α} {P : α → Prop} (h : P a) : Tot (some a) P := ⟨a, rfl, h⟩
theorem tot_b {α β : Type} {x : Option α} {f : α → Option β} {Q : α → Prop} {P : β → Prop} (h : Tot x Q) (k : ∀ a, Q a → Tot (f a) P) : Tot (x.bind f) P := by
  obtain ⟨a, rfl, q⟩ := h; exact k a q
theorem tot_e {α β : Type} {x : Option α} {a : α} {f : α → Option β} {P : β → Prop} (h : x = some a) (k : Tot (f a) P) : Tot (x.bind f) P := by
  subst h; exact k
theorem tot_m {α : Type} {x : Option α} {P Q : α → Prop} (h : Tot x P) (k : ∀ a, P a → Q a) : Tot x Q := by
  obtain ⟨a, e, p⟩ := h; exact ⟨a, e, k a p⟩
theorem tot_g {α : Type} {c : Prop} [d : Decidable c] {y : Option α} {P : α → Prop} (h : ¬ c) (k : Tot y P) : Tot (if c then none else y) P := by
  rw [if_neg h]; exact k
theorem tot_i {α : Type} {c : Prop} [d : Decidable c] {x y : Option α} {P : α → Prop} (h1 : c → Tot x P) (h2 : ¬ c → Tot y P) : Tot (if c then x else y) P := by
  by_cases h : c
  · rw [if_pos h]; exact h1 h
  · rw [if_neg h]; exact h2 h
theorem tot_loop {σ ρ : Type} {P : ρ → Prop} (f : Nat → Nat → σ → Option ρ) (I : Nat → σ → Prop) (m : Nat)
    (he : ∀ n s, I m s → Tot (f (n + 1) m s) P)
    (hs : ∀ n i s, i < m → I i s → (∀ s', I (i + 1) s' → Tot (f n (i + 1) s') P) → Tot (f (n + 1) i s) P) :
    ∀ n i s, i ≤ m → m - i < n → I i s → Tot (f n i s) P := by
  intro n
  induction n with
  | zero => intro i s _ h _; omega
  | succ n ih =>
    intro i s hi hn hI
    by_cases c : i < m
    · exact hs n i s c hI (fun s' h' => ih (i + 1) s' (by omega) (by omega) h')
    · have e : i = m := by omega
      subst e; exact he n s hI
/-- a loop that walks down from i to b -/
theorem tot_down {σ ρ : Type} {P : ρ → Prop} (f : Nat → Nat → σ → Option ρ) (I : Nat → σ → Prop) (b : Nat)
    (he : ∀ n s, I b s → Tot (f (n + 1) b s) P)
    (hs : ∀ n i s, b ≤ i → I (i + 1) s → (∀ s', I i s' → Tot (f n i s') P) → Tot (f (n + 1) (i + 1) s) P) :
    ∀ n i s, b ≤ i → i - b < n → I i s → Tot (f n i s) P := by
  intro n
  induction n with
  | zero => intro i s _ h _; omega
  | succ n ih =>
    intro i s hi hn hI
    by_cases c : b < i
    · obtain ⟨j, rfl⟩ : ∃ j, i = j + 1 := ⟨i - 1, by omega⟩
      exact hs n j s (by omega) hI (fun s' h' => ih j s' (by omega) (by omega) h')
    · have e : i = b := by omega
      subst e; exact he n s hI
/-- a loop whose measure falls -/
theorem tot_mu {σ ρ : Type} {P : ρ → Prop} (f : Nat → σ → Option ρ) (I : σ → Prop) (μ : σ → Nat)
    (hs : ∀ n s, I s → (∀ s', I s' → μ s' < μ s → Tot (f n s') P) → Tot (f (n + 1) s) P) :
    ∀ n s, μ s < n → I s → Tot (f n s) P := by
  intro n
  induction n with
  | zero => intro s h _; omega
  | succ n ih => intro s hn hI; exact hs n s hI (fun s' h' hl => ih s' (by omega) h')
/-! numbers -/
theorem pn_0 : (0 : Int32) = nI 0 := rfl
theorem pn_add (a n : Nat) : nI a + (no_index (OfNat.ofNat n) : Int32) = nI (a + OfNat.ofNat n) := nI_add a n
theorem pn_addl (a n : Nat) : (no_index (OfNat.ofNat n) : Int32) + nI a = nI (OfNat.ofNat n + a) := nI_add n a
theorem pn_mul (a n : Nat) : (no_index (OfNat.ofNat n) : Int32) * nI a = nI (OfNat.ofNat n * a) := pk_mul n a
theorem pn_cl {n : Nat} (h : n < 2147483648) : (nI n).toNatClampNeg = n := nI_clamp h
theorem pn_nlt0 {n : Nat} (h : n < 2147483648) : (nI n < 0) = False := by simp [nI_pos h]
theorem pn_gd {n m N : Nat} (h : m < N) (h2 : n < 2147483648) : (nI n < 0 ∨ N ≤ m) = False := by
  simp [nI_pos h2]; exact h
theorem pn_gd0 {n m N : Nat} (h : m < N) (h2 : n < 2147483648) : (nI n < nI 0 ∨ N ≤ m) = False := pn_gd h h2
theorem pn_ne1 {n : Nat} (h : n < 2147483648) : (nI n = -1) = False := by
  simp only [eq_iff_iff, iff_false]
  intro e
  have h2 := nI_toInt h
  rw [e] at h2
  have : (-1 : Int32).toInt = -1 := by decide
  omega
theorem pn_1ne {n : Nat} (h : n < 2147483648) : (-1 = nI n) = False := by
  rw [eq_comm (a := (-1 : Int32))]; exact pn_ne1 h
theorem i32_lt {a b : Int32} : a < b ↔ a.toInt < b.toInt := Int32.lt_iff_toInt_lt
theorem i32_le {a b : Int32} : a ≤ b ↔ a.toInt ≤ b.toInt := Int32.le_iff_toInt_le
theorem i32_eq {a b : Int32} : a = b ↔ a.toInt = b.toInt := Int32.toInt_inj.symm
theorem i32_add {a b : Int32} (h1 : -2147483648 ≤ a.toInt + b.toInt) (h2 : a.toInt + b.toInt < 2147483648) : (a + b).toInt = a.toInt + b.toInt := by
  rw [Int32.toInt_add]; exact Int.bmod_eq_of_le (by omega) (by omega)
theorem i32_sub {a b : Int32} (h1 : -2147483648 ≤ a.toInt - b.toInt) (h2 : a.toInt - b.toInt < 2147483648) : (a - b).toInt = a.toInt - b.toInt := by
  rw [Int32.toInt_sub]; exact Int.bmod_eq_of_le (by omega) (by omega)
theorem i32_nI {x : Int32} (h : 0 ≤ x.toInt) : ∃ n : Nat, n < 2147483648 ∧ x = nI n ∧ x.toInt = n := by
  have h2 := Int32.toInt_lt x
  refine ⟨x.toInt.toNat, by omega, ?_, by omega⟩
  apply i32_eq.2
  rw [nI_toInt (by omega)]; omega
theorem upd_s {f : Nat → Int32} {k : Nat} {x : Int32} : upd f k x k = x := pk_us
theorem upd_n {f : Nat → Int32} {k j : Nat} {x : Int32} (h : j ≠ k) : upd f k x j = f j := pk_un h
theorem pn_ge {a b : Nat} (h : b < a) : (a ≤ b) = False := by simp; exact h
theorem pn_le {a b : Nat} (h : a ≤ b) : (a ≤ b) = True := by simp [h]
