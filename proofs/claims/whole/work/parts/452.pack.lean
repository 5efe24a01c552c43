/-! pack: what fits -/
theorem nI_sub {a b : Nat} (h : b ≤ a) (h2 : a < 2147483648) : nI a - nI b = nI (a - b) := by
  apply i32_eq.2
  rw [i32_sub (by rw [nI_toInt (by omega), nI_toInt (by omega)]; omega) (by rw [nI_toInt (by omega), nI_toInt (by omega)]; omega), nI_toInt (by omega), nI_toInt (by omega), nI_toInt (by omega)]
  omega
theorem nI_m1 {k : Nat} (h : 1 ≤ k) (h2 : k < 2147483648) : (nI k + -1 : Int32) = nI (k - 1) := by
  have em : (-1 : Int32).toInt = -1 := by decide
  apply i32_eq.2
  rw [i32_add (by rw [nI_toInt h2, em]; omega) (by rw [nI_toInt h2, em]; omega), nI_toInt h2, em, nI_toInt (by omega)]
  omega
theorem i32_nat {x : Int32} (h : 0 ≤ x.toInt) : x = nI x.toInt.toNat := by
  have h2 := Int32.toInt_lt x
  apply i32_eq.2
  rw [nI_toInt (by omega)]; omega
def wN (e : En) : Nat := (eW e).toInt.toNat
def cN (e : En) : Nat := (eC e).toInt.toNat
def stP (w c : Nat) (P : Nat → Nat) (k : Nat) : Nat := if k < w then P k else max (P k) (P (k - w) + c)
def pkS (P : Nat → Nat) (e : En) : Nat → Nat := if eP e = 0 then stP (wN e) (cN e) P else P
def pk (L : List En) : Nat → Nat := L.foldl pkS (fun _ => 0)
def frW : List En → Nat
  | [] => 0
  | e :: l => (if eP e = 0 then wN e else 0) + frW l
def frC : List En → Nat
  | [] => 0
  | e :: l => (if eP e = 0 then cN e else 0) + frC l
def pinC (e : En) : Int32 := if eP e = 0 then 0 else eC e
theorem stP_comm (a c b d : Nat) (P : Nat → Nat) : stP b d (stP a c P) = stP a c (stP b d P) := by
  funext k
  simp only [stP]
  by_cases h1 : k < a <;> by_cases h2 : k < b
  · simp only [h1, h2, if_true]
  · have h3 : k - b < a := by omega
    simp only [h1, h2, h3, if_true, if_false]
  · have h3 : k - a < b := by omega
    simp only [h1, h2, h3, if_true, if_false]
  · by_cases h3 : k < a + b
    · have h4 : k - b < a := by omega
      have h5 : k - a < b := by omega
      simp only [h1, h2, h4, h5, if_true, if_false]
      omega
    · have h4 : ¬ k - b < a := by omega
      have h5 : ¬ k - a < b := by omega
      have h6 : k - b - a = k - a - b := by omega
      simp only [h1, h2, h4, h5, h6, if_false]
      omega
theorem pkS_comm (P : Nat → Nat) (e f : En) : pkS (pkS P e) f = pkS (pkS P f) e := by
  simp only [pkS]
  by_cases h1 : eP e = 0 <;> by_cases h2 : eP f = 0 <;> simp only [h1, h2, if_true, if_false]
  exact stP_comm _ _ _ _ _
theorem pk_perm {L M : List En} (p : L.Perm M) : pk L = pk M := p.foldl_eq' (fun x _ y _ z => pkS_comm z x y) _
theorem pk_snoc (l : List En) (e : En) : pk (l ++ [e]) = pkS (pk l) e := by simp [pk, List.foldl_append]
theorem pk_take (L : List En) {i : Nat} (h : i < L.length) : pk (L.take (i + 1)) = pkS (pk (L.take i)) L[i] := by
  rw [← List.take_append_getElem h, pk_snoc]
theorem frW_snoc (l : List En) (e : En) : frW (l ++ [e]) = frW l + (if eP e = 0 then wN e else 0) := by
  induction l with
  | nil => simp [frW]
  | cons a l ih => simp only [List.cons_append, frW, ih]; omega
theorem frC_snoc (l : List En) (e : En) : frC (l ++ [e]) = frC l + (if eP e = 0 then cN e else 0) := by
  induction l with
  | nil => simp [frC]
  | cons a l ih => simp only [List.cons_append, frC, ih]; omega
theorem pk_all (L : List En) : (∀ k, pk L k ≤ frC L) ∧ ∀ k, frW L ≤ k → pk L k = frC L := by
  refine snoc_ind (P := fun L => (∀ k, pk L k ≤ frC L) ∧ ∀ k, frW L ≤ k → pk L k = frC L) ⟨fun k => Nat.le_refl 0, fun k _ => rfl⟩ (fun l e ⟨h1, h2⟩ => ?_) L
  rw [pk_snoc, frW_snoc, frC_snoc]
  by_cases c : eP e = 0
  · simp only [pkS, c, if_true, stP]
    refine ⟨fun k => ?_, fun k hk => ?_⟩
    · have := h1 k
      have := h1 (k - wN e)
      split <;> omega
    · have := h1 k
      have := h2 (k - wN e) (by omega)
      rw [if_neg (by omega)]; omega
  · simp only [pkS, c, if_false, Nat.add_zero]; exact ⟨h1, h2⟩
theorem frC_le (L : List En) (h : ∀ e ∈ L, cN e ≤ 999999) : frC L ≤ 999999 * L.length := by
  induction L with
  | nil => simp [frC]
  | cons a l ih =>
    have h1 := h a (by simp)
    have h2 := ih (fun e he => h e (by simp [he]))
    simp only [frC, List.length_cons]
    split <;> omega
theorem frC_perm {L M : List En} (p : L.Perm M) : frC L = frC M := by
  induction p with
  | nil => rfl
  | cons a _ ih => simp only [frC, ih]
  | swap a b l => simp only [frC]; omega
  | trans _ _ h1 h2 => rw [h1, h2]
theorem load_fr (L : List En) (h : ∀ e ∈ L, 0 ≤ (eW e).toInt) : sumBy eW L = sumBy pinA L + nI (frW L) := by
  induction L with
  | nil => rfl
  | cons a l ih =>
    have h1 := h a (by simp)
    simp only [sumBy, frW]
    rw [ih (fun e he => h e (by simp [he]))]
    by_cases c : eP a = 0
    · simp only [pinA, c, if_true]
      rw [← nI_add, wN, ← i32_nat h1]; ac_rfl
    · simp only [pinA, c, if_false, Nat.zero_add]; ac_rfl
theorem frW_le (L : List En) (h : ∀ e ∈ L, wN e ≤ 99) : frW L ≤ 99 * L.length := by
  induction L with
  | nil => simp [frW]
  | cons a l ih =>
    have h1 := h a (by simp)
    have h2 := ih (fun e he => h e (by simp [he]))
    simp only [frW, List.length_cons]
    split <;> omega
section Pack
variable {F : Nat} {w c fr : Nat} {P : Nat → Nat}
theorem one_c {packed : Nat → Int32} {k : Nat} (hP : ∀ q, P q + c < 2147483648) (hk : w ≤ k) (h1 : packed k = nI (P k)) (h2 : packed (k - w) = nI (P (k - w))) : (if packed k < packed (k - w) + nI c then packed (k - w) + nI c else packed k) = nI (stP w c P k) := by
  have b1 := hP k
  have b2 := hP (k - w)
  have e : stP w c P k = max (P k) (P (k - w) + c) := by rw [stP, if_neg (by omega)]
  rw [h1, h2, nI_add, e]
  by_cases hc : P k < P (k - w) + c
  · rw [if_pos ((nI_ltI (by omega) (by omega)).2 hc)]; congr 1; omega
  · rw [if_neg (fun hx => hc ((nI_ltI (by omega) (by omega)).1 hx))]; congr 1; omega
theorem c_one (hw : 1 ≤ w) (hf : fr ≤ 5000) (hP : ∀ q, P q + c < 2147483648) : ∀ (n k : Nat) (packed : Nat → Int32), k ≤ fr → k < n → (∀ q, q ≤ k → packed q = nI (P q)) → (∀ q, k < q → q ≤ fr → packed q = nI (stP w c P q)) →
    w < 2147483648 → Tot (X9_packOne_L3 F n (nI w) (nI c) (nI k) packed) (fun y => ∀ q, q ≤ fr → y q = nI (stP w c P q)) := by
  intro n
  induction n with
  | zero => intro k packed _ hn; omega
  | succ n ih =>
    intro k packed hk hn h1 h2 hw2
    rw [X9_packOne_L3]
    by_cases cw : k < w
    · rw [if_pos ((nI_ltI (by omega) (by omega)).2 cw)]
      refine tot_s (fun q hq => ?_)
      by_cases cq : k < q
      · exact h2 q cq hq
      · rw [h1 q (by omega), stP, if_pos (by omega)]
    · rw [if_neg (fun hx => cw ((nI_ltI (by omega) (by omega)).1 hx))]
      have g1 : ¬ ((nI k : Int32) < 0 ∨ 5001 ≤ (nI k).toNatClampNeg) := by simp (disch := omega) only [nI_add, pn_add, pn_addl, pn_mul, pn_cl, pn_nlt0, false_or, pn_ge, pn_le, Nat.add_zero, Nat.zero_add, ↓reduceIte, Option.bind_some, nI_leI, nI_ltI, nI_eq, pn_ne1, pn_1ne]; simp
      have g2 : ¬ ((nI k - nI w : Int32) < 0 ∨ 5001 ≤ (nI k - nI w).toNatClampNeg) := by rw [nI_sub (by omega) (by omega)]; simp (disch := omega) only [nI_add, pn_add, pn_addl, pn_mul, pn_cl, pn_nlt0, false_or, pn_ge, pn_le, Nat.add_zero, Nat.zero_add, ↓reduceIte, Option.bind_some, nI_leI, nI_ltI, nI_eq, pn_ne1, pn_1ne]; simp
      have g3 : (nI k - nI w).toNatClampNeg = k - w := by rw [nI_sub (by omega) (by omega)]; simp (disch := omega) only [nI_add, pn_add, pn_addl, pn_mul, pn_cl, pn_nlt0, false_or, pn_ge, pn_le, Nat.add_zero, Nat.zero_add, ↓reduceIte, Option.bind_some, nI_leI, nI_ltI, nI_eq, pn_ne1, pn_1ne]
      have g4 : (nI k).toNatClampNeg = k := by simp (disch := omega) only [nI_add, pn_add, pn_addl, pn_mul, pn_cl, pn_nlt0, false_or, pn_ge, pn_le, Nat.add_zero, Nat.zero_add, ↓reduceIte, Option.bind_some, nI_leI, nI_ltI, nI_eq, pn_ne1, pn_1ne]
      rw [if_neg g1, if_neg g2, if_neg g1, g3, g4, one_c hP (by omega) (h1 k (by omega)) (h1 (k - w) (by omega))]
      have g5 : (nI k + -1 : Int32) = nI (k - 1) := nI_m1 (by omega) (by omega)
      rw [g5]
      refine ih (k - 1) _ (by omega) (by omega) (fun q hq => ?_) (fun q hq hq2 => ?_) hw2
      · rw [upd_n (by omega)]; exact h1 q (by omega)
      · by_cases cq : q = k
        · subst cq; rw [upd_s]
        · rw [upd_n cq]; exact h2 q (by omega) hq2
theorem m_one {L : List En} {wr : Nat → Int32} {i : Nat} (hE : EM L wr 0) (hi : i < L.length) (hw : eW L[i] = nI w) (hc : eC L[i] = nI c) (v2 v3 : Int32) (hw1 : 1 ≤ w) (hf : fr ≤ 5000) (hP : ∀ q, P q + c < 2147483648) : ∀ (n k : Nat) (packed : Nat → Int32), k ≤ fr → k < n → (∀ q, q ≤ k → packed q = nI (P q)) → (∀ q, k < q → q ≤ fr → packed q = nI (stP w c P q)) →
    w < 2147483648 → Tot (X10_pack_L98 F n v2 v3 (nI i) (nI k) wr 0 packed) (fun y => ∀ q, q ≤ fr → y q = nI (stP w c P q)) := by
  intro n
  induction n with
  | zero => intro k packed _ hn; omega
  | succ n ih =>
    intro k packed hk hn h1 h2 hw2
    have o2 : X10_of F (nI i) 2 wr 0 = some (nI w) := by rw [show X10_of F (nI i) 2 wr 0 = _ from m_of2 hE hi, hw]
    have o3 : X10_of F (nI i) 3 wr 0 = some (nI c) := by rw [show X10_of F (nI i) 3 wr 0 = _ from m_of3 hE hi, hc]
    rw [X10_pack_L98, o2, Option.bind_some]
    by_cases cw : k < w
    · rw [if_pos ((nI_ltI (by omega) (by omega)).2 cw)]
      refine tot_s (fun q hq => ?_)
      by_cases cq : k < q
      · exact h2 q cq hq
      · rw [h1 q (by omega), stP, if_pos (by omega)]
    · rw [if_neg (fun hx => cw ((nI_ltI (by omega) (by omega)).1 hx)), Option.bind_some]
      have g1 : ¬ ((nI k : Int32) < 0 ∨ 5001 ≤ (nI k).toNatClampNeg) := by simp (disch := omega) only [nI_add, pn_add, pn_addl, pn_mul, pn_cl, pn_nlt0, false_or, pn_ge, pn_le, Nat.add_zero, Nat.zero_add, ↓reduceIte, Option.bind_some, nI_leI, nI_ltI, nI_eq, pn_ne1, pn_1ne]; simp
      have g2 : ¬ ((nI k - nI w : Int32) < 0 ∨ 5001 ≤ (nI k - nI w).toNatClampNeg) := by rw [nI_sub (by omega) (by omega)]; simp (disch := omega) only [nI_add, pn_add, pn_addl, pn_mul, pn_cl, pn_nlt0, false_or, pn_ge, pn_le, Nat.add_zero, Nat.zero_add, ↓reduceIte, Option.bind_some, nI_leI, nI_ltI, nI_eq, pn_ne1, pn_1ne]; simp
      have g3 : (nI k - nI w).toNatClampNeg = k - w := by rw [nI_sub (by omega) (by omega)]; simp (disch := omega) only [nI_add, pn_add, pn_addl, pn_mul, pn_cl, pn_nlt0, false_or, pn_ge, pn_le, Nat.add_zero, Nat.zero_add, ↓reduceIte, Option.bind_some, nI_leI, nI_ltI, nI_eq, pn_ne1, pn_1ne]
      have g4 : (nI k).toNatClampNeg = k := by simp (disch := omega) only [nI_add, pn_add, pn_addl, pn_mul, pn_cl, pn_nlt0, false_or, pn_ge, pn_le, Nat.add_zero, Nat.zero_add, ↓reduceIte, Option.bind_some, nI_leI, nI_ltI, nI_eq, pn_ne1, pn_1ne]
      have g5 : (nI k + -1 : Int32) = nI (k - 1) := nI_m1 (by omega) (by omega)
      have g6 : ¬ ((nI k : Int32) < 0 ∨ 5001 ≤ k) := by rw [g4] at g1; exact g1
      have key := one_c (c := c) hP (Nat.le_of_not_lt cw) (h1 k (by omega)) (h1 (k - w) (by omega))
      have next : Tot (X10_pack_L98 F n v2 v3 (nI i) (nI (k - 1)) wr 0 (upd packed k (nI (stP w c P k)))) (fun y => ∀ q, q ≤ fr → y q = nI (stP w c P q)) := by
        refine ih (k - 1) _ (by omega) (by omega) (fun q hq => ?_) (fun q hq hq2 => ?_) hw2
        · rw [upd_n (by omega)]; exact h1 q (by omega)
        · by_cases cq : q = k
          · subst cq; rw [upd_s]
          · rw [upd_n cq]; exact h2 q (by omega) hq2
      rw [if_neg g2, o3, Option.bind_some, if_neg g1, g3, g4, g5]
      by_cases cc : packed (k - w) + nI c ≤ packed k
      · rw [if_neg (fun hx => by rw [i32_le] at cc; rw [i32_lt] at hx; omega)] at key
        rw [if_pos cc, if_neg g6, if_neg g6, key]
        exact next
      · rw [if_pos (by rw [i32_le] at cc; rw [i32_lt]; omega)] at key
        rw [if_neg cc, if_neg g6, key]
        exact next
theorem c_fill {f : Nat} (hf : f ≤ 5001) : ∀ (n i : Nat) (a : Nat → Int32), i ≤ f → f - i < n → (∀ q, q < i → a q = 0) → Tot (J7_fill_fda19_L10 F n (nI f) 0 (nI i) a) (fun y => ∀ q, q < f → y q = 0) := by
  intro n
  induction n with
  | zero => intro i a _ hn; omega
  | succ n ih =>
    intro i a hi hn h
    rw [J7_fill_fda19_L10]
    by_cases c : f ≤ i
    · rw [if_pos ((nI_leI (by omega) (by omega)).2 c)]
      exact tot_s (fun q hq => h q (by omega))
    · have g1 : ¬ ((nI i : Int32) < 0 ∨ 5001 ≤ (nI i).toNatClampNeg) := by simp (disch := omega) only [nI_add, pn_add, pn_addl, pn_mul, pn_cl, pn_nlt0, false_or, pn_ge, pn_le, Nat.add_zero, Nat.zero_add, ↓reduceIte, Option.bind_some, nI_leI, nI_ltI, nI_eq, pn_ne1, pn_1ne]; simp
      have g4 : (nI i).toNatClampNeg = i := by simp (disch := omega) only [nI_add, pn_add, pn_addl, pn_mul, pn_cl, pn_nlt0, false_or, pn_ge, pn_le, Nat.add_zero, Nat.zero_add, ↓reduceIte, Option.bind_some, nI_leI, nI_ltI, nI_eq, pn_ne1, pn_1ne]
      rw [if_neg (fun hx => c ((nI_leI (by omega) (by omega)).1 hx)), if_neg g1, g4, nI_1]
      refine ih (i + 1) _ (by omega) (by omega) (fun q hq => ?_)
      by_cases cq : q = i
      · subst cq; rw [upd_s]
      · rw [upd_n cq]; exact h q (by omega)
theorem m_fill {f : Nat} (hf : f ≤ 5000) : ∀ (n i : Nat) (a : Nat → Int32), i ≤ f + 1 → f + 1 - i < n → (∀ q, q < i → a q = 0) → Tot (X10_pack_L36 F n (nI f) 0 (nI i) a) (fun y => ∀ q, q ≤ f → y q = 0) := by
  intro n
  induction n with
  | zero => intro i a _ hn; omega
  | succ n ih =>
    intro i a hi hn h
    rw [X10_pack_L36]
    by_cases c : f < i
    · rw [if_pos ((nI_ltI (by omega) (by omega)).2 c)]
      exact tot_s (fun q hq => h q (by omega))
    · have g1 : ¬ ((nI i : Int32) < 0 ∨ 5001 ≤ (nI i).toNatClampNeg) := by simp (disch := omega) only [nI_add, pn_add, pn_addl, pn_mul, pn_cl, pn_nlt0, false_or, pn_ge, pn_le, Nat.add_zero, Nat.zero_add, ↓reduceIte, Option.bind_some, nI_leI, nI_ltI, nI_eq, pn_ne1, pn_1ne]; simp
      have g4 : (nI i).toNatClampNeg = i := by simp (disch := omega) only [nI_add, pn_add, pn_addl, pn_mul, pn_cl, pn_nlt0, false_or, pn_ge, pn_le, Nat.add_zero, Nat.zero_add, ↓reduceIte, Option.bind_some, nI_leI, nI_ltI, nI_eq, pn_ne1, pn_1ne]
      rw [if_neg (fun hx => c ((nI_ltI (by omega) (by omega)).1 hx)), if_neg g1, g4, nI_1]
      refine ih (i + 1) _ (by omega) (by omega) (fun q hq => ?_)
      by_cases cq : q = i
      · subst cq; rw [upd_s]
      · rw [upd_n cq]; exact h q (by omega)
def OkP (L : List En) : Prop := L.length ≤ 60 ∧ ∀ e ∈ L, 1 ≤ (eW e).toInt ∧ (eW e).toInt ≤ 99 ∧ 1 ≤ (eC e).toInt ∧ (eC e).toInt ≤ 999999 ∧ (eP e = 0 ∨ eP e = 1)
theorem OkL.pk {u t : Int32} {L : List En} (h : OkL u t L) : OkP L := ⟨h.2.2.1, fun e he => by obtain ⟨_, _, a1, a2, a3, a4, _, _, a5, _⟩ := h.2.2.2 e he; exact ⟨a1, a2, a3, a4, a5⟩⟩
theorem OkP.bd {L : List En} (h : OkP L) (i q : Nat) : pk (L.take i) q ≤ 60000000 := by
  have h1 := (pk_all (L.take i)).1 q
  have h2 := frC_le (L.take i) (fun e he => by have := h.2 e (List.mem_of_mem_take he); simp only [cN]; omega)
  have h3 : (L.take i).length ≤ 60 := by rw [List.length_take]; have := h.1; omega
  omega
theorem c_pack {L : List En} {kK kV kW kC kL kT kP : Nat → Int32} {sz ld pl us ag hv : Int32} (hF : 6000 ≤ F) (hE : EC L kK kV kW kC kL kT kP sz) (ok : OkP L) (hf : fr ≤ 5000) : ∀ (n i : Nat) (packed : Nat → Int32), i ≤ L.length → L.length - i < n → (∀ q, q ≤ fr → packed q = nI (pk (L.take i) q)) →
    Tot (X9_pack_L69 F n (nI fr) (sumBy pinC (L.take i)) (nI i) packed (kK, kV, kW, kC, kL, kT, kP, sz, ld, pl, us, ag, hv)) (fun y => y.1 = sumBy pinC L ∧ ∀ q, q ≤ fr → y.2 q = nI (pk L q)) := by
  have l60 := ok.1
  have hsz := hE.1
  intro n
  induction n with
  | zero => intro i packed _ hn; omega
  | succ n ih =>
    intro i packed hi hn h
    rw [X9_pack_L69, hsz]
    by_cases c : L.length ≤ i
    · rw [if_pos ((nI_leI (by omega) (by omega)).2 c)]
      have : i = L.length := by omega
      subst this
      rw [List.take_length] at h ⊢
      exact tot_s ⟨rfl, h⟩
    · have hi2 : i < L.length := by omega
      have g1 : ¬ ((nI i : Int32) < 0 ∨ 60 ≤ (nI i).toNatClampNeg) := by simp (disch := omega) only [nI_add, pn_add, pn_addl, pn_mul, pn_cl, pn_nlt0, false_or, pn_ge, pn_le, Nat.add_zero, Nat.zero_add, ↓reduceIte, Option.bind_some, nI_leI, nI_ltI, nI_eq, pn_ne1, pn_1ne]; simp
      have g4 : (nI i).toNatClampNeg = i := by simp (disch := omega) only [nI_add, pn_add, pn_addl, pn_mul, pn_cl, pn_nlt0, false_or, pn_ge, pn_le, Nat.add_zero, Nat.zero_add, ↓reduceIte, Option.bind_some, nI_leI, nI_ltI, nI_eq, pn_ne1, pn_1ne]
      obtain ⟨a1, a2, a3, a4, a5⟩ := ok.2 L[i] (List.getElem_mem hi2)
      rw [if_neg (fun hx => c ((nI_leI (by omega) (by omega)).1 hx)), if_neg g1, if_neg g1, if_neg g1, g4, c_P hE hi2, c_W hE hi2, c_C hE hi2, nI_1]
      have e1 := sumBy_take pinC L hi2
      have e2 := pk_take L hi2
      rw [← hsz]
      by_cases cP : eP L[i] = 0
      · rw [if_pos cP, X9_packOne]
        have wn : eW L[i] = nI (wN L[i]) := i32_nat (by omega)
        have cn : eC L[i] = nI (cN L[i]) := i32_nat (by omega)
        rw [wn, cn]
        have hw1 : 1 ≤ wN L[i] ∧ wN L[i] ≤ 99 := by simp only [wN]; omega
        have hc1 : cN L[i] ≤ 999999 := by simp only [cN]; omega
        have := c_one (F := F) (w := wN L[i]) (c := cN L[i]) (fr := fr) (P := pk (L.take i)) hw1.1 hf (fun q => by have := ok.bd i q; omega) F fr packed (by omega) (by omega) h (fun q q1 q2 => by omega) (by omega)
        refine tot_b (tot_b this (fun y hy => tot_s hy)) (fun y hy => ?_)
        simp only [pinC, cP, if_true, Int32.add_zero] at e1
        rw [← e1]
        simp only [pkS, cP, if_true] at e2
        refine ih (i + 1) y (by omega) (by omega) (fun q hq => by rw [e2]; exact hy q hq)
      · rw [if_neg cP, if_neg (show ¬ ((nI i : Int32) < 0 ∨ 60 ≤ i) by rw [g4] at g1; exact g1)]
        simp only [pinC, cP, if_false] at e1
        simp only [pkS, cP, if_false] at e2
        rw [← e1]
        exact ih (i + 1) packed (by omega) (by omega) (fun q hq => by rw [e2]; exact h q hq)
theorem m_pack {L : List En} {wr : Nat → Int32} (hF : 6000 ≤ F) (hE : EM L wr 0) (ok : OkP L) (hf : fr ≤ 5000) : ∀ (n i : Nat) (packed : Nat → Int32), i ≤ L.length → L.length - i < n → (∀ q, q ≤ fr → packed q = nI (pk (L.take i) q)) →
    Tot (X10_pack_L59 F n (nI fr) (sumBy pinC (L.take i)) (nI i) wr 0 packed) (fun y => y.1 = sumBy pinC L ∧ ∀ q, q ≤ fr → y.2 q = nI (pk L q)) := by
  have l60 := ok.1
  have hsz := hE.1
  have c0 : Int32.toNatClampNeg 0 = 0 := by decide
  intro n
  induction n with
  | zero => intro i packed _ hn; omega
  | succ n ih =>
    intro i packed hi hn h
    rw [X10_pack_L59, c0, hsz]
    by_cases c : L.length ≤ i
    · rw [if_pos ((nI_leI (by omega) (by omega)).2 c)]
      have : i = L.length := by omega
      subst this
      rw [List.take_length] at h ⊢
      exact tot_s ⟨rfl, h⟩
    · have hi2 : i < L.length := by omega
      obtain ⟨a1, a2, a3, a4, a5⟩ := ok.2 L[i] (List.getElem_mem hi2)
      rw [if_neg (fun hx => c ((nI_leI (by omega) (by omega)).1 hx)), show X10_of F (nI i) 6 wr 0 = _ from m_of6 hE hi2, Option.bind_some, show X10_of F (nI i) 3 wr 0 = _ from m_of3 hE hi2, Option.bind_some, nI_1]
      have e1 := sumBy_take pinC L hi2
      have e2 := pk_take L hi2
      by_cases cP : eP L[i] = 0
      · rw [if_neg (by rw [cP]; decide)]
        have wn : eW L[i] = nI (wN L[i]) := i32_nat (by omega)
        have cn : eC L[i] = nI (cN L[i]) := i32_nat (by omega)
        have hw1 : 1 ≤ wN L[i] ∧ wN L[i] ≤ 99 := by simp only [wN]; omega
        have hc1 : cN L[i] ≤ 999999 := by simp only [cN]; omega
        have := m_one (F := F) (w := wN L[i]) (c := cN L[i]) (fr := fr) (P := pk (L.take i)) hE hi2 wn cn (nI fr) (sumBy pinC (L.take i)) hw1.1 hf (fun q => by have := ok.bd i q; omega) F fr packed (by omega) (by omega) h (fun q q1 q2 => by omega) (by omega)
        refine tot_b this (fun y hy => ?_)
        simp only [pinC, cP, if_true, Int32.add_zero] at e1
        rw [← e1]
        simp only [pkS, cP, if_true] at e2
        refine ih (i + 1) y (by omega) (by omega) (fun q hq => by rw [e2]; exact hy q hq)
      · rw [if_pos (a5.resolve_left cP)]
        simp only [pinC, cP, if_false] at e1
        simp only [pkS, cP, if_false] at e2
        rw [← e1]
        exact ih (i + 1) packed (by omega) (by omega) (fun q hq => by rw [e2]; exact h q hq)
end Pack
section SPack
variable {F N : Nat} {d : tWi} {x6 : tX6} {x1 : tX1} {i0 i1 : Option tWi} {w ik : Nat → Int32} {wm th : Int32} {pa pb : Nat → Int32}
theorem S_pack (hF : 6000 ≤ F) {V : WV} {xy xz : tX2} {b : Nat} (hc : RC V.2.2.1 x6 x1 xy xz) (hm : RM V.2.2.1 w 0) (ok : Ok b V.2.2.1) (p1 : Int32) :
    Tot (X9_pack F p1 pa x1) (fun y => Tot (X10_pack F p1 th w 0 pb) (fun z => y.1 = z.1 ∧ z.2.1 = 0)) := by
  have f100 : 100 ≤ F := by omega
  obtain ⟨hap, got, cap, wy, bal, wbt⟩ := x6
  obtain ⟨kK, kV, kW, kC, kL, kT, kP, sz, ld, pl, us, ag, hvv⟩ := x1
  obtain ⟨⟨L, pL, hE⟩, hld, hpl, _⟩ := hc
  have hpm := hm.pinned f100 (-1)
  obtain ⟨⟨M, pM, hEM⟩, _⟩ := hm
  have okL := ok.1.perm pL
  have okM := ok.1.perm pM
  have hpin : sumBy (pinW (-1)) V.2.2.1.1 = sumBy pinA V.2.2.1.1 := pin_none ok.1.PB (fun e he hx => by
    have := (ok.1.2.2.2 e he).1
    rw [hx] at this; exact absurd this (by decide))
  rw [X9_pack, isCap_eq, Option.bind_some, X10_pack, show X10_pinned F (-1) w 0 = _ from hpm, Option.bind_some, show X10_isIn F p1.toInt64 0 5000 = some (bi (isCapB p1)) from isIn_eq (F := F) p1 0 5000, Option.bind_some, hpin]
  cases hcc : isCapB p1 with
  | false =>
    rw [if_pos (show bi false = 0 from rfl), if_pos (show bi false = 0 from rfl)]
    exact tot_s (tot_s ⟨rfl, rfl⟩)
  | true =>
    rw [if_neg (show ¬ bi true = 0 by decide), if_neg (show ¬ bi true = 0 by decide)]
    have hr : (0 : Int32).toInt ≤ p1.toInt ∧ p1.toInt ≤ (5000 : Int32).toInt := rng_of hcc
    have e0 : (0 : Int32).toInt = 0 := by decide
    have e5 : (5000 : Int32).toInt = 5000 := by decide
    have hp1 : p1 = nI p1.toInt.toNat := i32_nat (by omega)
    generalize hcn : p1.toInt.toNat = c at hp1
    have c5 : c ≤ 5000 := by omega
    subst hp1
    have l60 := ok.1.2.2.1
    have bp := sum_bd (f := pinA) (L := V.2.2.1.1) (fun e he => by
      obtain ⟨_, _, a1, a2, _⟩ := ok.1.2.2.2 e he
      simp only [pinA]; split
      · decide
      · omega) (by omega)
    have hpn : sumBy pinA V.2.2.1.1 = nI (sumBy pinA V.2.2.1.1).toInt.toNat := i32_nat (by omega)
    generalize hpq : (sumBy pinA V.2.2.1.1).toInt.toNat = p at hpn
    have p6 : p ≤ 6000 := by omega
    have hT : frW V.2.2.1.1 ≤ 6000 := by
      have := frW_le V.2.2.1.1 (fun e he => by have := ok.1.2.2.2 e he; simp only [wN]; obtain ⟨_, _, a1, a2, _⟩ := this; omega)
      omega
    have hlf : sumBy eW V.2.2.1.1 = nI (p + frW V.2.2.1.1) := by
      rw [load_fr V.2.2.1.1 (fun e he => by have := (ok.1.2.2.2 e he).2.2.1; omega), hpn, nI_add]
    have hld' : ld = nI (p + frW V.2.2.1.1) := by rw [hld, hlf]
    have hpl' : pl = nI p := by rw [hpl, hpn]
    subst hld'; subst hpl'
    rw [hpn]
    by_cases c1 : p ≤ c
    · rw [if_pos ((nI_leI (by omega) (by omega)).2 c1)]
      have hfr : ((if nI (p + frW V.2.2.1.1) < nI c then nI (p + frW V.2.2.1.1) else nI c) - nI p : Int32) = nI (min c (p + frW V.2.2.1.1) - p) := by
        by_cases c2 : p + frW V.2.2.1.1 < c
        · rw [if_pos ((nI_ltI (by omega) (by omega)).2 c2), nI_sub (by omega) (by omega)]; congr 1; omega
        · rw [if_neg (fun hx => c2 ((nI_ltI (by omega) (by omega)).1 hx)), nI_sub (by omega) (by omega)]; congr 1; omega
      rw [hfr, nI_sub c1 (by omega)]
      generalize hg : min c (p + frW V.2.2.1.1) - p = fr
      have hfr5 : fr ≤ 5000 := by omega
      have hcap : isCapB (nI fr) = true := by
        simp only [isCapB, Bool.and_eq_true, decide_eq_true_eq, i32_le, e0, e5]
        rw [nI_toInt (by omega)]; omega
      rw [isCap_eq, hcap, Option.bind_some, if_neg (show ¬ bi true = 0 by decide), if_pos (show (0 : Int32) ≤ nI (c - p) by rw [i32_le, nI_toInt (by omega), e0]; omega)]
      have hfill : Tot (J7_fill_fda19 F 0 (nI fr + 1) 0 pa) (fun y => ∀ q, q < fr + 1 → y q = 0) := by
        rw [J7_fill_fda19, J7_rangeCheck_23922, nI_1]
        have q1 : (0 : Int32) ≤ nI (fr + 1) := by rw [i32_le, nI_toInt (by omega), e0]; omega
        have q2 : nI (fr + 1) ≤ (5001 : Int32) := by
          have e51 : (5001 : Int32).toInt = 5001 := by decide
          rw [i32_le, nI_toInt (by omega), e51]; omega
        rw [if_pos q1, if_pos (by decide), if_pos q2, Option.bind_some]
        exact tot_b (c_fill (F := F) (f := fr + 1) (by omega) F 0 pa (by omega) (by omega) (fun q hq => by omega)) (fun y hy => tot_s hy)
      refine tot_b hfill (fun y hy => ?_)
      have h1 := c_pack (F := F) (fr := fr) (ld := nI (p + frW V.2.2.1.1)) (pl := nI p) (us := us) (ag := ag) (hv := hvv) hF hE okL.pk hfr5 F 0 y (by omega) (by have := okL.2.2.1; omega) (fun q hq => by rw [hy q (by omega)]; rfl)
      refine tot_b h1 (fun x ⟨g1, g2⟩ => ?_)
      obtain ⟨x1', x2'⟩ := x
      have k1 : ∀ j : Nat, j ≤ 5000 → ¬ ((nI j : Int32) < 0 ∨ 5001 ≤ (nI j).toNatClampNeg) := fun j hj => by simp (disch := omega) only [nI_add, pn_add, pn_addl, pn_mul, pn_cl, pn_nlt0, false_or, pn_ge, pn_le, Nat.add_zero, Nat.zero_add, ↓reduceIte, Option.bind_some, nI_leI, nI_ltI, nI_eq, pn_ne1, pn_1ne]; simp
      have k2 : ∀ j : Nat, j ≤ 5000 → (nI j).toNatClampNeg = j := fun j hj => by simp (disch := omega) only [nI_add, pn_add, pn_addl, pn_mul, pn_cl, pn_nlt0, false_or, pn_ge, pn_le, Nat.add_zero, Nat.zero_add, ↓reduceIte, Option.bind_some, nI_leI, nI_ltI, nI_eq, pn_ne1, pn_1ne]
      dsimp only at g1 g2 ⊢
      rw [if_neg (k1 fr hfr5), k2 fr hfr5]
      refine tot_s ?_
      refine tot_b (m_fill (F := F) (f := c - p) (by omega) F 0 pb (by omega) (by omega) (fun q hq => by omega)) (fun y hy => ?_)
      have h2 := m_pack (F := F) (fr := c - p) hF hEM okM.pk (by omega) F 0 y (by omega) (by have := okM.2.2.1; omega) (fun q hq => by rw [hy q hq]; rfl)
      refine tot_b h2 (fun x ⟨g3, g4⟩ => ?_)
      obtain ⟨x3, x4⟩ := x
      dsimp only at g3 g4 ⊢
      rw [if_neg (k1 (c - p) (by omega)), k2 (c - p) (by omega)]
      refine tot_s ⟨?_, rfl⟩
      show x1' + x2' fr = x3 + x4 (c - p)
      rw [g1, g3, g2 fr (Nat.le_refl _), g4 (c - p) (Nat.le_refl _), sumBy_perm pinC (pL.trans pM.symm), pk_perm pL, pk_perm pM]
      by_cases c2 : p + frW V.2.2.1.1 ≤ c
      · rw [(pk_all V.2.2.1.1).2 fr (by omega), (pk_all V.2.2.1.1).2 (c - p) (by omega)]
      · have : fr = c - p := by omega
        rw [this]
    · rw [if_neg (fun hx => c1 ((nI_leI (by omega) (by omega)).1 hx)), if_neg (fun hx => by
        rw [i32_le, i32_sub (by rw [nI_toInt (by omega), nI_toInt (by omega)]; omega) (by rw [nI_toInt (by omega), nI_toInt (by omega)]; omega), nI_toInt (by omega), nI_toInt (by omega), e0] at hx
        omega)]
      exact tot_s (tot_s ⟨rfl, rfl⟩)
end SPack
