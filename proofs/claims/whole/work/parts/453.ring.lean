/-! ring -/
def bt (m : Int32) (i : Nat) : Prop := m.toBitVec.getLsbD i = true
theorem bt_and1 (x : Int32) : x &&& 1 = 1 ↔ x.toBitVec.getLsbD 0 = true := by
  rw [← Int32.toBitVec_inj, Int32.toBitVec_and]
  constructor
  · intro h
    have := congrArg (fun b => b.getLsbD 0) h
    simpa using this
  · intro h
    apply BitVec.eq_of_getLsbD_eq
    intro j hj
    cases j with
    | zero => simp [h]
    | succ j => simp
theorem bt_test {m : Int32} {i : Nat} (hi : i < 8) : ((m >>> (nI i &&& 31)) &&& 1 = 1) ↔ bt m i := by
  rw [bt_and1, bt, Int32.toBitVec_shiftRight]
  have : i = 0 ∨ i = 1 ∨ i = 2 ∨ i = 3 ∨ i = 4 ∨ i = 5 ∨ i = 6 ∨ i = 7 := by omega
  rcases this with rfl | rfl | rfl | rfl | rfl | rfl | rfl | rfl
  · rw [show (nI 0 &&& 31 : Int32).toBitVec.smod 32 = 0#32 by decide +kernel]; simp [BitVec.sshiftRight', BitVec.getElem_sshiftRight]
  · rw [show (nI 1 &&& 31 : Int32).toBitVec.smod 32 = 1#32 by decide +kernel]; simp [BitVec.sshiftRight', BitVec.getElem_sshiftRight]
  · rw [show (nI 2 &&& 31 : Int32).toBitVec.smod 32 = 2#32 by decide +kernel]; simp [BitVec.sshiftRight', BitVec.getElem_sshiftRight]
  · rw [show (nI 3 &&& 31 : Int32).toBitVec.smod 32 = 3#32 by decide +kernel]; simp [BitVec.sshiftRight', BitVec.getElem_sshiftRight]
  · rw [show (nI 4 &&& 31 : Int32).toBitVec.smod 32 = 4#32 by decide +kernel]; simp [BitVec.sshiftRight', BitVec.getElem_sshiftRight]
  · rw [show (nI 5 &&& 31 : Int32).toBitVec.smod 32 = 5#32 by decide +kernel]; simp [BitVec.sshiftRight', BitVec.getElem_sshiftRight]
  · rw [show (nI 6 &&& 31 : Int32).toBitVec.smod 32 = 6#32 by decide +kernel]; simp [BitVec.sshiftRight', BitVec.getElem_sshiftRight]
  · rw [show (nI 7 &&& 31 : Int32).toBitVec.smod 32 = 7#32 by decide +kernel]; simp [BitVec.sshiftRight', BitVec.getElem_sshiftRight]
theorem bt_or {a b : Int32} {i : Nat} : bt (a ||| b) i ↔ bt a i ∨ bt b i := by
  simp [bt, Int32.toBitVec_or]
theorem bt_0 {i : Nat} : ¬ bt 0 i := by simp [bt]
theorem bt_one {i j : Nat} (hi : i < 8) (hj : j < 8) : bt (1 <<< (nI j &&& 31)) i ↔ i = j := by
  have : ∀ j < 8, ∀ i < 8, (1 <<< (nI j &&& 31) : Int32).toBitVec.getLsbD i = decide (i = j) := by decide +kernel
  rw [bt, this j hj i hi, decide_eq_true_eq]
theorem bt_andn {x v : Int32} {i : Nat} (hi : i < 8) : bt (x &&& (v ^^^ (-1))) i ↔ bt x i ∧ ¬ bt v i := by
  have h1 : (-1 : Int32).toBitVec.getLsbD i = true := by
    have : ∀ i < 8, (-1 : Int32).toBitVec.getLsbD i = true := by decide +kernel
    exact this i hi
  simp only [bt, Int32.toBitVec_and, Int32.toBitVec_xor, BitVec.getLsbD_and, BitVec.getLsbD_xor, h1, Bool.and_eq_true, Bool.xor_true]
  simp
section Ring
variable {F n : Nat} {W : Nat → Nat → Bool}
theorem c_woken {a0 a1 a2 a3 a4 a5 a6 a7 a8 : Nat → Int32} {tk ls dp : Int32} {a : Nat} (hn : n ≤ 8) (ha : a < n) (hW : ∀ j, j < n → X3_rouses F (a1 a) (a2 a) (a3 a) (a4 a) (a0 j) (a1 j) (a2 j) = some (bi (W a j))) :
    ∀ (g i : Nat) (m : Int32), i ≤ n → n - i < g → (∀ q, q < 8 → (bt m q ↔ q < i ∧ W a q = true)) → Tot (X8_wokenBy_L4 F g (nI a) m (nI i) (nI n, tk, ls, dp) (a0, a1, a2, a3, a4, a5, a6, a7, a8)) (fun r => ∀ q, q < 8 → (bt r q ↔ q < n ∧ W a q = true)) := by
  intro g
  induction g with
  | zero => intro i m _ hg; omega
  | succ g ih =>
    intro i m hi hg h
    rw [X8_wokenBy_L4]
    by_cases c : n ≤ i
    · rw [if_pos ((nI_leI (by omega) (by omega)).2 c)]
      have : i = n := by omega
      subst this
      exact tot_s h
    · have e8 : ¬ (8 : Int32) ≤ nI i := fun hx => by have := (nI_leI (a := 8) (by omega) (by omega)).1 hx; omega
      have k1 : ∀ j : Nat, j < 8 → ¬ ((nI j : Int32) < 0 ∨ 8 ≤ (nI j).toNatClampNeg) := fun j hj => by simp (disch := omega) only [nI_add, pn_add, pn_addl, pn_mul, pn_cl, pn_nlt0, false_or, pn_ge, pn_le, Nat.add_zero, Nat.zero_add, ↓reduceIte, Option.bind_some, nI_leI, nI_ltI, nI_eq, pn_ne1, pn_1ne]; simp
      have k2 : ∀ j : Nat, j < 8 → (nI j).toNatClampNeg = j := fun j hj => by simp (disch := omega) only [nI_add, pn_add, pn_addl, pn_mul, pn_cl, pn_nlt0, false_or, pn_ge, pn_le, Nat.add_zero, Nat.zero_add, ↓reduceIte, Option.bind_some, nI_leI, nI_ltI, nI_eq, pn_ne1, pn_1ne]
      rw [if_neg (fun hx => c ((nI_leI (by omega) (by omega)).1 hx)), if_neg e8, if_neg (k1 a (by omega)), if_neg (k1 i (by omega)), k2 a (by omega), k2 i (by omega), hW i (by omega), Option.bind_some, nI_1]
      cases hw : W a i with
      | false =>
        rw [if_pos (show bi false = 0 from rfl)]
        refine ih (i + 1) m (by omega) (by omega) (fun q hq => ?_)
        rw [h q hq]
        by_cases cq : q = i
        · subst cq; simp [hw]
        · constructor <;> intro ⟨x1, x2⟩ <;> exact ⟨by omega, x2⟩
      | true =>
        rw [if_neg (show ¬ bi true = 0 by decide)]
        refine ih (i + 1) _ (by omega) (by omega) (fun q hq => ?_)
        rw [bt_or, h q hq, bt_one hq (by omega)]
        by_cases cq : q = i
        · subst cq; simp [hw]
        · constructor
          · rintro (⟨x1, x2⟩ | x)
            · exact ⟨by omega, x2⟩
            · exact absurd x cq
          · intro ⟨x1, x2⟩; exact Or.inl ⟨by omega, x2⟩
theorem c_around {a0 a1 a2 a3 a4 a5 a6 a7 a8 : Nat → Int32} {tk ls dp v1 v3 v4 e : Int32} (hF : 100 ≤ F) (hn : n ≤ 8) (he : ∀ q, q < 8 → bt e q → q < n) (hW : ∀ a j, a < n → j < n → X3_rouses F (a1 a) (a2 a) (a3 a) (a4 a) (a0 j) (a1 j) (a2 j) = some (bi (W a j))) :
    ∀ (g i : Nat) (m : Int32), i ≤ 8 → 8 - i < g → (∀ q, q < 8 → (bt m q ↔ q < n ∧ ∃ a, a < i ∧ bt e a ∧ W a q = true)) → Tot (X8_stepsAround_L22 F g v1 e v3 v4 m (nI i) (nI n, tk, ls, dp) (a0, a1, a2, a3, a4, a5, a6, a7, a8)) (fun r => ∀ q, q < 8 → (bt r q ↔ q < n ∧ ∃ a, a < 8 ∧ bt e a ∧ W a q = true)) := by
  intro g
  induction g with
  | zero => intro i m _ hg; omega
  | succ g ih =>
    intro i m hi hg h
    rw [X8_stepsAround_L22]
    by_cases c : 8 ≤ i
    · rw [if_pos (show (8 : Int32) ≤ nI i from (nI_leI (a := 8) (by omega) (by omega)).2 c)]
      have : i = 8 := by omega
      subst this
      exact tot_s h
    · rw [if_neg (show ¬ (8 : Int32) ≤ nI i from fun hx => c ((nI_leI (a := 8) (by omega) (by omega)).1 hx)), nI_1]
      by_cases cb : bt e i
      · have hin := he i (by omega) cb
        rw [if_pos ((bt_test (by omega)).2 cb), X8_wokenBy]
        have hk := c_woken (F := F) (n := n) (W := W) (a := i) (a5 := a5) (a6 := a6) (a7 := a7) (a8 := a8) (tk := tk) (ls := ls) (dp := dp) hn hin (fun j hj => hW i j hin hj) F 0 0 (by omega) (by omega) (fun q hq => ⟨fun hx => absurd hx bt_0, fun hx => by omega⟩)
        refine tot_b (tot_b hk (fun r hr => tot_s hr)) (fun r hr => ?_)
        refine ih (i + 1) _ (by omega) (by omega) (fun q hq => ?_)
        rw [bt_or, h q hq, hr q hq]
        constructor
        · rintro (⟨x1, a, x2, x3, x4⟩ | ⟨x1, x2⟩)
          · exact ⟨x1, a, by omega, x3, x4⟩
          · exact ⟨x1, i, by omega, cb, x2⟩
        · rintro ⟨x1, a, x2, x3, x4⟩
          by_cases ca : a = i
          · subst ca; exact Or.inr ⟨x1, x4⟩
          · exact Or.inl ⟨x1, a, by omega, x3, x4⟩
      · rw [if_neg (fun hx => cb ((bt_test (by omega)).1 hx))]
        refine ih (i + 1) _ (by omega) (by omega) (fun q hq => ?_)
        rw [h q hq]
        constructor
        · rintro ⟨x1, a, x2, x3, x4⟩; exact ⟨x1, a, by omega, x3, x4⟩
        · rintro ⟨x1, a, x2, x3, x4⟩
          by_cases ca : a = i
          · subst ca; exact absurd x3 cb
          · exact ⟨x1, a, by omega, x3, x4⟩
theorem m_ring1 {w : Nat → Int32} {v1 v3 now : Int32} {a : Nat} (hn : n ≤ 8) (hwn : w 7 = nI n) (ha : a < n) (hW : ∀ j, j < n → X10_doesWake F (nI a) (nI j) w 0 = some (bi (W a j))) {m0 : Int32} :
    ∀ (g i : Nat) (m : Int32), i ≤ n → n - i < g → (∀ q, q < 8 → (bt m q ↔ bt m0 q ∨ (q < i ∧ bt now a ∧ W a q = true))) → Tot (X10_ring_L48 F g v1 now v3 m (nI a) (nI i) w 0) (fun r => ∀ q, q < 8 → (bt r q ↔ bt m0 q ∨ (q < n ∧ bt now a ∧ W a q = true))) := by
  have c7 : Int32.toNatClampNeg 7 = 7 := by decide
  intro g
  induction g with
  | zero => intro i m _ hg; omega
  | succ g ih =>
    intro i m hi hg h
    rw [X10_ring_L48, c7, hwn]
    by_cases c : n ≤ i
    · rw [if_pos ((nI_leI (by omega) (by omega)).2 c)]
      have : i = n := by omega
      subst this
      exact tot_s h
    · rw [if_neg (fun hx => c ((nI_leI (by omega) (by omega)).1 hx)), nI_1]
      have same : (∀ q, q < 8 → (bt m q ↔ bt m0 q ∨ (q < i ∧ bt now a ∧ W a q = true))) → ¬ (bt now a ∧ W a i = true) → ∀ q, q < 8 → (bt m q ↔ bt m0 q ∨ (q < i + 1 ∧ bt now a ∧ W a q = true)) := fun h hx q hq => by
        rw [h q hq]
        constructor
        · rintro (x | ⟨x1, x2⟩)
          · exact Or.inl x
          · exact Or.inr ⟨by omega, x2⟩
        · rintro (x | ⟨x1, x2⟩)
          · exact Or.inl x
          · by_cases cq : q = i
            · subst cq; exact absurd x2 hx
            · exact Or.inr ⟨by omega, x2⟩
      by_cases cb : bt now a
      · rw [if_pos ((bt_test (by omega)).2 cb), hW i (by omega), Option.bind_some]
        cases hw : W a i with
        | false =>
          rw [if_pos (show bi false = 0 from rfl)]
          exact ih (i + 1) m (by omega) (by omega) (same h (fun hx => by rw [hw] at hx; exact absurd hx.2 (by decide)))
        | true =>
          rw [if_neg (show ¬ bi true = 0 by decide)]
          refine ih (i + 1) _ (by omega) (by omega) (fun q hq => ?_)
          rw [bt_or, h q hq, bt_one hq (by omega)]
          constructor
          · rintro ((x | ⟨x1, x2⟩) | rfl)
            · exact Or.inl x
            · exact Or.inr ⟨by omega, x2⟩
            · exact Or.inr ⟨by omega, cb, hw⟩
          · rintro (x | ⟨x1, x2⟩)
            · exact Or.inl (Or.inl x)
            · by_cases cq : q = i
              · exact Or.inr cq
              · exact Or.inl (Or.inr ⟨by omega, x2⟩)
      · rw [if_neg (fun hx => cb ((bt_test (by omega)).1 hx))]
        exact ih (i + 1) m (by omega) (by omega) (same h (fun hx => cb hx.1))
theorem m_ring2 {w : Nat → Int32} {v1 v3 now : Int32} (hF : 100 ≤ F) (hn : n ≤ 8) (hwn : w 7 = nI n) (hW : ∀ a j, a < n → j < n → X10_doesWake F (nI a) (nI j) w 0 = some (bi (W a j))) :
    ∀ (g i : Nat) (m : Int32), i ≤ n → n - i < g → (∀ q, q < 8 → (bt m q ↔ q < n ∧ ∃ a, a < i ∧ bt now a ∧ W a q = true)) → Tot (X10_ring_L33 F g v1 now v3 m (nI i) w 0) (fun r => ∀ q, q < 8 → (bt r q ↔ q < n ∧ ∃ a, a < n ∧ bt now a ∧ W a q = true)) := by
  have c7 : Int32.toNatClampNeg 7 = 7 := by decide
  intro g
  induction g with
  | zero => intro i m _ hg; omega
  | succ g ih =>
    intro i m hi hg h
    rw [X10_ring_L33, c7, hwn]
    by_cases c : n ≤ i
    · rw [if_pos ((nI_leI (by omega) (by omega)).2 c)]
      have : i = n := by omega
      subst this
      exact tot_s h
    · rw [if_neg (fun hx => c ((nI_leI (by omega) (by omega)).1 hx)), nI_1]
      refine tot_b (m_ring1 (F := F) (W := W) (v1 := v1) (v3 := v3) (now := now) (m0 := m) hn hwn (show i < n by omega) (fun j hj => hW i j (by omega) hj) F 0 m (by omega) (by omega) (fun q hq => ⟨Or.inl, fun hx => hx.elim id (fun hx => by omega)⟩)) (fun r hr => ?_)
      refine ih (i + 1) r (by omega) (by omega) (fun q hq => ?_)
      rw [hr q hq, h q hq]
      constructor
      · rintro (⟨x1, a, x2, x3, x4⟩ | ⟨x1, x2, x3⟩)
        · exact ⟨x1, a, by omega, x3, x4⟩
        · exact ⟨x1, i, by omega, x2, x3⟩
      · rintro ⟨x1, a, x2, x3, x4⟩
        by_cases ca : a = i
        · subst ca; exact Or.inr ⟨x1, x3, x4⟩
        · exact Or.inl ⟨x1, a, by omega, x3, x4⟩
/-- where one is after so many steps -/
def nowS (W : Nat → Nat → Bool) (n l : Nat) : Nat → Nat → Prop
  | 0, x => x = l
  | s + 1, x => x < n ∧ ∃ a, a < n ∧ nowS W n l s a ∧ W a x = true
def upS (W : Nat → Nat → Bool) (n l s x : Nat) : Prop := ∃ t, 1 ≤ t ∧ t ≤ s ∧ nowS W n l t x
theorem nowS_lt {l : Nat} (hl : l < n) : ∀ s x, nowS W n l s x → x < n
  | 0, x, h => by rw [show x = l from h]; exact hl
  | s + 1, x, h => h.1
theorem edge_eq {l s x : Nat} (hn : n ≤ 8) (hl : l < n) : ((x < n ∧ ∃ a, a < 8 ∧ (nowS W n l s a ∧ ¬ upS W n l (s - 1) a) ∧ W a x = true) ∧ ¬ upS W n l s x) ↔ (nowS W n l (s + 1) x ∧ ¬ upS W n l s x) := by
  constructor
  · rintro ⟨⟨x1, a, x2, ⟨x3, x4⟩, x5⟩, x6⟩
    exact ⟨⟨x1, a, nowS_lt hl s a x3, x3, x5⟩, x6⟩
  · rintro ⟨⟨x1, a, x2, x3, x5⟩, x6⟩
    refine ⟨⟨x1, a, ?_, ⟨x3, ?_⟩, x5⟩, x6⟩
    · omega
    · rintro ⟨t, t1, t2, t3⟩
      exact x6 ⟨t + 1, by omega, by omega, x1, a, x2, t3, x5⟩
theorem ring_loop {a0 a1 a2 a3 a4 a5 a6 a7 a8 w : Nat → Int32} {tk ls dp th : Int32} {l : Nat} (hF : 100 ≤ F) (hn : n ≤ 8) (hl : l < n) (hwn : w 7 = nI n)
    (hWc : ∀ a j, a < n → j < n → X3_rouses F (a1 a) (a2 a) (a3 a) (a4 a) (a0 j) (a1 j) (a2 j) = some (bi (W a j)))
    (hWm : ∀ a j, a < n → j < n → X10_doesWake F (nI a) (nI j) w 0 = some (bi (W a j))) :
    ∀ (g s : Nat) (e sn now : Int32), s ≤ 8 → 8 - s < g → (∀ q, q < 8 → (bt now q ↔ nowS W n l s q)) → (∀ q, q < 8 → (bt sn q ↔ upS W n l s q)) → (∀ q, q < 8 → (bt e q ↔ nowS W n l s q ∧ ¬ upS W n l (s - 1) q)) → ¬ upS W n l s l →
    ∃ r, X8_stepsAround_L9 F g (nI l) e sn (nI (s + 1)) (nI n, tk, ls, dp) (a0, a1, a2, a3, a4, a5, a6, a7, a8) = some r ∧ X10_ring_L21 F g (nI l) now (nI (s + 1)) th w 0 = some (r, th) := by
  intro g
  induction g with
  | zero => intro s e sn now _ hg; omega
  | succ g ih =>
    intro s e sn now hs hg h1 h2 h3 h4
    rw [X8_stepsAround_L9, X10_ring_L21]
    by_cases c : 8 < s + 1
    · rw [if_pos (show (8 : Int32) < nI (s + 1) from (nI_ltI (a := 8) (by omega) (by omega)).2 c), if_pos (show (8 : Int32) < nI (s + 1) from (nI_ltI (a := 8) (by omega) (by omega)).2 c)]
      exact ⟨0, rfl, rfl⟩
    · rw [if_neg (show ¬ (8 : Int32) < nI (s + 1) from fun hx => c ((nI_ltI (a := 8) (by omega) (by omega)).1 hx)), if_neg (show ¬ (8 : Int32) < nI (s + 1) from fun hx => c ((nI_ltI (a := 8) (by omega) (by omega)).1 hx))]
      obtain ⟨x, hx, kx⟩ := c_around (F := F) (W := W) (v1 := nI l) (v3 := sn) (v4 := nI (s + 1)) (e := e) (a5 := a5) (a6 := a6) (a7 := a7) (a8 := a8) (tk := tk) (ls := ls) (dp := dp) hF hn (fun q hq hb => nowS_lt hl s q ((h3 q hq).1 hb).1) hWc F 0 0 (by omega) (by omega) (fun q hq => ⟨fun hx => absurd hx bt_0, fun ⟨_, a, hx, _⟩ => by omega⟩)
      obtain ⟨y, hy, ky⟩ := m_ring2 (F := F) (W := W) (v1 := nI l) (v3 := nI (s + 1)) (now := now) hF hn hwn hWm F 0 0 (by omega) (by omega) (fun q hq => ⟨fun hx => absurd hx bt_0, fun ⟨_, a, hx, _⟩ => by omega⟩)
      rw [show X8_stepsAround_L22 F F (nI l) e sn (nI (s + 1)) 0 0 (nI n, tk, ls, dp) (a0, a1, a2, a3, a4, a5, a6, a7, a8) = _ from hx, show X10_ring_L33 F F (nI l) now (nI (s + 1)) 0 0 w 0 = _ from hy, Option.bind_some, Option.bind_some]
      have ky' : ∀ q, q < 8 → (bt y q ↔ nowS W n l (s + 1) q) := fun q hq => by
        rw [ky q hq, nowS]
        constructor
        · rintro ⟨x1, a, x2, x3, x4⟩; exact ⟨x1, a, x2, (h1 a (by omega)).1 x3, x4⟩
        · rintro ⟨x1, a, x2, x3, x4⟩; exact ⟨x1, a, x2, (h1 a (by omega)).2 x3, x4⟩
      have kx' : ∀ q, q < 8 → (bt x q ↔ q < n ∧ ∃ a, a < 8 ∧ (nowS W n l s a ∧ ¬ upS W n l (s - 1) a) ∧ W a q = true) := fun q hq => by
        rw [kx q hq]
        constructor
        · rintro ⟨x1, a, x2, x3, x4⟩; exact ⟨x1, a, x2, (h3 a x2).1 x3, x4⟩
        · rintro ⟨x1, a, x2, x3, x4⟩; exact ⟨x1, a, x2, (h3 a x2).2 x3, x4⟩
      have kd : ∀ q, q < 8 → ((bt x q ∧ ¬ upS W n l s q) ↔ (nowS W n l (s + 1) q ∧ ¬ upS W n l s q)) := fun q hq => by
        rw [kx' q hq]; exact edge_eq hn hl
      have hl8 : l < 8 := by omega
      have hxy : bt x l ↔ bt y l := by
        have := kd l hl8
        rw [ky' l hl8]
        constructor
        · intro hb; exact (this.1 ⟨hb, h4⟩).1
        · intro hb; exact (this.2 ⟨hb, h4⟩).1
      by_cases cb : bt x l
      · rw [if_pos ((bt_test hl8).2 cb), if_pos ((bt_test hl8).2 (hxy.1 cb))]
        exact ⟨_, rfl, rfl⟩
      · rw [if_neg (fun hx => cb ((bt_test hl8).1 hx)), if_neg (fun hx => cb (hxy.2 ((bt_test hl8).1 hx))), nI_1]
        have up : ∀ q, upS W n l (s + 1) q ↔ upS W n l s q ∨ nowS W n l (s + 1) q := fun q => by
          constructor
          · rintro ⟨t, t1, t2, t3⟩
            by_cases ct : t = s + 1
            · subst ct; exact Or.inr t3
            · exact Or.inl ⟨t, t1, by omega, t3⟩
          · rintro (⟨t, t1, t2, t3⟩ | t3)
            · exact ⟨t, t1, by omega, t3⟩
            · exact ⟨s + 1, by omega, by omega, t3⟩
        refine ih (s + 1) _ _ y (by omega) (by omega) ky' (fun q hq => ?_) (fun q hq => ?_) ?_
        · rw [bt_or, h2 q hq, up q]
          have := kd q hq
          by_cases cu : upS W n l s q
          · simp [cu]
          · constructor
            · rintro (hb | hb)
              · exact Or.inl hb
              · exact Or.inr (this.1 ⟨hb, cu⟩).1
            · rintro (hb | hb)
              · exact Or.inl hb
              · exact Or.inr (this.2 ⟨hb, cu⟩).1
        · rw [bt_andn hq, h2 q hq]; exact kd q hq
        · rw [up l]
          rintro (hb | hb)
          · exact h4 hb
          · exact cb (hxy.2 ((ky' l hl8).2 hb))
theorem q_ring {H : Nat → Nat → Int32} {w : Nat → Int32} {x8 : tX8} {l8 : tL8} (hF : 2000 ≤ F) (h8 : x8.1 = nI n) (hc : LC n H l8) (hm : LM n H w 0) (hH : ∀ i, i < n → OkH (H i)) (p1 th : Int32) : ∃ r, X9_ring F p1 x8 l8 = some r ∧ X10_ring F p1 th w 0 = some (r, 0) := by
  obtain ⟨lc, tk, ls, dp⟩ := x8
  obtain ⟨a0, a1, a2, a3, a4, a5, a6, a7, a8⟩ := l8
  simp only at h8
  subst h8
  have hn := hc.1
  have hrd : ∀ i q, i < n → q < 9 → w (476 + 9 * i + q) = H i q := fun i q hi hq => by
    have := hm.2.2 i q hi hq
    rw [Nat.zero_add] at this; exact this
  have hwn : w 7 = nI n := by have := hm.2.1; rw [Nat.zero_add] at this; exact this
  have hWm : ∀ a j, a < n → j < n → X10_doesWake F (nI a) (nI j) w 0 = some (bi (decide (X10_doesWake F (nI a) (nI j) w 0 = some 1))) := fun i j hi hj => by
    obtain ⟨v, v01, e1, e2⟩ := wake_eq (F := F) hF (i := i) (j := j) (by omega) (by omega) (fun q hq => hrd i q hi hq) (fun q hq => hrd j q hj hq) (hH i hi) (hH j hj)
    rw [e2]
    rcases v01 with rfl | rfl <;> simp [bi]
  have hWc : ∀ a j, a < n → j < n → X3_rouses F (a1 a) (a2 a) (a3 a) (a4 a) (a0 j) (a1 j) (a2 j) = some (bi (decide (X10_doesWake F (nI a) (nI j) w 0 = some 1))) := fun i j hi hj => by
    obtain ⟨_, l1, l2, l3, l4, _⟩ := hc.2.1 i hi
    obtain ⟨k0, k1, k2, _⟩ := hc.2.1 j hj
    obtain ⟨v, v01, e1, e2⟩ := wake_eq (F := F) hF (i := i) (j := j) (by omega) (by omega) (fun q hq => hrd i q hi hq) (fun q hq => hrd j q hj hq) (hH i hi) (hH j hj)
    rw [l1, l2, l3, l4, k0, k1, k2, e1, e2]
    rcases v01 with rfl | rfl <;> simp [bi]
  rw [X9_ring, X10_ring, isHearerM hm]
  simp only [Option.bind_some]
  rcases rng_n p1 (n := n) (by omega) with ⟨i, hi, rfl, hr⟩ | ⟨hno, hr⟩
  · rw [listenerAt_in hn hi, hr, if_neg (show ¬ bi true = 0 by decide)]
    simp only [Option.bind_some]
    rw [X8_stepsAround]
    obtain ⟨r, r1, r2⟩ := ring_loop (F := F) (W := fun a j => decide (X10_doesWake F (nI a) (nI j) w 0 = some 1)) (tk := tk) (ls := ls) (dp := dp) (a5 := a5) (a6 := a6) (a7 := a7) (a8 := a8) (th := 0) (by omega) hn hi hwn hWc hWm F 0 (1 <<< (nI i &&& 31)) 0 (1 <<< (nI i &&& 31)) (by omega) (by omega)
      (fun q hq => bt_one hq (by omega)) (fun q hq => ⟨fun hx => absurd hx bt_0, fun ⟨t, t1, t2, _⟩ => by omega⟩)
      (fun q hq => ⟨fun hx => ⟨(bt_one hq (by omega)).1 hx, fun ⟨t, t1, t2, _⟩ => by omega⟩, fun hx => (bt_one hq (by omega)).2 hx.1⟩)
      (fun ⟨t, t1, t2, _⟩ => by omega)
    refine ⟨r, ?_, r2⟩
    rw [show X8_stepsAround_L9 F F (nI i) (1 <<< (nI i &&& 31)) 0 1 (nI n, tk, ls, dp) (a0, a1, a2, a3, a4, a5, a6, a7, a8) = some r from r1, Option.bind_some]
  · rw [listenerAt_out hn hno, hr, if_pos (show bi false = 0 from rfl)]
    exact ⟨-1, rfl, rfl⟩
end Ring
