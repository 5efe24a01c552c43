/-! buckets: both sides -/
theorem abv_ge {v : Int32} (hv : -1 ≤ v.toInt) (L : List En) : -1 ≤ (abv v L).toInt := by
  have em : (-1 : Int32).toInt = -1 := by decide
  rcases abv_spec hv L with ⟨a, _⟩ | ⟨a, _⟩
  · rw [a]; omega
  · omega
theorem abv_nn {v : Int32} (hv : -1 ≤ v.toInt) (L : List En) : abv v L = -1 ∨ 0 ≤ (abv v L).toInt := by
  rcases abv_spec hv L with ⟨a, _⟩ | ⟨a, _⟩
  · exact Or.inl a
  · right; omega
theorem unl_le {L : List En} : ∀ (c : Nat) (v : Int32), -1 ≤ v.toInt → (v = -1 ∧ unl L c v = 0) ∨ unl L c v ≤ cabv L v + 1 := by
  have em : (-1 : Int32).toInt = -1 := by decide
  intro c
  induction c with
  | zero => intro v _; right; simp [unl]
  | succ c ih =>
    intro v hv
    by_cases c1 : v = -1
    · left; refine ⟨c1, ?_⟩; rw [unl, if_pos c1]
    · right
      rw [unl, if_neg c1]
      rcases ih (abv v L) (abv_ge hv L) with ⟨h1, h2⟩ | h
      · rw [h2]; omega
      · by_cases c2 : abv v L = -1
        · rw [c2]; cases c <;> simp [unl]
        · have := cabv_lt hv c2; omega
/-- how many unlike counts there are -/
def unlN (L : List En) : Nat := unl L (L.length + 1) (abv (-1) L)
theorem cabv_m1 {L : List En} : abv (-1) L = -1 ∨ (0 ≤ (abv (-1) L).toInt ∧ cabv L (abv (-1) L) < L.length) := by
  have em : (-1 : Int32).toInt = -1 := by decide
  by_cases c : abv (-1) L = -1
  · exact Or.inl c
  · right
    have h1 := cabv_lt (L := L) (v := -1) (by omega) c
    have h2 : cabv L (-1) ≤ L.length := List.countP_le_length
    rcases abv_nn (v := -1) (by omega) L with h | h
    · exact absurd h c
    · exact ⟨h, by omega⟩
theorem unlN_le {L : List En} : unlN L ≤ L.length := by
  have em : (-1 : Int32).toInt = -1 := by decide
  rcases cabv_m1 (L := L) with h | ⟨h1, h2⟩
  · rw [unlN, h, unl, if_pos rfl]; omega
  · rcases unl_le (L := L) (L.length + 1) (abv (-1) L) (by omega) with ⟨_, h⟩ | h
    · rw [unlN, h]; omega
    · rw [unlN]; omega
section BC
variable {F : Nat} {L : List En} {kK kV kW kC kL kT kP : Nat → Int32} {sz : Int32}
theorem c_countAbove (h : EC L kK kV kW kC kL kT kP sz) (hF : 100 ≤ F) (v : Int32) : X1_countAbove F v kC sz = some (abv v L) := by
  obtain ⟨rfl, h1, h3⟩ := id h
  rw [X1_countAbove, show X1_countAbove_L4 F F v (-1) 0 kC (nI L.length) = some (abv v L) from fold_loop (fun n b i => X1_countAbove_L4 F n v b (nI i) kC (nI L.length)) (abvF v) L id (-1) ?_ ?_ F (by omega)]
  · rfl
  · intro n b
    rw [X1_countAbove_L4]
    simp (disch := omega) only [nI_add, pn_add, pn_addl, pn_mul, pn_cl, pn_nlt0, false_or, pn_ge, pn_le, Nat.add_zero, Nat.zero_add, ↓reduceIte, Option.bind_some, nI_leI, nI_ltI, nI_eq, pn_ne1, pn_1ne, Nat.le_refl, id]
  · intro n b i hi
    rw [X1_countAbove_L4]
    simp (disch := omega) only [nI_add, pn_add, pn_addl, pn_mul, pn_cl, pn_nlt0, false_or, pn_ge, pn_le, Nat.add_zero, Nat.zero_add, ↓reduceIte, Option.bind_some, nI_leI, nI_ltI, nI_eq, pn_ne1, pn_1ne, c_C h hi, abvF]
    split
    · rfl
    · split
      · rfl
      · split <;> rfl
theorem c_unlike (h : EC L kK kV kW kC kL kT kP sz) (hF : 100 ≤ F) (hC : ∀ e ∈ L, 1 ≤ eC e) : X1_unlikeCounts F kC sz = some (nI (unlN L)) := by
  have em : (-1 : Int32).toInt = -1 := by decide
  obtain ⟨rfl, h1, h3⟩ := id h
  have key : ∀ (n i a : Nat) (v : Int32), i ≤ L.length → L.length - i < n → X1_unlikeCounts_L10 F n (nI a) v (nI i) kC (nI L.length) = some (nI (a + unl L (L.length - i) v)) := by
    intro n
    induction n with
    | zero => intro i a v _ hn; omega
    | succ n ih =>
      intro i a v hi hn
      rw [X1_unlikeCounts_L10, c_countAbove h hF]
      by_cases c : L.length ≤ i
      · rw [if_pos (by exact nI_le c (by omega)), show L.length - i = 0 by omega]; rfl
      · rw [if_neg (by exact nI_ge (by omega) (by omega)), show L.length - i = (L.length - (i + 1)) + 1 by omega, unl]
        by_cases c2 : v = -1
        · rw [if_pos c2, if_pos c2]; rfl
        · rw [if_neg c2, if_neg c2]
          simp only [Option.bind_some]
          rw [nI_1, nI_1, ih (i + 1) (a + 1) _ (by omega) (by omega)]
          congr 2; omega
  rw [X1_unlikeCounts, c_countAbove h hF, abv_0 hC]
  simp only [Option.bind_some]
  rw [show X1_unlikeCounts_L10 F F 0 (abv (-1) L) 0 kC (nI L.length) = _ from key F 0 0 (abv (-1) L) (by omega) (by omega)]
  simp only [Option.bind_some]
  congr 2
  rw [Nat.zero_add, unlN, Nat.sub_zero]
  refine unl_big _ _ _ ?_
  rcases cabv_m1 (L := L) with hh | ⟨g1, g2⟩
  · exact Or.inl hh
  · exact Or.inr ⟨g1, g2, by omega⟩
theorem c_countAt (h : EC L kK kV kW kC kL kT kP sz) (hF : 100 ≤ F) (hC : ∀ e ∈ L, 1 ≤ eC e) {k : Nat} (hk : k < L.length) : X1_countAt F (nI k) kC sz = some (chn L k (abv (-1) L)) := by
  obtain ⟨rfl, h1, h3⟩ := id h
  have key : ∀ (n i : Nat) (v : Int32), i ≤ k → k - i < n → X1_countAt_L22 F n (nI k) v (nI i) kC (nI L.length) = some (chn L (k - i) v) := by
    intro n
    induction n with
    | zero => intro i v _ hn; omega
    | succ n ih =>
      intro i v hi hn
      rw [X1_countAt_L22, c_countAbove h hF]
      by_cases c : k ≤ i
      · rw [if_pos (by exact nI_le c (by omega)), show k - i = 0 by omega]; rfl
      · rw [if_neg (by exact nI_ge (by omega) (by omega)), show k - i = (k - (i + 1)) + 1 by omega, chn]
        by_cases c2 : v = -1
        · rw [if_pos c2, if_pos c2, c2]
        · rw [if_neg c2, if_neg c2]
          simp only [Option.bind_some]
          rw [nI_1, ih (i + 1) _ (by omega) (by omega)]
  rw [X1_countAt, if_neg (nI_pos (by omega)), if_pos (by exact nI_lt hk (by omega)), c_countAbove h hF, abv_0 hC]
  simp only [Option.bind_some]
  rw [show X1_countAt_L22 F F (nI k) (abv (-1) L) 0 kC (nI L.length) = _ from key F 0 (abv (-1) L) (by omega) (by omega)]
  rfl
end BC
section BM
variable {F : Nat} {L : List En} {w : Nat → Int32}
theorem m_countAbove (h : EM L w 0) (hF : 100 ≤ F) (v : Int32) : X10_countAbove F v w 0 = some (abv v L) := by
  obtain ⟨h0, h1, h2, h3⟩ := id h
  have h0' : w (0 : Int32).toNatClampNeg = nI L.length := h0
  rw [X10_countAbove, show X10_countAbove_L4 F F v (-1) 0 w 0 = some (abv v L) from fold_loop (fun n b i => X10_countAbove_L4 F n v b (nI i) w 0) (abvF v) L id (-1) ?_ ?_ F (by omega)]
  · rfl
  · intro n b
    rw [X10_countAbove_L4, h0']
    simp (disch := omega) only [nI_add, pn_add, pn_addl, pn_mul, pn_cl, pn_nlt0, false_or, pn_ge, pn_le, Nat.add_zero, Nat.zero_add, ↓reduceIte, Option.bind_some, nI_leI, nI_ltI, nI_eq, pn_ne1, pn_1ne, Nat.le_refl, id]
  · intro n b i hi
    have o3 : X10_of F (nI i) 3 w 0 = some (eC L[i]) := m_of3 h hi
    rw [X10_countAbove_L4, h0', o3]
    simp (disch := omega) only [nI_add, pn_add, pn_addl, pn_mul, pn_cl, pn_nlt0, false_or, pn_ge, pn_le, Nat.add_zero, Nat.zero_add, ↓reduceIte, Option.bind_some, nI_leI, nI_ltI, nI_eq, pn_ne1, pn_1ne, abvF]
    split
    · rfl
    · split
      · rfl
      · split <;> rfl
theorem m_unlike (h : EM L w 0) (hF : 1000 ≤ F) : X10_unlike F w 0 = some (nI (unlN L)) := by
  have em : (-1 : Int32).toInt = -1 := by decide
  have h60 := h.2.1
  have key : ∀ (n a : Nat) (v : Int32), (v = -1 ∨ (0 ≤ v.toInt ∧ cabv L v + 1 < n)) → 0 < n → X10_unlike_L8 F n (nI a) v w 0 = some (nI (a + unl L n v)) := by
    intro n
    induction n with
    | zero => intro a v _ hn; omega
    | succ n ih =>
      intro a v hv hn
      rw [X10_unlike_L8, m_countAbove h (by omega), unl]
      rcases hv with rfl | ⟨v1, v2⟩
      · rw [if_pos rfl, if_pos rfl]; rfl
      · have hne : ¬ v = -1 := by intro e; rw [e] at v1; omega
        rw [if_neg hne, if_neg hne]
        simp only [Option.bind_some]
        rw [nI_1, ih (a + 1) _ ?_ (by omega)]
        · congr 2; omega
        · rcases abv_nn (v := v) (by omega) L with hh | hh
          · exact Or.inl hh
          · have := cabv_lt (L := L) (v := v) (by omega) (by intro e; rw [e] at hh; omega)
            exact Or.inr ⟨hh, by omega⟩
  have hc := cabv_m1 (L := L)
  rw [X10_unlike, m_countAbove h (by omega)]
  simp only [Option.bind_some]
  rw [show X10_unlike_L8 F F 0 (abv (-1) L) w 0 = _ from key F 0 (abv (-1) L) (by
    rcases hc with hh | ⟨g1, g2⟩
    · exact Or.inl hh
    · exact Or.inr ⟨g1, by omega⟩) (by omega)]
  simp only [Option.bind_some]
  congr 2
  rw [Nat.zero_add, unlN]
  refine unl_big _ _ _ ?_
  rcases hc with hh | ⟨g1, g2⟩
  · exact Or.inl hh
  · exact Or.inr ⟨g1, by omega, by omega⟩
theorem m_bucketL (h : EM L w 0) (hF : 100 ≤ F) (p2 : Int32) {k : Nat} (hk : k < 1000) : ∀ (n i : Nat) (v : Int32), i ≤ k → k - i < n → chn L (k - i) v ≠ -1 → X10_bucket_L54 F n (nI k) p2 v (nI i) w 0 = some (chn L (k - i) v) := by
  intro n
  induction n with
  | zero => intro i v _ hn; omega
  | succ n ih =>
    intro i v hi hn hne
    rw [X10_bucket_L54, m_countAbove h hF]
    by_cases c : k ≤ i
    · rw [if_pos (by exact nI_le c (by omega)), show k - i = 0 by omega]; rfl
    · rw [if_neg (by exact nI_ge (by omega) (by omega))]
      rw [show k - i = (k - (i + 1)) + 1 by omega, chn] at hne ⊢
      have c2 : ¬ v = -1 := by intro e; rw [if_pos e] at hne; exact hne rfl
      rw [if_neg c2] at hne ⊢
      simp only [Option.bind_some]
      rw [nI_1, ih (i + 1) _ (by omega) (by omega) hne]
theorem m_ofCount (h : EM L w 0) (hF : 100 ≤ F) (c p2 : Int32) : X10_ofCount F c p2 w 0 = some (if p2 = 1 then c else if p2 = 0 then sumBy (cnt1 c) L else sumBy (cntW c) L) := by
  obtain ⟨h0, h1, h2, h3⟩ := id h
  have h0' : w (0 : Int32).toNatClampNeg = nI L.length := h0
  rw [X10_ofCount, show X10_ofCount_L5 F F c p2 0 0 w 0 = some (sumBy (fun e => if p2 = 0 then cnt1 c e else cntW c e) L) from sum_loop (fun n v i => X10_ofCount_L5 F n c p2 v (nI i) w 0) (fun e => if p2 = 0 then cnt1 c e else cntW c e) L id ?_ ?_ F (by omega)]
  · simp only [Option.bind_some]
    by_cases c1 : p2 = 1
    · rw [if_pos c1, if_pos c1]
    · rw [if_neg c1, if_neg c1]
      by_cases c0 : p2 = 0
      · simp only [c0, if_true]
      · simp only [c0, if_false]
  · intro n v
    rw [X10_ofCount_L5, h0']
    simp (disch := omega) only [nI_add, pn_add, pn_addl, pn_mul, pn_cl, pn_nlt0, false_or, pn_ge, pn_le, Nat.add_zero, Nat.zero_add, ↓reduceIte, Option.bind_some, nI_leI, nI_ltI, nI_eq, pn_ne1, pn_1ne, Nat.le_refl, id]
  · intro n v i hi
    have o3 : X10_of F (nI i) 3 w 0 = some (eC L[i]) := m_of3 h hi
    have o2 : X10_of F (nI i) 2 w 0 = some (eW L[i]) := m_of2 h hi
    rw [X10_ofCount_L5, h0', o3, o2]
    simp (disch := omega) only [nI_add, pn_add, pn_addl, pn_mul, pn_cl, pn_nlt0, false_or, pn_ge, pn_le, Nat.add_zero, Nat.zero_add, ↓reduceIte, Option.bind_some, nI_leI, nI_ltI, nI_eq, pn_ne1, pn_1ne, cnt1, cntW]
    by_cases c1 : eC L[i] = c <;> by_cases c0 : p2 = 0 <;> simp [c1, c0]
end BM
theorem q_bucket {F b : Nat} {S : SS} {x6 : tX6} {x1 : tX1} {xy xz : tX2} {w : Nat → Int32} (hc : RC S x6 x1 xy xz) (hm : RM S w 0) (ok : Ok b S) (hF : 1000 ≤ F) (p1 p2 th : Int32) : ∃ r, X9_bucket F p1 p2 x1 = some r ∧ X10_bucket F p1 p2 th w 0 = some (r, 0) := by
  have em : (-1 : Int32).toInt = -1 := by decide
  have f100 : 100 ≤ F := by omega
  obtain ⟨hap, got, cap, wy, bal, wbt⟩ := x6
  obtain ⟨kK, kV, kW, kC, kL, kT, kP, sz, ld, pl, us, ag, hv⟩ := x1
  obtain ⟨⟨L, p, hE⟩, _⟩ := hc
  obtain ⟨⟨M, pM, hEM⟩, _⟩ := hm
  have okL := ok.1.perm p
  have okM := ok.1.perm pM
  have pLM := p.trans pM.symm
  have hlL := okL.2.2.1
  have hu : unlN L = unlN M := by rw [unlN, unlN, abv_perm (by omega) pLM, unl_perm pLM _ _ (abv_ge (by omega) _), pLM.length_eq]
  rw [X9_bucket, X10_bucket, c_unlike hE f100 okL.C, m_unlike hEM hF, ← hu]
  simp only [Option.bind_some]
  by_cases c1 : p1 = -1
  · exact ⟨_, by rw [if_pos c1], by rw [if_pos c1]⟩
  · rw [if_neg c1, if_neg c1]
    have hle := unlN_le (L := L)
    rw [show X10_isIn F p1.toInt64 0 (nI (unlN L) - 1).toInt64 = _ from isIn_eq (F := F) p1 0 (nI (unlN L) - 1), show X10_isIn F p2.toInt64 0 2 = _ from isIn_eq (F := F) p2 0 2]
    simp only [Option.bind_some]
    rcases rng_n p1 (n := unlN L) (by omega) with ⟨k, hk, rfl, hr⟩ | ⟨hno, hr⟩
    · have hkl : k < L.length := by omega
      have hne : chn L k (abv (-1) L) ≠ -1 := (chn_unl (L := L) (L.length + 1) k (abv (-1) L) (by
        rcases cabv_m1 (L := L) with hh | ⟨g1, g2⟩
        · exact Or.inl hh
        · exact Or.inr ⟨g1, by omega⟩)).2 hk
      have hch : chn L k (abv (-1) L) = chn M k (abv (-1) M) := by rw [abv_perm (by omega) pLM, chn_perm pLM _ _ (abv_ge (by omega) _)]
      rw [c_countAt hE f100 okL.C hkl, hr, if_neg (show ¬ bi true = 0 by decide), m_countAbove hEM f100]
      simp only [Option.bind_some]
      rw [if_neg hne]
      have hbl : X10_bucket_L54 F F (nI k) p2 (abv (-1) M) 0 w 0 = some (chn M k (abv (-1) M)) := m_bucketL hEM f100 p2 (by omega) F 0 (abv (-1) M) (by omega) (by omega) (by rw [Nat.sub_zero, ← hch]; exact hne)
      rw [hbl]
      simp only [Option.bind_some]
      rw [m_ofCount hEM f100, ← hch, c_howManyOf hE f100, c_weightsOf hE f100, ← sumBy_perm (cnt1 _) pLM, ← sumBy_perm (cntW _) pLM]
      simp only [Option.bind_some]
      cases hk2 : (decide (0 ≤ p2) && decide (p2 ≤ 2)) with
      | false =>
        have n0 : ¬ p2 = 0 := fun e => by subst e; exact absurd hk2 (by decide)
        have n1 : ¬ p2 = 1 := fun e => by subst e; exact absurd hk2 (by decide)
        have n2 : ¬ p2 = 2 := fun e => by subst e; exact absurd hk2 (by decide)
        exact ⟨-1, by rw [if_neg n0, if_neg n1, if_neg n2], by rw [if_pos (show bi false = 0 from rfl)]⟩
      | true =>
        rw [if_neg (show ¬ bi true = 0 by decide)]
        by_cases d0 : p2 = 0
        · exact ⟨_, by rw [if_pos d0], by rw [if_neg (by rw [d0]; decide), if_pos d0]⟩
        · rw [if_neg d0, if_neg d0]
          by_cases d1 : p2 = 1
          · exact ⟨_, by rw [if_pos d1], by rw [if_pos d1]⟩
          · rw [if_neg d1, if_neg d1]
            by_cases d2 : p2 = 2
            · exact ⟨_, by rw [if_pos d2], rfl⟩
            · exfalso
              obtain ⟨r1, r2⟩ := rng_of hk2
              have e0 : (0 : Int32).toInt = 0 := by decide
              have e1 : (1 : Int32).toInt = 1 := by decide
              have e2 : (2 : Int32).toInt = 2 := by decide
              have : p2.toInt = 0 ∨ p2.toInt = 1 ∨ p2.toInt = 2 := by omega
              rcases this with h | h | h
              · exact d0 (i32_eq.2 (by omega))
              · exact d1 (i32_eq.2 (by omega))
              · exact d2 (i32_eq.2 (by omega))
    · rw [hr, if_pos (show bi false = 0 from rfl)]
      refine ⟨-1, ?_, rfl⟩
      have hca : X1_countAt F p1 kC sz = some (-1) := by
        by_cases c0 : p1 < 0
        · rw [X1_countAt, if_pos c0]
        · obtain ⟨k, hk, rfl⟩ := nI_of c0
          by_cases ck : k < L.length
          · rw [c_countAt hE f100 okL.C ck]
            congr 1
            apply Classical.byContradiction
            intro hx
            exact hno k ((chn_unl (L := L) (L.length + 1) k (abv (-1) L) (by
              rcases cabv_m1 (L := L) with hh | ⟨g1, g2⟩
              · exact Or.inl hh
              · exact Or.inr ⟨g1, by omega⟩)).1 hx) rfl
          · rw [X1_countAt, if_neg c0, if_neg (by rw [hE.1]; exact nI_nlt (by omega) (by omega))]
      rw [hca]; rfl
