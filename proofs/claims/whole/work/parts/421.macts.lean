/-! acts of listeners: the reference -/
theorem pl_lt {a b : Int64} : lg_cmp a b < 0 ↔ a < b := by
  rw [lg_cmp]
  by_cases c1 : a > b
  · rw [if_pos c1]
    constructor
    · intro h; exact absurd h (by decide)
    · intro h
      have h1 := Int64.lt_iff_toInt_lt.1 h
      have h2 := Int64.lt_iff_toInt_lt.1 c1
      omega
  · rw [if_neg c1]
    by_cases c2 : a = b
    · rw [if_pos c2]
      constructor
      · intro h; exact absurd h (by decide)
      · intro h; subst c2; exact absurd (Int64.lt_iff_toInt_lt.1 h) (by omega)
    · rw [if_neg c2]
      constructor
      · intro _
        rw [Int64.lt_iff_toInt_lt]
        have h2 : ¬ b.toInt < a.toInt := fun h => c1 (Int64.lt_iff_toInt_lt.2 h)
        have h3 : a.toInt ≠ b.toInt := fun h => c2 (Int64.toInt_inj.1 h)
        omega
      · intro _; decide
theorem pl_gt {a b : Int64} : 0 < lg_cmp a b ↔ b < a := by
  rw [lg_cmp]
  by_cases c1 : a > b
  · rw [if_pos c1]; exact ⟨fun _ => c1, fun _ => by decide⟩
  · rw [if_neg c1]
    constructor
    · intro h; split at h <;> exact absurd h (by decide)
    · intro h; exact absurd h c1
theorem isIn_eq {F : Nat} (x lo hi : Int32) : X10_isIn F x.toInt64 lo.toInt64 hi.toInt64 = some (bi (decide (lo ≤ x) && decide (x ≤ hi))) := by
  rw [X10_isIn]
  by_cases c1 : lo ≤ x
  · rw [if_neg (by rw [pl_lt, Int32.toInt64_lt, Int32.not_lt]; exact c1)]
    by_cases c2 : x ≤ hi
    · rw [if_neg (by rw [pl_gt, Int32.toInt64_lt, Int32.not_lt]; exact c2)]; simp [c1, c2, bi]
    · rw [if_pos (by rw [pl_gt, Int32.toInt64_lt]; rwa [Int32.not_le] at c2)]; simp [c1, c2, bi]
  · rw [if_pos (by rw [pl_lt, Int32.toInt64_lt]; rwa [Int32.not_le] at c1)]; simp [c1, bi]
section MAct
variable {F b o m n : Nat} {S : SS} {H : Nat → Nat → Int32} {w went t : Nat → Int32} {E : List Ev} {came sil : Int32}
theorem m_capsBy (h : RM S w o) (hS : Ok2 b S) (hF : 1000 ≤ F) (hb : b + 200 < 2147483648) (hm : m + 60 < 2147483647) (hEl : E.length + 100 < 2147480000) (hq : QS sil E t came) (s d : Int32) :
    Tot (X10_capsBy F s w (nI o) went (nI m) t came d sil) (fun y => y.1 = bi (if s = 0 then false else decide (0 ≤ (recapS (S.2.2.2 1 + s) d S).1)) ∧ RM (if s = 0 then S else (recapS (S.2.2.2 1 + s) d S).2.1) y.2.1 o ∧ FrO w y.2.1 o ∧ (∃ m', y.2.2.2.1 = nI m' ∧ m' ≤ m + 60) ∧ QS sil (E ++ (if s = 0 then [] else (recapS (S.2.2.2 1 + s) d S).2.2)) y.2.2.2.2.1 y.2.2.2.2.2) := by
  have ho := h.ho
  rw [X10_capsBy]
  simp (disch := omega) only [nI_add, pn_add, pn_addl, pn_mul, pn_cl, pn_nlt0, false_or, pn_ge, pn_le, Nat.add_zero, Nat.zero_add, ↓reduceIte, Option.bind_some, nI_leI, nI_ltI, nI_eq, pn_ne1, pn_1ne]
  rw [h.2.2.2 1 (by omega) (by omega)]
  by_cases c0 : s = 0
  · simp only [c0, if_true]
    exact tot_s ⟨rfl, h, FrO.rfl', ⟨m, rfl, by omega⟩, by simpa using hq⟩
  · simp only [c0, if_false]
    rw [show X10_isIn F (S.2.2.2 1 + s).toInt64 0 5000 = some (bi (isCapB (S.2.2.2 1 + s))) from isIn_eq (F := F) (S.2.2.2 1 + s) 0 5000]
    simp only [Option.bind_some]
    rw [recapS]
    cases hc : isCapB (S.2.2.2 1 + s) with
    | false =>
      rw [if_pos (show bi false = 0 from rfl), if_pos rfl]
      exact tot_s ⟨rfl, h, FrO.rfl', ⟨m, rfl, by omega⟩, by simpa using hq⟩
    | true =>
      rw [if_neg (show ¬ bi true = 0 by decide), if_neg (by decide), h.pinned (by omega) (-1)]
      have hpin : sumBy (pinW (-1)) S.1 = sumBy pinA S.1 := pin_none hS.1.1.PB (fun e he hx => by
        have := (hS.1.1.2.2.2 e he).1
        rw [hx] at this; exact absurd this (by decide))
      rw [hpin]
      simp only [Option.bind_some]
      by_cases c1 : sumBy pinA S.1 ≤ S.2.2.2 1 + s
      · rw [if_pos c1, if_neg (fun hx => hx c1)]
        refine tot_b (m_caps (went := went) h hS.1 hS.2.1 hF hb hm hEl hq (d := d) hc) (fun y ⟨g0, g1, g2, g3, g4, g5⟩ => ?_)
        obtain ⟨y1, y2, y3, y4, y5, y6⟩ := y
        simp only at g0 g1 g2 g3 g4 g5 ⊢
        have hGl := (evRun_ok (stop := stopL) (but := -1) (d := d) 60 b _ (cap_ok0 hS.1 hc) (by omega)).2
        have hGl' : (capS (S.2.2.2 1 + s) d S).2.length ≤ 60 := hGl
        refine tot_s ⟨?_, g1, g2, ⟨_, g4, by omega⟩, g5⟩
        have : 0 ≤ nI (capS (S.2.2.2 1 + s) d S).2.length := nI_pos' (by omega)
        simp [this, bi]
      · rw [if_neg c1, if_pos c1]
        exact tot_s ⟨rfl, h, FrO.rfl', ⟨m, rfl, by omega⟩, by simpa using hq⟩
theorem m_acts (h : RM S w o) (hS : Ok2 b S) (hF : 1000 ≤ F) (hb : b + 200 < 2147483648) (hm : m + 60 < 2147483647) (hEl : E.length + 100 < 2147480000) (hq : QS sil E t came) (hL : LM n H w o) {j : Nat} (hj : j < n) (hh : OkH (H j)) {key v d : Int32} (hv : VOk v) (k1 : 0 ≤ key.toInt) (k2 : key.toInt < 1000) :
    Tot (X10_acts F (nI j) key v w (nI o) went (nI m) t came d sil) (fun y => y.1 = bi (actS (H j) key v d S).1 ∧ RM (actS (H j) key v d S).2.1 y.2.1 o ∧ FrO w y.2.1 o ∧ (∃ m', y.2.2.2.1 = nI m' ∧ m' ≤ m + 60) ∧ QS sil (E ++ (actS (H j) key v d S).2.2) y.2.2.2.2.1 y.2.2.2.2.2) := by
  have ho := h.ho
  have hF1 : 100 ≤ F := by omega
  obtain ⟨r1, r2⟩ := key_rng k1 k2 hh.2.1 hh.2.2.1
  obtain ⟨f0, f1, f2⟩ := keyF r1 r2
  obtain ⟨hn8, _, hL2⟩ := hL
  have l3 := hL2 j 3 hj (by omega)
  have l4 := hL2 j 4 hj (by omega)
  have l5 := hL2 j 5 hj (by omega)
  rw [X10_acts, X10_hearerAt]
  simp (maxSteps := 3000000) (disch := omega) only [nI_add, pn_add, pn_addl, pn_mul, pn_cl, pn_nlt0, false_or, pn_ge, pn_le, Nat.add_zero, Nat.zero_add, ↓reduceIte, Option.bind_some, nI_leI, nI_ltI, nI_eq, pn_ne1, pn_1ne, l3, l4, l5]
  rw [← f0, actS]
  by_cases d1 : H j 3 = 1
  · simp only [d1, if_true]
    obtain ⟨w1, w2⟩ := hh.2.2.2.2 d1
    refine tot_b (m_puts (went := went) (v := v) (d := d) h hS.1 hS.2.1 hF hb hm hEl hq (k := fmod (key + H j 4) 1000) (wt := H j 5) (tl := -1) ⟨f1, f2, w1, w2, Or.inl rfl, hv⟩) (fun y ⟨g0, g1, g2, g3, g4, _⟩ => ?_)
    obtain ⟨r, y2, y3, y4, y5, y6⟩ := y
    simp only at g0 g1 g2 g3 g4 ⊢
    rw [← g0]
    by_cases cr : r = -1
    · rw [if_pos cr]; exact tot_s ⟨by simp [cr, bi], g1, g2, g3, g4⟩
    · rw [if_neg cr]; exact tot_s ⟨by simp [cr, bi], g1, g2, g3, g4⟩
  simp only [d1, if_false]
  by_cases d2 : H j 3 = 2
  · simp only [d2, if_true]
    refine tot_b (m_gets h hS.1 hF hEl hq (fmod (key + H j 4) 1000) d) (fun y ⟨g0, g1, g2, g3⟩ => ?_)
    obtain ⟨r, y2, y3, y4⟩ := y
    simp only at g0 g1 g2 g3 ⊢
    have h01 : r = 0 ∨ r = 1 := by rw [g0, fetchS]; split <;> simp
    rw [if_neg (Classical.not_not.2 h01)]
    refine tot_s ⟨?_, g1, g2, ⟨m, rfl, by omega⟩, g3⟩
    show r = _
    rw [← g0]; rcases h01 with rfl | rfl <;> simp [bi]
  simp only [d2, if_false]
  by_cases d3 : H j 3 = 3
  · simp only [d3, if_true]
    refine tot_b (m_removes h hS.1 hF hEl hq (fmod (key + H j 4) 1000) d) (fun y ⟨g0, g1, g2, g3⟩ => ?_)
    obtain ⟨r, y2, y3, y4⟩ := y
    simp only at g0 g1 g2 g3 ⊢
    have h01 : r = 0 ∨ r = 1 := by rw [g0]; exact bi_01 _
    rw [if_neg (Classical.not_not.2 h01)]
    exact tot_s ⟨g0, g1, g2, ⟨m, rfl, by omega⟩, g3⟩
  simp only [d3, if_false]
  have pin : ∀ p : Int32, Tot ((X10_pins F (fmod (key + H j 4) 1000) p w (nI o)).bind fun (r33, k_w_34) => (if ¬ (r33 = 0 ∨ r33 = 1) then none else (some (r33, k_w_34, went, nI m, t, came)))) (fun y => y.1 = bi (decide ((fastS (fmod (key + H j 4) 1000) p S).1 = 1)) ∧ RM (fastS (fmod (key + H j 4) 1000) p S).2 y.2.1 o ∧ FrO w y.2.1 o ∧ (∃ m', y.2.2.2.1 = nI m' ∧ m' ≤ m + 60) ∧ QS sil (E ++ []) y.2.2.2.2.1 y.2.2.2.2.2) := by
    intro p
    refine tot_b (m_pins h hS.1 hF1 (fmod (key + H j 4) 1000) p) (fun y ⟨g0, g1, g2⟩ => ?_)
    obtain ⟨r, y2⟩ := y
    simp only at g0 g1 g2 ⊢
    have h2 : r = bi (decide ((fastS (fmod (key + H j 4) 1000) p S).1 = 1)) := by
      rw [g0, fastS]
      cases hf : fnd (fmod (key + H j 4) 1000) S.1 with
      | none => rfl
      | some e =>
        simp only [Option.isNone_some, Bool.false_eq_true, if_false]
        split <;> simp [bi]
    have h01 : r = 0 ∨ r = 1 := by rw [h2]; exact bi_01 _
    rw [if_neg (Classical.not_not.2 h01)]
    exact tot_s ⟨h2, g1, g2, ⟨m, rfl, by omega⟩, by simpa using hq⟩
  by_cases d4 : H j 3 = 4
  · simp only [d4, if_true]; exact pin 1
  simp only [d4, if_false]
  by_cases d5 : H j 3 = 5
  · simp only [d5, if_true]; exact pin 0
  simp only [d5, if_false]
  by_cases d6 : H j 3 = 6
  · simp only [d6, if_true]
    refine tot_b (m_capsBy (went := went) h hS hF hb hm hEl hq (H j 4) d) (fun y ⟨g0, g1, g2, g3, g4⟩ => ?_)
    obtain ⟨r, y2, y3, y4, y5, y6⟩ := y
    simp only at g0 g1 g2 g3 g4 ⊢
    have h01 : r = 0 ∨ r = 1 := by rw [g0]; exact bi_01 _
    rw [if_neg (Classical.not_not.2 h01)]
    by_cases c0 : H j 4 = 0
    · simp only [c0, if_true] at g0 g1 g4 ⊢
      exact tot_s ⟨g0, g1, g2, g3, g4⟩
    · simp only [c0, if_false] at g0 g1 g4 ⊢
      exact tot_s ⟨g0, g1, g2, g3, g4⟩
  · simp only [d6, if_false]
    exact tot_s ⟨rfl, h, FrO.rfl', ⟨m, rfl, by omega⟩, by simpa using hq⟩
end MAct
