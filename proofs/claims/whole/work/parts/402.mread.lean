/-! the reference's row of entries, read -/
def rowAt (w : Nat → Int32) (p : Nat) : En := (w p, w (p + 1), w (p + 2), w (p + 3), w (p + 4), w (p + 5), w (p + 6))
def EM (L : List En) (w : Nat → Int32) (o : Nat) : Prop := w o = nI L.length ∧ L.length ≤ 60 ∧ o + 848 ≤ 3392 ∧ ∀ i (h : i < L.length), L[i] = rowAt w (o + 24 + 7 * i)
def bi (b : Bool) : Int32 := if b then 1 else 0
theorem bi_0 {b : Bool} : bi b = 0 ↔ b = false := by cases b <;> simp [bi]
theorem bi_1 {b : Bool} : bi b = 1 ↔ b = true := by cases b <;> simp [bi]
section MRead
variable {F : Nat} {L : List En} {w : Nat → Int32} {o : Nat}
theorem m_of (h : EM L w o) {i : Nat} (hi : i < L.length) (j : Nat) (hj : j < 7) : X10_of F (nI i) (nI j) w (nI o) = some (w (o + 24 + 7 * i + j)) := by
  obtain ⟨h0, h1, h2, h3⟩ := h
  rw [X10_of]
  simp (disch := omega) only [nI_add, pn_add, pn_addl, pn_mul, pn_cl, pn_nlt0, false_or, pn_ge, pn_le, Nat.add_zero, Nat.zero_add, ↓reduceIte, Option.bind_some, nI_leI, nI_ltI, nI_eq, pn_ne1, pn_1ne]
theorem m_of0 (h : EM L w o) {i : Nat} (hi : i < L.length) : X10_of F (nI i) 0 w (nI o) = some (eK L[i]) := by
  rw [h.2.2.2 i hi]; exact m_of h hi 0 (by omega)
theorem m_of1 (h : EM L w o) {i : Nat} (hi : i < L.length) : X10_of F (nI i) 1 w (nI o) = some (eV L[i]) := by
  rw [h.2.2.2 i hi]; exact m_of h hi 1 (by omega)
theorem m_of2 (h : EM L w o) {i : Nat} (hi : i < L.length) : X10_of F (nI i) 2 w (nI o) = some (eW L[i]) := by
  rw [h.2.2.2 i hi]; exact m_of h hi 2 (by omega)
theorem m_of3 (h : EM L w o) {i : Nat} (hi : i < L.length) : X10_of F (nI i) 3 w (nI o) = some (eC L[i]) := by
  rw [h.2.2.2 i hi]; exact m_of h hi 3 (by omega)
theorem m_of4 (h : EM L w o) {i : Nat} (hi : i < L.length) : X10_of F (nI i) 4 w (nI o) = some (eL L[i]) := by
  rw [h.2.2.2 i hi]; exact m_of h hi 4 (by omega)
theorem m_of5 (h : EM L w o) {i : Nat} (hi : i < L.length) : X10_of F (nI i) 5 w (nI o) = some (eT L[i]) := by
  rw [h.2.2.2 i hi]; exact m_of h hi 5 (by omega)
theorem m_of6 (h : EM L w o) {i : Nat} (hi : i < L.length) : X10_of F (nI i) 6 w (nI o) = some (eP L[i]) := by
  rw [h.2.2.2 i hi]; exact m_of h hi 6 (by omega)
theorem fnd_at {k : Int32} {i : Nat} (h : i < L.length) (hk : eK L[i] = k) (hb : ∀ j (hj : j < i), eK L[j] ≠ k) : fnd k L = some L[i] := by
  rw [fnd, List.find?_eq_some_iff_getElem]
  refine ⟨by simpa using hk, i, h, rfl, fun j hj => by simpa using hb j hj⟩
theorem fnd_IX {g : Option Int32} {k : Int32} (h : (g = some (-1) ∧ L.find? (fun e => e.1 == k) = none) ∨ ∃ i, ∃ h : i < L.length, g = some (nI i) ∧ L.find? (fun e => e.1 == k) = some L[i] ∧ ∀ j (hj : j < i), (fun e : En => e.1 == k) L[j] = false) : Tot g (IX L (fnd k L)) := by
  rcases h with ⟨rfl, h⟩ | ⟨i, hi, rfl, h, _⟩
  · exact tot_s (Or.inl ⟨rfl, h⟩)
  · exact tot_s (Or.inr ⟨i, hi, rfl, h⟩)
theorem m_find (h : EM L w o) (hF : 100 ≤ F) (k : Int32) : Tot (X10_entryOf F k w (nI o)) (IX L (fnd k L)) := by
  obtain ⟨h0, h1, h2, h3⟩ := id h
  rw [X10_entryOf]
  refine fnd_IX (find_loop (fun n i => X10_entryOf_L2 F n k (nI i) w (nI o)) (fun e => e.1 == k) L (-1) nI ?_ ?_ ?_ F (by omega))
  · intro n
    rw [X10_entryOf_L2]
    simp (disch := omega) only [nI_add, pn_add, pn_addl, pn_mul, pn_cl, pn_nlt0, false_or, pn_ge, pn_le, Nat.add_zero, Nat.zero_add, ↓reduceIte, Option.bind_some, nI_leI, nI_ltI, nI_eq, pn_ne1, pn_1ne, h0, Nat.le_refl]
  · intro n i hi hp
    rw [X10_entryOf_L2]
    simp (disch := omega) only [nI_add, pn_add, pn_addl, pn_mul, pn_cl, pn_nlt0, false_or, pn_ge, pn_le, Nat.add_zero, Nat.zero_add, ↓reduceIte, Option.bind_some, nI_leI, nI_ltI, nI_eq, pn_ne1, pn_1ne, h0, m_of0 h hi]
    rw [if_pos (by simpa using hp)]
  · intro n i hi hp
    rw [X10_entryOf_L2]
    simp (disch := omega) only [nI_add, pn_add, pn_addl, pn_mul, pn_cl, pn_nlt0, false_or, pn_ge, pn_le, Nat.add_zero, Nat.zero_add, ↓reduceIte, Option.bind_some, nI_leI, nI_ltI, nI_eq, pn_ne1, pn_1ne, h0, m_of0 h hi]
    rw [if_neg (by simpa using hp)]
theorem m_load (h : EM L w o) (hF : 100 ≤ F) : X10_load F w (nI o) = some (sumBy eW L) := by
  obtain ⟨h0, h1, h2, h3⟩ := id h
  rw [X10_load, show X10_load_L4 F F 0 0 w (nI o) = some (sumBy eW L) from sum_loop (fun n v i => X10_load_L4 F n v (nI i) w (nI o)) eW L id ?_ ?_ F (by omega)]
  · rfl
  · intro n v
    rw [X10_load_L4]
    simp (disch := omega) only [nI_add, pn_add, pn_addl, pn_mul, pn_cl, pn_nlt0, false_or, pn_ge, pn_le, Nat.add_zero, Nat.zero_add, ↓reduceIte, Option.bind_some, nI_leI, nI_ltI, nI_eq, pn_ne1, pn_1ne, h0, Nat.le_refl, id]
  · intro n v i hi
    rw [X10_load_L4]
    simp (disch := omega) only [nI_add, pn_add, pn_addl, pn_mul, pn_cl, pn_nlt0, false_or, pn_ge, pn_le, Nat.add_zero, Nat.zero_add, ↓reduceIte, Option.bind_some, nI_leI, nI_ltI, nI_eq, pn_ne1, pn_1ne, h0, m_of2 h hi]
/-- weights of those that are pinned, but one key's -/
def pinW (but : Int32) (e : En) : Int32 := if eP e = 1 then (if eK e = but then 0 else eW e) else 0
theorem m_pinned (h : EM L w o) (hF : 100 ≤ F) (but : Int32) : X10_pinned F but w (nI o) = some (sumBy (pinW but) L) := by
  obtain ⟨h0, h1, h2, h3⟩ := id h
  rw [X10_pinned, show X10_pinned_L4 F F but 0 0 w (nI o) = some (sumBy (pinW but) L) from sum_loop (fun n v i => X10_pinned_L4 F n but v (nI i) w (nI o)) (pinW but) L id ?_ ?_ F (by omega)]
  · rfl
  · intro n v
    rw [X10_pinned_L4]
    simp (disch := omega) only [nI_add, pn_add, pn_addl, pn_mul, pn_cl, pn_nlt0, false_or, pn_ge, pn_le, Nat.add_zero, Nat.zero_add, ↓reduceIte, Option.bind_some, nI_leI, nI_ltI, nI_eq, pn_ne1, pn_1ne, h0, Nat.le_refl, id]
  · intro n v i hi
    rw [X10_pinned_L4]
    simp (disch := omega) only [nI_add, pn_add, pn_addl, pn_mul, pn_cl, pn_nlt0, false_or, pn_ge, pn_le, Nat.add_zero, Nat.zero_add, ↓reduceIte, Option.bind_some, nI_leI, nI_ltI, nI_eq, pn_ne1, pn_1ne, h0, m_of6 h hi, m_of0 h hi, m_of2 h hi, pinW]
    split <;> (try split) <;> rfl
theorem m_pinnedMany (h : EM L w o) (hF : 100 ≤ F) : X10_pinnedMany F w (nI o) = some (sumBy eP L) := by
  obtain ⟨h0, h1, h2, h3⟩ := id h
  rw [X10_pinnedMany, show X10_pinnedMany_L4 F F 0 0 w (nI o) = some (sumBy eP L) from sum_loop (fun n v i => X10_pinnedMany_L4 F n v (nI i) w (nI o)) eP L id ?_ ?_ F (by omega)]
  · rfl
  · intro n v
    rw [X10_pinnedMany_L4]
    simp (disch := omega) only [nI_add, pn_add, pn_addl, pn_mul, pn_cl, pn_nlt0, false_or, pn_ge, pn_le, Nat.add_zero, Nat.zero_add, ↓reduceIte, Option.bind_some, nI_leI, nI_ltI, nI_eq, pn_ne1, pn_1ne, h0, Nat.le_refl, id]
  · intro n v i hi
    rw [X10_pinnedMany_L4]
    simp (disch := omega) only [nI_add, pn_add, pn_addl, pn_mul, pn_cl, pn_nlt0, false_or, pn_ge, pn_le, Nat.add_zero, Nat.zero_add, ↓reduceIte, Option.bind_some, nI_leI, nI_ltI, nI_eq, pn_ne1, pn_1ne, h0, m_of6 h hi]
theorem m_isAhead (h : EM L w o) (ord : Int32) {i j : Nat} (hi : i < L.length) (hj : j < L.length) : X10_isAhead F ord (nI i) (nI j) w (nI o) = some (bi (ahead ord L[i] L[j])) := by
  rw [X10_isAhead]
  simp only [m_of3 h hi, m_of3 h hj, m_of4 h hi, m_of4 h hj, Option.bind_some, ahead, bi]
  by_cases c1 : ord = 1
  · by_cases c2 : eC L[i] = eC L[j]
    · simp only [c1, c2, if_true, ne_eq, not_true_eq_false, and_false, if_false, decide_eq_true_eq, ← Int32.not_le]
      split <;> rfl
    · simp only [c1, c2, if_true, ne_eq, not_false_eq_true, and_self, if_false, decide_eq_true_eq, ← Int32.not_le]
      split <;> rfl
  · simp only [c1, if_false, false_and, decide_eq_true_eq, ← Int32.not_le]
    split <;> rfl
theorem m_flag {b : Bool} : X10_flag F (bi b) = some (bi b) := by cases b <;> rfl
def place (ord : Int32) (L : List En) (e : En) : Int32 := sumBy (fun f => bi (ahead ord f e)) L
theorem m_placeOf (h : EM L w o) (hF : 100 ≤ F) (ord : Int32) {j : Nat} (hj : j < L.length) : X10_placeOf F ord (nI j) w (nI o) = some (place ord L L[j]) := by
  obtain ⟨h0, h1, h2, h3⟩ := id h
  rw [X10_placeOf, show X10_placeOf_L5 F F ord (nI j) 0 0 w (nI o) = some (place ord L L[j]) from sum_loop (fun n v i => X10_placeOf_L5 F n ord (nI j) v (nI i) w (nI o)) (fun f => bi (ahead ord f L[j])) L id ?_ ?_ F (by omega)]
  · rfl
  · intro n v
    rw [X10_placeOf_L5]
    simp (disch := omega) only [nI_add, pn_add, pn_addl, pn_mul, pn_cl, pn_nlt0, false_or, pn_ge, pn_le, Nat.add_zero, Nat.zero_add, ↓reduceIte, Option.bind_some, nI_leI, nI_ltI, nI_eq, pn_ne1, pn_1ne, h0, Nat.le_refl, id]
  · intro n v i hi
    rw [X10_placeOf_L5]
    simp (disch := omega) only [nI_add, pn_add, pn_addl, pn_mul, pn_cl, pn_nlt0, false_or, pn_ge, pn_le, Nat.add_zero, Nat.zero_add, ↓reduceIte, Option.bind_some, nI_leI, nI_ltI, nI_eq, pn_ne1, pn_1ne, h0, m_isAhead h ord hi hj, m_flag]
def keyAtS (ord p : Int32) (L : List En) : Int32 := match L.find? (fun e => place ord L e == p) with | none => -1 | some e => eK e
theorem m_keyAt (h : EM L w o) (hF : 100 ≤ F) (ord p : Int32) : X10_keyAt F ord p w (nI o) = some (keyAtS ord p L) := by
  obtain ⟨h0, h1, h2, h3⟩ := id h
  rw [X10_keyAt, keyAtS]
  have := find_loop (fun n i => X10_keyAt_L2 F n ord p (nI i) w (nI o)) (fun e => place ord L e == p) L (-1) (fun i => eK (L.getD i default)) ?_ ?_ ?_ F (by omega)
  · rcases this with ⟨e1, e2⟩ | ⟨i, hi, e1, e2, _⟩
    · rw [e2]; exact e1
    · rw [e2]; refine Eq.trans e1 ?_; simp [List.getD_eq_getElem?_getD, hi]
  · intro n
    rw [X10_keyAt_L2]
    simp (disch := omega) only [nI_add, pn_add, pn_addl, pn_mul, pn_cl, pn_nlt0, false_or, pn_ge, pn_le, Nat.add_zero, Nat.zero_add, ↓reduceIte, Option.bind_some, nI_leI, nI_ltI, nI_eq, pn_ne1, pn_1ne, h0, Nat.le_refl]
  · intro n i hi hp
    rw [X10_keyAt_L2]
    simp (disch := omega) only [nI_add, pn_add, pn_addl, pn_mul, pn_cl, pn_nlt0, false_or, pn_ge, pn_le, Nat.add_zero, Nat.zero_add, ↓reduceIte, Option.bind_some, nI_leI, nI_ltI, nI_eq, pn_ne1, pn_1ne, h0, m_placeOf h hF ord hi, m_of0 h hi]
    rw [if_pos (by simpa using hp)]
    simp [List.getD_eq_getElem?_getD, hi]
  · intro n i hi hp
    rw [X10_keyAt_L2]
    simp (disch := omega) only [nI_add, pn_add, pn_addl, pn_mul, pn_cl, pn_nlt0, false_or, pn_ge, pn_le, Nat.add_zero, Nat.zero_add, ↓reduceIte, Option.bind_some, nI_leI, nI_ltI, nI_eq, pn_ne1, pn_1ne, h0, m_placeOf h hF ord hi, m_of0 h hi]
    rw [if_neg (by simpa using hp)]
def mayGo (but : Int32) (e : En) : Bool := decide (eP e = 0) && !decide (eK e = but)
theorem m_canGo (h : EM L w o) (but : Int32) {i : Nat} (hi : i < L.length) : X10_canGo F (nI i) but w (nI o) = some (bi (mayGo but L[i])) := by
  rw [X10_canGo]
  simp only [m_of6 h hi, m_of0 h hi, Option.bind_some, mayGo, bi]
  by_cases c1 : eP L[i] = 0 <;> by_cases c2 : eK L[i] = but <;> simp [c1, c2]
def okS (sort but : Int32) (e : En) : Bool := mayGo but e && (decide (sort = -1) || decide ((if eC e ≤ 1 then (0 : Int32) else 1) = sort))
theorem m_firstOf (h : EM L w o) (hF : 100 ≤ F) (ord sort but : Int32) : Tot (X10_firstOf F ord sort but w (nI o)) (IX L (best (ahead ord) (okS sort but) L)) := by
  obtain ⟨h0, h1, h2, h3⟩ := id h
  rw [X10_firstOf]
  refine tot_b (best_loop (fun n v i => X10_firstOf_L6 F n ord sort but v (nI i) w (nI o)) (ahead ord) (okS sort but) L ?_ ?_ ?_ ?_ F (by omega)) (fun a ha => tot_s ha)
  · intro n v
    rw [X10_firstOf_L6]
    simp (disch := omega) only [nI_add, pn_add, pn_addl, pn_mul, pn_cl, pn_nlt0, false_or, pn_ge, pn_le, Nat.add_zero, Nat.zero_add, ↓reduceIte, Option.bind_some, nI_leI, nI_ltI, nI_eq, pn_ne1, pn_1ne, h0, Nat.le_refl]
  · intro n v i hi hv ho
    rw [X10_firstOf_L6]
    simp (disch := omega) only [nI_add, pn_add, pn_addl, pn_mul, pn_cl, pn_nlt0, false_or, pn_ge, pn_le, Nat.add_zero, Nat.zero_add, ↓reduceIte, Option.bind_some, nI_leI, nI_ltI, nI_eq, pn_ne1, pn_1ne, h0, m_canGo h but hi, m_of3 h hi, X10_flag]
    simp only [okS, Bool.and_eq_false_iff, Bool.or_eq_false_iff, decide_eq_false_iff_not] at ho
    rcases ho with ho | ⟨ho1, ho2⟩
    · rw [ho]; simp [bi]
    · by_cases c : mayGo but L[i] = true
      · rw [c]
        simp only [bi, if_true, ho1, if_false]
        by_cases c3 : eC L[i] ≤ 1
        · simp only [c3, if_true] at ho2 ⊢
          simp [ho2]
        · simp only [c3, if_false] at ho2 ⊢
          simp [ho2]
      · simp only [Bool.not_eq_true] at c
        rw [c]; simp [bi]
  · intro n i hi ho
    rw [X10_firstOf_L6]
    simp (disch := omega) only [nI_add, pn_add, pn_addl, pn_mul, pn_cl, pn_nlt0, false_or, pn_ge, pn_le, Nat.add_zero, Nat.zero_add, ↓reduceIte, Option.bind_some, nI_leI, nI_ltI, nI_eq, pn_ne1, pn_1ne, h0, m_canGo h but hi, m_of3 h hi, X10_flag]
    simp only [okS, Bool.and_eq_true, Bool.or_eq_true, decide_eq_true_eq] at ho
    rw [ho.1]
    obtain ⟨ho1, ho2⟩ := ho
    rcases ho2 with rfl | ho2
    · simp [bi]
    · by_cases c3 : eC L[i] ≤ 1
      · simp only [c3, if_true] at ho2 ⊢; subst ho2; simp [bi]
      · simp only [c3, if_false] at ho2 ⊢; subst ho2; simp [bi]
  · intro n i j hi hj ho
    rw [X10_firstOf_L6]
    simp (disch := omega) only [nI_add, pn_add, pn_addl, pn_mul, pn_cl, pn_nlt0, false_or, pn_ge, pn_le, Nat.add_zero, Nat.zero_add, ↓reduceIte, Option.bind_some, nI_leI, nI_ltI, nI_eq, pn_ne1, pn_1ne, h0, m_canGo h but hi, m_of3 h hi, X10_flag, m_isAhead h ord hi hj]
    simp only [okS, Bool.and_eq_true, Bool.or_eq_true, decide_eq_true_eq] at ho
    rw [ho.1]
    obtain ⟨ho1, ho2⟩ := ho
    rcases ho2 with rfl | ho2
    · cases ahead ord L[i] L[j] <;> simp [bi]
    · by_cases c3 : eC L[i] ≤ 1
      · simp only [c3, if_true] at ho2 ⊢; subst ho2; cases ahead ord L[i] L[j] <;> simp [bi]
      · simp only [c3, if_false] at ho2 ⊢; subst ho2; cases ahead ord L[i] L[j] <;> simp [bi]
end MRead
