/-! the rows of the store's entries, read -/
def rowC (a b c d e f g : Nat → Int32) (i : Nat) : En := (a i, b i, c i, d i, e i, f i, g i)
def EC (L : List En) (kK kV kW kC kL kT kP : Nat → Int32) (sz : Int32) : Prop := sz = nI L.length ∧ L.length ≤ 60 ∧ ∀ i (h : i < L.length), L[i] = rowC kK kV kW kC kL kT kP i
section CRead
variable {F : Nat} {L : List En} {kK kV kW kC kL kT kP : Nat → Int32} {sz : Int32}
theorem c_K (h : EC L kK kV kW kC kL kT kP sz) {i : Nat} (hi : i < L.length) : kK i = eK L[i] := by rw [h.2.2 i hi]; rfl
theorem c_V (h : EC L kK kV kW kC kL kT kP sz) {i : Nat} (hi : i < L.length) : kV i = eV L[i] := by rw [h.2.2 i hi]; rfl
theorem c_W (h : EC L kK kV kW kC kL kT kP sz) {i : Nat} (hi : i < L.length) : kW i = eW L[i] := by rw [h.2.2 i hi]; rfl
theorem c_C (h : EC L kK kV kW kC kL kT kP sz) {i : Nat} (hi : i < L.length) : kC i = eC L[i] := by rw [h.2.2 i hi]; rfl
theorem c_L (h : EC L kK kV kW kC kL kT kP sz) {i : Nat} (hi : i < L.length) : kL i = eL L[i] := by rw [h.2.2 i hi]; rfl
theorem c_T (h : EC L kK kV kW kC kL kT kP sz) {i : Nat} (hi : i < L.length) : kT i = eT L[i] := by rw [h.2.2 i hi]; rfl
theorem c_P (h : EC L kK kV kW kC kL kT kP sz) {i : Nat} (hi : i < L.length) : kP i = eP L[i] := by rw [h.2.2 i hi]; rfl
theorem c_find (h : EC L kK kV kW kC kL kT kP sz) (hF : 100 ≤ F) (k : Int32) : Tot (X1_find F k kK sz) (IX L (fnd k L)) := by
  obtain ⟨rfl, h1, h3⟩ := id h
  rw [X1_find]
  refine fnd_IX (find_loop (fun n i => X1_find_L2 F n k (nI i) kK (nI L.length)) (fun e => e.1 == k) L (-1) nI ?_ ?_ ?_ F (by omega))
  · intro n
    rw [X1_find_L2]
    simp (disch := omega) only [nI_add, pn_add, pn_addl, pn_mul, pn_cl, pn_nlt0, false_or, pn_ge, pn_le, Nat.add_zero, Nat.zero_add, ↓reduceIte, Option.bind_some, nI_leI, nI_ltI, nI_eq, pn_ne1, pn_1ne, Nat.le_refl]
  · intro n i hi hp
    rw [X1_find_L2]
    simp (disch := omega) only [nI_add, pn_add, pn_addl, pn_mul, pn_cl, pn_nlt0, false_or, pn_ge, pn_le, Nat.add_zero, Nat.zero_add, ↓reduceIte, Option.bind_some, nI_leI, nI_ltI, nI_eq, pn_ne1, pn_1ne, c_K h hi]
    rw [if_pos (by simpa using hp)]
  · intro n i hi hp
    rw [X1_find_L2]
    simp (disch := omega) only [nI_add, pn_add, pn_addl, pn_mul, pn_cl, pn_nlt0, false_or, pn_ge, pn_le, Nat.add_zero, Nat.zero_add, ↓reduceIte, Option.bind_some, nI_leI, nI_ltI, nI_eq, pn_ne1, pn_1ne, c_K h hi]
    rw [if_neg (by simpa using hp)]
theorem c_precedes (h : EC L kK kV kW kC kL kT kP sz) (ord : Int32) {i j : Nat} (hi : i < L.length) (hj : j < L.length) : X1_precedes F ord (nI i) (nI j) kC kL = some (bi (ahead ord L[i] L[j])) := by
  obtain ⟨rfl, h1, h3⟩ := id h
  rw [X1_precedes]
  simp (disch := omega) only [nI_add, pn_add, pn_addl, pn_mul, pn_cl, pn_nlt0, false_or, pn_ge, pn_le, Nat.add_zero, Nat.zero_add, ↓reduceIte, Option.bind_some, nI_leI, nI_ltI, nI_eq, pn_ne1, pn_1ne, c_C h hi, c_C h hj, c_L h hi, c_L h hj, ahead, bi]
  by_cases c1 : ord = 1
  · by_cases c2 : eC L[i] = eC L[j]
    · simp only [c1, c2, if_true, ne_eq, not_true_eq_false, and_false, if_false, decide_eq_true_eq, ← Int32.not_le]
      split <;> rfl
    · simp only [c1, c2, if_true, ne_eq, not_false_eq_true, and_self, if_false, decide_eq_true_eq, ← Int32.not_le]
      split <;> rfl
  · simp only [c1, if_false, false_and, decide_eq_true_eq, ← Int32.not_le]
    split <;> rfl
theorem c_placeOf (h : EC L kK kV kW kC kL kT kP sz) (hF : 100 ≤ F) (ord : Int32) {j : Nat} (hj : j < L.length) : X1_placeOf F ord (nI j) kC kL sz = some (place ord L L[j]) := by
  obtain ⟨rfl, h1, h3⟩ := id h
  rw [X1_placeOf, show X1_placeOf_L5 F F ord (nI j) 0 0 kC kL (nI L.length) = some (place ord L L[j]) from sum_loop (fun n v i => X1_placeOf_L5 F n ord (nI j) v (nI i) kC kL (nI L.length)) (fun f => bi (ahead ord f L[j])) L id ?_ ?_ F (by omega)]
  · rfl
  · intro n v
    rw [X1_placeOf_L5]
    simp (disch := omega) only [nI_add, pn_add, pn_addl, pn_mul, pn_cl, pn_nlt0, false_or, pn_ge, pn_le, Nat.add_zero, Nat.zero_add, ↓reduceIte, Option.bind_some, nI_leI, nI_ltI, nI_eq, pn_ne1, pn_1ne, Nat.le_refl, id]
  · intro n v i hi
    rw [X1_placeOf_L5]
    simp (disch := omega) only [nI_add, pn_add, pn_addl, pn_mul, pn_cl, pn_nlt0, false_or, pn_ge, pn_le, Nat.add_zero, Nat.zero_add, ↓reduceIte, Option.bind_some, nI_leI, nI_ltI, nI_eq, pn_ne1, pn_1ne, c_precedes h ord hi hj]
    cases ahead ord L[i] L[j] <;> simp [bi]
theorem c_keyAt (h : EC L kK kV kW kC kL kT kP sz) (hF : 100 ≤ F) (ord p : Int32) : X1_keyAt F ord p kK kC kL sz = some (keyAtS ord p L) := by
  obtain ⟨rfl, h1, h3⟩ := id h
  rw [X1_keyAt, keyAtS]
  have := find_loop (fun n i => X1_keyAt_L2 F n ord p (nI i) kK kC kL (nI L.length)) (fun e => place ord L e == p) L (-1) (fun i => eK (L.getD i default)) ?_ ?_ ?_ F (by omega)
  · rcases this with ⟨e1, e2⟩ | ⟨i, hi, e1, e2, _⟩
    · rw [e2]; exact e1
    · rw [e2]; refine Eq.trans e1 ?_; simp [List.getD_eq_getElem?_getD, hi]
  · intro n
    rw [X1_keyAt_L2]
    simp (disch := omega) only [nI_add, pn_add, pn_addl, pn_mul, pn_cl, pn_nlt0, false_or, pn_ge, pn_le, Nat.add_zero, Nat.zero_add, ↓reduceIte, Option.bind_some, nI_leI, nI_ltI, nI_eq, pn_ne1, pn_1ne, Nat.le_refl]
  · intro n i hi hp
    rw [X1_keyAt_L2]
    simp (disch := omega) only [nI_add, pn_add, pn_addl, pn_mul, pn_cl, pn_nlt0, false_or, pn_ge, pn_le, Nat.add_zero, Nat.zero_add, ↓reduceIte, Option.bind_some, nI_leI, nI_ltI, nI_eq, pn_ne1, pn_1ne, c_placeOf h hF ord hi, c_K h hi]
    rw [if_pos (by simpa using hp)]
    simp [List.getD_eq_getElem?_getD, hi]
  · intro n i hi hp
    rw [X1_keyAt_L2]
    simp (disch := omega) only [nI_add, pn_add, pn_addl, pn_mul, pn_cl, pn_nlt0, false_or, pn_ge, pn_le, Nat.add_zero, Nat.zero_add, ↓reduceIte, Option.bind_some, nI_leI, nI_ltI, nI_eq, pn_ne1, pn_1ne, c_placeOf h hF ord hi, c_K h hi]
    rw [if_neg (by simpa using hp)]
/-- the weights ahead of a place -/
def leadW (ord p : Int32) (L : List En) (e : En) : Int32 := if place ord L e < p then eW e else 0
theorem c_weightsAhead (h : EC L kK kV kW kC kL kT kP sz) (hF : 100 ≤ F) (ord p ld : Int32) : X1_weightsAhead F ord p kW kC kL sz ld = some (if p < nI L.length then sumBy (leadW ord p L) L else ld) := by
  obtain ⟨rfl, h1, h3⟩ := id h
  rw [X1_weightsAhead]
  split
  · rw [show X1_weightsAhead_L18 F F ord p 0 0 kW kC kL (nI L.length) = some (sumBy (leadW ord p L) L) from sum_loop (fun n v i => X1_weightsAhead_L18 F n ord p v (nI i) kW kC kL (nI L.length)) (leadW ord p L) L id ?_ ?_ F (by omega)]
    · rfl
    · intro n v
      rw [X1_weightsAhead_L18]
      simp (disch := omega) only [nI_add, pn_add, pn_addl, pn_mul, pn_cl, pn_nlt0, false_or, pn_ge, pn_le, Nat.add_zero, Nat.zero_add, ↓reduceIte, Option.bind_some, nI_leI, nI_ltI, nI_eq, pn_ne1, pn_1ne, Nat.le_refl, id]
    · intro n v i hi
      rw [X1_weightsAhead_L18]
      simp (disch := omega) only [nI_add, pn_add, pn_addl, pn_mul, pn_cl, pn_nlt0, false_or, pn_ge, pn_le, Nat.add_zero, Nat.zero_add, ↓reduceIte, Option.bind_some, nI_leI, nI_ltI, nI_eq, pn_ne1, pn_1ne, c_placeOf h hF ord hi, c_W h hi]
      simp only [leadW, ← Int32.not_le]
      by_cases c : p ≤ place ord L L[i] <;> simp [c]
  · rfl
theorem c_mayGo (h : EC L kK kV kW kC kL kT kP sz) (but : Int32) {i : Nat} (hi : i < L.length) : X1_mayGo F (nI i) but kK kP = some (bi (mayGo but L[i])) := by
  obtain ⟨rfl, h1, h3⟩ := id h
  rw [X1_mayGo]
  simp (disch := omega) only [nI_add, pn_add, pn_addl, pn_mul, pn_cl, pn_nlt0, false_or, pn_ge, pn_le, Nat.add_zero, Nat.zero_add, ↓reduceIte, Option.bind_some, nI_leI, nI_ltI, nI_eq, pn_ne1, pn_1ne, c_K h hi, c_P h hi, mayGo, bi]
  by_cases c1 : eP L[i] = 0 <;> by_cases c2 : eK L[i] = but <;> simp [c1, c2]
theorem c_first (h : EC L kK kV kW kC kL kT kP sz) (hF : 100 ≤ F) (ord but : Int32) : Tot (X1_first F ord but kK kC kL kP sz) (IX L (best (ahead ord) (mayGo but) L)) := by
  obtain ⟨rfl, h1, h3⟩ := id h
  rw [X1_first]
  refine tot_b (best_loop (fun n v i => X1_first_L5 F n ord but v (nI i) kK kC kL kP (nI L.length)) (ahead ord) (mayGo but) L ?_ ?_ ?_ ?_ F (by omega)) (fun a ha => tot_s ha)
  · intro n v
    rw [X1_first_L5]
    simp (disch := omega) only [nI_add, pn_add, pn_addl, pn_mul, pn_cl, pn_nlt0, false_or, pn_ge, pn_le, Nat.add_zero, Nat.zero_add, ↓reduceIte, Option.bind_some, nI_leI, nI_ltI, nI_eq, pn_ne1, pn_1ne, Nat.le_refl]
  · intro n v i hi hv ho
    rw [X1_first_L5]
    simp (disch := omega) only [nI_add, pn_add, pn_addl, pn_mul, pn_cl, pn_nlt0, false_or, pn_ge, pn_le, Nat.add_zero, Nat.zero_add, ↓reduceIte, Option.bind_some, nI_leI, nI_ltI, nI_eq, pn_ne1, pn_1ne, c_mayGo h but hi, ho]
    simp [bi]
  · intro n i hi ho
    rw [X1_first_L5]
    simp (disch := omega) only [nI_add, pn_add, pn_addl, pn_mul, pn_cl, pn_nlt0, false_or, pn_ge, pn_le, Nat.add_zero, Nat.zero_add, ↓reduceIte, Option.bind_some, nI_leI, nI_ltI, nI_eq, pn_ne1, pn_1ne, c_mayGo h but hi, ho]
    simp [bi]
  · intro n i j hi hj ho
    rw [X1_first_L5]
    simp (disch := omega) only [nI_add, pn_add, pn_addl, pn_mul, pn_cl, pn_nlt0, false_or, pn_ge, pn_le, Nat.add_zero, Nat.zero_add, ↓reduceIte, Option.bind_some, nI_leI, nI_ltI, nI_eq, pn_ne1, pn_1ne, c_mayGo h but hi, ho, c_precedes h ord hi hj]
    cases c5 : ahead ord L[i] L[j] <;> simp [bi]
theorem c_heaviest (h : EC L kK kV kW kC kL kT kP sz) (hF : 100 ≤ F) (but : Int32) : Tot (X1_heaviest F but kK kW kL kP sz) (IX L (best heavier (mayGo but) L)) := by
  obtain ⟨rfl, h1, h3⟩ := id h
  rw [X1_heaviest]
  refine tot_b (best_loop (fun n v i => X1_heaviest_L4 F n but v (nI i) kK kW kL kP (nI L.length)) heavier (mayGo but) L ?_ ?_ ?_ ?_ F (by omega)) (fun a ha => tot_s ha)
  · intro n v
    rw [X1_heaviest_L4]
    simp (disch := omega) only [nI_add, pn_add, pn_addl, pn_mul, pn_cl, pn_nlt0, false_or, pn_ge, pn_le, Nat.add_zero, Nat.zero_add, ↓reduceIte, Option.bind_some, nI_leI, nI_ltI, nI_eq, pn_ne1, pn_1ne, Nat.le_refl]
  · intro n v i hi hv ho
    rw [X1_heaviest_L4]
    simp (disch := omega) only [nI_add, pn_add, pn_addl, pn_mul, pn_cl, pn_nlt0, false_or, pn_ge, pn_le, Nat.add_zero, Nat.zero_add, ↓reduceIte, Option.bind_some, nI_leI, nI_ltI, nI_eq, pn_ne1, pn_1ne, c_mayGo h but hi, ho]
    simp [bi]
  · intro n i hi ho
    rw [X1_heaviest_L4]
    simp (disch := omega) only [nI_add, pn_add, pn_addl, pn_mul, pn_cl, pn_nlt0, false_or, pn_ge, pn_le, Nat.add_zero, Nat.zero_add, ↓reduceIte, Option.bind_some, nI_leI, nI_ltI, nI_eq, pn_ne1, pn_1ne, c_mayGo h but hi, ho]
    simp [bi]
  · intro n i j hi hj ho
    rw [X1_heaviest_L4]
    simp (disch := omega) only [nI_add, pn_add, pn_addl, pn_mul, pn_cl, pn_nlt0, false_or, pn_ge, pn_le, Nat.add_zero, Nat.zero_add, ↓reduceIte, Option.bind_some, nI_leI, nI_ltI, nI_eq, pn_ne1, pn_1ne, c_mayGo h but hi, ho, c_W h hi, c_W h hj, c_L h hi, c_L h hj]
    simp only [heavier, bi, if_true, decide_eq_true_eq, ← Int32.not_le]
    by_cases c1 : eW L[i] ≤ eW L[j] <;> by_cases c2 : eW L[i] = eW L[j] <;> by_cases c3 : eL L[j] ≤ eL L[i] <;> simp [c1, c2, c3]
def isYoung (e : En) : Bool := decide (eC e = 1)
theorem c_isYoung (h : EC L kK kV kW kC kL kT kP sz) {i : Nat} (hi : i < L.length) : X1_isYoung F (nI i) kC = some (bi (isYoung L[i])) := by
  obtain ⟨rfl, h1, h3⟩ := id h
  rw [X1_isYoung]
  simp (disch := omega) only [nI_add, pn_add, pn_addl, pn_mul, pn_cl, pn_nlt0, false_or, pn_ge, pn_le, Nat.add_zero, Nat.zero_add, ↓reduceIte, Option.bind_some, nI_leI, nI_ltI, nI_eq, pn_ne1, pn_1ne, c_C h hi, isYoung, bi]
  by_cases c : eC L[i] = 1 <;> simp [c]
def okA (yg : Bool) (but : Int32) (e : En) : Bool := mayGo but e && (isYoung e == yg)
theorem c_firstOfAge (h : EC L kK kV kW kC kL kT kP sz) (hF : 100 ≤ F) (yg : Bool) (but : Int32) : Tot (X1_firstOfAge F (bi yg) but kK kC kL kP sz) (IX L (best (ahead 0) (okA yg but) L)) := by
  obtain ⟨rfl, h1, h3⟩ := id h
  rw [X1_firstOfAge]
  refine tot_b (best_loop (fun n v i => X1_firstOfAge_L5 F n (bi yg) but v (nI i) kK kC kL kP (nI L.length)) (ahead 0) (okA yg but) L ?_ ?_ ?_ ?_ F (by omega)) (fun a ha => tot_s ha)
  · intro n v
    rw [X1_firstOfAge_L5]
    simp (disch := omega) only [nI_add, pn_add, pn_addl, pn_mul, pn_cl, pn_nlt0, false_or, pn_ge, pn_le, Nat.add_zero, Nat.zero_add, ↓reduceIte, Option.bind_some, nI_leI, nI_ltI, nI_eq, pn_ne1, pn_1ne, Nat.le_refl]
  · intro n v i hi hv ho
    rw [X1_firstOfAge_L5]
    simp (disch := omega) only [nI_add, pn_add, pn_addl, pn_mul, pn_cl, pn_nlt0, false_or, pn_ge, pn_le, Nat.add_zero, Nat.zero_add, ↓reduceIte, Option.bind_some, nI_leI, nI_ltI, nI_eq, pn_ne1, pn_1ne, c_mayGo h but hi, c_isYoung h hi]
    simp only [okA] at ho
    cases c1 : mayGo but L[i] <;> cases c2 : isYoung L[i] <;> cases yg <;> simp_all [bi]
  · intro n i hi ho
    rw [X1_firstOfAge_L5]
    simp (disch := omega) only [nI_add, pn_add, pn_addl, pn_mul, pn_cl, pn_nlt0, false_or, pn_ge, pn_le, Nat.add_zero, Nat.zero_add, ↓reduceIte, Option.bind_some, nI_leI, nI_ltI, nI_eq, pn_ne1, pn_1ne, c_mayGo h but hi, c_isYoung h hi]
    simp only [okA] at ho
    cases c1 : mayGo but L[i] <;> cases c2 : isYoung L[i] <;> cases yg <;> simp_all [bi]
  · intro n i j hi hj ho
    rw [X1_firstOfAge_L5]
    simp (disch := omega) only [nI_add, pn_add, pn_addl, pn_mul, pn_cl, pn_nlt0, false_or, pn_ge, pn_le, Nat.add_zero, Nat.zero_add, ↓reduceIte, Option.bind_some, nI_leI, nI_ltI, nI_eq, pn_ne1, pn_1ne, c_mayGo h but hi, c_isYoung h hi, c_L h hi, c_L h hj]
    simp only [okA] at ho
    simp only [ahead]
    by_cases c3 : eL L[j] ≤ eL L[i] <;> cases c1 : mayGo but L[i] <;> cases c2 : isYoung L[i] <;> cases yg <;> simp_all [bi, ← Int32.not_le]
def cntW (c : Int32) (e : En) : Int32 := if eC e = c then eW e else 0
theorem c_weightsOf (h : EC L kK kV kW kC kL kT kP sz) (hF : 100 ≤ F) (c : Int32) : X1_weightsOf F c kW kC sz = some (sumBy (cntW c) L) := by
  obtain ⟨rfl, h1, h3⟩ := id h
  rw [X1_weightsOf, show X1_weightsOf_L4 F F c 0 0 kW kC (nI L.length) = some (sumBy (cntW c) L) from sum_loop (fun n v i => X1_weightsOf_L4 F n c v (nI i) kW kC (nI L.length)) (cntW c) L id ?_ ?_ F (by omega)]
  · rfl
  · intro n v
    rw [X1_weightsOf_L4]
    simp (disch := omega) only [nI_add, pn_add, pn_addl, pn_mul, pn_cl, pn_nlt0, false_or, pn_ge, pn_le, Nat.add_zero, Nat.zero_add, ↓reduceIte, Option.bind_some, nI_leI, nI_ltI, nI_eq, pn_ne1, pn_1ne, Nat.le_refl, id]
  · intro n v i hi
    rw [X1_weightsOf_L4]
    simp (disch := omega) only [nI_add, pn_add, pn_addl, pn_mul, pn_cl, pn_nlt0, false_or, pn_ge, pn_le, Nat.add_zero, Nat.zero_add, ↓reduceIte, Option.bind_some, nI_leI, nI_ltI, nI_eq, pn_ne1, pn_1ne, c_W h hi, c_C h hi, cntW]
    split <;> simp
theorem c_youngLoad (h : EC L kK kV kW kC kL kT kP sz) (hF : 100 ≤ F) : X1_youngLoad F kW kC sz = some (sumBy (cntW 1) L) := by
  rw [X1_youngLoad, c_weightsOf h hF]; rfl
def cnt1 (c : Int32) (e : En) : Int32 := if eC e = c then 1 else 0
theorem c_howManyOf (h : EC L kK kV kW kC kL kT kP sz) (hF : 100 ≤ F) (c : Int32) : X1_howManyOf F c kC sz = some (sumBy (cnt1 c) L) := by
  obtain ⟨rfl, h1, h3⟩ := id h
  rw [X1_howManyOf, show X1_howManyOf_L4 F F c 0 0 kC (nI L.length) = some (sumBy (cnt1 c) L) from sum_loop (fun n v i => X1_howManyOf_L4 F n c v (nI i) kC (nI L.length)) (cnt1 c) L id ?_ ?_ F (by omega)]
  · rfl
  · intro n v
    rw [X1_howManyOf_L4]
    simp (disch := omega) only [nI_add, pn_add, pn_addl, pn_mul, pn_cl, pn_nlt0, false_or, pn_ge, pn_le, Nat.add_zero, Nat.zero_add, ↓reduceIte, Option.bind_some, nI_leI, nI_ltI, nI_eq, pn_ne1, pn_1ne, Nat.le_refl, id]
  · intro n v i hi
    rw [X1_howManyOf_L4]
    simp (disch := omega) only [nI_add, pn_add, pn_addl, pn_mul, pn_cl, pn_nlt0, false_or, pn_ge, pn_le, Nat.add_zero, Nat.zero_add, ↓reduceIte, Option.bind_some, nI_leI, nI_ltI, nI_eq, pn_ne1, pn_1ne, c_C h hi, cnt1]
    split <;> simp
def okT (u : Int32) (e : En) : Bool := !decide (eT e = -1) && decide (eT e ≤ u)
theorem c_soonest (h : EC L kK kV kW kC kL kT kP sz) (hF : 100 ≤ F) (u : Int32) : Tot (X1_soonest F u kL kT sz) (IX L (best sooner (okT u) L)) := by
  obtain ⟨rfl, h1, h3⟩ := id h
  rw [X1_soonest]
  refine tot_b (best_loop (fun n v i => X1_soonest_L4 F n u v (nI i) kL kT (nI L.length)) sooner (okT u) L ?_ ?_ ?_ ?_ F (by omega)) (fun a ha => tot_s ha)
  · intro n v
    rw [X1_soonest_L4]
    simp (disch := omega) only [nI_add, pn_add, pn_addl, pn_mul, pn_cl, pn_nlt0, false_or, pn_ge, pn_le, Nat.add_zero, Nat.zero_add, ↓reduceIte, Option.bind_some, nI_leI, nI_ltI, nI_eq, pn_ne1, pn_1ne, Nat.le_refl]
  · intro n v i hi hv ho
    rw [X1_soonest_L4]
    simp only [okT, Bool.and_eq_false_iff, Bool.not_eq_false', decide_eq_true_eq, decide_eq_false_iff_not] at ho
    by_cases c1 : eT L[i] = -1
    · simp (disch := omega) only [nI_add, pn_add, pn_addl, pn_mul, pn_cl, pn_nlt0, false_or, pn_ge, pn_le, Nat.add_zero, Nat.zero_add, ↓reduceIte, Option.bind_some, nI_leI, nI_ltI, nI_eq, pn_ne1, pn_1ne, c_T h hi, c1]
    · have c2 : u < eT L[i] := by rcases ho with ho | ho; exact absurd ho c1; rwa [Int32.not_le] at ho
      simp (disch := omega) only [nI_add, pn_add, pn_addl, pn_mul, pn_cl, pn_nlt0, false_or, pn_ge, pn_le, Nat.add_zero, Nat.zero_add, ↓reduceIte, Option.bind_some, nI_leI, nI_ltI, nI_eq, pn_ne1, pn_1ne, c_T h hi, c1, c2]
  · intro n i hi ho
    rw [X1_soonest_L4]
    simp only [okT, Bool.and_eq_true, Bool.not_eq_true', decide_eq_false_iff_not, decide_eq_true_eq] at ho
    have c2 : ¬ u < eT L[i] := by rw [Int32.not_lt]; exact ho.2
    simp (disch := omega) only [nI_add, pn_add, pn_addl, pn_mul, pn_cl, pn_nlt0, false_or, pn_ge, pn_le, Nat.add_zero, Nat.zero_add, ↓reduceIte, Option.bind_some, nI_leI, nI_ltI, nI_eq, pn_ne1, pn_1ne, c_T h hi, ho.1, c2]
  · intro n i j hi hj ho
    rw [X1_soonest_L4]
    simp only [okT, Bool.and_eq_true, Bool.not_eq_true', decide_eq_false_iff_not, decide_eq_true_eq] at ho
    have c2 : ¬ u < eT L[i] := by rw [Int32.not_lt]; exact ho.2
    simp (disch := omega) only [nI_add, pn_add, pn_addl, pn_mul, pn_cl, pn_nlt0, false_or, pn_ge, pn_le, Nat.add_zero, Nat.zero_add, ↓reduceIte, Option.bind_some, nI_leI, nI_ltI, nI_eq, pn_ne1, pn_1ne, c_T h hi, c_T h hj, c_L h hi, c_L h hj, ho.1, c2]
    simp only [sooner, decide_eq_true_eq, ← Int32.not_le]
    by_cases c1 : eT L[j] ≤ eT L[i] <;> by_cases c2 : eT L[i] = eT L[j] <;> by_cases c3 : eL L[j] ≤ eL L[i] <;> simp [c1, c2, c3]
end CRead
