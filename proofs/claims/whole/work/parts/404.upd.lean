/-! what is done to a list of entries -/
def modK (k : Int32) (f : En → En) (L : List En) : List En := L.map (fun e => if eK e = k then f e else e)
def delK (k : Int32) (L : List En) : List En := L.filter (fun e => !(e.1 == k))
theorem nodup_ix {L : List En} (h : (L.map eK).Nodup) {i j : Nat} (hi : i < L.length) (hj : j < L.length) (e : eK L[i] = eK L[j]) : i = j := by
  have h' := List.pairwise_iff_getElem.1 h
  rcases Nat.lt_trichotomy i j with c | c | c
  · exact absurd (by rw [List.getElem_map, List.getElem_map]; exact e) (h' i j (by simpa using hi) (by simpa using hj) c)
  · exact c
  · exact absurd (by rw [List.getElem_map, List.getElem_map]; exact e.symm) (h' j i (by simpa using hj) (by simpa using hi) c)
theorem set_modK {L : List En} (hn : (L.map eK).Nodup) {i : Nat} (hi : i < L.length) {k : Int32} (hk : eK L[i] = k) (f : En → En) : L.set i (f L[i]) = modK k f L := by
  apply List.ext_getElem
  · simp [modK]
  · intro j h1 h2
    have hj : j < L.length := by simpa using h1
    simp only [modK, List.getElem_map, List.getElem_set]
    by_cases c : i = j
    · subst c; simp [hk]
    · have h3 : eK L[j] ≠ k := fun e => c (nodup_ix hn hi hj (hk.trans e.symm))
      simp [c, h3]
theorem set_perm {α : Type} (x : α) : ∀ (l : List α) (i : Nat) (h : i < l.length), (l[i] :: l.set i x).Perm (x :: l)
  | [], i, h => by simp at h
  | a :: l, 0, h => by simpa using List.Perm.swap x a l
  | a :: l, i + 1, h => by
    have ih := set_perm x l i (by simpa using h)
    simp only [List.getElem_cons_succ, List.set_cons_succ]
    exact ((List.Perm.swap _ _ _).trans (ih.cons a)).trans (List.Perm.swap _ _ _)
/-- the last one moved into the place that falls free -/
def dropS (L : List En) (i : Nat) : List En := L.dropLast.set i (L.getD (L.length - 1) default)
theorem dropS_perm {L : List En} {i : Nat} (hi : i < L.length) : (L[i] :: dropS L i).Perm L := by
  have hl : L ≠ [] := by intro e; rw [e] at hi; simp at hi
  have e1 : L.getD (L.length - 1) default = L.getLast hl := by
    rw [List.getLast_eq_getElem]; simp [List.getD_eq_getElem?_getD, show L.length - 1 < L.length by omega]
  have e2 : L.dropLast ++ [L.getLast hl] = L := List.dropLast_concat_getLast hl
  rw [dropS, e1]
  by_cases c : i < L.length - 1
  · have h1 := set_perm (L.getLast hl) L.dropLast i (by simpa using c)
    have e3 : L.dropLast[i]'(by simpa using c) = L[i] := by simp
    rw [e3] at h1
    refine h1.trans ?_
    refine (List.perm_append_singleton _ _).symm.trans ?_
    rw [e2]
  · have e4 : L.dropLast.set i (L.getLast hl) = L.dropLast := List.set_eq_of_length_le (by simp; omega)
    have e5 : L[i] = L.getLast hl := by rw [List.getLast_eq_getElem]; congr 1; omega
    rw [e4, e5]
    refine (List.perm_append_singleton _ _).symm.trans ?_
    rw [e2]
theorem dropS_len {L : List En} {i : Nat} : (dropS L i).length = L.length - 1 := by simp [dropS]
theorem delK_of {L M : List En} (hn : (L.map eK).Nodup) {e : En} (p : (e :: M).Perm L) : M.Perm (delK (eK e) L) := by
  have hn2 : ((e :: M).map eK).Nodup := (p.map eK).nodup_iff.2 hn
  simp only [List.map_cons, List.nodup_cons, List.mem_map, not_exists, not_and] at hn2
  have h1 : delK (eK e) (e :: M) = M := by
    simp only [delK, List.filter_cons, beq_self_eq_true, Bool.not_true]
    simp only [Bool.false_eq_true, if_false]
    rw [List.filter_eq_self]
    intro a ha
    have := hn2.1 a ha
    simpa using this
  have h2 := p.filter (fun x => !(x.1 == eK e))
  rw [show List.filter (fun x => !(x.1 == eK e)) (e :: M) = M from h1] at h2
  exact h2
theorem delK_len {L : List En} (hn : (L.map eK).Nodup) {e : En} (h : e ∈ L) : (delK (eK e) L).length + 1 = L.length := by
  obtain ⟨i, hi, rfl⟩ := List.getElem_of_mem h
  have h1 := (delK_of hn (dropS_perm hi)).length_eq
  rw [dropS_len] at h1; omega
theorem mem_delK {L : List En} {k : Int32} {e : En} : e ∈ delK k L ↔ e ∈ L ∧ eK e ≠ k := by simp [delK]
theorem delK_perm {L M : List En} {k : Int32} (p : L.Perm M) : (delK k L).Perm (delK k M) := p.filter _
theorem modK_perm {L M : List En} {k : Int32} {f : En → En} (p : L.Perm M) : (modK k f L).Perm (modK k f M) := p.map _
/-! uses -/
def halveE (e : En) : En := (eK e, eV e, eW e, (if eC e / 2 < 1 then 1 else eC e / 2), eL e, eT e, eP e)
def usedE (u : Int32) (e : En) : En := (eK e, eV e, eW e, (if 999999 < eC e + 1 then 999999 else eC e + 1), u, eT e, eP e)
def chgE (v w t : Int32) (e : En) : En := (eK e, v, w, eC e, eL e, t, eP e)
def pinE (p : Int32) (e : En) : En := (eK e, eV e, eW e, eC e, eL e, eT e, p)
section CUpd
variable {F : Nat} {L : List En} {kK kV kW kC kL kT kP : Nat → Int32} {sz : Int32}
theorem c_has (h : EC L kK kV kW kC kL kT kP sz) {i : Nat} (hi : i < L.length) : X1_has F (nI i) sz = some 1 := by
  obtain ⟨rfl, h1, h3⟩ := id h
  rw [X1_has]
  simp (disch := omega) only [nI_add, pn_add, pn_addl, pn_mul, pn_cl, pn_nlt0, false_or, pn_ge, pn_le, Nat.add_zero, Nat.zero_add, ↓reduceIte, Option.bind_some, nI_leI, nI_ltI, nI_eq, pn_ne1, pn_1ne]
theorem c_hasN : X1_has F (-1) sz = some 0 := by
  rw [X1_has, if_pos (by decide)]
theorem c_add (h : EC L kK kV kW kC kL kT kP sz) (hl : L.length < 60) (k v wt t ld : Int32) : Tot (X1_add F k v wt t kK kV kW kC kL kT kP sz ld) (fun r => EC (L ++ [(k, v, wt, 0, 0, t, 0)]) r.1 r.2.1 r.2.2.1 r.2.2.2.1 r.2.2.2.2.1 r.2.2.2.2.2.1 r.2.2.2.2.2.2.1 r.2.2.2.2.2.2.2.1 ∧ r.2.2.2.2.2.2.2.2 = ld + wt) := by
  obtain ⟨rfl, h1, h3⟩ := id h
  rw [X1_add]
  have e60 : (nI L.length < 60) := nI_lt hl (by decide)
  simp (disch := omega) only [nI_add, pn_add, pn_addl, pn_mul, pn_cl, pn_nlt0, false_or, pn_ge, pn_le, Nat.add_zero, Nat.zero_add, ↓reduceIte, Option.bind_some, nI_leI, nI_ltI, nI_eq, pn_ne1, pn_1ne]
  rw [if_pos e60]
  refine tot_s ⟨⟨?_, by simp; omega, fun i hi => ?_⟩, rfl⟩
  · simp
  · simp only [List.length_append, List.length_singleton] at hi
    by_cases c : i < L.length
    · have hne : i ≠ L.length := by omega
      rw [List.getElem_append_left c, h3 i c]
      simp [rowC, upd, hne]
    · have e : i = L.length := by omega
      subst e
      simp [rowC, upd]
      decide
end CUpd
/-! one after another -/
def mapL {α : Type} (k : Nat) (f : α → α) (L : List α) : List α := (L.take k).map f ++ L.drop k
theorem mapL_0 {α : Type} (f : α → α) (L : List α) : mapL 0 f L = L := by simp [mapL]
theorem mapL_e {α : Type} (f : α → α) (L : List α) : mapL L.length f L = L.map f := by simp [mapL]
theorem mapL_len {α : Type} (k : Nat) (f : α → α) (L : List α) : (mapL k f L).length = L.length := by simp [mapL]; omega
theorem mapL_get {α : Type} {k : Nat} (f : α → α) {L : List α} (h : k < L.length) (h' : k < (mapL k f L).length) : (mapL k f L)[k] = L[k] := by
  simp only [mapL]
  rw [List.getElem_append_right (by simp; omega)]
  simp [show min k L.length = k by omega]
theorem mapL_set {α : Type} {k : Nat} (f : α → α) {L : List α} (h : k < L.length) : (mapL k f L).set k (f L[k]) = mapL (k + 1) f L := by
  apply List.ext_getElem
  · simp [mapL_len]
  · intro j h1 h2
    have hj : j < L.length := by simpa [mapL_len] using h2
    rw [List.getElem_set]
    by_cases c : k = j
    · subst c
      simp only [if_true, mapL]
      rw [List.getElem_append_left (by simp; omega)]
      simp
    · simp only [c, if_false, mapL]
      by_cases c2 : j < k
      · rw [List.getElem_append_left (by simp; omega), List.getElem_append_left (by simp; omega)]
        simp
      · rw [List.getElem_append_right (by simp; omega), List.getElem_append_right (by simp; omega)]
        simp only [List.length_map, List.length_take, List.getElem_drop]
        congr 1; omega
theorem i32_half {c : Int32} : (c / 2).toInt = c.toInt.tdiv 2 := Int32.toInt_div_of_ne_right c 2 (by decide)
theorem halve_eq (c : Int32) : (if (2 : Int32) ≤ c then c / 2 else 1) = (if c / 2 < 1 then 1 else c / 2) := by
  have h2 : (2 : Int32).toInt = 2 := by decide
  have h1 : (1 : Int32).toInt = 1 := by decide
  have hh := i32_half (c := c)
  by_cases c0 : 0 ≤ c.toInt
  · rw [Int.tdiv_eq_ediv_of_nonneg c0] at hh
    by_cases c1 : (2 : Int32) ≤ c
    · rw [if_pos c1, if_neg]
      rw [i32_le, h2] at c1; rw [i32_lt, hh, h1]; omega
    · rw [if_neg c1, if_pos]
      rw [i32_le, h2] at c1; rw [i32_lt, hh, h1]; omega
  · rw [if_neg (by rw [i32_le, h2]; omega), if_pos]
    rw [i32_lt, hh, h1]
    have : c.toInt = - (- c.toInt) := by omega
    rw [this, Int.neg_tdiv, Int.tdiv_eq_ediv_of_nonneg (by omega)]
    omega
def useL (L : List En) (k u a : Int32) : List En := if (u + 1) - (u + 1) / a * a = 0 then (modK k (usedE (u + 1)) L).map halveE else modK k (usedE (u + 1)) L
