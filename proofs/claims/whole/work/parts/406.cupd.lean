/-! the store's rows of entries, written -/
theorem nar_b {x : Int32} (h : x = 0 ∨ x = 1) : vp_nar .boolean x = x := by rcases h with rfl | rfl <;> decide
def PB (L : List En) : Prop := ∀ e ∈ L, eP e = 0 ∨ eP e = 1
theorem PB.at {L : List En} (h : PB L) {i : Nat} (hi : i < L.length) : eP L[i] = 0 ∨ eP L[i] = 1 := h _ (List.getElem_mem hi)
theorem dropS_get {L : List En} {i j : Nat} (hj : j < (dropS L i).length) (hj2 : j < L.length) (hl : L.length - 1 < L.length) : (dropS L i)[j] = if i = j then L[L.length - 1] else L[j] := by
  simp only [dropS, List.getElem_set, List.getElem_dropLast]
  split
  · simp [List.getD_eq_getElem?_getD, hl]
  · rfl
section CUpd2
variable {F : Nat} {L : List En} {kK kV kW kC kL kT kP : Nat → Int32} {sz : Int32}
theorem c_drop (h : EC L kK kV kW kC kL kT kP sz) (hp : PB L) {i : Nat} (hi : i < L.length) (ld pl : Int32) :
    Tot (X1_drop F (nI i) kK kV kW kC kL kT kP sz ld pl) (fun r => EC (dropS L i) r.1 r.2.1 r.2.2.1 r.2.2.2.1 r.2.2.2.2.1 r.2.2.2.2.2.1 r.2.2.2.2.2.2.1 r.2.2.2.2.2.2.2.1 ∧ r.2.2.2.2.2.2.2.2.1 = ld - eW L[i] ∧ r.2.2.2.2.2.2.2.2.2 = if eP L[i] = 0 then pl else pl - eW L[i]) := by
  obtain ⟨rfl, h1, h3⟩ := id h
  have hl : L.length - 1 < L.length := by omega
  have e1 : nI L.length - 1 = nI (L.length - 1) := by
    obtain ⟨m, hm⟩ : ∃ m, L.length = m + 1 := ⟨L.length - 1, by omega⟩
    rw [hm]; exact nI_pred m
  have hE : EC (dropS L i) (upd kK i (kK (L.length - 1))) (upd kV i (kV (L.length - 1))) (upd kW i (kW (L.length - 1))) (upd kC i (kC (L.length - 1))) (upd kL i (kL (L.length - 1))) (upd kT i (kT (L.length - 1))) (upd kP i (eP L[L.length - 1])) (nI (L.length - 1)) := by
    refine ⟨by rw [dropS_len], by rw [dropS_len]; omega, fun j hj => ?_⟩
    have hj2 : j < L.length := by rw [dropS_len] at hj; omega
    rw [dropS_get hj hj2 hl]
    by_cases c : i = j
    · subst c; rw [if_pos rfl, h3 _ hl]; simp [rowC, upd]
    · have c' : ¬ j = i := fun e => c e.symm
      rw [if_neg c, h3 _ hj2]; simp [rowC, upd, c']
  rw [X1_drop, c_has h hi]
  simp (disch := omega) only [nI_add, pn_add, pn_addl, pn_mul, pn_cl, pn_nlt0, false_or, pn_ge, pn_le, Nat.add_zero, Nat.zero_add, ↓reduceIte, Option.bind_some, nI_leI, nI_ltI, nI_eq, pn_ne1, pn_1ne, e1, c_P h hi, c_W h hi]
  rw [c_P h hl, nar_b (hp.at hl)]
  rw [if_neg (by decide)]
  by_cases c : eP L[i] = 0
  · simp only [c, if_true]
    exact tot_s ⟨hE, rfl, rfl⟩
  · simp only [c, if_false]
    exact tot_s ⟨hE, rfl, rfl⟩
theorem EC.set {kK' kV' kW' kC' kL' kT' kP' : Nat → Int32} (h : EC L kK kV kW kC kL kT kP sz) {i : Nat} (hr : ∀ j, j < L.length → j ≠ i → rowC kK' kV' kW' kC' kL' kT' kP' j = rowC kK kV kW kC kL kT kP j) : EC (L.set i (rowC kK' kV' kW' kC' kL' kT' kP' i)) kK' kV' kW' kC' kL' kT' kP' sz := by
  obtain ⟨a, b, c⟩ := h
  refine ⟨by rw [List.length_set]; exact a, by rw [List.length_set]; exact b, fun j hj => ?_⟩
  rw [List.length_set] at hj
  rw [List.getElem_set]
  by_cases e : i = j
  · subst e; simp
  · rw [if_neg e, c j hj]; exact (hr j hj (fun x => e x.symm)).symm
theorem c_change (h : EC L kK kV kW kC kL kT kP sz) {i : Nat} (hi : i < L.length) (v wt t ld pl : Int32) :
    Tot (X1_change F (nI i) v wt t kV kW kT kP sz ld pl) (fun r => EC (L.set i (chgE v wt t L[i])) kK r.1 r.2.1 kC kL r.2.2.1 kP sz ∧ r.2.2.2.1 = ld + (wt - eW L[i]) ∧ r.2.2.2.2 = if eP L[i] = 0 then pl else pl + (wt - eW L[i])) := by
  have hE : EC (L.set i (chgE v wt t L[i])) kK (upd kV i v) (upd kW i wt) kC kL (upd kT i t) kP sz := by
    have hs := EC.set (kK' := kK) (kV' := upd kV i v) (kW' := upd kW i wt) (kC' := kC) (kL' := kL) (kT' := upd kT i t) (kP' := kP) h (i := i) (fun j _ hj => by simp [rowC, upd, hj])
    rw [show rowC kK (upd kV i v) (upd kW i wt) kC kL (upd kT i t) kP i = chgE v wt t L[i] by
      rw [h.2.2 i hi]; simp [rowC, upd, chgE]] at hs
    exact hs
  obtain ⟨rfl, h1, h3⟩ := id h
  rw [X1_change, c_has h hi]
  simp (disch := omega) only [nI_add, pn_add, pn_addl, pn_mul, pn_cl, pn_nlt0, false_or, pn_ge, pn_le, Nat.add_zero, Nat.zero_add, ↓reduceIte, Option.bind_some, nI_leI, nI_ltI, nI_eq, pn_ne1, pn_1ne, c_P h hi, c_W h hi]
  rw [if_neg (by decide)]
  by_cases c : eP L[i] = 0
  · simp only [c, if_true]
    exact tot_s ⟨hE, rfl, rfl⟩
  · simp only [c, if_false]
    exact tot_s ⟨hE, rfl, rfl⟩
theorem c_fasten (h : EC L kK kV kW kC kL kT kP sz) {i : Nat} (hi : i < L.length) {p : Int32} (hp : p = 0 ∨ p = 1) (pl : Int32) :
    Tot (X1_fasten F (nI i) p kW kP sz pl) (fun r => r.1 = (if eP L[i] = p then 0 else 1) ∧ EC (L.set i (pinE p L[i])) kK kV kW kC kL kT r.2.1 sz ∧ r.2.2 = if eP L[i] = p then pl else if p = 0 then pl + -eW L[i] else pl + eW L[i]) := by
  have hE : EC (L.set i (pinE p L[i])) kK kV kW kC kL kT (upd kP i p) sz := by
    have hs := EC.set (kK' := kK) (kV' := kV) (kW' := kW) (kC' := kC) (kL' := kL) (kT' := kT) (kP' := upd kP i p) h (i := i) (fun j _ hj => by simp [rowC, upd, hj])
    rw [show rowC kK kV kW kC kL kT (upd kP i p) i = pinE p L[i] by
      rw [h.2.2 i hi]; simp [rowC, upd, pinE]] at hs
    exact hs
  obtain ⟨rfl, h1, h3⟩ := id h
  rw [X1_fasten, c_has h hi]
  simp (disch := omega) only [nI_add, pn_add, pn_addl, pn_mul, pn_cl, pn_nlt0, false_or, pn_ge, pn_le, Nat.add_zero, Nat.zero_add, ↓reduceIte, Option.bind_some, nI_leI, nI_ltI, nI_eq, pn_ne1, pn_1ne, c_P h hi, c_W h hi]
  rw [if_neg (by decide), nar_b hp]
  by_cases c : eP L[i] = p
  · simp only [c, if_true]
    refine tot_s ⟨rfl, ?_, rfl⟩
    rw [show pinE p L[i] = L[i] by rw [← c]; rfl, List.set_getElem_self]; exact h
  · simp only [c, if_false]
    by_cases c2 : p = 0
    · simp only [c2, if_true]; subst c2
      exact tot_s ⟨rfl, hE, rfl⟩
    · simp only [c2, if_false]
      exact tot_s ⟨rfl, hE, rfl⟩
theorem c_halve (h : EC L kK kV kW kC kL kT kP sz) (hF : 100 ≤ F) (hv : Int32) : Tot (X1_halve F kC sz hv) (fun r => EC (L.map halveE) kK kV kW r.1 kL kT kP sz ∧ r.2 = hv + 1) := by
  obtain ⟨rfl, h1, h3⟩ := id h
  rw [X1_halve]
  refine tot_b (Q := fun x => EC (L.map halveE) kK kV kW x kL kT kP (nI L.length)) ?_ (fun x hx => tot_s ⟨hx, rfl⟩)
  refine tot_loop (fun n i (x : Nat → Int32) => X1_halve_L2 F n (nI i) x (nI L.length)) (fun i x => EC (mapL i halveE L) kK kV kW x kL kT kP (nI L.length)) L.length ?_ ?_ F 0 kC (by omega) (by omega) (by rw [mapL_0]; exact h)
  · intro n x hx
    rw [mapL_e] at hx
    rw [X1_halve_L2]
    simp (disch := omega) only [nI_add, pn_add, pn_addl, pn_mul, pn_cl, pn_nlt0, false_or, pn_ge, pn_le, Nat.add_zero, Nat.zero_add, ↓reduceIte, Option.bind_some, nI_leI, nI_ltI, nI_eq, pn_ne1, pn_1ne, Nat.le_refl]
    exact tot_s hx
  · intro n i x hi hx ih
    have hi' : i < (mapL i halveE L).length := by rw [mapL_len]; exact hi
    have e3 := c_C hx hi'
    have hrow := hx.2.2 i hi'
    rw [mapL_get halveE hi] at e3 hrow
    rw [X1_halve_L2]
    simp (disch := omega) only [nI_add, pn_add, pn_addl, pn_mul, pn_cl, pn_nlt0, false_or, pn_ge, pn_le, Nat.add_zero, Nat.zero_add, ↓reduceIte, Option.bind_some, nI_leI, nI_ltI, nI_eq, pn_ne1, pn_1ne]
    refine ih _ ?_
    have hs := EC.set (kK' := kK) (kV' := kV) (kW' := kW) (kC' := upd x i (if x i / 2 < 1 then 1 else x i / 2)) (kL' := kL) (kT' := kT) (kP' := kP) hx (i := i) (fun j _ hj => by simp [rowC, upd, hj])
    rw [show rowC kK kV kW (upd x i (if x i / 2 < 1 then 1 else x i / 2)) kL kT kP i = halveE L[i] by
      rw [hrow]; simp [rowC, upd, halveE]; rfl, mapL_set halveE hi] at hs
    exact hs
theorem c_use (h : EC L kK kV kW kC kL kT kP sz) (hn : (L.map eK).Nodup) {i : Nat} (hi : i < L.length) (hF : 100 ≤ F) (u a hv : Int32) (ha : 0 < a) :
    Tot (X1_use F (nI i) kC kL sz u a hv) (fun r => EC (useL L (eK L[i]) u a) kK kV kW r.1 r.2.1 kT kP sz ∧ r.2.2.1 = u + 1 ∧ r.2.2.2 = if (u + 1) - (u + 1) / a * a = 0 then hv + 1 else hv) := by
  have hE : EC (modK (eK L[i]) (usedE (u + 1)) L) kK kV kW (upd kC i (if 999999 < eC L[i] + 1 then 999999 else eC L[i] + 1)) (upd kL i (u + 1)) kT kP sz := by
    have hs := EC.set (kK' := kK) (kV' := kV) (kW' := kW) (kC' := upd kC i (if 999999 < eC L[i] + 1 then 999999 else eC L[i] + 1)) (kL' := upd kL i (u + 1)) (kT' := kT) (kP' := kP) h (i := i) (fun j _ hj => by simp [rowC, upd, hj])
    rw [show rowC kK kV kW (upd kC i (if 999999 < eC L[i] + 1 then 999999 else eC L[i] + 1)) (upd kL i (u + 1)) kT kP i = usedE (u + 1) L[i] by
      rw [h.2.2 i hi]; simp [rowC, upd, usedE], set_modK hn hi rfl] at hs
    exact hs
  obtain ⟨rfl, h1, h3⟩ := id h
  rw [X1_use, c_has h hi]
  have ha1 : ¬ a ≤ 0 := by rw [Int32.not_le]; exact ha
  have ha2 : ¬ a = 0 := by intro e; rw [e] at ha; exact absurd ha (by decide)
  simp (disch := omega) only [nI_add, pn_add, pn_addl, pn_mul, pn_cl, pn_nlt0, false_or, pn_ge, pn_le, Nat.add_zero, Nat.zero_add, ↓reduceIte, Option.bind_some, nI_leI, nI_ltI, nI_eq, pn_ne1, pn_1ne, c_C h hi, ha1, ha2]
  rw [if_neg (by decide)]
  by_cases c : (u + 1) - (u + 1) / a * a = 0
  · simp only [c, if_true, useL]
    have hE' := hE
    rw [show nI L.length = nI (modK (eK L[i]) (usedE (u + 1)) L).length by simp [modK]] at hE'
    exact tot_b (c_halve hE hF hv) (fun r hr => tot_s ⟨hr.1, rfl, hr.2⟩)
  · simp only [c, if_false, useL]
    exact tot_s ⟨hE, rfl, rfl⟩
end CUpd2
