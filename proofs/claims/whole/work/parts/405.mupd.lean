/-! the reference's row of entries, written -/
section MUpd
variable {F : Nat} {L : List En} {w w' : Nat → Int32} {o : Nat}
theorem EM.same (h : EM L w o) (h0 : w' o = w o) (hr : ∀ q, o + 24 ≤ q → q < o + 444 → w' q = w q) : EM L w' o := by
  obtain ⟨a, b, c, d⟩ := h
  refine ⟨h0.trans a, b, c, fun i hi => ?_⟩
  rw [d i hi]
  simp only [rowAt]
  rw [hr _ (by omega) (by omega), hr (o + 24 + 7 * i + 1) (by omega) (by omega), hr (o + 24 + 7 * i + 2) (by omega) (by omega), hr (o + 24 + 7 * i + 3) (by omega) (by omega), hr (o + 24 + 7 * i + 4) (by omega) (by omega), hr (o + 24 + 7 * i + 5) (by omega) (by omega), hr (o + 24 + 7 * i + 6) (by omega) (by omega)]
theorem EM.set (h : EM L w o) {i : Nat} (hi : i < L.length) (h0 : w' o = w o) (hr : ∀ q, o + 24 ≤ q → q < o + 444 → (q < o + 24 + 7 * i ∨ o + 24 + 7 * i + 7 ≤ q) → w' q = w q) : EM (L.set i (rowAt w' (o + 24 + 7 * i))) w' o := by
  obtain ⟨a, b, c, d⟩ := h
  refine ⟨by rw [h0, a, List.length_set], by rw [List.length_set]; exact b, c, fun j hj => ?_⟩
  rw [List.length_set] at hj
  rw [List.getElem_set]
  by_cases e : i = j
  · subst e; simp
  · rw [if_neg e, d j hj]
    simp only [rowAt]
    rw [hr (o + 24 + 7 * j) (by omega) (by omega) (by omega), hr (o + 24 + 7 * j + 1) (by omega) (by omega) (by omega), hr (o + 24 + 7 * j + 2) (by omega) (by omega) (by omega), hr (o + 24 + 7 * j + 3) (by omega) (by omega) (by omega), hr (o + 24 + 7 * j + 4) (by omega) (by omega) (by omega), hr (o + 24 + 7 * j + 5) (by omega) (by omega) (by omega), hr (o + 24 + 7 * j + 6) (by omega) (by omega) (by omega)]
theorem m_sets {i : Nat} (hi : i < 60) (ho : o + 848 ≤ 3392) (j : Nat) (hj : j < 7) (v : Int32) : X10_sets F (nI i) (nI j) v w (nI o) = some (upd w (o + 24 + 7 * i + j) v) := by
  rw [X10_sets]
  simp (disch := omega) only [nI_add, pn_add, pn_addl, pn_mul, pn_cl, pn_nlt0, false_or, pn_ge, pn_le, Nat.add_zero, Nat.zero_add, ↓reduceIte, Option.bind_some, nI_leI, nI_ltI, nI_eq, pn_ne1, pn_1ne]
theorem m_ofw {i : Nat} (hi : i < 60) (ho : o + 848 ≤ 3392) (j : Nat) (hj : j < 7) : X10_of F (nI i) (nI j) w (nI o) = some (w (o + 24 + 7 * i + j)) := by
  rw [X10_of]
  simp (disch := omega) only [nI_add, pn_add, pn_addl, pn_mul, pn_cl, pn_nlt0, false_or, pn_ge, pn_le, Nat.add_zero, Nat.zero_add, ↓reduceIte, Option.bind_some, nI_leI, nI_ltI, nI_eq, pn_ne1, pn_1ne]
theorem m_halve (h : EM L w o) (hF : 100 ≤ F) : Tot (X10_uses_L97 F F 0 w (nI o)) (fun w' => EM (L.map halveE) w' o ∧ ∀ q, (q < o + 24 ∨ o + 444 ≤ q) → w' q = w q) := by
  obtain ⟨h0, h1, h2, h3⟩ := id h
  refine tot_loop (fun n i (x : Nat → Int32) => X10_uses_L97 F n (nI i) x (nI o)) (fun i x => EM (mapL i halveE L) x o ∧ ∀ q, (q < o + 24 ∨ o + 444 ≤ q) → x q = w q) L.length ?_ ?_ F 0 w (by omega) (by omega) ⟨by rw [mapL_0]; exact h, fun _ _ => rfl⟩
  · intro n x ⟨hx, hq⟩
    rw [mapL_e] at hx
    have hx0 := hx.1
    rw [List.length_map] at hx0
    rw [X10_uses_L97]
    simp (disch := omega) only [nI_add, pn_add, pn_addl, pn_mul, pn_cl, pn_nlt0, false_or, pn_ge, pn_le, Nat.add_zero, Nat.zero_add, ↓reduceIte, Option.bind_some, nI_leI, nI_ltI, nI_eq, pn_ne1, pn_1ne, hx0, Nat.le_refl]
    exact tot_s ⟨hx, hq⟩
  · intro n i x hi ⟨hx, hq⟩ ih
    have hx0 := hx.1
    rw [mapL_len] at hx0
    have hi' : i < (mapL i halveE L).length := by rw [mapL_len]; exact hi
    have e3 := m_of3 (F := F) hx hi'
    rw [mapL_get halveE hi] at e3
    have hrow := hx.2.2.2 i hi'
    rw [mapL_get halveE hi] at hrow
    have key : ∀ v, v = (if eC L[i] / 2 < 1 then 1 else eC L[i] / 2) → Tot (X10_uses_L97 F n (nI (i + 1)) (upd x (o + 24 + 7 * i + 3) v) (nI o)) (fun w' => EM (L.map halveE) w' o ∧ ∀ q, (q < o + 24 ∨ o + 444 ≤ q) → w' q = w q) := by
      intro v hv
      refine ih _ ⟨?_, fun q hqq => ?_⟩
      · have hs := EM.set (w' := upd x (o + 24 + 7 * i + 3) v) hx hi' (upd_n (by omega)) (fun q _ _ _ => upd_n (by omega))
        rw [show rowAt (upd x (o + 24 + 7 * i + 3) v) (o + 24 + 7 * i) = halveE L[i] by
          subst hv; rw [hrow]; simp [rowAt, upd, halveE], mapL_set halveE hi] at hs
        exact hs
      · rw [upd_n (by omega)]; exact hq q hqq
    rw [X10_uses_L97]
    simp (disch := omega) only [nI_add, pn_add, pn_addl, pn_mul, pn_cl, pn_nlt0, false_or, pn_ge, pn_le, Nat.add_zero, Nat.zero_add, ↓reduceIte, Option.bind_some, nI_leI, nI_ltI, nI_eq, pn_ne1, pn_1ne, hx0, e3]
    rw [show ((3 : Int32)) = nI 3 from rfl]
    simp (disch := omega) only [m_sets, nI_add, pn_add, pn_addl, pn_mul, pn_cl, pn_nlt0, false_or, pn_ge, pn_le, Nat.add_zero, Nat.zero_add, ↓reduceIte, Option.bind_some, nI_leI, nI_ltI, nI_eq, pn_ne1, pn_1ne]
    by_cases c : (2 : Int32) ≤ eC L[i]
    · rw [if_pos c]
      refine key _ ?_
      rw [← halve_eq, if_pos c]
    · rw [if_neg c]
      refine key _ ?_
      rw [← halve_eq, if_neg c]
theorem lesser_eq (a b : Int32) : X10_lesser F a b = some (if b ≤ a then b else a) := by
  rw [X10_lesser]; split <;> rfl
theorem m_uses (h : EM L w o) (hn : (L.map eK).Nodup) {i : Nat} (hi : i < L.length) (ha : w (o + 6) ≠ 0) (hF : 100 ≤ F) :
    Tot (X10_uses F (nI i) w (nI o)) (fun w' => EM (useL L (eK L[i]) (w (o + 4)) (w (o + 6))) w' o ∧ w' (o + 4) = w (o + 4) + 1 ∧ w' (o + 15) = (if (w (o + 4) + 1) - (w (o + 4) + 1) / w (o + 6) * w (o + 6) = 0 then w (o + 15) + 1 else w (o + 15)) ∧ ∀ q, q ≠ o + 4 → q ≠ o + 15 → (q < o + 24 ∨ o + 444 ≤ q) → w' q = w q) := by
  obtain ⟨h0, h1, h2, h3⟩ := id h
  have hrow := h3 i hi
  rw [X10_uses]
  rw [show ((3 : Int32)) = nI 3 from rfl, show ((X10_sets F (nI i) 4)) = X10_sets F (nI i) (nI 4) from rfl]
  simp (disch := omega) only [m_sets, m_ofw, nI_add, pn_add, pn_addl, pn_mul, pn_cl, pn_nlt0, false_or, pn_ge, pn_le, Nat.add_zero, Nat.zero_add, ↓reduceIte, Option.bind_some, nI_leI, nI_ltI, nI_eq, pn_ne1, pn_1ne, lesser_eq, upd_s, upd_n]
  have e1 : w (o + 24 + 7 * i + 3) = eC L[i] := by rw [hrow]; rfl
  rw [e1]
  have hsel : ∀ c : Int32, (if c + 1 ≤ 999999 then c + 1 else 999999) = (if 999999 < c + 1 then 999999 else c + 1) := by
    intro c; by_cases hc : c + 1 ≤ 999999
    · rw [if_pos hc, if_neg (by rw [Int32.not_lt]; exact hc)]
    · rw [if_neg hc, if_pos (by rwa [Int32.not_le] at hc)]
  rw [hsel]
  generalize hx : upd (upd (upd w (o + 4) (w (o + 4) + 1)) (o + 24 + 7 * i + 4) (w (o + 4) + 1)) (o + 24 + 7 * i + 3) (if 999999 < eC L[i] + 1 then 999999 else eC L[i] + 1) = x
  have hxo : ∀ q, q ≠ o + 4 → (q < o + 24 ∨ o + 444 ≤ q) → x q = w q := by
    intro q h4 h5
    rw [← hx, upd_n (by omega), upd_n (by omega), upd_n (by omega)]
  have hx4 : x (o + 4) = w (o + 4) + 1 := by rw [← hx, upd_n (by omega), upd_n (by omega), upd_s]
  have hE : EM (modK (eK L[i]) (usedE (w (o + 4) + 1)) L) x o := by
    have hs := EM.set (w' := x) h hi (hxo o (by omega) (by omega)) (fun q _ _ _ => by rw [← hx, upd_n (by omega), upd_n (by omega), upd_n (by omega)])
    rw [show rowAt x (o + 24 + 7 * i) = usedE (w (o + 4) + 1) L[i] by
      rw [← hx]; simp (disch := omega) only [rowAt, upd_s, upd_n]; rw [hrow]; rfl, set_modK hn hi rfl] at hs
    exact hs
  rw [if_neg ha]
  by_cases c : (w (o + 4) + 1) - (w (o + 4) + 1) / w (o + 6) * w (o + 6) = 0
  · simp only [c, if_true, useL]
    refine tot_b (m_halve (w := upd x (o + 15) (w (o + 15) + 1)) (EM.same hE (upd_n (by omega)) (fun q _ _ => upd_n (by omega))) hF) (fun y ⟨y1, y2⟩ => tot_s ⟨y1, ?_, ?_, ?_⟩)
    · rw [y2 _ (by omega), upd_n (by omega), hx4]
    · rw [y2 _ (by omega), upd_s]
    · intro q h4 h5 h6
      rw [y2 _ h6, upd_n h5, hxo q h4 h6]
  · simp only [c, if_false, useL]
    refine tot_s ⟨hE, hx4, hxo _ (by omega) (by omega), fun q h4 _ h6 => hxo q h4 h6⟩
theorem m_goes (h : EM L w o) (hn : (L.map eK).Nodup) {i : Nat} (hi : i < L.length) (hF : 1000 ≤ F) :
    Tot (X10_goes F (nI i) w (nI o)) (fun w' => EM (L.eraseIdx i) w' o ∧ ∀ q, q ≠ o → (q < o + 24 ∨ o + 444 ≤ q) → w' q = w q) := by
  obtain ⟨h0, h1, h2, h3⟩ := id h
  rw [X10_goes]
  simp (disch := omega) only [nI_add, pn_add, pn_addl, pn_mul, pn_cl, pn_nlt0, false_or, pn_ge, pn_le, Nat.add_zero, Nat.zero_add, ↓reduceIte, Option.bind_some, nI_leI, nI_ltI, nI_eq, pn_ne1, pn_1ne, h0]
  rw [show nI L.length - 1 = nI (L.length - 1) from by
    obtain ⟨m, hm⟩ : ∃ m, L.length = m + 1 := ⟨L.length - 1, by omega⟩
    rw [hm]; exact nI_pred m]
  generalize hx : upd w o (nI (L.length - 1)) = x
  have hx0 : x o = nI (L.length - 1) := by rw [← hx, upd_s]
  have hxo : ∀ q, q ≠ o → x q = w q := fun q hq => by rw [← hx, upd_n hq]
  refine tot_b (Q := fun y => ∀ q, y q = if o + 24 + 7 * i ≤ q ∧ q < o + 24 + 7 * (L.length - 1) then x (q + 7) else x q) ?_ (fun y hy => tot_s ⟨?_, ?_⟩)
  · refine tot_loop (fun n v (y : Nat → Int32) => X10_goes_L20 F n (nI v) y (nI o)) (fun v y => 7 * i ≤ v ∧ ∀ q, y q = if o + 24 + 7 * i ≤ q ∧ q < o + 24 + v then x (q + 7) else x q) (7 * (L.length - 1)) ?_ ?_ F (7 * i) x (by omega) (by omega) ⟨Nat.le_refl _, fun q => by rw [if_neg (by omega)]⟩
    · intro n y ⟨_, hy⟩
      have hy0 : y o = nI (L.length - 1) := by rw [hy, if_neg (by omega), hx0]
      rw [X10_goes_L20]
      simp (disch := omega) only [nI_add, pn_add, pn_addl, pn_mul, pn_cl, pn_nlt0, false_or, pn_ge, pn_le, Nat.add_zero, Nat.zero_add, ↓reduceIte, Option.bind_some, nI_leI, nI_ltI, nI_eq, pn_ne1, pn_1ne, hy0]
      exact tot_s hy
    · intro n v y hv ⟨hv2, hy⟩ ih
      have hy0 : y o = nI (L.length - 1) := by rw [hy, if_neg (by omega), hx0]
      rw [X10_goes_L20]
      simp (disch := omega) only [nI_add, pn_add, pn_addl, pn_mul, pn_cl, pn_nlt0, false_or, pn_ge, pn_le, Nat.add_zero, Nat.zero_add, ↓reduceIte, Option.bind_some, nI_leI, nI_ltI, nI_eq, pn_ne1, pn_1ne, hy0]
      refine ih _ ⟨by omega, fun q => ?_⟩
      by_cases c : q = o + 24 + v
      · subst c
        rw [upd_s, if_pos (by omega), hy, if_neg (by omega)]
      · rw [upd_n c, hy]
        by_cases c2 : o + 24 + 7 * i ≤ q ∧ q < o + 24 + v
        · rw [if_pos c2, if_pos (by omega)]
        · rw [if_neg c2, if_neg (by omega)]
  · have hlen : (L.eraseIdx i).length = L.length - 1 := List.length_eraseIdx_of_lt hi
    refine ⟨by rw [hlen, hy, if_neg (by omega), hx0], by omega, h2, fun j hj => ?_⟩
    rw [hlen] at hj
    rw [List.getElem_eraseIdx]
    have hrd : ∀ t, t < 7 → y (o + 24 + 7 * j + t) = if j < i then w (o + 24 + 7 * j + t) else w (o + 24 + 7 * (j + 1) + t) := by
      intro t ht
      rw [hy]
      by_cases c : j < i
      · rw [if_neg (by omega), hxo _ (by omega), if_pos c]
      · rw [if_pos (by omega), hxo _ (by omega), if_neg c]; congr 1; omega
    by_cases c : j < i
    · simp only [c, if_true, dite_true] at hrd ⊢
      rw [h3 j (by omega)]
      simp only [rowAt]
      rw [hrd 1 (by omega), hrd 2 (by omega), hrd 3 (by omega), hrd 4 (by omega), hrd 5 (by omega), hrd 6 (by omega)]
      have := hrd 0 (by omega); simp only [Nat.add_zero] at this; rw [this]
    · simp only [c, if_false, dite_false] at hrd ⊢
      rw [h3 (j + 1) (by omega)]
      simp only [rowAt]
      rw [hrd 1 (by omega), hrd 2 (by omega), hrd 3 (by omega), hrd 4 (by omega), hrd 5 (by omega), hrd 6 (by omega)]
      have := hrd 0 (by omega); simp only [Nat.add_zero] at this; rw [this]
  · intro q hq hq2
    rw [hy, if_neg (by omega), hxo q hq]
end MUpd
