/-! ghosts: a list, the latest first -/
def delG (k : Int32) (g : List Int32) : List Int32 := g.filter (fun x => !(x == k))
def addG (k : Int32) (g : List Int32) : List Int32 := (k :: g).take 16
def AR (l : List Int32) (x : Nat → Int32) : Prop := ∀ j (h : j < l.length), l[j] = x j
theorem AR.snoc {l : List Int32} {x : Nat → Int32} (h : AR l x) (y : Int32) : AR (l ++ [y]) (upd x l.length y) := by
  intro j hj
  simp only [List.length_append, List.length_singleton] at hj
  by_cases c : j < l.length
  · rw [List.getElem_append_left c, h j c, upd_n (by omega)]
  · have e : j = l.length := by omega
    subst e; simp [upd]
theorem delG_snoc (k y : Int32) (l : List Int32) : delG k (l ++ [y]) = if y = k then delG k l else delG k l ++ [y] := by
  simp only [delG, List.filter_append]
  by_cases c : y = k <;> simp [c]
theorem delG_len_le (k : Int32) (l : List Int32) : (delG k l).length ≤ l.length := List.length_filter_le _ _
theorem delG_self {k : Int32} {l : List Int32} (h : k ∉ l) : delG k l = l := by
  rw [delG, List.filter_eq_self]; intro a ha; simp; intro e; exact h (e ▸ ha)
theorem delG_lt {k : Int32} {l : List Int32} (h : k ∈ l) : (delG k l).length < l.length := by
  rw [delG, List.length_filter_lt_length_iff_exists]; exact ⟨k, h, by simp⟩
theorem mem_delG {k x : Int32} {l : List Int32} : x ∈ delG k l ↔ x ∈ l ∧ x ≠ k := by simp [delG]
theorem addG_len (k : Int32) (g : List Int32) : (addG k g).length = min 16 (g.length + 1) := by simp [addG]; omega
theorem addG_get {k : Int32} {g : List Int32} {j : Nat} (h : j < (addG k g).length) : (addG k g)[j] = if h0 : j = 0 then k else g[j - 1]'(by rw [addG_len] at h; omega) := by
  simp only [addG, List.getElem_take]
  cases j with
  | zero => simp
  | succ j => simp
/-- the store's ghosts of one sort -/
def GC (g : List Int32) (x : tX2) : Prop := x.2 = nI g.length ∧ g.length ≤ 16 ∧ AR g x.1
section GClass
variable {F : Nat} {g : List Int32} {kk : Nat → Int32} {sz : Int32}
theorem c_forget (h : GC g (kk, sz)) (hF : 100 ≤ F) (k : Int32) : Tot (X2_forget F k kk sz) (fun r => r.1 = bi (decide (k ∈ g)) ∧ GC (delG k g) (r.2.1, r.2.2)) := by
  obtain ⟨h0, h1, h2⟩ := h
  simp only at h0 h2
  subst h0
  rw [X2_forget]
  refine tot_b (Q := fun r => r.1 = nI (delG k g).length ∧ AR (delG k g) r.2) ?_ (fun r hr => ?_)
  · refine tot_loop (fun n i (s : Int32 × (Nat → Int32)) => X2_forget_L4 F n k s.1 (nI i) s.2 (nI g.length)) (fun i s => s.1 = nI (delG k (g.take i)).length ∧ AR (delG k (g.take i)) s.2 ∧ ∀ j (h : j < g.length), i ≤ j → g[j] = s.2 j) g.length ?_ ?_ F 0 (0, kk) (by omega) (by omega) ⟨rfl, fun j hj => by simp [delG] at hj, fun j hj _ => h2 j hj⟩
    · intro n ⟨v, x⟩ ⟨s1, s2, s3⟩
      rw [List.take_length] at s1 s2
      rw [X2_forget_L4]
      simp (disch := omega) only [nI_add, pn_add, pn_addl, pn_mul, pn_cl, pn_nlt0, false_or, pn_ge, pn_le, Nat.add_zero, Nat.zero_add, ↓reduceIte, Option.bind_some, nI_leI, nI_ltI, nI_eq, pn_ne1, pn_1ne, Nat.le_refl]
      exact tot_s ⟨s1, s2⟩
    · intro n i ⟨v, x⟩ hi ⟨s1, s2, s3⟩ ih
      simp only at s1 s2 s3
      subst s1
      have hx : x i = g[i] := (s3 i hi (Nat.le_refl _)).symm
      have hle : (delG k (g.take i)).length ≤ i := Nat.le_trans (delG_len_le _ _) (by simp; omega)
      have ht : delG k (g.take (i + 1)) = if g[i] = k then delG k (g.take i) else delG k (g.take i) ++ [g[i]] := by
        rw [← List.take_append_getElem hi, delG_snoc]
      rw [X2_forget_L4]
      simp (disch := omega) only [nI_add, pn_add, pn_addl, pn_mul, pn_cl, pn_nlt0, false_or, pn_ge, pn_le, Nat.add_zero, Nat.zero_add, ↓reduceIte, Option.bind_some, nI_leI, nI_ltI, nI_eq, pn_ne1, pn_1ne, hx]
      by_cases c : g[i] = k
      · rw [if_pos c]; rw [if_pos c] at ht
        refine ih (nI (delG k (g.take i)).length, x) ⟨?_, ?_, fun j hj hl => s3 j hj (by omega)⟩
        · rw [ht]
        · rw [ht]; exact s2
      · rw [if_neg c]; rw [if_neg c] at ht
        refine ih (nI ((delG k (g.take i)).length + 1), upd x (delG k (g.take i)).length g[i]) ⟨?_, ?_, fun j hj hl => ?_⟩
        · rw [ht, List.length_append, List.length_singleton]
        · rw [ht]; exact s2.snoc _
        · simp only; rw [upd_n (by omega)]; exact s3 j hj (by omega)
  · obtain ⟨v, x⟩ := r
    obtain ⟨r1, r2⟩ := hr
    simp only at r1 r2
    subst r1
    have hle := delG_len_le k g
    simp (disch := omega) only [nI_leI]
    by_cases c : k ∈ g
    · have hl := delG_lt c
      rw [if_neg (by omega)]
      exact tot_s ⟨by simp [bi, c], rfl, by omega, r2⟩
    · rw [if_pos (by rw [delG_self c]; omega)]
      exact tot_s ⟨by simp [bi, c], rfl, by omega, r2⟩
theorem c_gadd (h : GC g (kk, sz)) (hF : 100 ≤ F) (k : Int32) : Tot (X2_add F k kk sz) (fun r => GC (addG k g) (r.1, r.2)) := by
  obtain ⟨h0, h1, h2⟩ := h
  simp only at h0 h2
  subst h0
  have loop : ∀ s : Nat, s + 1 ≤ 16 → Tot (X2_add_L26 F F k (nI s) kk) (fun x => ∀ q, x q = if 0 < q ∧ q ≤ s then kk (q - 1) else kk q) := by
    intro s hs
    refine tot_down (fun n i x => X2_add_L26 F n k (nI i) x) (fun i x => i ≤ s ∧ ∀ q, x q = if i < q ∧ q ≤ s then kk (q - 1) else kk q) 0 ?_ ?_ F s kk (by omega) (by omega) ⟨Nat.le_refl _, fun q => by rw [if_neg (by omega)]⟩
    · intro n x ⟨_, hx⟩
      rw [X2_add_L26, if_pos (by decide)]
      exact tot_s hx
    · intro n i x _ ⟨hi, hx⟩ ih
      rw [X2_add_L26, if_neg (nI_nle (by omega) (by omega)), nI_pred, pk_m1]
      simp (disch := omega) only [nI_add, pn_add, pn_addl, pn_mul, pn_cl, pn_nlt0, false_or, pn_ge, pn_le, Nat.add_zero, Nat.zero_add, ↓reduceIte, Option.bind_some, nI_leI, nI_ltI, nI_eq, pn_ne1, pn_1ne]
      refine ih _ ⟨by omega, fun q => ?_⟩
      by_cases c : q = i + 1
      · subst c; rw [upd_s, if_pos (by omega), hx, if_neg (by omega)]; rfl
      · rw [upd_n c, hx]
        by_cases c2 : i + 1 < q ∧ q ≤ s
        · rw [if_pos c2, if_pos (by omega)]
        · rw [if_neg c2, if_neg (by omega)]
  have fin : ∀ s : Nat, s + 1 = min 16 (g.length + 1) → ∀ x : Nat → Int32, (∀ q, x q = if 0 < q ∧ q ≤ s then kk (q - 1) else kk q) → GC (addG k g) (upd x 0 k, nI (s + 1)) := by
    intro s hs x hx
    refine ⟨by simp only; rw [addG_len, hs], by rw [addG_len]; omega, fun j hj => ?_⟩
    rw [addG_get hj]
    rw [addG_len] at hj
    by_cases c : j = 0
    · subst c; simp [upd]
    · simp only [c, dite_false]; rw [upd_n c, hx, if_pos (by omega)]; exact h2 _ _
  rw [X2_add]
  by_cases c : g.length < 16
  · rw [if_neg (by exact nI_ge (a := g.length) (b := 16) c (by omega))]
    have e : nI g.length + 1 - 1 = nI g.length := by rw [nI_1, nI_pred]
    rw [e]
    refine tot_b (loop g.length (by omega)) (fun x hx => tot_s ?_)
    show GC (addG k g) (upd x 0 k, nI g.length + 1)
    rw [nI_1]; exact fin g.length (by omega) x hx
  · have e16 : g.length = 16 := by omega
    rw [if_pos (by rw [e16]; decide), e16]
    refine tot_b (loop 15 (by omega)) (fun x hx => tot_s ?_)
    exact fin 15 (by omega) x hx
end GClass
/-- the reference's ghosts of one sort -/
def GM (s : Nat) (g : List Int32) (w : Nat → Int32) (o : Nat) : Prop := s < 2 ∧ o + 848 ≤ 3392 ∧ w (o + 19 + s) = nI g.length ∧ g.length ≤ 16 ∧ ∀ i (h : i < g.length), g[i] = w (o + 444 + 16 * s + i)
section GModel
variable {F : Nat} {g : List Int32} {w w' : Nat → Int32} {o s : Nat}
theorem GM.same (h : GM s g w o) (h0 : w' (o + 19 + s) = w (o + 19 + s)) (hr : ∀ q, o + 444 + 16 * s ≤ q → q < o + 444 + 16 * s + 16 → w' q = w q) : GM s g w' o := by
  obtain ⟨a, b, c, d, e⟩ := h
  exact ⟨a, b, h0.trans c, d, fun i hi => by rw [e i hi, hr _ (by omega) (by omega)]⟩
theorem m_ghostOf (h : GM s g w o) (hF : 100 ≤ F) (k : Int32) : Tot (X10_ghostOf F (nI s) k w (nI o)) (fun r => (r = -1 ∧ k ∉ g) ∨ ∃ i, ∃ h : i < g.length, r = nI i ∧ g[i] = k) := by
  obtain ⟨hs, ho, h0, h1, h2⟩ := h
  rw [X10_ghostOf]
  have := find_loop (fun n i => X10_ghostOf_L2 F n (nI s) k (nI i) w (nI o)) (fun e => e == k) g (-1) nI ?_ ?_ ?_ F (by omega)
  · rcases this with ⟨e1, e2⟩ | ⟨i, hi, e1, e2, _⟩
    · refine ⟨_, e1, Or.inl ⟨rfl, ?_⟩⟩
      intro hk
      have := List.find?_eq_none.1 e2 k hk
      simp at this
    · refine ⟨_, e1, Or.inr ⟨i, hi, rfl, ?_⟩⟩
      have := List.find?_some e2
      simpa using this
  · intro n
    rw [X10_ghostOf_L2]
    simp (disch := omega) only [nI_add, pn_add, pn_addl, pn_mul, pn_cl, pn_nlt0, false_or, pn_ge, pn_le, Nat.add_zero, Nat.zero_add, ↓reduceIte, Option.bind_some, nI_leI, nI_ltI, nI_eq, pn_ne1, pn_1ne, h0, Nat.le_refl]
  · intro n i hi hp
    rw [X10_ghostOf_L2, X10_ghostAt]
    simp (disch := omega) only [nI_add, pn_add, pn_addl, pn_mul, pn_cl, pn_nlt0, false_or, pn_ge, pn_le, Nat.add_zero, Nat.zero_add, ↓reduceIte, Option.bind_some, nI_leI, nI_ltI, nI_eq, pn_ne1, pn_1ne, h0, pk_mul, ← h2 i hi]
    rw [if_pos (by simpa using hp)]
  · intro n i hi hp
    rw [X10_ghostOf_L2, X10_ghostAt]
    simp (disch := omega) only [nI_add, pn_add, pn_addl, pn_mul, pn_cl, pn_nlt0, false_or, pn_ge, pn_le, Nat.add_zero, Nat.zero_add, ↓reduceIte, Option.bind_some, nI_leI, nI_ltI, nI_eq, pn_ne1, pn_1ne, h0, pk_mul, ← h2 i hi]
    rw [if_neg (by simpa using hp)]
theorem delG_erase {k : Int32} (hn : g.Nodup) {i : Nat} (hi : i < g.length) (hk : g[i] = k) : delG k g = g.eraseIdx i := by
  rw [List.eraseIdx_eq_take_drop_succ]
  have e : g = g.take i ++ (g[i] :: g.drop (i + 1)) := by simp
  have hn2 := hn
  rw [e, List.nodup_append] at hn2
  obtain ⟨_, n2, n3⟩ := hn2
  rw [List.nodup_cons] at n2
  have h1 : delG k (g.take i) = g.take i := delG_self (fun hm => n3 k hm k (by simp [hk]) rfl)
  have h2 : delG k (g.drop (i + 1)) = g.drop (i + 1) := delG_self (by rw [← hk]; exact n2.1)
  calc delG k g = delG k (g.take i ++ (g[i] :: g.drop (i + 1))) := by rw [← e]
    _ = delG k (g.take i) ++ delG k (g.drop (i + 1)) := by simp [delG, hk]
    _ = _ := by rw [h1, h2]
theorem m_noGhost (h : GM s g w o) (hn : g.Nodup) (hF : 100 ≤ F) (k : Int32) : Tot (X10_noGhost F (nI s) k w (nI o)) (fun w' => GM s (delG k g) w' o ∧ ∀ q, q ≠ o + 19 + s → (q < o + 444 + 16 * s ∨ o + 444 + 16 * s + 16 ≤ q) → w' q = w q) := by
  obtain ⟨hs, ho, h0, h1, h2⟩ := id h
  rw [X10_noGhost]
  refine tot_b (m_ghostOf h hF k) (fun r hr => ?_)
  rcases hr with ⟨rfl, hk⟩ | ⟨i, hi, rfl, hk⟩
  · rw [if_pos rfl]
    exact tot_s ⟨by rw [delG_self hk]; exact h, fun _ _ _ => rfl⟩
  · simp (disch := omega) only [nI_add, pn_add, pn_addl, pn_mul, pn_cl, pn_nlt0, false_or, pn_ge, pn_le, Nat.add_zero, Nat.zero_add, ↓reduceIte, Option.bind_some, nI_leI, nI_ltI, nI_eq, pn_ne1, pn_1ne, h0]
    rw [show nI g.length - 1 = nI (g.length - 1) from by
      obtain ⟨m, hm⟩ : ∃ m, g.length = m + 1 := ⟨g.length - 1, by omega⟩
      rw [hm]; exact nI_pred m]
    generalize hx : upd w (o + 19 + s) (nI (g.length - 1)) = x
    have hx0 : x (o + 19 + s) = nI (g.length - 1) := by rw [← hx, upd_s]
    have hxo : ∀ q, q ≠ o + 19 + s → x q = w q := fun q hq => by rw [← hx, upd_n hq]
    refine tot_b (Q := fun y => ∀ q, y q = if o + 444 + 16 * s + i ≤ q ∧ q < o + 444 + 16 * s + (g.length - 1) then x (q + 1) else x q) ?_ (fun y hy => tot_s ⟨?_, ?_⟩)
    · refine tot_loop (fun n v (y : Nat → Int32) => X10_noGhost_L34 F n (nI s) (nI v) y (nI o)) (fun v y => i ≤ v ∧ ∀ q, y q = if o + 444 + 16 * s + i ≤ q ∧ q < o + 444 + 16 * s + v then x (q + 1) else x q) (g.length - 1) ?_ ?_ F i x (by omega) (by omega) ⟨Nat.le_refl _, fun q => by rw [if_neg (by omega)]⟩
      · intro n y ⟨_, hy⟩
        have hy0 : y (o + 19 + s) = nI (g.length - 1) := by rw [hy, if_neg (by omega), hx0]
        rw [X10_noGhost_L34]
        simp (disch := omega) only [nI_add, pn_add, pn_addl, pn_mul, pn_cl, pn_nlt0, false_or, pn_ge, pn_le, Nat.add_zero, Nat.zero_add, ↓reduceIte, Option.bind_some, nI_leI, nI_ltI, nI_eq, pn_ne1, pn_1ne, hy0]
        exact tot_s hy
      · intro n v y hv ⟨hv2, hy⟩ ih
        have hy0 : y (o + 19 + s) = nI (g.length - 1) := by rw [hy, if_neg (by omega), hx0]
        rw [X10_noGhost_L34, X10_ghostAt, X10_ghostAt]
        simp (disch := omega) only [nI_add, pn_add, pn_addl, pn_mul, pn_cl, pn_nlt0, false_or, pn_ge, pn_le, Nat.add_zero, Nat.zero_add, ↓reduceIte, Option.bind_some, nI_leI, nI_ltI, nI_eq, pn_ne1, pn_1ne, hy0, pk_mul]
        refine ih _ ⟨by omega, fun q => ?_⟩
        by_cases c : q = o + 444 + 16 * s + v
        · subst c
          rw [upd_s, if_pos (by omega), hy, if_neg (by omega)]; rfl
        · rw [upd_n c, hy]
          by_cases c2 : o + 444 + 16 * s + i ≤ q ∧ q < o + 444 + 16 * s + v
          · rw [if_pos c2, if_pos (by omega)]
          · rw [if_neg c2, if_neg (by omega)]
    · have hlen : (delG k g).length = g.length - 1 := by rw [delG_erase hn hi hk]; exact List.length_eraseIdx_of_lt hi
      refine ⟨hs, ho, by rw [hlen, hy, if_neg (by omega), hx0], by omega, fun j hj => ?_⟩
      rw [hlen] at hj
      simp only [delG_erase hn hi hk, List.getElem_eraseIdx]
      rw [hy]
      by_cases c : j < i
      · rw [if_neg (by omega), hxo _ (by omega)]; simp only [c, dite_true]; exact h2 j _
      · rw [if_pos (by omega), hxo _ (by omega)]; simp only [c, dite_false]; exact h2 (j + 1) _
    · intro q hq hq2
      rw [hy, if_neg (by omega), hxo q hq]
/-- one more in front, the rows moved behind it -/
theorem m_front (h : GM s g w o) (hF : 100 ≤ F) (k : Int32) {m : Nat} (hm : m + 1 = min 16 (g.length + 1)) (x : Nat → Int32) (hx : x = upd w (o + 19 + s) (nI (m + 1))) :
    Tot (X10_isGhost_L64 F F (nI s) k (nI m) x (nI o)) (fun y => GM s (addG k g) (upd y (o + 444 + 16 * s) k) o ∧ ∀ q, q ≠ o + 19 + s → (q < o + 444 + 16 * s ∨ o + 444 + 16 * s + 16 ≤ q) → upd y (o + 444 + 16 * s) k q = w q) := by
  obtain ⟨hs, ho, h0, h1, h2⟩ := id h
  refine tot_m (P := fun y => ∀ q, y q = if o + 444 + 16 * s < q ∧ q ≤ o + 444 + 16 * s + m then x (q - 1) else x q) ?_ (fun y hy => ⟨⟨hs, ho, ?_, ?_, ?_⟩, ?_⟩)
  · refine tot_down (fun n i y => X10_isGhost_L64 F n (nI s) k (nI i) y (nI o)) (fun i y => i ≤ m ∧ ∀ q, y q = if o + 444 + 16 * s + i < q ∧ q ≤ o + 444 + 16 * s + m then x (q - 1) else x q) 0 ?_ ?_ F m x (by omega) (by omega) ⟨Nat.le_refl _, fun q => by rw [if_neg (by omega)]⟩
    · intro n y ⟨_, hy⟩
      rw [X10_isGhost_L64, if_pos (by decide)]
      exact tot_s hy
    · intro n i y _ ⟨hi, hy⟩ ih
      rw [X10_isGhost_L64, if_neg (nI_nle (by omega) (by omega)), nI_pred, pk_m1, X10_ghostAt, X10_ghostAt]
      simp (disch := omega) only [nI_add, pn_add, pn_addl, pn_mul, pn_cl, pn_nlt0, false_or, pn_ge, pn_le, Nat.add_zero, Nat.zero_add, ↓reduceIte, Option.bind_some, nI_leI, nI_ltI, nI_eq, pn_ne1, pn_1ne, pk_mul]
      refine ih _ ⟨by omega, fun q => ?_⟩
      by_cases c : q = o + 444 + 16 * s + (i + 1)
      · subst c; rw [upd_s, if_pos (by omega), hy, if_neg (by omega)]; rfl
      · rw [upd_n c, hy]
        by_cases c2 : o + 444 + 16 * s + (i + 1) < q ∧ q ≤ o + 444 + 16 * s + m
        · rw [if_pos c2, if_pos (by omega)]
        · rw [if_neg c2, if_neg (by omega)]
  · rw [upd_n (by omega), hy, if_neg (by omega), hx, upd_s, addG_len, hm]
  · rw [addG_len]; omega
  · intro j hj
    rw [addG_get hj]
    rw [addG_len] at hj
    by_cases c : j = 0
    · subst c; simp [upd]
    · simp only [c, dite_false]
      rw [upd_n (by omega), hy, if_pos (by omega), hx, upd_n (by omega), h2 (j - 1) (by omega)]
      congr 1; omega
  · intro q hq hq2
    rw [upd_n (by omega), hy, if_neg (by omega), hx, upd_n hq]
end GModel
