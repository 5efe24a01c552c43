/-! entries as rows of a list -/
abbrev En : Type := Int32 × Int32 × Int32 × Int32 × Int32 × Int32 × Int32
abbrev eK (e : En) : Int32 := e.1
abbrev eV (e : En) : Int32 := e.2.1
abbrev eW (e : En) : Int32 := e.2.2.1
abbrev eC (e : En) : Int32 := e.2.2.2.1
abbrev eL (e : En) : Int32 := e.2.2.2.2.1
abbrev eT (e : En) : Int32 := e.2.2.2.2.2.1
abbrev eP (e : En) : Int32 := e.2.2.2.2.2.2
/-! sums -/
def sumBy {α : Type} (f : α → Int32) : List α → Int32
  | [] => 0
  | e :: l => f e + sumBy f l
theorem sumBy_nil {α : Type} (f : α → Int32) : sumBy f [] = 0 := rfl
theorem sumBy_cons {α : Type} (f : α → Int32) (e : α) (l : List α) : sumBy f (e :: l) = f e + sumBy f l := rfl
theorem sumBy_app {α : Type} (f : α → Int32) (l m : List α) : sumBy f (l ++ m) = sumBy f l + sumBy f m := by
  induction l with
  | nil => simp [sumBy]
  | cons e l ih => simp [sumBy, ih, Int32.add_assoc]
theorem sumBy_snoc {α : Type} (f : α → Int32) (e : α) (l : List α) : sumBy f (l ++ [e]) = sumBy f l + f e := by
  rw [sumBy_app]; simp [sumBy]
theorem sumBy_perm {α : Type} (f : α → Int32) {l m : List α} (h : l.Perm m) : sumBy f l = sumBy f m := by
  induction h with
  | nil => rfl
  | cons e _ ih => simp [sumBy, ih]
  | swap a b l => simp only [sumBy]; rw [← Int32.add_assoc, ← Int32.add_assoc, Int32.add_comm (f b)]
  | trans _ _ h1 h2 => exact h1.trans h2
theorem sumBy_congr {α : Type} {f g : α → Int32} {l : List α} (h : ∀ e ∈ l, f e = g e) : sumBy f l = sumBy g l := by
  induction l with
  | nil => rfl
  | cons e l ih => simp only [sumBy]; rw [h e (by simp), ih (fun x hx => h x (by simp [hx]))]
theorem sumBy_take {α : Type} (f : α → Int32) (L : List α) {i : Nat} (h : i < L.length) : sumBy f (L.take (i + 1)) = sumBy f (L.take i) + f L[i] := by
  rw [← List.take_append_getElem h, sumBy_snoc]
theorem sumBy_cnt {α : Type} (p : α → Bool) (l : List α) : sumBy (fun e => if p e then 1 else 0) l = nI (l.countP p) := by
  induction l with
  | nil => rfl
  | cons e l ih =>
    simp only [sumBy, ih, List.countP_cons]
    by_cases h : p e = true
    · simp only [h, if_true]; rw [Int32.add_comm]; exact nI_1 _
    · simp [h]
/-! the first one by an order -/
def bestS (lt : En → En → Bool) (ok : En → Bool) (b : Option En) (e : En) : Option En := if ok e then (match b with | none => some e | some f => if lt e f then some e else some f) else b
theorem bestS_eq (lt : En → En → Bool) (ok : En → Bool) (b : Option En) (e : En) : bestS lt ok b e = if ok e then (match b with | none => some e | some f => if lt e f then some e else some f) else b := rfl
def best (lt : En → En → Bool) (ok : En → Bool) (L : List En) : Option En := L.foldl (bestS lt ok) none
theorem best_snoc (lt : En → En → Bool) (ok : En → Bool) (l : List En) (e : En) : best lt ok (l ++ [e]) = bestS lt ok (best lt ok l) e := by
  simp [best, List.foldl_append]
theorem best_take (lt : En → En → Bool) (ok : En → Bool) (L : List En) {i : Nat} (h : i < L.length) : best lt ok (L.take (i + 1)) = bestS lt ok (best lt ok (L.take i)) L[i] := by
  rw [← List.take_append_getElem h, best_snoc]
def Lin (lt : En → En → Bool) : Prop := (∀ e, lt e e = false) ∧ (∀ e f g, lt e f = true → lt f g = true → lt e g = true) ∧ ∀ e f, eL e ≠ eL f → lt e f = true ∨ lt f e = true
theorem snoc_ind {α : Type} {P : List α → Prop} (h0 : P []) (hs : ∀ l e, P l → P (l ++ [e])) (l : List α) : P l := by
  have key : ∀ n, ∀ l : List α, l.length = n → P l := by
    intro n
    induction n with
    | zero => intro l h; rw [List.length_eq_zero_iff.1 h]; exact h0
    | succ n ih =>
      intro l h
      have hl : l ≠ [] := by intro e; rw [e] at h; simp at h
      rw [← List.dropLast_concat_getLast hl]
      exact hs _ _ (ih _ (by simp [h]))
  exact key _ l rfl
theorem best_none {lt : En → En → Bool} {ok : En → Bool} {L : List En} : best lt ok L = none ↔ ∀ e ∈ L, ok e = false := by
  induction L using snoc_ind with
  | h0 => simp [best]
  | hs l e ih =>
    rw [best_snoc, bestS_eq]
    by_cases h : ok e = true
    · simp only [h, if_true]
      constructor
      · intro h2; split at h2
        · cases h2
        · split at h2 <;> cases h2
      · intro h2; have := h2 e (by simp); rw [h] at this; cases this
    · simp only [h]
      simp only [Bool.not_eq_true] at h
      constructor
      · intro h2 x hx
        rcases List.mem_append.1 hx with h3 | h3
        · exact ih.1 h2 x h3
        · rw [List.mem_singleton.1 h3]; exact h
      · intro h2; exact ih.2 (fun x hx => h2 x (by simp [hx]))
theorem best_some {lt : En → En → Bool} {ok : En → Bool} (hl : Lin lt) {L : List En} {b : En} (hd : ∀ e ∈ L, ∀ f ∈ L, eL e = eL f → e = f) (h : best lt ok L = some b) : b ∈ L ∧ ok b = true ∧ ∀ e ∈ L, ok e = true → e = b ∨ lt b e = true := by
  induction L using snoc_ind generalizing b with
  | h0 => simp [best] at h
  | hs l e ih =>
    have hd' : ∀ e ∈ l, ∀ f ∈ l, eL e = eL f → e = f := fun x hx y hy => hd x (by simp [hx]) y (by simp [hy])
    rw [best_snoc, bestS_eq] at h
    by_cases ho : ok e = true
    · simp only [ho, if_true] at h
      cases hb : best lt ok l with
      | none =>
        rw [hb] at h
        simp only [Option.some.injEq] at h
        subst h
        refine ⟨by simp, ho, fun x hx hxo => ?_⟩
        rcases List.mem_append.1 hx with h3 | h3
        · have := best_none.1 hb x h3; rw [hxo] at this; cases this
        · exact Or.inl (List.mem_singleton.1 h3)
      | some f =>
        obtain ⟨i1, i2, i3⟩ := ih hd' hb
        rw [hb] at h
        simp only at h
        by_cases hlt : lt e f = true
        · simp only [hlt, if_true, Option.some.injEq] at h
          subst h
          refine ⟨by simp, ho, fun x hx hxo => ?_⟩
          rcases List.mem_append.1 hx with h3 | h3
          · rcases i3 x h3 hxo with rfl | h4
            · exact Or.inr hlt
            · exact Or.inr (hl.2.1 _ _ _ hlt h4)
          · exact Or.inl (List.mem_singleton.1 h3)
        · simp only [hlt, Option.some.injEq] at h
          have h' : f = b := by simpa using h
          subst h'
          refine ⟨by simp [i1], i2, fun x hx hxo => ?_⟩
          rcases List.mem_append.1 hx with h3 | h3
          · exact i3 x h3 hxo
          · rw [List.mem_singleton.1 h3]
            by_cases hq : eL e = eL f
            · exact Or.inl (hd e (by simp) f (by simp [i1]) hq)
            · rcases hl.2.2 e f hq with h5 | h5
              · exact absurd h5 hlt
              · exact Or.inr h5
    · simp only [ho] at h
      have h' : best lt ok l = some b := by simpa using h
      obtain ⟨i1, i2, i3⟩ := ih hd' h'
      refine ⟨by simp [i1], i2, fun x hx hxo => ?_⟩
      rcases List.mem_append.1 hx with h3 | h3
      · exact i3 x h3 hxo
      · rw [List.mem_singleton.1 h3] at hxo; exact absurd hxo ho
theorem best_uniq {lt : En → En → Bool} {ok : En → Bool} (hl : Lin lt) {L : List En} {b : En} (hd : ∀ e ∈ L, ∀ f ∈ L, eL e = eL f → e = f) (h1 : b ∈ L) (h2 : ok b = true) (h3 : ∀ e ∈ L, ok e = true → e = b ∨ lt b e = true) : best lt ok L = some b := by
  cases h : best lt ok L with
  | none => have := best_none.1 h b h1; rw [h2] at this; cases this
  | some c =>
    obtain ⟨c1, c2, c3⟩ := best_some hl hd h
    rcases h3 c c1 c2 with rfl | h4
    · rfl
    · rcases c3 b h1 h2 with rfl | h5
      · rfl
      · have := hl.2.1 _ _ _ h4 h5; rw [hl.1] at this; cases this
theorem best_perm {lt : En → En → Bool} {ok : En → Bool} (hl : Lin lt) {L M : List En} (hd : ∀ e ∈ L, ∀ f ∈ L, eL e = eL f → e = f) (p : L.Perm M) : best lt ok L = best lt ok M := by
  cases h : best lt ok L with
  | none => exact (best_none.2 (fun e he => best_none.1 h e (p.mem_iff.2 he))).symm
  | some b =>
    obtain ⟨b1, b2, b3⟩ := best_some hl hd h
    exact (best_uniq hl (fun x hx y hy => hd x (p.mem_iff.2 hx) y (p.mem_iff.2 hy)) (p.mem_iff.1 b1) b2 (fun e he => b3 e (p.mem_iff.2 he))).symm
theorem best_congr {lt : En → En → Bool} {ok ok' : En → Bool} {L : List En} (h : ∀ e ∈ L, ok e = ok' e) : best lt ok L = best lt ok' L := by
  induction L using snoc_ind with
  | h0 => rfl
  | hs l e ih => rw [best_snoc, best_snoc, ih (fun x hx => h x (by simp [hx])), bestS_eq, bestS_eq, h e (by simp)]
/-! the orders -/
def ahead (ord : Int32) (e f : En) : Bool := if ord = 1 ∧ eC e ≠ eC f then decide (eC e < eC f) else decide (eL e < eL f)
def heavier (e f : En) : Bool := decide (eW f < eW e ∨ (eW e = eW f ∧ eL e < eL f))
def sooner (e f : En) : Bool := decide (eT e < eT f ∨ (eT e = eT f ∧ eL e < eL f))
theorem lin_ahead (ord : Int32) : Lin (ahead ord) := by
  refine ⟨fun e => ?_, fun e f g => ?_, fun e f => ?_⟩
  · simp [ahead]
  · by_cases c : ord = 1
    · simp only [ahead, c, true_and, i32_lt, ne_eq, i32_eq]
      split <;> split <;> split <;> simp only [decide_eq_true_eq] <;> omega
    · simp only [ahead, c, false_and, if_false, i32_lt, decide_eq_true_eq]; omega
  · by_cases c : ord = 1
    · simp only [ahead, c, true_and, i32_lt, i32_eq, ne_eq]
      split <;> split <;> simp only [decide_eq_true_eq] <;> omega
    · simp only [ahead, c, false_and, if_false, i32_lt, decide_eq_true_eq, ne_eq, i32_eq]; omega
theorem lin_heavier : Lin heavier := by
  refine ⟨fun e => ?_, fun e f g => ?_, fun e f => ?_⟩
  · simp [heavier]
  · simp only [heavier, i32_lt, i32_eq, decide_eq_true_eq]; omega
  · simp only [heavier, i32_lt, i32_eq, decide_eq_true_eq, ne_eq]; omega
theorem lin_sooner : Lin sooner := by
  refine ⟨fun e => ?_, fun e f g => ?_, fun e f => ?_⟩
  · simp [sooner]
  · simp only [sooner, i32_lt, i32_eq, decide_eq_true_eq]; omega
  · simp only [sooner, i32_lt, i32_eq, decide_eq_true_eq, ne_eq]; omega
/-! a place in the list -/
def IX (L : List En) (o : Option En) (r : Int32) : Prop := (r = -1 ∧ o = none) ∨ ∃ i, ∃ h : i < L.length, r = nI i ∧ o = some L[i]
def fnd (k : Int32) (L : List En) : Option En := L.find? (fun e => e.1 == k)
theorem fnd_none {k : Int32} {L : List En} : fnd k L = none ↔ ∀ e ∈ L, eK e ≠ k := by simp [fnd]
theorem nodup_key {L : List En} (h : (L.map eK).Nodup) {e f : En} (he : e ∈ L) (hf : f ∈ L) (hk : eK e = eK f) : e = f := by
  induction L with
  | nil => cases he
  | cons a l ih =>
    simp only [List.map_cons, List.nodup_cons, List.mem_map, not_exists, not_and] at h
    rcases List.mem_cons.1 he with rfl | he' <;> rcases List.mem_cons.1 hf with rfl | hf'
    · rfl
    · exact absurd hk.symm (h.1 f hf')
    · exact absurd hk (h.1 e he')
    · exact ih h.2 he' hf'
theorem nodup_last {L : List En} (h : (L.map eL).Nodup) {e f : En} (he : e ∈ L) (hf : f ∈ L) (hk : eL e = eL f) : e = f := by
  induction L with
  | nil => cases he
  | cons a l ih =>
    simp only [List.map_cons, List.nodup_cons, List.mem_map, not_exists, not_and] at h
    rcases List.mem_cons.1 he with rfl | he' <;> rcases List.mem_cons.1 hf with rfl | hf'
    · rfl
    · exact absurd hk.symm (h.1 f hf')
    · exact absurd hk (h.1 e he')
    · exact ih h.2 he' hf'
theorem fnd_some {k : Int32} {L : List En} {e : En} (h : fnd k L = some e) : e ∈ L ∧ eK e = k := by
  have h1 := List.mem_of_find?_eq_some h
  have h2 := List.find?_some h
  exact ⟨h1, by simpa using h2⟩
theorem fnd_eq {k : Int32} {L : List En} {e : En} (hn : (L.map eK).Nodup) (h : e ∈ L) (hk : eK e = k) : fnd k L = some e := by
  cases hf : fnd k L with
  | none => exact absurd hk (fnd_none.1 hf e h)
  | some f =>
    obtain ⟨h1, h2⟩ := fnd_some hf
    rw [nodup_key hn h1 h (h2.trans hk.symm)]
theorem fnd_perm {k : Int32} {L M : List En} (hn : (L.map eK).Nodup) (p : L.Perm M) : fnd k L = fnd k M := by
  cases hf : fnd k L with
  | none => exact (fnd_none.2 (fun e he => fnd_none.1 hf e (p.mem_iff.2 he))).symm
  | some f =>
    obtain ⟨h1, h2⟩ := fnd_some hf
    exact (fnd_eq ((p.map eK).nodup_iff.1 hn) (p.mem_iff.1 h1) h2).symm
/-! loops over a list -/
theorem sum_loop {α β : Type} (g : Nat → Int32 → Nat → Option β) (f : α → Int32) (L : List α) (fin : Int32 → β)
    (he : ∀ n v, g (n + 1) v L.length = some (fin v))
    (hs : ∀ n v i (h : i < L.length), g (n + 1) v i = g n (v + f L[i]) (i + 1)) :
    ∀ n, L.length < n → g n 0 0 = some (fin (sumBy f L)) := by
  have key : ∀ n i, i ≤ L.length → L.length - i < n → g n (sumBy f (L.take i)) i = some (fin (sumBy f L)) := by
    intro n
    induction n with
    | zero => intro i _ hn; omega
    | succ n ih =>
      intro i hi hn
      by_cases c : i < L.length
      · rw [hs n _ i c, ← sumBy_take f L c]
        exact ih (i + 1) (by omega) (by omega)
      · have e : i = L.length := by omega
        subst e
        rw [he, List.take_length]
  intro n hn
  have := key n 0 (by omega) (by omega)
  rwa [List.take_zero] at this
theorem best_loop (g : Nat → Int32 → Nat → Option Int32) (lt : En → En → Bool) (ok : En → Bool) (L : List En)
    (he : ∀ n v, g (n + 1) v L.length = some v)
    (hs0 : ∀ n v i (h : i < L.length), (v = -1 ∨ ∃ j, j < L.length ∧ v = nI j) → ok L[i] = false → g (n + 1) v i = g n v (i + 1))
    (hs1 : ∀ n i (h : i < L.length), ok L[i] = true → g (n + 1) (-1) i = g n (nI i) (i + 1))
    (hs2 : ∀ n i j (h : i < L.length) (h2 : j < L.length), ok L[i] = true → g (n + 1) (nI j) i = g n (if lt L[i] L[j] then nI i else nI j) (i + 1)) :
    ∀ n, L.length < n → Tot (g n (-1) 0) (IX L (best lt ok L)) := by
  have key : ∀ n i v, i ≤ L.length → L.length - i < n → IX L (best lt ok (L.take i)) v → Tot (g n v i) (IX L (best lt ok L)) := by
    intro n
    induction n with
    | zero => intro i v _ hn; omega
    | succ n ih =>
      intro i v hi hn hv
      by_cases c : i < L.length
      · have hb := best_take lt ok L c
        by_cases ho : ok L[i] = true
        · rcases hv with ⟨rfl, hv⟩ | ⟨j, hj, rfl, hv⟩
          · rw [hs1 n i c ho]
            refine ih (i + 1) _ (by omega) (by omega) (Or.inr ⟨i, c, rfl, ?_⟩)
            rw [hb, hv, bestS_eq, if_pos ho]
          · rw [hs2 n i j c hj ho]
            refine ih (i + 1) _ (by omega) (by omega) ?_
            rw [hb, hv, bestS_eq, if_pos ho]
            by_cases hl : lt L[i] L[j] = true
            · simp only [hl, if_true]; exact Or.inr ⟨i, c, rfl, rfl⟩
            · simp only [hl]; exact Or.inr ⟨j, hj, rfl, rfl⟩
        · have ho' : ok L[i] = false := by simpa using ho
          have hv' : v = -1 ∨ ∃ j, j < L.length ∧ v = nI j := by
            rcases hv with ⟨rfl, _⟩ | ⟨j, hj, rfl, _⟩
            · exact Or.inl rfl
            · exact Or.inr ⟨j, hj, rfl⟩
          rw [hs0 n v i c hv' ho']
          refine ih (i + 1) _ (by omega) (by omega) ?_
          rw [hb, bestS_eq, if_neg ho]; exact hv
      · have e : i = L.length := by omega
        subst e
        rw [he]; rw [List.take_length] at hv; exact tot_s hv
  intro n hn
  exact key n 0 (-1) (by omega) (by omega) (Or.inl ⟨rfl, rfl⟩)
theorem find_loop {α β : Type} (g : Nat → Nat → Option β) (p : α → Bool) (L : List α) (nn : β) (val : Nat → β)
    (he : ∀ n, g (n + 1) L.length = some nn)
    (hs1 : ∀ n i (h : i < L.length), p L[i] = true → g (n + 1) i = some (val i))
    (hs0 : ∀ n i (h : i < L.length), p L[i] = false → g (n + 1) i = g n (i + 1)) :
    ∀ n, L.length < n → (g n 0 = some nn ∧ L.find? p = none) ∨ ∃ i, ∃ h : i < L.length, g n 0 = some (val i) ∧ L.find? p = some L[i] ∧ ∀ j (hj : j < i), p L[j] = false := by
  have key : ∀ n i, i ≤ L.length → L.length - i < n → (∀ j (hj : j < L.length), j < i → p L[j] = false) → (g n i = some nn ∧ L.find? p = none) ∨ ∃ i', ∃ h : i' < L.length, g n i = some (val i') ∧ L.find? p = some L[i'] ∧ ∀ j (hj : j < i'), p L[j] = false := by
    intro n
    induction n with
    | zero => intro i _ hn; omega
    | succ n ih =>
      intro i hi hn hI
      by_cases c : i < L.length
      · by_cases hp : p L[i] = true
        · refine Or.inr ⟨i, c, hs1 n i c hp, ?_, fun j hj => hI j (by omega) hj⟩
          rw [List.find?_eq_some_iff_getElem]
          exact ⟨hp, i, c, rfl, fun j hj => by simpa using hI j (by omega) hj⟩
        · have hp' : p L[i] = false := by simpa using hp
          rw [hs0 n i c hp']
          refine ih (i + 1) (by omega) (by omega) (fun j hj hl => ?_)
          rcases Nat.lt_or_ge j i with h4 | h4
          · exact hI j hj h4
          · have e : j = i := by omega
            subst e; exact hp'
      · have e : i = L.length := by omega
        subst e
        refine Or.inl ⟨he n, ?_⟩
        rw [List.find?_eq_none]
        intro x hx
        obtain ⟨j, hj, rfl⟩ := List.getElem_of_mem hx
        simp [hI j hj hj]
  intro n hn
  exact key n 0 (by omega) (by omega) (fun j hj hl => by omega)
