/-! what lapses: by till and last, or tick by tick -/
def lapL (t : Int32) : Nat → List En → List En × List En
  | 0, L => (L, [])
  | c + 1, L => match best sooner (okT t) L with
    | none => (L, [])
    | some e => ((lapL t c (delK (eK e) L)).1, e :: (lapL t c (delK (eK e) L)).2)
theorem lap_none {t : Int32} {L : List En} (h : best sooner (okT t) L = none) (c : Nat) : lapL t c L = (L, []) := by
  cases c with
  | zero => rfl
  | succ c => rw [lapL, h]
theorem lap_some {t : Int32} {L : List En} {e : En} (h : best sooner (okT t) L = some e) (c : Nat) : lapL t (c + 1) L = ((lapL t c (delK (eK e) L)).1, e :: (lapL t c (delK (eK e) L)).2) := by rw [lapL, h]
theorem nd_last {L : List En} (h : (L.map eL).Nodup) : ∀ e ∈ L, ∀ f ∈ L, eL e = eL f → e = f := fun _ he _ hf hk => nodup_last h he hf hk
theorem nd_delK {L : List En} {k : Int32} (h1 : (L.map eK).Nodup) (h2 : (L.map eL).Nodup) : ((delK k L).map eK).Nodup ∧ ((delK k L).map eL).Nodup := ⟨h1.sublist ((List.filter_sublist).map eK), h2.sublist ((List.filter_sublist).map eL)⟩
theorem best_mem {t : Int32} {L : List En} {e : En} (h2 : (L.map eL).Nodup) (h : best sooner (okT t) L = some e) : e ∈ L ∧ okT t e = true := by
  obtain ⟨a, b, _⟩ := best_some lin_sooner (nd_last h2) h; exact ⟨a, b⟩
/-- enough rounds are enough -/
theorem lap_more {t : Int32} : ∀ (c : Nat) (L : List En), (L.map eK).Nodup → (L.map eL).Nodup → L.length ≤ c → lapL t (c + 1) L = lapL t c L ∧ best sooner (okT t) (lapL t c L).1 = none := by
  intro c
  induction c with
  | zero =>
    intro L _ _ hl
    have : L = [] := List.eq_nil_of_length_eq_zero (by omega)
    subst this
    exact ⟨rfl, rfl⟩
  | succ c ih =>
    intro L h1 h2 hl
    cases hb : best sooner (okT t) L with
    | none => rw [lap_none hb, lap_none hb]; exact ⟨rfl, hb⟩
    | some e =>
      obtain ⟨n1, n2⟩ := nd_delK (k := eK e) h1 h2
      have := delK_len h1 (best_mem h2 hb).1
      obtain ⟨i1, i2⟩ := ih (delK (eK e) L) n1 n2 (by omega)
      rw [lap_some hb, lap_some hb, i1]; exact ⟨rfl, i2⟩
theorem lap_sub {t : Int32} : ∀ (c : Nat) (L : List En), ((lapL t c L).1).Sublist L ∧ (lapL t c L).1.length + (lapL t c L).2.length ≤ L.length + c := by
  intro c
  induction c with
  | zero => intro L; simp [lapL]
  | succ c ih =>
    intro L
    cases hb : best sooner (okT t) L with
    | none => rw [lap_none hb]; simp
    | some e =>
      rw [lap_some hb]
      have := ih (delK (eK e) L)
      have h3 : (delK (eK e) L).length ≤ L.length := List.length_filter_le _ _
      refine ⟨this.1.trans List.filter_sublist, ?_⟩
      simp only [List.length_cons]; omega
theorem lap_len {t : Int32} : ∀ (c : Nat) (L : List En), (L.map eK).Nodup → (L.map eL).Nodup → (lapL t c L).1.length + (lapL t c L).2.length = L.length := by
  intro c
  induction c with
  | zero => intro L _ _; simp [lapL]
  | succ c ih =>
    intro L h1 h2
    cases hb : best sooner (okT t) L with
    | none => rw [lap_none hb]; simp
    | some e =>
      obtain ⟨n1, n2⟩ := nd_delK (k := eK e) h1 h2
      have h3 := delK_len h1 (best_mem h2 hb).1
      rw [lap_some hb]
      have := ih (delK (eK e) L) n1 n2
      simp only [List.length_cons]; omega
theorem okT_iff {t : Int32} {e : En} : okT t e = true ↔ eT e ≠ -1 ∧ eT e ≤ t := by simp [okT]
theorem lap_best {s t : Int32} {L : List En} {e : En} (h2 : (L.map eL).Nodup) (hst : s ≤ t) (h : best sooner (okT s) L = some e) : best sooner (okT t) L = some e := by
  obtain ⟨a, b, c⟩ := best_some lin_sooner (nd_last h2) h
  obtain ⟨b1, b2⟩ := okT_iff.1 b
  refine best_uniq lin_sooner (nd_last h2) a (okT_iff.2 ⟨b1, Int32.le_trans b2 hst⟩) (fun f hf hk => ?_)
  by_cases cs : okT s f = true
  · exact c f hf cs
  · right
    have hf1 := (okT_iff.1 hk).1
    have : ¬ eT f ≤ s := fun hx => cs (okT_iff.2 ⟨hf1, hx⟩)
    simp only [sooner, decide_eq_true_eq]
    left
    rw [i32_le] at this b2
    rw [i32_lt]; omega
theorem lap_split {s t : Int32} (hst : s ≤ t) : ∀ (c : Nat) (L : List En), (L.map eK).Nodup → (L.map eL).Nodup → L.length ≤ c → lapL t c L = ((lapL t c (lapL s c L).1).1, (lapL s c L).2 ++ (lapL t c (lapL s c L).1).2) := by
  intro c
  induction c with
  | zero => intro L _ _ _; rfl
  | succ c ih =>
    intro L h1 h2 hl
    cases hb : best sooner (okT s) L with
    | none => rw [lap_none hb]; rfl
    | some e =>
      obtain ⟨n1, n2⟩ := nd_delK (k := eK e) h1 h2
      have h3 := delK_len h1 (best_mem h2 hb).1
      have hs := (lap_sub (t := s) c (delK (eK e) L)).1
      have hm := lap_more (t := t) c (lapL s c (delK (eK e) L)).1 (n1.sublist (hs.map eK)) (n2.sublist (hs.map eL)) (by have := hs.length_le; omega)
      rw [lap_some hb, lap_some (lap_best h2 hst hb), ih _ n1 n2 (by omega)]
      simp only
      rw [hm.1]; rfl
section FO
variable {F : Nat} {L : List En} {w : Nat → Int32}
theorem m_firstOver (h : EM L w 0) (hF : 100 ≤ F) : Tot (X10_firstOver F w 0) (IX L (best (ahead 0) (okT (w 5)) L)) := by
  obtain ⟨h0, h1, h2, h3⟩ := id h
  rw [X10_firstOver]
  have e5 : Int32.toNatClampNeg 5 = 5 := by decide
  have e0 : Int32.toNatClampNeg 0 = 0 := by decide
  have q5 : ∀ i (hi : i < L.length), X10_of F (nI i) 5 w 0 = some (eT L[i]) := fun i hi => m_of5 h hi
  have qa : ∀ i j (hi : i < L.length) (hj : j < L.length), X10_isAhead F 0 (nI i) (nI j) w 0 = some (bi (ahead 0 L[i] L[j])) := fun i j hi hj => m_isAhead h 0 hi hj
  refine tot_b (best_loop (fun n v i => X10_firstOver_L4 F n v (nI i) w 0) (ahead 0) (okT (w 5)) L ?_ ?_ ?_ ?_ F (by omega)) (fun a ha => tot_s ha)
  · intro n v
    rw [X10_firstOver_L4]
    simp (disch := omega) only [nI_add, pn_add, pn_addl, pn_mul, pn_cl, pn_nlt0, false_or, pn_ge, pn_le, Nat.add_zero, Nat.zero_add, ↓reduceIte, Option.bind_some, nI_leI, nI_ltI, nI_eq, pn_ne1, pn_1ne, e0, h0, Nat.le_refl]
  · intro n v i hi hv ho
    have ho' : ¬ (eT L[i] ≠ -1 ∧ eT L[i] ≤ w 5) := fun hx => by rw [okT_iff.2 hx] at ho; cases ho
    rw [X10_firstOver_L4]
    simp (disch := omega) only [nI_add, pn_add, pn_addl, pn_mul, pn_cl, pn_nlt0, false_or, pn_ge, pn_le, Nat.add_zero, Nat.zero_add, ↓reduceIte, Option.bind_some, nI_leI, nI_ltI, nI_eq, pn_ne1, pn_1ne, e0, e5, h0, q5 i hi]
    by_cases c1 : eT L[i] = -1
    · rw [if_pos c1]
    · rw [if_neg c1, if_neg (fun hx => ho' ⟨c1, hx⟩)]
  · intro n i hi ho
    obtain ⟨o1, o2⟩ := okT_iff.1 ho
    rw [X10_firstOver_L4]
    simp (disch := omega) only [nI_add, pn_add, pn_addl, pn_mul, pn_cl, pn_nlt0, false_or, pn_ge, pn_le, Nat.add_zero, Nat.zero_add, ↓reduceIte, Option.bind_some, nI_leI, nI_ltI, nI_eq, pn_ne1, pn_1ne, e0, e5, h0, q5 i hi]
    rw [if_neg o1, if_pos o2]
  · intro n i j hi hj ho
    obtain ⟨o1, o2⟩ := okT_iff.1 ho
    rw [X10_firstOver_L4]
    simp (disch := omega) only [nI_add, pn_add, pn_addl, pn_mul, pn_cl, pn_nlt0, false_or, pn_ge, pn_le, Nat.add_zero, Nat.zero_add, ↓reduceIte, Option.bind_some, nI_leI, nI_ltI, nI_eq, pn_ne1, pn_1ne, e0, e5, h0, q5 i hi, qa i j hi hj]
    rw [if_neg o1, if_pos o2]
    cases c5 : ahead 0 L[i] L[j] <;> simp [bi]
/-- on one tick, by use is by till and use -/
theorem best_tick {s : Int32} (h2 : (L.map eL).Nodup) (hT : ∀ e ∈ L, eT e = -1 ∨ s ≤ eT e) : best (ahead 0) (okT s) L = best sooner (okT s) L := by
  cases hb : best (ahead 0) (okT s) L with
  | none => rw [(best_none (lt := sooner)).2 (best_none.1 hb)]
  | some e =>
    obtain ⟨a, b, c⟩ := best_some (lin_ahead 0) (nd_last h2) hb
    refine (best_uniq lin_sooner (nd_last h2) a b (fun f hf hk => ?_)).symm
    rcases c f hf hk with h | h
    · exact Or.inl h
    · right
      have t1 := okT_iff.1 b
      have t2 := okT_iff.1 hk
      have u1 := (hT e a).resolve_left t1.1
      have u2 := (hT f hf).resolve_left t2.1
      simp only [sooner, decide_eq_true_eq]
      right
      refine ⟨?_, ?_⟩
      · rw [i32_eq]
        have := t1.2; have := t2.2
        simp only [i32_le] at *
        omega
      · simpa [ahead] using h
end FO
