/-! events of a call; which one goes -/
abbrev Ev : Type := Int32 × Int32 × Int32 × Int32 × Int32
def QC (E : List Ev) : tX7 → Prop
  | (a, b, c, d, e, sz, lost, _) => sz = nI (min 100 E.length) ∧ lost = nI (E.length - 100) ∧ ∀ i (h : i < E.length), i < 100 → E[i] = (a i, b i, c i, d i, e i)
abbrev dep (x : tX7) : Int32 := x.2.2.2.2.2.2.2
def QM (E : List Ev) (t : Nat → Int32) (came : Int32) : Prop := came = nI E.length ∧ ∀ i (h : i < E.length), i < 100 → E[i] = (t (5 * i), t (5 * i + 1), t (5 * i + 2), t (5 * i + 3), t (5 * i + 4))
/-- silent, or told -/
def QS (sil : Int32) (E : List Ev) (t : Nat → Int32) (came : Int32) : Prop := (sil = 0 ∧ E.length < 2147480000 ∧ QM E t came) ∨ sil = 1
theorem c_tell {F : Nat} {E : List Ev} {x6 : tX6} {x7 : tX7} (h : QC E x7) (kd : Nat) (hk : kd < 7) (k v wt : Int32) :
    Tot (X6_tell F (nI kd) k v wt x6 x7) (fun r => r.1 = (upd x6.1 kd (x6.1 kd + 1), x6.2) ∧ QC (E ++ [(nI kd, k, v, wt, dep x7)]) r.2 ∧ dep r.2 = dep x7) := by
  obtain ⟨hap, got, cap, wy, bal, wbt⟩ := x6
  obtain ⟨a, b, c, d, e, sz, lost, dp⟩ := x7
  obtain ⟨h0, h1, h2⟩ := h
  rw [X6_tell, X7_add]
  by_cases cl : E.length < 100
  · have e1 : sz = nI E.length := by rw [h0, Nat.min_eq_right (by omega)]
    subst e1
    have e100 : nI E.length < 100 := nI_lt (a := E.length) (b := 100) cl (by omega)
    simp (disch := omega) only [nI_add, pn_add, pn_addl, pn_mul, pn_cl, pn_nlt0, false_or, pn_ge, pn_le, Nat.add_zero, Nat.zero_add, ↓reduceIte, Option.bind_some, nI_leI, nI_ltI, nI_eq, pn_ne1, pn_1ne, e100]
    refine tot_s ⟨rfl, ⟨?_, ?_, fun i hi h100 => ?_⟩, rfl⟩
    · simp only [List.length_append, List.length_singleton]; congr 1; omega
    · simp only [List.length_append, List.length_singleton]; rw [h1]; congr 1; omega
    · simp only [List.length_append, List.length_singleton] at hi
      by_cases c2 : i < E.length
      · rw [List.getElem_append_left c2, h2 i c2 h100]
        simp (disch := omega) only [upd_n]
      · have e2 : i = E.length := by omega
        subst e2; simp [upd]
  · have e1 : sz = nI 100 := by rw [h0, Nat.min_eq_left (by omega)]
    subst e1
    have e100 : ¬ nI 100 < 100 := by decide
    simp (disch := omega) only [nI_add, pn_add, pn_addl, pn_mul, pn_cl, pn_nlt0, false_or, pn_ge, pn_le, Nat.add_zero, Nat.zero_add, ↓reduceIte, Option.bind_some, nI_leI, nI_ltI, nI_eq, pn_ne1, pn_1ne, e100]
    refine tot_s ⟨rfl, ⟨?_, ?_, fun i hi h100 => ?_⟩, rfl⟩
    · simp only [List.length_append, List.length_singleton]; congr 1; omega
    · simp only [List.length_append, List.length_singleton]; rw [h1, nI_1]; congr 1; omega
    · have c2 : i < E.length := by omega
      rw [List.getElem_append_left c2, h2 i c2 h100]
theorem m_tells {F : Nat} {E : List Ev} {t : Nat → Int32} {came sil : Int32} (h : QS sil E t came) (hl : E.length + 1 < 2147480000) (kd k v wt d : Int32) :
    Tot (X10_tells F kd k v wt t came d sil) (fun r => QS sil (E ++ [(kd, k, v, wt, d)]) r.1 r.2) := by
  rw [X10_tells]
  rcases h with ⟨rfl, hb, h0, h2⟩ | rfl
  · rw [if_pos rfl]
    subst h0
    by_cases cl : E.length < 100
    · rw [if_neg (by exact nI_ge (a := E.length) (b := 100) cl (by omega))]
      simp (disch := omega) only [nI_add, pn_add, pn_addl, pn_mul, pn_cl, pn_nlt0, false_or, pn_ge, pn_le, Nat.add_zero, Nat.zero_add, ↓reduceIte, Option.bind_some, nI_leI, nI_ltI, nI_eq, pn_ne1, pn_1ne]
      refine tot_s (Or.inl ⟨rfl, by simp; omega, ?_, fun i hi h100 => ?_⟩)
      · simp
      · simp only [List.length_append, List.length_singleton] at hi
        by_cases c2 : i < E.length
        · rw [List.getElem_append_left c2, h2 i c2 h100]
          simp (disch := omega) only [upd_n]
        · have e2 : i = E.length := by omega
          subst e2
          simp (disch := omega) only [upd_n, upd_s]
          simp
    · rw [if_pos (by exact nI_le (a := 100) (b := E.length) (by omega) (by omega))]
      refine tot_s (Or.inl ⟨rfl, by simp; omega, ?_, fun i hi h100 => ?_⟩)
      · simp only [List.length_append, List.length_singleton]; exact nI_1 _
      · have c2 : i < E.length := by omega
        rw [List.getElem_append_left c2, h2 i c2 h100]
  · rw [if_neg (by decide)]
    exact tot_s (Or.inr rfl)
/-! which one goes -/
def chooseS (way but bal turns : Int32) (L : List En) : Option En :=
  if way = 0 then best (ahead 0) (mayGo but) L
  else if way = 1 then best (ahead 1) (mayGo but) L
  else if way = 2 then best (ahead (if turns - turns / 2 * 2 = 0 then 0 else 1)) (mayGo but) L
  else if way = 3 then best heavier (mayGo but) L
  else if way = 4 then (best (ahead 0) (okA (decide (bal < sumBy (cntW 1) L)) but) L).or (best (ahead 0) (okA (!decide (bal < sumBy (cntW 1) L)) but) L)
  else none
theorem chooseS_perm {way but bal turns : Int32} {L M : List En} (hd : (L.map eL).Nodup) (p : L.Perm M) : chooseS way but bal turns L = chooseS way but bal turns M := by
  have hd' : ∀ e ∈ L, ∀ f ∈ L, eL e = eL f → e = f := fun e he f hf h => nodup_last hd he hf h
  simp only [chooseS, sumBy_perm (cntW 1) p, best_perm (lin_ahead _) hd' p, best_perm lin_heavier hd' p]
theorem chooseS_mem {way but bal turns : Int32} {L : List En} {e : En} (hd : (L.map eL).Nodup) (h : chooseS way but bal turns L = some e) : e ∈ L ∧ mayGo but e = true := by
  have hd' : ∀ e ∈ L, ∀ f ∈ L, eL e = eL f → e = f := fun e he f hf h => nodup_last hd he hf h
  have key : ∀ ord ok, (∀ f, ok f = true → mayGo but f = true) → best (ahead ord) ok L = some e → e ∈ L ∧ mayGo but e = true := fun ord ok hok hb => by
    obtain ⟨a, b, _⟩ := best_some (lin_ahead ord) hd' hb; exact ⟨a, hok _ b⟩
  have hA : ∀ yg, ∀ f, okA yg but f = true → mayGo but f = true := fun yg f hf => by
    simp only [okA, Bool.and_eq_true] at hf; exact hf.1
  rw [chooseS] at h
  split at h
  · exact key _ _ (fun _ x => x) h
  · split at h
    · exact key _ _ (fun _ x => x) h
    · split at h
      · exact key _ _ (fun _ x => x) h
      · split at h
        · obtain ⟨a, b, _⟩ := best_some lin_heavier hd' h; exact ⟨a, b⟩
        · split at h
          · rw [Option.or_eq_some_iff] at h
            rcases h with h | ⟨_, h⟩
            · exact key _ _ (hA _) h
            · exact key _ _ (hA _) h
          · cases h
theorem chooseS_none {way but bal turns : Int32} {L : List En} (hw : way = 0 ∨ way = 1 ∨ way = 2 ∨ way = 3 ∨ way = 4) : chooseS way but bal turns L = none ↔ ∀ e ∈ L, mayGo but e = false := by
  rcases hw with rfl | rfl | rfl | rfl | rfl
  · simp only [chooseS, if_true, best_none]
  · rw [chooseS, if_neg (by decide), if_pos rfl, best_none]
  · rw [chooseS, if_neg (by decide), if_neg (by decide), if_pos rfl, best_none]
  · rw [chooseS, if_neg (by decide), if_neg (by decide), if_neg (by decide), if_pos rfl, best_none]
  · rw [chooseS, if_neg (by decide), if_neg (by decide), if_neg (by decide), if_neg (by decide), if_pos rfl, Option.or_eq_none_iff, best_none, best_none]
    generalize decide (bal < sumBy (cntW 1) L) = yg
    constructor
    · intro ⟨h1, h2⟩ e he
      have a := h1 e he
      have b := h2 e he
      simp only [okA] at a b
      cases c1 : mayGo but e <;> cases c2 : isYoung e <;> cases yg <;> simp_all
    · intro h
      exact ⟨fun e he => by simp [okA, h e he], fun e he => by simp [okA, h e he]⟩
theorem IX_or {L : List En} {a b : Option En} {r s : Int32} (h1 : IX L a r) (h2 : IX L b s) (hl : L.length < 1000) : IX L (a.or b) (if r = -1 then s else r) := by
  rcases h1 with ⟨rfl, rfl⟩ | ⟨i, hi, rfl, rfl⟩
  · simpa using h2
  · refine Or.inr ⟨i, hi, ?_, rfl⟩
    simp (disch := omega) only [nI_add, pn_add, pn_addl, pn_mul, pn_cl, pn_nlt0, false_or, pn_ge, pn_le, Nat.add_zero, Nat.zero_add, ↓reduceIte, Option.bind_some, nI_leI, nI_ltI, nI_eq, pn_ne1, pn_1ne]
section CChoose
variable {F : Nat} {L : List En} {kK kV kW kC kL kT kP : Nat → Int32} {sz : Int32}
theorem tot_id {α : Type} {x : Option α} {P : α → Prop} (h : Tot x P) : Tot (x.bind fun r => some r) P := tot_b h (fun _ hr => tot_s hr)
theorem c_choose (h : EC L kK kV kW kC kL kT kP sz) (hF : 100 ≤ F) (way but : Int32) (hap : Nat → Int32) (got cap wy bal wbt ld pl us ag hv : Int32) :
    Tot (X6_choose F way but (hap, got, cap, wy, bal, wbt) (kK, kV, kW, kC, kL, kT, kP, sz, ld, pl, us, ag, hv)) (IX L (chooseS way but bal wbt L)) := by
  have hlen := h.2.1
  rw [X6_choose, chooseS]
  by_cases c0 : way = 0
  · simp only [c0, if_true]; exact tot_id (c_first h hF 0 but)
  simp only [c0, if_false]
  by_cases c1 : way = 1
  · simp only [c1, if_true]; exact tot_id (c_first h hF 1 but)
  simp only [c1, if_false]
  by_cases c2 : way = 2
  · simp only [c2, if_true]
    by_cases ct : wbt - wbt / 2 * 2 = 0
    · simp only [ct, if_true]; exact tot_id (c_first h hF 0 but)
    · simp only [ct, if_false]; exact tot_id (c_first h hF 1 but)
  simp only [c2, if_false]
  by_cases c3 : way = 3
  · simp only [c3, if_true]; exact tot_id (c_heaviest h hF but)
  simp only [c3, if_false]
  by_cases c4 : way = 4
  · simp only [c4, if_true, c_youngLoad h hF, Option.bind_some]
    have ha := fun yg => c_firstOfAge h hF yg but
    have h1 := ha true
    have h0 := ha false
    simp only [bi, if_true, Bool.false_eq_true, if_false] at h1 h0
    by_cases cb : sumBy (cntW 1) L ≤ bal
    · have cb' : ¬ bal < sumBy (cntW 1) L := by rw [Int32.not_lt]; exact cb
      simp only [cb, cb', if_true, decide_false, Bool.not_false]
      refine tot_b h0 (fun r hr => ?_)
      by_cases cr : r = -1
      · rw [if_pos cr]
        refine tot_b h1 (fun s hs => tot_s ?_)
        have := IX_or hr hs (by omega); rwa [if_pos cr] at this
      · rw [if_neg cr]
        obtain ⟨s, _, hs⟩ := h1
        have := IX_or hr hs (by omega); rw [if_neg cr] at this; exact tot_s this
    · have cb' : bal < sumBy (cntW 1) L := by rwa [Int32.not_le] at cb
      simp only [cb, cb', if_false, decide_true, Bool.not_true]
      refine tot_b h1 (fun r hr => ?_)
      by_cases cr : r = -1
      · rw [if_pos cr]
        refine tot_b h0 (fun s hs => tot_s ?_)
        have := IX_or hr hs (by omega); rwa [if_pos cr] at this
      · rw [if_neg cr]
        obtain ⟨s, _, hs⟩ := h0
        have := IX_or hr hs (by omega); rw [if_neg cr] at this; exact tot_s this
  · simp only [c4, if_false]; exact tot_s (Or.inl ⟨rfl, rfl⟩)
end CChoose
section MChoose
variable {F : Nat} {L : List En} {w : Nat → Int32} {o : Nat}
theorem m_heaviest (h : EM L w o) (hF : 100 ≤ F) (but : Int32) : Tot (X10_heaviest F but w (nI o)) (IX L (best heavier (mayGo but) L)) := by
  obtain ⟨h0, h1, h2, h3⟩ := id h
  rw [X10_heaviest]
  refine tot_b (best_loop (fun n v i => X10_heaviest_L4 F n but v (nI i) w (nI o)) heavier (mayGo but) L ?_ ?_ ?_ ?_ F (by omega)) (fun a ha => tot_s ha)
  · intro n v
    rw [X10_heaviest_L4]
    simp (disch := omega) only [nI_add, pn_add, pn_addl, pn_mul, pn_cl, pn_nlt0, false_or, pn_ge, pn_le, Nat.add_zero, Nat.zero_add, ↓reduceIte, Option.bind_some, nI_leI, nI_ltI, nI_eq, pn_ne1, pn_1ne, h0, Nat.le_refl]
  · intro n v i hi hv ho
    rw [X10_heaviest_L4]
    simp (disch := omega) only [nI_add, pn_add, pn_addl, pn_mul, pn_cl, pn_nlt0, false_or, pn_ge, pn_le, Nat.add_zero, Nat.zero_add, ↓reduceIte, Option.bind_some, nI_leI, nI_ltI, nI_eq, pn_ne1, pn_1ne, h0, m_canGo h but hi, ho]
    simp [bi]
  · intro n i hi ho
    rw [X10_heaviest_L4]
    simp (disch := omega) only [nI_add, pn_add, pn_addl, pn_mul, pn_cl, pn_nlt0, false_or, pn_ge, pn_le, Nat.add_zero, Nat.zero_add, ↓reduceIte, Option.bind_some, nI_leI, nI_ltI, nI_eq, pn_ne1, pn_1ne, h0, m_canGo h but hi, ho]
    simp [bi]
  · intro n i j hi hj ho
    rw [X10_heaviest_L4]
    simp (disch := omega) only [nI_add, pn_add, pn_addl, pn_mul, pn_cl, pn_nlt0, false_or, pn_ge, pn_le, Nat.add_zero, Nat.zero_add, ↓reduceIte, Option.bind_some, nI_leI, nI_ltI, nI_eq, pn_ne1, pn_1ne, h0, m_canGo h but hi, ho, m_of2 h hi, m_of2 h hj, m_isAhead h 0 hi hj]
    simp only [heavier, ahead, bi, if_true, decide_eq_true_eq, ← Int32.not_le]
    by_cases c1 : eW L[i] ≤ eW L[j] <;> by_cases c2 : eW L[i] = eW L[j] <;> by_cases c3 : eL L[j] ≤ eL L[i] <;> simp [c1, c2, c3]
theorem okS_n (but : Int32) : okS (-1) but = mayGo but := by funext e; simp [okS]
theorem okS_0 {but : Int32} {e : En} (hc : 1 ≤ eC e) : okS 0 but e = okA true but e := by
  simp only [okS, okA, isYoung]
  by_cases c : eC e = 1
  · simp [c]
  · have : ¬ eC e ≤ 1 := by intro h; rw [i32_le] at hc h; exact c (i32_eq.2 (by omega))
    simp [c, this]
theorem okS_1 {but : Int32} {e : En} (hc : 1 ≤ eC e) : okS 1 but e = okA false but e := by
  simp only [okS, okA, isYoung]
  by_cases c : eC e = 1
  · simp [c]
  · have : ¬ eC e ≤ 1 := by intro h; rw [i32_le] at hc h; exact c (i32_eq.2 (by omega))
    simp [c, this]
theorem m_young (h : EM L w o) (hF : 100 ≤ F) (but : Int32) : X10_byBalance_L4 F F but 0 0 w (nI o) = some (sumBy (cntW 1) L) := by
  obtain ⟨h0, h1, h2, h3⟩ := id h
  refine sum_loop (fun n v i => X10_byBalance_L4 F n but v (nI i) w (nI o)) (cntW 1) L id ?_ ?_ F (by omega)
  · intro n v
    rw [X10_byBalance_L4]
    simp (disch := omega) only [nI_add, pn_add, pn_addl, pn_mul, pn_cl, pn_nlt0, false_or, pn_ge, pn_le, Nat.add_zero, Nat.zero_add, ↓reduceIte, Option.bind_some, nI_leI, nI_ltI, nI_eq, pn_ne1, pn_1ne, h0, Nat.le_refl, id]
  · intro n v i hi
    rw [X10_byBalance_L4]
    simp (disch := omega) only [nI_add, pn_add, pn_addl, pn_mul, pn_cl, pn_nlt0, false_or, pn_ge, pn_le, Nat.add_zero, Nat.zero_add, ↓reduceIte, Option.bind_some, nI_leI, nI_ltI, nI_eq, pn_ne1, pn_1ne, h0, m_of3 h hi, m_of2 h hi, cntW]
    split <;> rfl
theorem m_chosen (h : EM L w o) (hF : 100 ≤ F) {way : Int32} (hw : way = 0 ∨ way = 1 ∨ way = 2 ∨ way = 3 ∨ way = 4) (but : Int32) (hc : ∀ e ∈ L, 1 ≤ eC e) (ht : 0 ≤ (w (o + 16)).toInt) :
    Tot (X10_chosen F way but w (nI o)) (IX L (chooseS way but (w (o + 3)) (w (o + 16)) L)) := by
  obtain ⟨h0, h1, h2, h3⟩ := id h
  have hA1 : best (ahead 0) (okS 0 but) L = best (ahead 0) (okA true but) L := best_congr (fun e he => okS_0 (hc e he))
  have hA0 : best (ahead 0) (okS 1 but) L = best (ahead 0) (okA false but) L := best_congr (fun e he => okS_1 (hc e he))
  have f1 := m_firstOf h hF 0 0 but
  have f0 := m_firstOf h hF 0 1 but
  rw [hA1] at f1
  rw [hA0] at f0
  have fa := fun ord => m_firstOf h hF ord (-1) but
  simp only [okS_n] at fa
  rw [X10_chosen, chooseS]
  rcases hw with rfl | rfl | rfl | rfl | rfl
  · simp only [if_true]; exact tot_id (fa 0)
  · simp only [show ¬ (1 : Int32) = 0 by decide, if_true, if_false]; exact tot_id (fa 1)
  · simp only [show ¬ (2 : Int32) = 0 by decide, show ¬ (2 : Int32) = 1 by decide, if_true, if_false]
    simp (disch := omega) only [nI_add, pn_add, pn_addl, pn_mul, pn_cl, pn_nlt0, false_or, pn_ge, pn_le, Nat.add_zero, Nat.zero_add, ↓reduceIte, Option.bind_some, nI_leI, nI_ltI, nI_eq, pn_ne1, pn_1ne]
    obtain ⟨n, hn, e, _⟩ := i32_nI ht
    rw [e, show nI n - nI n / 2 * 2 = nI (n % 2) from pk_rem (d := 2) hn (by omega) (by omega)]
    refine tot_id ?_
    rcases Nat.mod_two_eq_zero_or_one n with c | c
    · rw [c, if_pos (show nI 0 = 0 from rfl)]; exact fa 0
    · rw [c, if_neg (show ¬ nI 1 = 0 by decide)]; exact fa 1
  · simp only [show ¬ (3 : Int32) = 0 by decide, show ¬ (3 : Int32) = 1 by decide, show ¬ (3 : Int32) = 2 by decide, if_true, if_false]
    exact tot_id (m_heaviest h hF but)
  · simp only [show ¬ (4 : Int32) = 0 by decide, show ¬ (4 : Int32) = 1 by decide, show ¬ (4 : Int32) = 2 by decide, show ¬ (4 : Int32) = 3 by decide, if_true, if_false]
    refine tot_id ?_
    rw [X10_byBalance, m_young h hF]
    simp (disch := omega) only [nI_add, pn_add, pn_addl, pn_mul, pn_cl, pn_nlt0, false_or, pn_ge, pn_le, Nat.add_zero, Nat.zero_add, ↓reduceIte, Option.bind_some, nI_leI, nI_ltI, nI_eq, pn_ne1, pn_1ne]
    by_cases cb : sumBy (cntW 1) L ≤ w (o + 3)
    · have cb' : ¬ w (o + 3) < sumBy (cntW 1) L := by rw [Int32.not_lt]; exact cb
      simp only [cb, cb', if_true, decide_false, Bool.not_false]
      refine tot_b f0 (fun r hr => ?_)
      by_cases cr : r = -1
      · rw [if_pos cr]
        refine tot_b (x := X10_firstOf F 0 0 but w (nI o)) f1 (fun s hs => tot_s ?_)
        have := IX_or hr hs (by omega); rwa [if_pos cr] at this
      · rw [if_neg cr]
        obtain ⟨s, _, hs⟩ := f1
        have := IX_or hr hs (by omega); rw [if_neg cr] at this; exact tot_s this
    · have cb' : w (o + 3) < sumBy (cntW 1) L := by rwa [Int32.not_le] at cb
      simp only [cb, cb', if_false, decide_true, Bool.not_true]
      refine tot_b f1 (fun r hr => ?_)
      by_cases cr : r = -1
      · rw [if_pos cr]
        refine tot_b (x := X10_firstOf F 0 1 but w (nI o)) f0 (fun s hs => tot_s ?_)
        have := IX_or hr hs (by omega); rwa [if_pos cr] at this
      · rw [if_neg cr]
        obtain ⟨s, _, hs⟩ := f0
        have := IX_or hr hs (by omega); rw [if_neg cr] at this; exact tot_s this
end MChoose
