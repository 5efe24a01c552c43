/-! agree -/
def SrtI (l : List Int32) : Prop := l.Pairwise (fun a b => a.toInt < b.toInt)
def SHR (Sh : List Int32) (s : Nat → Int32) (ss : Int32) : Prop := ss = nI Sh.length ∧ Sh.length ≤ 60 ∧ ∀ i (h : i < Sh.length), s i = Sh[i]
theorem SrtI.lt {l : List Int32} (h : SrtI l) {i j : Nat} (hi : i < l.length) (hj : j < l.length) (hij : i < j) : (l[i]).toInt < (l[j]).toInt := List.pairwise_iff_getElem.1 h i j hi hj hij
theorem ins_srt {l : List Int32} {k : Int32} {p : Nat} (h : SrtI l) (hp : p ≤ l.length) (h1 : ∀ q (hq : q < l.length), q < p → (l[q]).toInt < k.toInt) (h2 : ∀ q (hq : q < l.length), p ≤ q → k.toInt < (l[q]).toInt) : SrtI (l.take p ++ k :: l.drop p) := by
  have e : (l.take p ++ l.drop p) = l := List.take_append_drop p l
  have hs : SrtI (l.take p ++ l.drop p) := by rw [e]; exact h
  rw [SrtI, List.pairwise_append] at hs ⊢
  have mt : ∀ a ∈ l.take p, a.toInt < k.toInt := fun a ha => by
    obtain ⟨q, hq, rfl⟩ := List.getElem_of_mem ha
    rw [List.length_take] at hq
    rw [List.getElem_take]; exact h1 q (by omega) (by omega)
  have md : ∀ b ∈ l.drop p, k.toInt < b.toInt := fun b hb => by
    obtain ⟨q, hq, rfl⟩ := List.getElem_of_mem hb
    rw [List.length_drop] at hq
    rw [List.getElem_drop]; exact h2 (p + q) (by omega) (by omega)
  refine ⟨hs.1, List.pairwise_cons.2 ⟨md, hs.2.1⟩, fun a ha b hb => ?_⟩
  rcases List.mem_cons.1 hb with rfl | hb
  · exact mt a ha
  · exact hs.2.2 a ha b hb
section AgreeC
variable {F : Nat} {Q : List Int32} {K nx f g : Nat → Int32} {zz hh : Int32}
theorem c_insL {Sh : List Int32} {k : Int32} (hl : Sh.length < 60) (hs : SrtI Sh) (ss : Int32) : ∀ (n p : Nat) (s : Nat → Int32), p ≤ Sh.length → p < n → (∀ q (h : q < Sh.length), q < p → s q = Sh[q]) → (∀ q (h : q < Sh.length), p ≤ q → s (q + 1) = Sh[q] ∧ k.toInt < (Sh[q]).toInt) →
    Tot (X0_insertShared_L15 F n k (nI p) (K, nx, f, g, s, zz, hh, ss)) (fun y => ∃ p' s', y = (nI p', (K, nx, f, g, s', zz, hh, ss)) ∧ p' ≤ Sh.length ∧ (∀ q (h : q < Sh.length), q < p' → s' q = Sh[q] ∧ (Sh[q]).toInt ≤ k.toInt) ∧ ∀ q (h : q < Sh.length), p' ≤ q → s' (q + 1) = Sh[q] ∧ k.toInt < (Sh[q]).toInt) := by
  intro n
  induction n with
  | zero => intro p s _ h; omega
  | succ n ih =>
    intro p s hp hn h1 h2
    rw [X0_insertShared_L15]
    by_cases c0 : p = 0
    · subst c0
      rw [if_pos (by decide)]
      exact tot_s ⟨0, s, rfl, by omega, fun q _ hq => by omega, h2⟩
    · obtain ⟨p, rfl⟩ : ∃ j, p = j + 1 := ⟨p - 1, by omega⟩
      have e0 : (0 : Int32).toInt = 0 := by decide
      have g1 : ¬ ((nI p : Int32) < 0 ∨ 60 ≤ p) := by simp (disch := omega) only [nI_add, pn_add, pn_addl, pn_mul, pn_cl, pn_nlt0, false_or, pn_ge, pn_le, Nat.add_zero, Nat.zero_add, ↓reduceIte, Option.bind_some, nI_leI, nI_ltI, nI_eq, pn_ne1, pn_1ne]; simp
      have g2 : ¬ ((nI (p + 1) : Int32) < 0 ∨ 60 ≤ p + 1) := by simp (disch := omega) only [nI_add, pn_add, pn_addl, pn_mul, pn_cl, pn_nlt0, false_or, pn_ge, pn_le, Nat.add_zero, Nat.zero_add, ↓reduceIte, Option.bind_some, nI_leI, nI_ltI, nI_eq, pn_ne1, pn_1ne]; simp
      have hpl : p < Sh.length := by omega
      rw [if_neg (show ¬ nI (p + 1) ≤ 0 by rw [i32_le, nI_toInt (by omega), e0]; omega), nI_pred, kcl (show p < 2147483648 by omega), if_neg g1, h1 p hpl (by omega)]
      by_cases c1 : Sh[p] ≤ k
      · rw [if_pos c1]
        refine tot_s ⟨p + 1, s, rfl, hp, fun q hq hq2 => ⟨h1 q hq hq2, ?_⟩, h2⟩
        rw [i32_le] at c1
        by_cases cq : q = p
        · subst cq; exact c1
        · have := hs.lt hq hpl (by omega); omega
      · rw [if_neg c1, if_neg g1, kcl (show p + 1 < 2147483648 by omega), if_neg g2, nI_m1 (by omega) (by omega), Nat.add_sub_cancel]
        refine ih p _ (by omega) (by omega) (fun q hq hq2 => by rw [upd_n (by omega)]; exact h1 q hq (by omega)) (fun q hq hq2 => ?_)
        by_cases cq : q = p
        · subst cq; rw [upd_s]; exact ⟨rfl, by rw [i32_le] at c1; omega⟩
        · rw [upd_n (by omega)]; exact h2 q hq (by omega)
theorem c_ins {Sh : List Int32} {k : Int32} {s : Nat → Int32} {ss : Int32} (hF : 200 ≤ F) (hl : Sh.length < 60) (hs : SrtI Sh) (hk : k ∉ Sh) (hS : SHR Sh s ss) : Tot (X0_insertShared F k (K, nx, f, g, s, zz, hh, ss)) (fun y => ∃ Sh' s' ss', y = (K, nx, f, g, s', zz, hh, ss') ∧ SHR Sh' s' ss' ∧ SrtI Sh' ∧ (∀ x, x ∈ Sh' ↔ x ∈ Sh ∨ x = k) ∧ Sh'.length = Sh.length + 1) := by
  obtain ⟨h0, _, h1⟩ := hS
  subst h0
  rw [X0_insertShared, if_pos (show nI Sh.length < (60 : Int32) from (nI_ltI (b := 60) (by omega) (by omega)).2 hl)]
  refine tot_b (c_insL (F := F) (K := K) (nx := nx) (f := f) (g := g) (zz := zz) (hh := hh) (k := k) hl hs (nI Sh.length) F Sh.length s (by omega) (by omega) (fun q hq _ => h1 q hq) (fun q hq hq2 => by omega)) (fun y ⟨p, s', hy, hp, a1, a2⟩ => ?_)
  subst hy
  dsimp only
  have gp : ¬ ((nI p : Int32) < 0 ∨ 60 ≤ (nI p).toNatClampNeg) := by simp (disch := omega) only [nI_add, pn_add, pn_addl, pn_mul, pn_cl, pn_nlt0, false_or, pn_ge, pn_le, Nat.add_zero, Nat.zero_add, ↓reduceIte, Option.bind_some, nI_leI, nI_ltI, nI_eq, pn_ne1, pn_1ne]; simp
  rw [if_neg gp, kcl (by omega), nI_1]
  have hlen : (Sh.take p ++ k :: Sh.drop p).length = Sh.length + 1 := by
    rw [List.length_append, List.length_cons, List.length_take, List.length_drop]; omega
  refine tot_s ⟨Sh.take p ++ k :: Sh.drop p, _, _, rfl, ⟨by rw [hlen], by omega, fun i hi => ?_⟩, ins_srt hs hp (fun q hq hq2 => ?_) (fun q hq hq2 => (a2 q hq hq2).2), fun x => ?_, hlen⟩
  · rw [hlen] at hi
    by_cases c1 : i < p
    · rw [upd_n (by omega), List.getElem_append_left (by rw [List.length_take]; omega), List.getElem_take]
      exact (a1 i (by omega) c1).1
    · rw [List.getElem_append_right (by rw [List.length_take]; omega)]
      by_cases c2 : i = p
      · subst c2
        rw [upd_s]
        have e : i - (Sh.take i).length = 0 := by rw [List.length_take]; omega
        simp only [e, List.getElem_cons_zero]
      · rw [upd_n c2]
        have e : i - (Sh.take p).length = (i - 1 - p) + 1 := by rw [List.length_take]; omega
        simp only [e, List.getElem_cons_succ, List.getElem_drop]
        have := (a2 (i - 1) (by omega) (by omega)).1
        rw [show i - 1 + 1 = i by omega] at this
        rw [this]
        congr 1; omega
  · have h3 := (a1 q hq hq2).2
    have : (Sh[q]).toInt ≠ k.toInt := fun e => hk (by rw [← i32_eq.2 e]; exact List.getElem_mem hq)
    omega
  · rw [List.mem_append, List.mem_cons]
    have : x ∈ Sh ↔ x ∈ Sh.take p ∨ x ∈ Sh.drop p := by
      conv => lhs; rw [← List.take_append_drop p Sh]
      rw [List.mem_append]
    rw [this]
    constructor
    · rintro (h | h | h)
      · exact Or.inl (Or.inl h)
      · exact Or.inr h
      · exact Or.inl (Or.inr h)
    · rintro ((h | h) | h)
      · exact Or.inl h
      · exact Or.inr (Or.inr h)
      · exact Or.inr (Or.inl h)
theorem c_layL {L : List En} {kK kV kW kC kL kT kP : Nat → Int32} {sz ld pl us ag hv p1 : Int32} (hF : 200 ≤ F) (hE : EC L kK kV kW kC kL kT kP sz) (nd : (L.map eK).Nodup) : ∀ (n i : Nat) (Sh : List Int32) (s : Nat → Int32) (ss : Int32), i ≤ L.length → L.length - i < n → SHR Sh s ss → SrtI Sh → Sh.length = i → (∀ x, x ∈ Sh ↔ ∃ e ∈ L.take i, eK e = x) →
    Tot (X0_findShared_L13 F n p1 (nI i) (K, nx, f, g, s, zz, hh, ss) (kK, kV, kW, kC, kL, kT, kP, sz, ld, pl, us, ag, hv)) (fun y => ∃ Sh' s' ss', y = (K, nx, f, g, s', zz, hh, ss') ∧ SHR Sh' s' ss' ∧ SrtI Sh' ∧ ∀ x, x ∈ Sh' ↔ ∃ e ∈ L, eK e = x) := by
  have hsz := hE.1
  have hl60 := hE.2.1
  intro n
  induction n with
  | zero => intro i Sh s ss _ h; omega
  | succ n ih =>
    intro i Sh s ss hi hn hS hs hlen hm
    rw [X0_findShared_L13, hsz]
    by_cases c1 : L.length ≤ i
    · rw [if_pos ((nI_leI (by omega) (by omega)).2 c1)]
      rw [List.take_of_length_le c1] at hm
      exact tot_s ⟨Sh, s, ss, rfl, hS, hs, hm⟩
    · have hiL : i < L.length := by omega
      have g1 : ¬ ((nI i : Int32) < 0 ∨ 60 ≤ (nI i).toNatClampNeg) := by simp (disch := omega) only [nI_add, pn_add, pn_addl, pn_mul, pn_cl, pn_nlt0, false_or, pn_ge, pn_le, Nat.add_zero, Nat.zero_add, ↓reduceIte, Option.bind_some, nI_leI, nI_ltI, nI_eq, pn_ne1, pn_1ne]; simp
      have hnot : eK L[i] ∉ Sh := fun hx => by
        obtain ⟨e, he, hk⟩ := (hm _).1 hx
        obtain ⟨j, hj, rfl⟩ := List.getElem_of_mem he
        rw [List.length_take] at hj
        rw [List.getElem_take] at hk
        have := nodup_ix nd (by omega) hiL hk; omega
      rw [if_neg (fun hx => c1 ((nI_leI (by omega) (by omega)).1 hx)), if_neg g1, kcl (by omega), c_K hE hiL, nI_1, ← hsz]
      refine tot_b (c_ins (F := F) hF (by omega) hs hnot hS) (fun y ⟨Sh', s', ss', hy, b1, b2, b3, b4⟩ => ?_)
      subst hy
      refine ih (i + 1) Sh' s' ss' (by omega) (by omega) b1 b2 (by omega) (fun x => ?_)
      rw [b3 x, hm x, ← List.take_append_getElem hiL]
      constructor
      · rintro (⟨e, he, hk⟩ | rfl)
        · exact ⟨e, List.mem_append.2 (Or.inl he), hk⟩
        · exact ⟨L[i], List.mem_append.2 (Or.inr (by simp)), rfl⟩
      · rintro ⟨e, he, hk⟩
        rcases List.mem_append.1 he with he | he
        · exact Or.inl ⟨e, he, hk⟩
        · rw [List.mem_singleton] at he; subst he; exact Or.inr hk.symm
theorem c_retL {Sh : List Int32} {S : SS} {b : Nat} {x6 : tX6} {kK kV kW kC kL kT kP : Nat → Int32} {sz ld pl us ag hv : Int32} {xy xz : tX2} (hF : 200 ≤ F) (hR : RC S x6 (kK, kV, kW, kC, kL, kT, kP, sz, ld, pl, us, ag, hv) xy xz) (ok : Ok b S) (hl : Sh.length ≤ 60) : ∀ (n i : Nat) (s : Nat → Int32), i ≤ Sh.length → Sh.length - i < n → (∀ q (h : q < ((Sh.take i).filter (fun x => (fnd x S.1).isSome)).length), s q = ((Sh.take i).filter (fun x => (fnd x S.1).isSome))[q]) → (∀ q (h : q < Sh.length), i ≤ q → s q = Sh[q]) →
    Tot (X0_retainShared_L4 F n (nI ((Sh.take i).filter (fun x => (fnd x S.1).isSome)).length) (nI i) (K, nx, f, g, s, zz, hh, nI Sh.length) (kK, kV, kW, kC, kL, kT, kP, sz, ld, pl, us, ag, hv)) (fun y => ∃ s', y = (nI (Sh.filter (fun x => (fnd x S.1).isSome)).length, (K, nx, f, g, s', zz, hh, nI Sh.length)) ∧ ∀ q (h : q < (Sh.filter (fun x => (fnd x S.1).isSome)).length), s' q = (Sh.filter (fun x => (fnd x S.1).isSome))[q]) := by
  have hfind := fun k => RC.find (F := F) hR ok (by omega) k
  intro n
  induction n with
  | zero => intro i s _ h; omega
  | succ n ih =>
    intro i s hi hn h1 h2
    rw [X0_retainShared_L4]
    by_cases c1 : Sh.length ≤ i
    · rw [if_pos ((nI_leI (by omega) (by omega)).2 c1)]
      rw [List.take_of_length_le c1] at h1 ⊢
      exact tot_s ⟨s, rfl, h1⟩
    · have hiL : i < Sh.length := by omega
      have hle : ((Sh.take i).filter (fun x => (fnd x S.1).isSome)).length ≤ i := by
        refine Nat.le_trans (List.length_filter_le _ _) ?_
        rw [List.length_take]; omega
      have g1 : ¬ ((nI i : Int32) < 0 ∨ 60 ≤ i) := by simp (disch := omega) only [nI_add, pn_add, pn_addl, pn_mul, pn_cl, pn_nlt0, false_or, pn_ge, pn_le, Nat.add_zero, Nat.zero_add, ↓reduceIte, Option.bind_some, nI_leI, nI_ltI, nI_eq, pn_ne1, pn_1ne]; simp
      have ht : (Sh.take (i + 1)).filter (fun x => (fnd x S.1).isSome) = (Sh.take i).filter (fun x => (fnd x S.1).isSome) ++ [Sh[i]].filter (fun x => (fnd x S.1).isSome) := by
        rw [← List.take_append_getElem hiL, List.filter_append]
      rw [if_neg (fun hx => c1 ((nI_leI (by omega) (by omega)).1 hx)), kcl (show i < 2147483648 by omega), if_neg g1, h2 i hiL (by omega), nI_1]
      refine tot_b (hfind Sh[i]) (fun r hr => ?_)
      obtain ⟨L, pL, hE, hix⟩ := hr
      have hl60 := hE.2.1
      rcases hix with ⟨rfl, hf⟩ | ⟨j, hj, rfl, hf⟩
      · rw [if_pos rfl]
        have e : (Sh.take (i + 1)).filter (fun x => (fnd x S.1).isSome) = (Sh.take i).filter (fun x => (fnd x S.1).isSome) := by
          rw [ht]; simp [hf]
        have := ih (i + 1) s (by omega) (by omega)
        rw [e] at this
        exact this h1 (fun q hq hq2 => h2 q hq (by omega))
      · have hne : ¬ nI j = -1 := by simp (disch := omega) only [nI_add, pn_add, pn_addl, pn_mul, pn_cl, pn_nlt0, false_or, pn_ge, pn_le, Nat.add_zero, Nat.zero_add, ↓reduceIte, Option.bind_some, nI_leI, nI_ltI, nI_eq, pn_ne1, pn_1ne]; simp
        have e : (Sh.take (i + 1)).filter (fun x => (fnd x S.1).isSome) = (Sh.take i).filter (fun x => (fnd x S.1).isSome) ++ [Sh[i]] := by
          rw [ht]; simp [hf]
        generalize hT : (Sh.take i).filter (fun x => (fnd x S.1).isSome) = T at h1 hle e ⊢
        have g2 : ¬ ((nI T.length : Int32) < 0 ∨ 60 ≤ (nI T.length).toNatClampNeg) := by simp (disch := omega) only [nI_add, pn_add, pn_addl, pn_mul, pn_cl, pn_nlt0, false_or, pn_ge, pn_le, Nat.add_zero, Nat.zero_add, ↓reduceIte, Option.bind_some, nI_leI, nI_ltI, nI_eq, pn_ne1, pn_1ne]; simp
        rw [if_neg hne, if_neg g1, if_neg g2, kcl (by omega), nI_1]
        have := ih (i + 1) (upd s T.length Sh[i]) (by omega) (by omega)
        rw [e] at this
        have hlT : (T ++ [Sh[i]]).length = T.length + 1 := by simp
        have := this (fun q hq => by
          by_cases cq : q = T.length
          · subst cq; rw [upd_s]; simp
          · rw [upd_n cq, List.getElem_append_left (by omega)]; exact h1 q (by omega)) (fun q hq hq2 => by rw [upd_n (by omega)]; exact h2 q hq (by omega))
        rw [hlT] at this
        exact this
theorem c_ret {Sh : List Int32} {S : SS} {b : Nat} {s : Nat → Int32} {ss : Int32} {x6 : tX6} {x1 : tX1} {xy xz : tX2} (hF : 200 ≤ F) (hR : RC S x6 x1 xy xz) (ok : Ok b S) (hS : SHR Sh s ss) (hs : SrtI Sh) : Tot (X0_retainShared F (K, nx, f, g, s, zz, hh, ss) x1) (fun y => ∃ Sh' s' ss', y = (K, nx, f, g, s', zz, hh, ss') ∧ SHR Sh' s' ss' ∧ SrtI Sh' ∧ ∀ x, x ∈ Sh' ↔ x ∈ Sh ∧ ∃ e ∈ S.1, eK e = x) := by
  obtain ⟨kK, kV, kW, kC, kL, kT, kP, sz, ld, pl, us, ag, hv⟩ := x1
  obtain ⟨h0, hl, h1⟩ := hS
  subst h0
  have := c_retL (F := F) (K := K) (nx := nx) (f := f) (g := g) (zz := zz) (hh := hh) hF hR ok hl F 0 s (by omega) (by omega) (fun q hq => by simp at hq) (fun q hq _ => h1 q hq)
  rw [X0_retainShared]
  refine tot_b (show Tot (X0_retainShared_L4 F F 0 0 (K, nx, f, g, s, zz, hh, nI Sh.length) (kK, kV, kW, kC, kL, kT, kP, sz, ld, pl, us, ag, hv)) _ from this) (fun y ⟨s', hy, a1⟩ => ?_)
  subst hy
  have hle : (Sh.filter (fun x => (fnd x S.1).isSome)).length ≤ 60 := Nat.le_trans (List.length_filter_le _ _) hl
  refine tot_s ⟨_, s', _, rfl, ⟨rfl, hle, a1⟩, List.Pairwise.filter _ hs, fun x => ?_⟩
  rw [List.mem_filter]
  refine and_congr_right (fun _ => ?_)
  cases hf : fnd x S.1 with
  | none =>
    have := fnd_none.1 hf
    simp only [Option.isSome_none]
    exact ⟨fun h => absurd h (by decide), fun ⟨e, he, hk⟩ => absurd hk (this e he)⟩
  | some e =>
    obtain ⟨a, b⟩ := fnd_some hf
    simp only [Option.isSome_some]
    exact ⟨fun _ => ⟨e, a, b⟩, fun _ => trivial⟩
/-- in the store at the end, by each way below -/
def inW (Q : List Int32) (c j : Nat) (x : Int32) : Prop := ∀ way, way < j → ∃ e ∈ (runS false way c Q Q.length).1.1, eK e = x
theorem c_shareL {c : Nat} (hF : 200 ≤ F) (hQ : Q.length ≤ 100) (hK : ∀ x ∈ Q, 0 ≤ x.toInt ∧ x.toInt < 1000) (hc : c ≤ 60) : ∀ (n j : Nat) (Sh : List Int32) (x0 : tX0) (x6 : tX6) (x1 : tX1) (xy xz : tX2) (xq : tX7), j ≤ 5 → 5 - j < n → RA Q x0 → SHR Sh x0.2.2.2.2.1 x0.2.2.2.2.2.2.2 → SrtI Sh → (∀ x, x ∈ Sh ↔ inW Q c j x) →
    Tot (X0_findShared_L51 F n (nI c) (nI j) x0 x6 x1 xy xz xq) (fun y => ∃ Sh', SHR Sh' y.1.2.2.2.2.1 y.1.2.2.2.2.2.2.2 ∧ SrtI Sh' ∧ ∀ x, x ∈ Sh' ↔ inW Q c 5 x) := by
  intro n
  induction n with
  | zero => intro j Sh x0 x6 x1 xy xz xq _ h; omega
  | succ n ih =>
    intro j Sh x0 x6 x1 xy xz xq hj hn hA hS hs hm
    have hrun := fun (h : j ≤ 5) => c_run (F := F) (way := j) (c := c) (x6 := x6) (x1 := x1) (xy := xy) (xz := xz) (xq := xq) hF hK hc h hA
    obtain ⟨K, nx, f, g, s, zz, hh, ss⟩ := x0
    obtain ⟨hap, got, cap, wy, bal, wbt⟩ := x6
    obtain ⟨kK, kV, kW, kC, kL, kT, kP, sz, ld, pl, us, ag, hv⟩ := x1
    obtain ⟨yk, ys⟩ := xy
    obtain ⟨zk, zs⟩ := xz
    obtain ⟨qa, qb, qc, qd, qe, qs, ql, qp⟩ := xq
    rw [X0_findShared_L51]
    by_cases c1 : 4 < j
    · have : j = 5 := by omega
      subst this
      rw [if_pos (show (4 : Int32) < nI 5 by decide)]
      exact tot_s ⟨Sh, hS, hs, hm⟩
    · rw [if_neg (show ¬ (4 : Int32) < nI j from fun hx => c1 ((nI_ltI (a := 4) (by omega) (by omega)).1 hx))]
      obtain ⟨e1, e2, e3⟩ := run_eq (way := j) (c := c) hQ hK hc (by omega) Q.length (Nat.le_refl _)
      obtain ⟨hJ, _⟩ := JR_run (cls := true) (way := j) (c := c) hQ hK hc (by omega) Q.length (Nat.le_refl _)
      refine tot_b (hrun (by omega)) (fun z ⟨z1, z2, z3, z4, z5, z6⟩ => ?_)
      obtain ⟨⟨K, nx, f, g, s', zz, hh, ss'⟩, y6, y1, yy, yz, yq⟩ := z
      dsimp only at z1 z2 z3 z4 z5
      subst z3; subst z4
      have hret := c_ret (F := F) (K := K) (nx := nx) (f := f) (g := g) (zz := zz) (hh := hh) hF z1 hJ.ok hS hs
      obtain ⟨i1, i2, i3, i4, i5, i6⟩ := y6
      obtain ⟨i7, i8, i9, i10, i11, i12, i13, i14, i15, i16, i17, i18, i19⟩ := y1
      obtain ⟨i20, i21⟩ := yy
      obtain ⟨i22, i23⟩ := yz
      obtain ⟨i24, i25, i26, i27, i28, i29, i30, i31⟩ := yq
      dsimp only
      refine tot_b hret (fun y ⟨Sh', s'', ss'', hy, b1, b2, b3⟩ => ?_)
      subst hy
      dsimp only
      rw [nI_1]
      refine ih (j + 1) Sh' _ _ _ _ _ _ (by omega) (by omega) z2 b1 b2 (fun x => ?_)
      rw [b3 x, hm x, e1]
      constructor
      · rintro ⟨h1, h2⟩ way hw
        by_cases cw : way = j
        · subst cw; exact h2
        · exact h1 way (by omega)
      · intro h; exact ⟨fun way hw => h way (by omega), h j (by omega)⟩
theorem c_share {c : Nat} {x0 : tX0} {x6 : tX6} {x1 : tX1} {xy xz : tX2} {xq : tX7} (hF : 200 ≤ F) (hQ : Q.length ≤ 100) (hK : ∀ x ∈ Q, 0 ≤ x.toInt ∧ x.toInt < 1000) (hc : c ≤ 60) (hA : RA Q x0) : Tot (X0_findShared F (nI c) x0 x6 x1 xy xz xq) (fun y => ∃ Sh', SHR Sh' y.1.2.2.2.2.1 y.1.2.2.2.2.2.2.2 ∧ SrtI Sh' ∧ ∀ x, x ∈ Sh' ↔ inW Q c 5 x) := by
  have hrun := c_run (F := F) (way := 0) (c := c) (x6 := x6) (x1 := x1) (xy := xy) (xz := xz) (xq := xq) hF hK hc (by omega) hA
  obtain ⟨e1, e2, e3⟩ := run_eq (way := 0) (c := c) hQ hK hc (by omega) Q.length (Nat.le_refl _)
  obtain ⟨hJ, _⟩ := JR_run (cls := true) (way := 0) (c := c) hQ hK hc (by omega) Q.length (Nat.le_refl _)
  obtain ⟨K, nx, f, g, s, zz, hh, ss⟩ := x0
  obtain ⟨hap, got, cap, wy, bal, wbt⟩ := x6
  obtain ⟨kK, kV, kW, kC, kL, kT, kP, sz, ld, pl, us, ag, hv⟩ := x1
  obtain ⟨yk, ys⟩ := xy
  obtain ⟨zk, zs⟩ := xz
  obtain ⟨qa, qb, qc, qd, qe, qs, ql, qp⟩ := xq
  rw [X0_findShared]
  refine tot_b (show Tot (X0_run F 0 (nI c) (K, nx, f, g, s, zz, hh, ss) (hap, got, cap, wy, bal, wbt) (kK, kV, kW, kC, kL, kT, kP, sz, ld, pl, us, ag, hv) (yk, ys) (zk, zs) (qa, qb, qc, qd, qe, qs, ql, qp)) _ from hrun) (fun z ⟨z1, z2, z3, z4, z5, z6⟩ => ?_)
  obtain ⟨⟨K, nx, f, g, s', zz, hh, ss'⟩, ⟨i1, i2, i3, i4, i5, i6⟩, ⟨i7, i8, i9, i10, i11, i12, i13, i14, i15, i16, i17, i18, i19⟩, ⟨i20, i21⟩, ⟨i22, i23⟩, ⟨i24, i25, i26, i27, i28, i29, i30, i31⟩⟩ := z
  dsimp only at z1 z2 z3 z4 z5 ⊢
  obtain ⟨⟨L, pL, hE⟩, _⟩ := z1
  have ndL := (hJ.ok.1.perm pL).1
  have hl60 := hE.2.1
  have hlay := c_layL (F := F) (K := K) (nx := nx) (f := f) (g := g) (zz := zz) (hh := hh) (ld := i15) (pl := i16) (us := i17) (ag := i18) (hv := i19) (p1 := nI c) hF hE ndL F 0 [] s' 0 (by omega) (by omega) ⟨rfl, by simp, fun i hi => by simp at hi⟩ List.Pairwise.nil rfl (fun x => by simp)
  refine tot_b hlay (fun y ⟨Sh, s'', ss'', hy, b1, b2, b3⟩ => ?_)
  subst hy
  dsimp only
  have hsl := c_shareL (F := F) (c := c) hF hQ hK hc F 1 Sh (K, nx, f, g, s'', zz, hh, ss'') (i1, i2, i3, i4, i5, i6) (i7, i8, i9, i10, i11, i12, i13, i14, i15, i16, i17, i18, i19) (i20, i21) (i22, i23) (i24, i25, i26, i27, i28, i29, i30, i31) (by omega) (by omega) z2 b1 b2 (fun x => by
    rw [b3 x]
    constructor
    · rintro ⟨e, he, hk⟩ way hw
      have : way = 0 := by omega
      subst this
      exact ⟨e, by rw [← e1]; exact pL.mem_iff.1 he, hk⟩
    · intro h
      obtain ⟨e, he, hk⟩ := h 0 (by omega)
      exact ⟨e, pL.mem_iff.2 (by rw [e1]; exact he), hk⟩)
  refine tot_b hsl (fun y ⟨Sh', b1, b2, b3⟩ => ?_)
  obtain ⟨⟨K, nx, f, g, s', zz, hh, ss'⟩, ⟨i1, i2, i3, i4, i5, i6⟩, ⟨i7, i8, i9, i10, i11, i12, i13, i14, i15, i16, i17, i18, i19⟩, ⟨i20, i21⟩, ⟨i22, i23⟩, ⟨i24, i25, i26, i27, i28, i29, i30, i31⟩⟩ := y
  exact tot_s ⟨Sh', b1, b2, b3⟩
end AgreeC
