/-! the reference goes through the requests anew -/
section MRun5
variable {F : Nat} {Q : List Int32} {c k way : Nat} {w : Nat → Int32}
theorem bring_d {k v wt t d d' : Int32} {S : SS} : (bringS k v wt t d S).2.1 = (bringS k v wt t d' S).2.1 := by
  have h1 : (roomS k wt d S).1 = (roomS k wt d' S).1 := (evRun_d 60 _).1
  have h2 : (chgS k v wt t d S).1 = (chgS k v wt t d' S).1 := (evRun_d 60 _).1
  rw [bringS, bringS]
  split
  · rfl
  · split
    · dsimp only; rw [h1]
    · dsimp only; rw [h2]
theorem m_nextL (hm : RQm Q w 0) (g : Int32) : ∀ (n i : Nat), i ≤ Q.length → Q.length - i < n → X10_nextOf_L4 F n g (nI i) w = some (if nxA Q g i < Q.length then nI (nxA Q g i) else 100) := by
  obtain ⟨m0, hl, m2⟩ := hm
  have m0' : w (14 : Int32).toNatClampNeg = nI Q.length := m0
  have hW : ∀ i (h : i < Q.length), w (748 + i) = Q[i] := fun i h => by have := m2 i h; rw [Nat.zero_add] at this; exact this.symm
  intro n
  induction n with
  | zero => intro i _ h; omega
  | succ n ih =>
    intro i hi hn
    rw [X10_nextOf_L4, m0']
    by_cases c1 : Q.length ≤ i
    · have : i = Q.length := by omega
      subst this
      rw [if_pos ((nI_leI (by omega) (by omega)).2 c1), nxA_end, if_neg (by omega)]
    · have hiq : i < Q.length := by omega
      rw [if_neg (fun hx => c1 ((nI_leI (by omega) (by omega)).1 hx)), m748 (by omega), if_neg (g748 (by omega)), kcl (by omega), hW i hiq, nI_1]
      by_cases cc : Q[i] = g
      · rw [if_pos cc, nxA_step Q g hiq, if_pos cc, if_pos hiq]
      · rw [if_neg cc, ih (i + 1) (by omega) (by omega), nxA_step Q g hiq, if_neg cc]
theorem m_next (hF : 200 ≤ F) (hm : RQm Q w 0) (g : Int32) (hk : k < Q.length) : X10_nextOf F g (nI k) w = some (if nxA Q g (k + 1) < Q.length then nI (nxA Q g (k + 1)) else 100) := by
  have := hm.2.1
  rw [X10_nextOf, nI_1]; exact m_nextL hm g F (k + 1) (by omega) (by omega)
def rueT (Q : List Int32) (k : Nat) (g r s : Int32) : Int32 × Int32 :=
  if g = -1 then (r, s) else if nxA Q g (k + 1) < Q.length then (r + 1, if s = -1 then nI (nxA Q g (k + 1)) - nI k else if nI (nxA Q g (k + 1)) - nI k ≤ s then nI (nxA Q g (k + 1)) - nI k else s) else (r, s)
theorem m_rued (hF : 200 ≤ F) (hm : RQm Q w 0) {g : Int32} (hg : g ≠ -1) (hk : k < Q.length) (r s : Int32) : X10_isRued F g (nI k) w r s = some (rueT Q k g r s) := by
  have hl := hm.2.1
  rw [X10_isRued, m_next hF hm g hk, Option.bind_some, rueT, if_neg hg]
  by_cases c1 : nxA Q g (k + 1) < Q.length
  · have e100 : ¬ nI (nxA Q g (k + 1)) = 100 := fun e => by
      have e' : nI (nxA Q g (k + 1)) = nI 100 := e
      rw [nI_eq (by omega) (by omega)] at e'; omega
    rw [if_pos c1, if_pos c1, if_neg e100]
    by_cases c2 : s = -1
    · rw [if_pos c2, if_pos c2]
    · rw [if_neg c2, if_neg c2, lesser_eq, Option.bind_some]
  · rw [if_neg c1, if_neg c1, if_pos rfl]
theorem m_rue0 (hF : 200 ≤ F) {v1 v2 v3 r s : Int32} {went : Nat → Int32} {m : Nat} (hm : m < 1000) : X10_goesThrough_L166 F F v1 v2 v3 (nI m) w went (nI m) r s = some (r, s) := by
  obtain ⟨F', hF'⟩ : ∃ F', F = F' + 1 := ⟨F - 1, by omega⟩
  conv => lhs; rw [show X10_goesThrough_L166 F F = X10_goesThrough_L166 F (F' + 1) by rw [← hF']]
  rw [X10_goesThrough_L166, if_pos (Int32.le_refl _)]
theorem m_rue1 (hF : 200 ≤ F) (hm : RQm Q w 0) (hk : k < Q.length) {v1 v2 r s : Int32} {went : Nat → Int32} {m : Nat} (hm2 : m < 128) (hg : went m ≠ -1) : X10_goesThrough_L166 F F v1 v2 (nI k) (nI m) w went (nI (m + 1)) r s = some (rueT Q k (went m) r s) := by
  obtain ⟨F', hF'⟩ : ∃ F', F = F' + 2 := ⟨F - 2, by omega⟩
  have g1 : ¬ ((nI m : Int32) < 0 ∨ 128 ≤ m) := by simp (disch := omega) only [nI_add, pn_add, pn_addl, pn_mul, pn_cl, pn_nlt0, false_or, pn_ge, pn_le, Nat.add_zero, Nat.zero_add, ↓reduceIte, Option.bind_some, nI_leI, nI_ltI, nI_eq, pn_ne1, pn_1ne]; simp
  conv => lhs; rw [show X10_goesThrough_L166 F F = X10_goesThrough_L166 F (F' + 1 + 1) by rw [← hF']]
  rw [X10_goesThrough_L166, if_neg (fun hx => by have := (nI_leI (by omega) (by omega)).1 hx; omega), kcl (by omega), if_neg g1, m_rued hF hm hg hk, Option.bind_some, nI_1]
  generalize rueT Q k (went m) r s = z
  obtain ⟨z1, z2⟩ := z
  dsimp only
  rw [X10_goesThrough_L166, if_pos (Int32.le_refl _)]
/-- which one went for a put -/
theorem puts_gone {b m : Nat} {A : SS} {key dp : Int32} {went went' : Nat → Int32} {wm' : Int32} (hm : m < 127) (h : One c A) (ok : Ok b A) (hw : OkW (A.2.2.2 2))
    (z5 : rejS key 1 A = true ∨ ∃ G, WNT went m G went' ∧ wm' = nI (m + G.length) ∧ G = if (fnd key A.1).isNone then (roomS key 1 dp A).2 else (chgS key 0 1 (-1) dp A).2)
    (z6 : rejS key 1 A = true → went' = went ∧ wm' = nI m) :
    (wm' = nI m ∧ gnow (bringS key 0 1 (-1) 0 A).2.2 = -1 ∧ ∀ q, went' q = went q) ∨ (wm' = nI (m + 1) ∧ went' m = gnow (bringS key 0 1 (-1) 0 A).2.2 ∧ went' m ≠ -1 ∧ fnd key A.1 = none ∧ A.1.length = c) := by
  by_cases hc : c = 0
  · subst hc
    obtain ⟨e1, e2⟩ := z6 h.rej0
    rw [br_rej h]
    exact Or.inl ⟨e2, rfl, fun q => by rw [e1]⟩
  · have hc0 : 0 < c := by omega
    have hr := h.rej (k := key) hc0
    obtain ⟨G, g1, g2, g3⟩ := z5.resolve_left (by rw [hr]; decide)
    cases hf : fnd key A.1 with
    | some e =>
      rw [hf, if_neg (by simp), chgS, evRun_stop h.chg.stl] at g3
      subst g3
      rw [br_there h hc0 hf]
      exact Or.inl ⟨g2, rfl, fun q => g1.2 q (fun j hj => by simp at hj)⟩
    | none =>
      rw [hf, if_pos (by simp)] at g3
      by_cases hl : A.1.length < c
      · rw [(br_new (d := dp) h hl hf).2] at g3
        subst g3
        rw [(br_new (d := 0) h hl hf).1]
        exact Or.inl ⟨g2, rfl, fun q => g1.2 q (fun j hj => by simp at hj)⟩
      · have hl2 : A.1.length = c := by have := h.l; omega
        obtain ⟨e, hem, hb0, hr0⟩ := br_full (d := 0) h hc0 ok hw hl2 hf
        obtain ⟨e', hem', hb1, hr1⟩ := br_full (d := dp) h hc0 ok hw hl2 hf
        have hee : eK e = eK e' := by
          have := (evRun_d (stop := stopT 1) (but := key) (d := 0) (d' := dp) 60 (learnS key 1 A)).2
          rw [show evRun (stopT 1) key 0 60 (learnS key 1 A) = _ from hr0, show evRun (stopT 1) key dp 60 (learnS key 1 A) = _ from hr1] at this
          simpa [gone] using this
        rw [hr1] at g3
        subst g3
        have hw0 := g1.1 0 (by simp)
        rw [Nat.add_zero, Nat.mod_eq_of_lt (by omega), List.getElem_cons_zero] at hw0
        have hw1 : went' m = eK e' := hw0
        have hpos := (ok.1.2.2.2 e' hem').1
        rw [hb0]
        refine Or.inr ⟨g2, ?_, ?_, rfl, hl2⟩
        · rw [hw1]; show eK e' = gnow (gone 0 e :: _); simp only [gnow, gone, if_true]; exact hee.symm
        · rw [hw1]; intro hx; rw [hx] at hpos; exact absurd hpos (by decide)
theorem m_begL {c0 a0 : Int32} : ∀ (n i : Nat) (w : Nat → Int32), i ≤ 848 → 848 - i < n → (∀ q, q < i → w (2544 + q) = 0) → Tot (X10_begins_L2 F n c0 a0 (nI i) w 2544) (fun w' => (∀ q, q < 848 → w' (2544 + q) = 0) ∧ ∀ q, q < 2544 → w' q = w q) := by
  intro n
  induction n with
  | zero => intro i w _ h; omega
  | succ n ih =>
    intro i w hi hn h
    rw [X10_begins_L2]
    by_cases c1 : 848 ≤ i
    · rw [if_pos (show (848 : Int32) ≤ nI i from (nI_leI (a := 848) (by omega) (by omega)).2 c1)]
      exact tot_s ⟨fun q hq => h q (by omega), fun _ _ => rfl⟩
    · have e : (2544 + nI i : Int32) = nI (2544 + i) := by simp (disch := omega) only [nI_add, pn_add, pn_addl, pn_mul, pn_cl, pn_nlt0, false_or, pn_ge, pn_le, Nat.add_zero, Nat.zero_add, ↓reduceIte, Option.bind_some, nI_leI, nI_ltI, nI_eq, pn_ne1, pn_1ne]
      have g1 : ¬ ((nI (2544 + i) : Int32) < 0 ∨ 3392 ≤ (nI (2544 + i)).toNatClampNeg) := by simp (disch := omega) only [nI_add, pn_add, pn_addl, pn_mul, pn_cl, pn_nlt0, false_or, pn_ge, pn_le, Nat.add_zero, Nat.zero_add, ↓reduceIte, Option.bind_some, nI_leI, nI_ltI, nI_eq, pn_ne1, pn_1ne]; simp
      rw [if_neg (show ¬ (848 : Int32) ≤ nI i from fun hx => c1 ((nI_leI (a := 848) (by omega) (by omega)).1 hx)), e, if_neg g1, kcl (by omega), nI_1]
      refine tot_m (ih (i + 1) _ (by omega) (by omega) (fun q hq => ?_)) (fun w' ⟨h1, h2⟩ => ⟨h1, fun q hq => by rw [h2 q hq, upd_n (by omega)]⟩)
      by_cases cq : q = i
      · subst cq; rw [upd_s]
      · rw [upd_n (by omega)]; exact h q (by omega)
theorem m_begins (hF : 1000 ≤ F) (w : Nat → Int32) : Tot (X10_begins F (nI c) 999 w 2544) (fun w' => RM (S0 false way c) (upd w' 2546 (nI (min way 4))) 2544 ∧ ∀ q, q < 2544 → w' q = w q) := by
  rw [X10_begins]
  refine tot_b (m_begL (F := F) (c0 := nI c) (a0 := 999) F 0 w (by omega) (by omega) (fun q hq => by omega)) (fun w' ⟨h1, h2⟩ => ?_)
  have g1 : ¬ ((2544 + 1 : Int32) < 0 ∨ 3392 ≤ (2544 + 1 : Int32).toNatClampNeg) := by decide
  have g2 : ¬ ((2544 + 6 : Int32) < 0 ∨ 3392 ≤ (2544 + 6 : Int32).toNatClampNeg) := by decide
  have c1 : (2544 + 1 : Int32).toNatClampNeg = 2545 := by decide
  have c2 : (2544 + 6 : Int32).toNatClampNeg = 2550 := by decide
  rw [if_neg g1, if_neg g2, c1, c2]
  refine tot_s ⟨⟨⟨[], List.Perm.refl _, ?_, by simp, by omega, fun i hi => by simp at hi⟩, ⟨by omega, by omega, ?_, by simp [S0], fun i hi => by simp [S0] at hi⟩, ⟨by omega, by omega, ?_, by simp [S0], fun i hi => by simp [S0] at hi⟩, fun q q1 q2 => ?_⟩, fun q hq => by rw [upd_n (by omega), upd_n (by omega), h2 q hq]⟩
  · rw [upd_n (by omega), upd_n (by omega), upd_n (by omega)]; exact h1 0 (by omega)
  · rw [upd_n (by omega), upd_n (by omega), upd_n (by omega)]; exact h1 19 (by omega)
  · rw [upd_n (by omega), upd_n (by omega), upd_n (by omega)]; exact h1 20 (by omega)
  · simp only [S0]
    by_cases d2 : q = 2
    · subst d2; rw [show 2544 + 2 = 2546 from rfl, upd_s, upd_s]; rfl
    · rw [upd_n (show 2544 + q ≠ 2546 by omega), upd_n d2]
      by_cases d6 : q = 6
      · subst d6; rw [show 2544 + 6 = 2550 from rfl, upd_s, upd_s]
      · rw [upd_n (show 2544 + q ≠ 2550 by omega), upd_n d6]
        by_cases d1 : q = 1
        · subst d1; rw [show 2544 + 1 = 2545 from rfl, upd_s, upd_s]
        · rw [upd_n (show 2544 + q ≠ 2545 by omega), upd_n d1]; exact h1 q (by omega)
theorem m_farL {S : SS} {L : List En} (hF : 1000 ≤ F) (hm : RQm Q w 0) (hk : k < Q.length) (hE : EM L w 2544) (ndL : (L.map eK).Nodup) (hne : 0 < L.length) : Tot (X10_goesFarthest_L4 F F (nI k) 0 1 w 2544) (fun r => ∃ a, ∃ ha : a < L.length, r = nI a ∧ IsFar Q k L L[a]) := by
  have hlQ := hm.2.1
  have hl60 := hE.2.1
  have hsz : w 2544 = nI L.length := hE.1
  have c0 : (2544 + 0 : Int32).toNatClampNeg = 2544 := by decide
  have g0 : ¬ ((2544 + 0 : Int32) < 0 ∨ 3392 ≤ (2544 + 0 : Int32).toNatClampNeg) := by decide
  have hnb : ∀ e : En, nxE Q k e ≤ Q.length := fun e => (nxA_spec Q (eK e) (i := k + 1) (by omega)).2.1
  have hnv : ∀ e : En, X10_nextOf F (eK e) (nI k) w = some (nI (if nxE Q k e < Q.length then nxE Q k e else 100)) := fun e => by
    rw [m_next (by omega) hm (eK e) hk]
    rw [nxE]; split <;> rfl
  have mono : ∀ a b : En, ((if nxE Q k a < Q.length then nxE Q k a else 100) < (if nxE Q k b < Q.length then nxE Q k b else 100) ↔ nxE Q k a < nxE Q k b) ∧ ((if nxE Q k a < Q.length then nxE Q k a else 100) = (if nxE Q k b < Q.length then nxE Q k b else 100) ↔ nxE Q k a = nxE Q k b) := fun a b => by
    have := hnb a
    have := hnb b
    split <;> split <;> omega
  have hle : ∀ e : En, (if nxE Q k e < Q.length then nxE Q k e else 100) ≤ 100 := fun e => by have := hnb e; split <;> omega
  have key : ∀ (n i a : Nat) (ha : a < L.length), a < i → i ≤ L.length → L.length - i < n → (∀ j (hj : j < L.length), j < i → L[j] = L[a] ∨ farB Q k L[a] L[j] = true) →
      Tot (X10_goesFarthest_L4 F n (nI k) (nI a) (nI i) w 2544) (fun r => ∃ a, ∃ ha : a < L.length, r = nI a ∧ IsFar Q k L L[a]) := by
    intro n
    induction n with
    | zero => intro i a ha _ _ h; omega
    | succ n ih =>
      intro i a ha hai hi hn hinv
      rw [X10_goesFarthest_L4, if_neg g0, c0, hsz]
      by_cases c1 : L.length ≤ i
      · rw [if_pos ((nI_leI (by omega) (by omega)).2 c1)]
        refine tot_s ⟨a, ha, rfl, List.getElem_mem ha, fun f hf => ?_⟩
        obtain ⟨j, hj, rfl⟩ := List.getElem_of_mem hf
        exact hinv j hj (by omega)
      · have hiL : i < L.length := by omega
        have hne2 : (eK L[a]).toInt ≠ (eK L[i]).toInt := fun e => by
          have := nodup_ix ndL ha hiL (i32_eq.2 e); omega
        have b1 := hle L[i]
        have b2 := hle L[a]
        have take : farB Q k L[i] L[a] = true → Tot (X10_goesFarthest_L4 F n (nI k) (nI i) (nI (i + 1)) w 2544) (fun r => ∃ a, ∃ ha : a < L.length, r = nI a ∧ IsFar Q k L L[a]) := fun hb => by
          refine ih (i + 1) i hiL (by omega) (by omega) (by omega) (fun j hj hj2 => ?_)
          by_cases cj : j = i
          · subst cj; exact Or.inl rfl
          · rcases hinv j hj (by omega) with e | h5
            · right; rw [e]; exact hb
            · right; rw [farB_iff] at *; omega
        have stay : ¬ farB Q k L[i] L[a] = true → Tot (X10_goesFarthest_L4 F n (nI k) (nI a) (nI (i + 1)) w 2544) (fun r => ∃ a, ∃ ha : a < L.length, r = nI a ∧ IsFar Q k L L[a]) := fun hb => by
          refine ih (i + 1) a ha (by omega) (by omega) (by omega) (fun j hj hj2 => ?_)
          by_cases cj : j = i
          · subst cj; right; rw [farB_iff] at *; omega
          · exact hinv j hj (by omega)
        rw [if_neg (fun hx => c1 ((nI_leI (by omega) (by omega)).1 hx)), show X10_of F (nI i) 0 w 2544 = _ from m_of0 hE hiL, Option.bind_some, hnv, Option.bind_some, show X10_of F (nI a) 0 w 2544 = _ from m_of0 hE ha, Option.bind_some, hnv, Option.bind_some, Option.bind_some, Option.bind_some, nI_1]
        by_cases d1 : nxE Q k L[a] < nxE Q k L[i]
        · rw [if_pos ((nI_ltI (by omega) (by omega)).2 ((mono L[a] L[i]).1.2 d1))]
          exact take (farB_iff.2 (Or.inl d1))
        · rw [if_neg (fun hx => d1 ((mono L[a] L[i]).1.1 ((nI_ltI (by omega) (by omega)).1 hx)))]
          by_cases d2 : nxE Q k L[i] = nxE Q k L[a]
          · rw [if_pos (by rw [(mono L[i] L[a]).2.2 d2])]
            by_cases d3 : eK L[a] ≤ eK L[i]
            · rw [if_pos d3]; exact stay (fun hx => by rw [farB_iff] at hx; rw [i32_le] at d3; omega)
            · rw [if_neg d3]; exact take (farB_iff.2 (Or.inr ⟨d2, by rw [i32_le] at d3; omega⟩))
          · rw [if_neg (fun hx => d2 ((mono L[i] L[a]).2.1 (by rw [nI_eq (by omega) (by omega)] at hx; exact hx)))]
            exact stay (fun hx => by rw [farB_iff] at hx; omega)
  exact key F 1 0 hne (by omega) (by omega) (by omega) (fun j hj hj2 => by
    have : j = 0 := by omega
    subst this; exact Or.inl rfl)
theorem m_far {b m : Nat} {S : SS} {went : Nat → Int32} (hF : 1000 ≤ F) (hm : RQm Q w 0) (hk : k < Q.length) (hR : RM S w 2544) (ok : Ok b S) (hne : 0 < S.1.length) (hmm : m < 127) : Tot (X10_goesFarthest F (nI k) w 2544 went (nI m)) (fun y => ∃ e, IsFar Q k S.1 e ∧ RM (dropM e S) y.1 2544 ∧ FrO w y.1 2544 ∧ y.2.1 = upd went m (eK e) ∧ y.2.2 = nI (m + 1)) := by
  obtain ⟨⟨L, p, hE⟩, _⟩ := id hR
  have ndL := (ok.1.perm p).1
  have c10 : (2544 + 10 : Int32).toNatClampNeg = 2554 := by decide
  have g10 : ¬ ((2544 + 10 : Int32) < 0 ∨ 3392 ≤ (2544 + 10 : Int32).toNatClampNeg) := by decide
  rw [X10_goesFarthest]
  refine tot_b (m_farL (F := F) (S := S) hF hm hk hE ndL (by rw [p.length_eq]; exact hne)) (fun r ⟨a, ha, hr, hfar⟩ => ?_)
  subst hr
  have hl60 := hE.2.1
  obtain ⟨hR2, hf2⟩ := hR.set 10 (w 2554 + 1) (by omega) (by omega)
  have h10 : S.2.2.2 10 = w 2554 := (hR.2.2.2 10 (by omega) (by omega)).symm
  have hE2 : EM L (upd w (2544 + 10) (w 2554 + 1)) 2544 := EM.same hE (upd_n (by omega)) (fun q _ _ => upd_n (by omega))
  have ok2 : Ok b (setN 10 (w 2554 + 1) S) := setN_ok ok (by simp)
  have hmod : (nI m - nI m / 128 * 128 : Int32) = nI m := by
    have h1 : (nI m - nI m / 128 * 128 : Int32) = nI (m % 128) := pk_rem (d := 128) (by omega) (by omega) (by omega)
    rw [h1, Nat.mod_eq_of_lt (by omega)]
  have g128 : ¬ ((nI m : Int32) < 0 ∨ 128 ≤ (nI m).toNatClampNeg) := by simp (disch := omega) only [nI_add, pn_add, pn_addl, pn_mul, pn_cl, pn_nlt0, false_or, pn_ge, pn_le, Nat.add_zero, Nat.zero_add, ↓reduceIte, Option.bind_some, nI_leI, nI_ltI, nI_eq, pn_ne1, pn_1ne]; simp
  rw [if_neg g10, if_neg g10, c10, show X10_of F (nI a) 0 (upd w 2554 (w 2554 + 1)) 2544 = _ from m_of0 hE2 ha, Option.bind_some, hmod, if_neg g128, kcl (by omega)]
  refine tot_b (m_goesS (F := F) (o := 2544) hR2 hF ok2 (show L.Perm (setN 10 (w 2554 + 1) S).1 from p) hE2 ha rfl) (fun w' ⟨q1, q2⟩ => ?_)
  refine tot_s ⟨L[a], hfar.perm p, ?_, hf2.trans q2, rfl, by rw [nI_1]⟩
  have e : dropM L[a] S = withE (delK (eK L[a]) (setN 10 (w 2554 + 1) S).1) (setN 10 (w 2554 + 1) S) := by
    simp only [dropM, withE, setN, h10]
  rw [e]; exact q1
theorem RQm.far0 {w0 : Nat → Int32} (h : RQm Q w0 0) (hf : ∀ q, q < 2544 → w q = w0 q) : RQm Q w 0 := by
  obtain ⟨h1, h2, h3⟩ := h
  exact ⟨by rw [hf _ (by omega)]; exact h1, h2, fun i hi => by rw [hf _ (by omega)]; exact h3 i hi⟩
def rueR (way c : Nat) (Q : List Int32) : Nat → Int32 × Int32
  | 0 => (0, -1)
  | k + 1 => rueT Q k ((runS false way c Q (k + 1)).2.2 k) (rueR way c Q k).1 (rueR way c Q k).2
theorem m_runL (hF : 1000 ≤ F) {w0 : Nat → Int32} (hQ0 : RQm Q w0 0) (hK : ∀ x ∈ Q, 0 ≤ x.toInt ∧ x.toInt < 1000) (hc : c ≤ 60) (hway : way ≤ 5) {dp : Int32} :
    ∀ (n k m : Nat) (w went t : Nat → Int32) (came hi ru so : Int32), True → k ≤ Q.length → Q.length - k < n → m ≤ k → RM (runS false way c Q k).1 w 2544 → (∀ q, q < 2544 → w q = w0 q) → hi = nI (runS false way c Q k).2.1 → (ru, so) = rueR way c Q k →
    Tot (X10_goesThrough_L58 F n (nI way) (nI c) (nI k) w 2544 went (nI m) t came dp 1 hi ru so) (fun y => RM (runS false way c Q Q.length).1 y.1 2544 ∧ (∀ q, q < 2544 → y.1 q = w0 q) ∧ (∃ m', y.2.2.1 = nI m' ∧ m' ≤ 100) ∧ y.2.2.2.2.2.1 = nI (runS false way c Q Q.length).2.1 ∧ (y.2.2.2.2.2.2.1, y.2.2.2.2.2.2.2) = rueR way c Q Q.length) := by
  have hl := hQ0.2.1
  intro n
  induction n with
  | zero => intro k m w went t came hi ru so _ _ h; omega
  | succ n ih0 =>
    have ih := fun (k m : Nat) (w went t : Nat → Int32) (came hi ru so : Int32) => ih0 k m w went t came hi ru so trivial
    intro k m w went t came hi ru so _ hk hn hmk hR hfr hh hru
    obtain ⟨hJ, hw2⟩ := JR_run (cls := false) (way := way) hl hK hc hway k hk
    have hQw : RQm Q w 0 := RQm.far0 hQ0 hfr
    have m0' : w (14 : Int32).toNatClampNeg = nI Q.length := by have := hQw.1; exact this
    have hW : ∀ i (h : i < Q.length), w (748 + i) = Q[i] := fun i h => by have := hQw.2.2 i h; rw [Nat.zero_add] at this; exact this.symm
    have hokw : OkW ((runS false way c Q k).1.2.2.2 2) := by
      rw [hw2, if_neg (by decide)]
      have : min way 4 = 0 ∨ min way 4 = 1 ∨ min way 4 = 2 ∨ min way 4 = 3 ∨ min way 4 = 4 := by omega
      generalize min way 4 = v at this
      rcases this with rfl | rfl | rfl | rfl | rfl
      · exact Or.inl rfl
      · exact Or.inr (Or.inl rfl)
      · exact Or.inr (Or.inr (Or.inl rfl))
      · exact Or.inr (Or.inr (Or.inr (Or.inl rfl)))
      · exact Or.inr (Or.inr (Or.inr (Or.inr rfl)))
    rw [X10_goesThrough_L58, m0']
    by_cases c0 : Q.length ≤ k
    · have : k = Q.length := by omega
      subst this
      rw [if_pos ((nI_leI (by omega) (by omega)).2 c0)]
      exact tot_s ⟨hR, hfr, ⟨m, rfl, by omega⟩, hh, hru⟩
    · have hkl : k < Q.length := by omega
      have hkey := hK Q[k] (List.getElem_mem hkl)
      have hky : kyQ Q k = Q[k] := kyQ_at (List.getElem?_eq_getElem hkl)
      have harg : ∀ A : SS, ArgP Q[k] 0 1 (-1) (A.2.2.2 5) := fun A => ⟨hkey.1, hkey.2, by decide, by decide, Or.inl rfl, by constructor <;> decide⟩
      have hgk : (runS false way c Q (k + 1)).2.2 k = (rst false way c Q k (runS false way c Q k).1).2 := by simp only [runS]; rw [upd_s]
      have w5 : nI way = 5 ↔ way = 5 := by
        have : (5 : Int32) = nI 5 := rfl
        rw [this, nI_eq (by omega) (by omega)]
      have hc00 : nI c ≤ 0 ↔ c = 0 := by
        have : (0 : Int32) = nI 0 := rfl
        rw [this, nI_leI (by omega) (by omega)]; omega
      have cc : (2544 + 0 : Int32).toNatClampNeg = 2544 := by decide
      have nn : ¬ ((2544 + 0 : Int32) < 0 ∨ 3392 ≤ (2544 + 0 : Int32).toNatClampNeg) := by decide
      rw [if_neg (fun hx => c0 ((nI_leI (by omega) (by omega)).1 hx)), m748 (by omega), if_neg (g748 (by omega)), kcl (by omega), hW k hkl]
      obtain ⟨r2, hr2, M, pM, hEM, hiM⟩ := hR.find hJ.ok (show 100 ≤ F by omega) Q[k]
      have hsz : w 2544 = nI (runS false way c Q k).1.1.length := by rw [hEM.1, pM.length_eq]
      have hm60 := hEM.2.1
      have hl60 := hJ.one.l
      rw [show X10_entryOf F Q[k] w 2544 = _ from hr2, Option.bind_some]
      rcases hiM with ⟨rfl, hfn⟩ | ⟨i, hi2, rfl, hfs⟩
      · rw [if_pos rfl, show X10_flag F 0 = some 0 from rfl, Option.bind_some]
        by_cases c5 : way = 5
        · rw [if_pos (w5.2 c5)]
          by_cases hc0 : c = 0
          · have hnF : ¬ isF way c Q k (runS false way c Q k).1 := fun h => by have := h.2.2.1; omega
            rw [if_pos (hc00.2 hc0)]
            refine tot_b (m_puts (F := F) (o := 2544) (E := []) (sil := 1) (v := 0) (d := dp) (m := m) (went := went) hR hJ.ok hokw hF (by omega) (by omega) (by simp) (Or.inr rfl) (harg _)) (fun y ⟨z0, z1, z2, _, _, z5, z6⟩ => ?_)
            obtain ⟨r, y2, y3, y4, y5, y6⟩ := y
            dsimp only at z1 z2 z5 z6 ⊢
            have e1 : RM (runS false way c Q (k + 1)).1 y2 2544 := by
              have : (runS false way c Q (k + 1)).1 = (bringS Q[k] 0 1 (-1) dp (runS false way c Q k).1).2.1 := by simp only [runS, rst]; rw [if_neg hnF, hky]; exact bring_d
              rw [this]; exact z1
            have eg : (rst false way c Q k (runS false way c Q k).1).2 = gnow (bringS Q[k] 0 1 (-1) 0 (runS false way c Q k).1).2.2 := by rw [rst, if_neg hnF, hky]
            have fr : ∀ q, q < 2544 → y2 q = w0 q := fun q hq => by rw [z2 q (by omega)]; exact hfr q hq
            have eh : hi + 0 = nI (runS false way c Q (k + 1)).2.1 := by simp only [runS]; rw [hky, hfn, hh, Int32.add_zero]; rfl
            rcases puts_gone (by omega) hJ.one hJ.ok hokw z5 z6 with ⟨p1, p2, _⟩ | ⟨p1, p2, p3, _, _⟩
            · subst p1
              rw [m_rue0 (by omega) (by omega), Option.bind_some, nI_1]
              refine ih (k + 1) m y2 y3 y5 y6 _ ru so (by omega) (by omega) (by omega) e1 fr eh ?_
              rw [rueR, hgk, eg, p2, ← hru]; rfl
            · subst p1
              rw [m_rue1 (by omega) (RQm.far0 hQ0 fr) hkl (by omega) p3, Option.bind_some, nI_1]
              generalize hz : rueT Q k (y3 m) ru so = z
              obtain ⟨u1, u2⟩ := z
              refine ih (k + 1) (m + 1) y2 y3 y5 y6 _ u1 u2 (by omega) (by omega) (by omega) e1 fr eh ?_
              rw [rueR, hgk, eg, ← p2, ← hru]; exact hz.symm
          · rw [if_neg (fun hx => hc0 (hc00.1 hx)), if_neg nn, cc, hsz]
            by_cases hlc : (runS false way c Q k).1.1.length = c
            · have hisF : isF way c Q k (runS false way c Q k).1 := ⟨c5, by rw [hky]; exact hfn, by omega, hlc⟩
              rw [if_pos (by rw [hlc])]
              refine tot_b (m_far (F := F) (went := went) hF hQw hkl hR hJ.ok (by omega) (show m < 127 by omega)) (fun y ⟨e, he, v1, v2, v3, v4⟩ => ?_)
              obtain ⟨wa, wb, wc⟩ := y
              dsimp only at v1 v2 v3 v4 ⊢
              subst v3; subst v4
              have hfa := fa_eq he
              obtain ⟨g1, g2, g3, g4, g5, g6, g7⟩ := hJ.goes (by omega) (by omega) hlc hfn he.1 false
              rw [if_neg (by decide)] at g1 g2 g3 g4 g5 g6 g7
              have okwd : OkW ((dropM e (runS false way c Q k).1).2.2.2 2) := by rw [g6 2 (by decide) (by decide)]; exact hokw
              refine tot_b (m_puts (F := F) (o := 2544) (E := []) (sil := 1) (v := 0) (d := dp) (m := m + 1) (went := (upd went m (eK e))) v1 g1 okwd hF (by omega) (by omega) (by simp) (Or.inr rfl) (harg _)) (fun y ⟨z0, z1, z2, _, _, z5, z6⟩ => ?_)
              obtain ⟨r, y2, y3, y4, y5, y6⟩ := y
              dsimp only at z1 z2 z5 z6 ⊢
              have e0 : (bringS Q[k] 0 1 (-1) dp (dropM e (runS false way c Q k).1)).2.1 = (runS false way c Q (k + 1)).1 := by simp only [runS, rst]; rw [if_pos hisF, hfa, hky]; exact bring_d
              have e1 : RM (runS false way c Q (k + 1)).1 y2 2544 := by rw [← e0]; exact z1
              have eg : (rst false way c Q k (runS false way c Q k).1).2 = eK e := by rw [rst, if_pos hisF, hfa]
              have fr : ∀ q, q < 2544 → y2 q = w0 q := fun q hq => by rw [z2 q (by omega), v2 q (by omega)]; exact hfr q hq
              have eh : hi + 0 = nI (runS false way c Q (k + 1)).2.1 := by simp only [runS]; rw [hky, hfn, hh, Int32.add_zero]; rfl
              rcases puts_gone (by omega) g2 g1 okwd z5 z6 with ⟨p1, p2, p3⟩ | ⟨_, _, _, _, p4⟩
              · subst p1
                have hwm : y3 m = eK e := by rw [p3 m, upd_s]
                have hpos := (hJ.ok.1.2.2.2 e he.1).1
                have hne1 : y3 m ≠ -1 := by rw [hwm]; intro hx; rw [hx] at hpos; exact absurd hpos (by decide)
                rw [m_rue1 (by omega) (RQm.far0 hQ0 fr) hkl (by omega) hne1, Option.bind_some, nI_1]
                generalize hz : rueT Q k (y3 m) ru so = z
                obtain ⟨u1, u2⟩ := z
                refine ih (k + 1) (m + 1) y2 y3 y5 y6 _ u1 u2 (by omega) (by omega) (by omega) e1 fr eh ?_
                rw [rueR, hgk, eg, ← hwm, ← hru]; exact hz.symm
              · omega
            · have hnF : ¬ isF way c Q k (runS false way c Q k).1 := fun h => hlc h.2.2.2
              rw [if_neg (fun hx => hlc (by rw [nI_eq (by omega) (by omega)] at hx; exact hx))]
              refine tot_b (m_puts (F := F) (o := 2544) (E := []) (sil := 1) (v := 0) (d := dp) (m := m) (went := went) hR hJ.ok hokw hF (by omega) (by omega) (by simp) (Or.inr rfl) (harg _)) (fun y ⟨z0, z1, z2, _, _, z5, z6⟩ => ?_)
              obtain ⟨r, y2, y3, y4, y5, y6⟩ := y
              dsimp only at z1 z2 z5 z6 ⊢
              have e1 : RM (runS false way c Q (k + 1)).1 y2 2544 := by
                have : (runS false way c Q (k + 1)).1 = (bringS Q[k] 0 1 (-1) dp (runS false way c Q k).1).2.1 := by simp only [runS, rst]; rw [if_neg hnF, hky]; exact bring_d
                rw [this]; exact z1
              have eg : (rst false way c Q k (runS false way c Q k).1).2 = gnow (bringS Q[k] 0 1 (-1) 0 (runS false way c Q k).1).2.2 := by rw [rst, if_neg hnF, hky]
              have fr : ∀ q, q < 2544 → y2 q = w0 q := fun q hq => by rw [z2 q (by omega)]; exact hfr q hq
              have eh : hi + 0 = nI (runS false way c Q (k + 1)).2.1 := by simp only [runS]; rw [hky, hfn, hh, Int32.add_zero]; rfl
              rcases puts_gone (by omega) hJ.one hJ.ok hokw z5 z6 with ⟨p1, p2, _⟩ | ⟨p1, p2, p3, _, _⟩
              · subst p1
                rw [m_rue0 (by omega) (by omega), Option.bind_some, nI_1]
                refine ih (k + 1) m y2 y3 y5 y6 _ ru so (by omega) (by omega) (by omega) e1 fr eh ?_
                rw [rueR, hgk, eg, p2, ← hru]; rfl
              · subst p1
                rw [m_rue1 (by omega) (RQm.far0 hQ0 fr) hkl (by omega) p3, Option.bind_some, nI_1]
                generalize hz : rueT Q k (y3 m) ru so = z
                obtain ⟨u1, u2⟩ := z
                refine ih (k + 1) (m + 1) y2 y3 y5 y6 _ u1 u2 (by omega) (by omega) (by omega) e1 fr eh ?_
                rw [rueR, hgk, eg, ← p2, ← hru]; exact hz.symm
        · have hnF : ¬ isF way c Q k (runS false way c Q k).1 := fun h => c5 h.1
          rw [if_neg (fun hx => c5 (w5.1 hx))]
          refine tot_b (m_puts (F := F) (o := 2544) (E := []) (sil := 1) (v := 0) (d := dp) (m := m) (went := went) hR hJ.ok hokw hF (by omega) (by omega) (by simp) (Or.inr rfl) (harg _)) (fun y ⟨z0, z1, z2, _, _, z5, z6⟩ => ?_)
          obtain ⟨r, y2, y3, y4, y5, y6⟩ := y
          dsimp only at z1 z2 z5 z6 ⊢
          have e1 : RM (runS false way c Q (k + 1)).1 y2 2544 := by
            have : (runS false way c Q (k + 1)).1 = (bringS Q[k] 0 1 (-1) dp (runS false way c Q k).1).2.1 := by simp only [runS, rst]; rw [if_neg hnF, hky]; exact bring_d
            rw [this]; exact z1
          have eg : (rst false way c Q k (runS false way c Q k).1).2 = gnow (bringS Q[k] 0 1 (-1) 0 (runS false way c Q k).1).2.2 := by rw [rst, if_neg hnF, hky]
          have fr : ∀ q, q < 2544 → y2 q = w0 q := fun q hq => by rw [z2 q (by omega)]; exact hfr q hq
          have eh : hi + 0 = nI (runS false way c Q (k + 1)).2.1 := by simp only [runS]; rw [hky, hfn, hh, Int32.add_zero]; rfl
          rcases puts_gone (by omega) hJ.one hJ.ok hokw z5 z6 with ⟨p1, p2, _⟩ | ⟨p1, p2, p3, _, _⟩
          · subst p1
            rw [m_rue0 (by omega) (by omega), Option.bind_some, nI_1]
            refine ih (k + 1) m y2 y3 y5 y6 _ ru so (by omega) (by omega) (by omega) e1 fr eh ?_
            rw [rueR, hgk, eg, p2, ← hru]; rfl
          · subst p1
            rw [m_rue1 (by omega) (RQm.far0 hQ0 fr) hkl (by omega) p3, Option.bind_some, nI_1]
            generalize hz : rueT Q k (y3 m) ru so = z
            obtain ⟨u1, u2⟩ := z
            refine ih (k + 1) (m + 1) y2 y3 y5 y6 _ u1 u2 (by omega) (by omega) (by omega) e1 fr eh ?_
            rw [rueR, hgk, eg, ← p2, ← hru]; exact hz.symm
      · have hnF : ¬ isF way c Q k (runS false way c Q k).1 := fun h => by have := h.2.1; rw [hky, hfs] at this; cases this
        rw [if_neg (show ¬ nI i = -1 by simp (disch := omega) only [nI_add, pn_add, pn_addl, pn_mul, pn_cl, pn_nlt0, false_or, pn_ge, pn_le, Nat.add_zero, Nat.zero_add, ↓reduceIte, Option.bind_some, nI_leI, nI_ltI, nI_eq, pn_ne1, pn_1ne]; simp), show X10_flag F 1 = some 1 from rfl, Option.bind_some]
        by_cases c5 : way = 5
        · rw [if_pos (w5.2 c5)]
          refine tot_b (m_puts (F := F) (o := 2544) (E := []) (sil := 1) (v := 0) (d := dp) (m := m) (went := went) hR hJ.ok hokw hF (by omega) (by omega) (by simp) (Or.inr rfl) (harg _)) (fun y ⟨z0, z1, z2, _, _, z5, z6⟩ => ?_)
          obtain ⟨r, y2, y3, y4, y5, y6⟩ := y
          dsimp only at z1 z2 z5 z6 ⊢
          have e1 : RM (runS false way c Q (k + 1)).1 y2 2544 := by
            have : (runS false way c Q (k + 1)).1 = (bringS Q[k] 0 1 (-1) dp (runS false way c Q k).1).2.1 := by simp only [runS, rst]; rw [if_neg hnF, hky]; exact bring_d
            rw [this]; exact z1
          have eg : (rst false way c Q k (runS false way c Q k).1).2 = gnow (bringS Q[k] 0 1 (-1) 0 (runS false way c Q k).1).2.2 := by rw [rst, if_neg hnF, hky]
          have fr : ∀ q, q < 2544 → y2 q = w0 q := fun q hq => by rw [z2 q (by omega)]; exact hfr q hq
          have eh : hi + 1 = nI (runS false way c Q (k + 1)).2.1 := by simp only [runS]; rw [hky, hfs, hh, nI_1]; rfl
          rcases puts_gone (by omega) hJ.one hJ.ok hokw z5 z6 with ⟨p1, p2, _⟩ | ⟨p1, p2, p3, _, _⟩
          · subst p1
            rw [m_rue0 (by omega) (by omega), Option.bind_some, nI_1]
            refine ih (k + 1) m y2 y3 y5 y6 _ ru so (by omega) (by omega) (by omega) e1 fr eh ?_
            rw [rueR, hgk, eg, p2, ← hru]; rfl
          · subst p1
            rw [m_rue1 (by omega) (RQm.far0 hQ0 fr) hkl (by omega) p3, Option.bind_some, nI_1]
            generalize hz : rueT Q k (y3 m) ru so = z
            obtain ⟨u1, u2⟩ := z
            refine ih (k + 1) (m + 1) y2 y3 y5 y6 _ u1 u2 (by omega) (by omega) (by omega) e1 fr eh ?_
            rw [rueR, hgk, eg, ← p2, ← hru]; exact hz.symm
        · rw [if_neg (fun hx => c5 (w5.1 hx))]
          refine tot_b (m_puts (F := F) (o := 2544) (E := []) (sil := 1) (v := 0) (d := dp) (m := m) (went := went) hR hJ.ok hokw hF (by omega) (by omega) (by simp) (Or.inr rfl) (harg _)) (fun y ⟨z0, z1, z2, _, _, z5, z6⟩ => ?_)
          obtain ⟨r, y2, y3, y4, y5, y6⟩ := y
          dsimp only at z1 z2 z5 z6 ⊢
          have e1 : RM (runS false way c Q (k + 1)).1 y2 2544 := by
            have : (runS false way c Q (k + 1)).1 = (bringS Q[k] 0 1 (-1) dp (runS false way c Q k).1).2.1 := by simp only [runS, rst]; rw [if_neg hnF, hky]; exact bring_d
            rw [this]; exact z1
          have eg : (rst false way c Q k (runS false way c Q k).1).2 = gnow (bringS Q[k] 0 1 (-1) 0 (runS false way c Q k).1).2.2 := by rw [rst, if_neg hnF, hky]
          have fr : ∀ q, q < 2544 → y2 q = w0 q := fun q hq => by rw [z2 q (by omega)]; exact hfr q hq
          have eh : hi + 1 = nI (runS false way c Q (k + 1)).2.1 := by simp only [runS]; rw [hky, hfs, hh, nI_1]; rfl
          rcases puts_gone (by omega) hJ.one hJ.ok hokw z5 z6 with ⟨p1, p2, _⟩ | ⟨p1, p2, p3, _, _⟩
          · subst p1
            rw [m_rue0 (by omega) (by omega), Option.bind_some, nI_1]
            refine ih (k + 1) m y2 y3 y5 y6 _ ru so (by omega) (by omega) (by omega) e1 fr eh ?_
            rw [rueR, hgk, eg, p2, ← hru]; rfl
          · subst p1
            rw [m_rue1 (by omega) (RQm.far0 hQ0 fr) hkl (by omega) p3, Option.bind_some, nI_1]
            generalize hz : rueT Q k (y3 m) ru so = z
            obtain ⟨u1, u2⟩ := z
            refine ih (k + 1) (m + 1) y2 y3 y5 y6 _ u1 u2 (by omega) (by omega) (by omega) e1 fr eh ?_
            rw [rueR, hgk, eg, ← p2, ← hru]; exact hz.symm
theorem m_run (hF : 1000 ≤ F) {w0 : Nat → Int32} (hQ0 : RQm Q w0 0) (hK : ∀ x ∈ Q, 0 ≤ x.toInt ∧ x.toInt < 1000) (hc : c ≤ 60) (hway : way ≤ 5) {dp o wm came sil hi ru so : Int32} {went t : Nat → Int32} :
    Tot (X10_goesThrough F (nI way) (nI c) w0 o went wm t came dp sil hi ru so) (fun y => RM (runS false way c Q Q.length).1 y.1 2544 ∧ (∀ q, q < 2544 → y.1 q = w0 q) ∧ y.2.1 = 2544 ∧ (∃ m', y.2.2.2.1 = nI m' ∧ m' ≤ 100) ∧ y.2.2.2.2.2.2.1 = 1 ∧ y.2.2.2.2.2.2.2.1 = nI (runS false way c Q Q.length).2.1 ∧ (y.2.2.2.2.2.2.2.2.1, y.2.2.2.2.2.2.2.2.2) = rueR way c Q Q.length) := by
  have hl := hQ0.2.1
  have c2 : (2544 + 2 : Int32).toNatClampNeg = 2546 := by decide
  have g2 : ¬ ((2544 + 2 : Int32) < 0 ∨ 3392 ≤ (2544 + 2 : Int32).toNatClampNeg) := by decide
  have hle : (if (4 : Int32) ≤ nI way then 4 else nI way) = nI (min way 4) := by
    by_cases c4 : 4 ≤ way
    · rw [if_pos (show (4 : Int32) ≤ nI way from (nI_leI (a := 4) (by omega) (by omega)).2 c4), Nat.min_eq_right c4]; rfl
    · rw [if_neg (show ¬ (4 : Int32) ≤ nI way from fun hx => c4 ((nI_leI (a := 4) (by omega) (by omega)).1 hx)), Nat.min_eq_left (by omega)]
  rw [X10_goesThrough]
  refine tot_b (m_begins (F := F) (c := c) (way := way) hF w0) (fun w1 ⟨h1, h2⟩ => ?_)
  rw [lesser_eq, Option.bind_some, hle, if_neg g2, c2]
  refine tot_b (m_runL (F := F) (dp := dp) hF hQ0 hK hc hway F 0 0 _ went t came 0 0 (-1) trivial (by omega) (by omega) (by omega) h1 (fun q hq => by rw [upd_n (by omega), h2 q hq]) rfl rfl) (fun y ⟨y1, y2, y3, y4, y5⟩ => ?_)
  obtain ⟨n1, n2, n3, n4, n5, n6, n7, n8⟩ := y
  exact tot_s ⟨y1, y2, rfl, y3, rfl, y4, y5⟩
end MRun5
