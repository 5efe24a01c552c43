/-! the two runs have the same entries -/
section RunEq
variable {Q : List Int32} {c k way : Nat} {S : SS} {key : Int32} {cls : Bool}
theorem isFar_ex {Q : List Int32} {k : Nat} : ∀ {L : List En}, L ≠ [] → (L.map eK).Nodup → ∃ e, IsFar Q k L e
  | [], h, _ => absurd rfl h
  | a :: l, _, hn => by
    rw [List.map_cons, List.nodup_cons] at hn
    by_cases hl : l = []
    · subst hl; exact ⟨a, by simp, fun f hf => by simp at hf; exact Or.inl hf⟩
    · obtain ⟨e, he, h2⟩ := isFar_ex (Q := Q) (k := k) hl hn.2
      have hne : eK a ≠ eK e := fun h => hn.1 (by rw [h]; exact List.mem_map_of_mem he)
      have hni : (eK a).toInt ≠ (eK e).toInt := fun h => hne (i32_eq.2 h)
      by_cases hf : farB Q k a e = true
      · refine ⟨a, by simp, fun f hf2 => ?_⟩
        rcases List.mem_cons.1 hf2 with h | h
        · exact Or.inl h
        · right
          rcases h2 f h with h3 | h3
          · rw [h3]; exact hf
          · rw [farB_iff] at *; omega
      · refine ⟨e, by simp [he], fun f hf2 => ?_⟩
        rcases List.mem_cons.1 hf2 with h | h
        · right; subst h; rw [farB_iff] at *; omega
        · exact h2 f h
theorem bring_way (k v wt t d : Int32) (S : SS) : (bringS k v wt t d S).2.1.2.2.2 2 = S.2.2.2 2 := by
  rw [bringS]
  split
  · simp only [setN]; rw [upd_n (by decide)]
  · split
    · rw [use_way]; show (roomS k wt d S).1.2.2.2 2 = _; rw [roomS, evRun_way, learnS_sc k wt S (by decide)]
    · rw [use_way, chgS, evRun_way]; show (learnS k wt S).2.2.2 2 = _; rw [learnS_sc k wt S (by decide)]
theorem drop_ok {b : Nat} {e : En} (h : Ok b S) (hb : b + 1 < 2147483648) : Ok b (dropM e S) := by
  have h1 := (h.ev (e := e) hb).1
  rw [ev_q (by decide) (by decide), ev_q (by decide) (by decide)] at h1
  have h2 := (setN_ok (q := 10) (v := S.2.2.2 10 + 1) h (by simp)).2.2.2
  refine ⟨?_, h.2.1, h.2.2.1, h2⟩
  simp only [dropM]
  rw [upd_n (by decide), upd_n (by decide)]; exact h1
theorem drop_q {e : En} {q : Nat} (h : q ≠ 10) : (dropM e S).2.2.2 q = S.2.2.2 q := by simp only [dropM]; rw [upd_n h]
/-- what is there once the farthest one went -/
theorem JR.goes (h : JR Q c k S) (hk : k < 100) (hc : 0 < c) (hl : S.1.length = c) (hf : fnd key S.1 = none) {e : En} (he : e ∈ S.1) (cls : Bool) : Ok (2 * k + 1) (if cls then evS e S else dropM e S) ∧ One c (if cls then evS e S else dropM e S) ∧ (if cls then evS e S else dropM e S).1 = delK (eK e) S.1 ∧ (if cls then evS e S else dropM e S).1.length < c ∧ fnd key (if cls then evS e S else dropM e S).1 = none ∧ (∀ q, q ≠ 10 → q ≠ 16 → (if cls then evS e S else dropM e S).2.2.2 q = S.2.2.2 q) ∧ (if cls then evS e S else dropM e S).2.2.2 10 = S.2.2.2 10 + 1 := by
  have hlen := evS_len h.ok he
  have hfe : fnd key (delK (eK e) S.1) = none := fnd_none.2 (fun x hx => fnd_none.1 hf x (mem_delK.1 hx).1)
  have hlen2 : (delK (eK e) S.1).length < c := by have : (evS e S).1 = delK (eK e) S.1 := rfl; rw [this] at hlen; omega
  cases cls with
  | true =>
    refine ⟨h.ok.ev (by omega), h.one.ev, rfl, hlen2, hfe, fun q q1 q2 => ev_q q1 q2, ?_⟩
    show (evS e S).2.2.2 10 = _
    simp only [evS]; rw [upd_n (by decide), upd_s]
  | false =>
    refine ⟨(drop_ok h.ok (by omega)).up (by omega), ⟨h.one.ev.w, h.one.ev.l, ?_, h.one.c60⟩, rfl, hlen2, hfe, fun q q1 q2 => drop_q q1, ?_⟩
    · show (dropM e S).2.2.2 1 = _; rw [drop_q (by decide)]; exact h.one.cap
    · show (dropM e S).2.2.2 10 = _; simp only [dropM]; rw [upd_s]
theorem rst_far (h : JR Q c k S) (hF : isF way c Q k S) : ∃ e, IsFar Q k S.1 e ∧ fa Q k S.1 = some e := by
  have : S.1 ≠ [] := fun e => by have := hF.2.2.2; rw [e] at this; have := hF.2.2.1; simp at *; omega
  obtain ⟨e, he⟩ := isFar_ex (Q := Q) (k := k) this h.ok.1.1
  exact ⟨e, he, fa_eq he⟩
theorem kyQ_at (hq : Q[k]? = some key) : kyQ Q k = key := by rw [kyQ, hq]; rfl
theorem JR.step (h : JR Q c k S) (hw : S.2.2.2 2 = nI (if cls then way else min way 4)) (hway : way ≤ 5) (hk : k < 100) (hq : Q[k]? = some key) (k1 : 0 ≤ key.toInt) (k2 : key.toInt < 1000) : JR Q c (k + 1) (rst cls way c Q k S).1 ∧ (rst cls way c Q k S).1.2.2.2 2 = nI (if cls then way else min way 4) := by
  have hky := kyQ_at hq
  rw [rst]
  by_cases hF : isF way c Q k S
  · obtain ⟨e, he, hfa⟩ := rst_far h hF
    rw [if_pos hF, hfa, hky]
    have hF2 := hF
    obtain ⟨hw5, hfn, hc0, hlc⟩ := hF2
    rw [hky] at hfn
    obtain ⟨g1, g2, g3, g4, g5, g6, g7⟩ := h.goes hk hc0 hlc hfn he.1 cls
    dsimp only
    refine ⟨?_, by rw [bring_way, g6 2 (by decide) (by decide)]; exact hw⟩
    rw [(br_new (d := 0) g2 g4 g5).1]
    exact JR.new hk (by omega) g1 g2 (by rw [g6 5 (by decide) (by decide)]; exact h.tk) (by rw [g6 4 (by decide) (by decide)]; exact h.us hc0) (by rw [g6 6 (by decide) (by decide)]; exact h.ag) (fun x hx => h.la x (by rw [g3] at hx; exact (mem_delK.1 hx).1)) g4 g5 hq k1 k2
  · rw [if_neg hF, hky]
    refine ⟨h.bring ?_ hk hq k1 k2, by rw [bring_way]; exact hw⟩
    by_cases hw5 : way = 5 ∧ cls = true
    · right
      by_cases hl : S.1.length < c
      · exact Or.inl hl
      · right
        by_cases hc : c = 0
        · exact Or.inl hc
        · right
          cases hf : fnd key S.1 with
          | some e => exact ⟨e, rfl⟩
          | none => exact absurd ⟨hw5.1, by rw [hky]; exact hf, by omega, by have := h.one.l; omega⟩ hF
    · left
      rw [hw]
      have : (if cls then way else min way 4) ≤ 4 := by
        cases cls with
        | true => simp; simp at hw5; omega
        | false => simp; omega
      generalize (if cls then way else min way 4) = v at this
      have : v = 0 ∨ v = 1 ∨ v = 2 ∨ v = 3 ∨ v = 4 := by omega
      rcases this with rfl | rfl | rfl | rfl | rfl
      · exact Or.inl rfl
      · exact Or.inr (Or.inl rfl)
      · exact Or.inr (Or.inr (Or.inl rfl))
      · exact Or.inr (Or.inr (Or.inr (Or.inl rfl)))
      · exact Or.inr (Or.inr (Or.inr (Or.inr rfl)))
theorem JR_0 (hc : c ≤ 60) (hway : way ≤ 5) : JR Q c 0 (S0 cls way c) ∧ (S0 cls way c).2.2.2 2 = nI (if cls then way else min way 4) := by
  have h2 : (S0 cls way c).2.2.2 2 = nI (if cls then way else min way 4) := by simp only [S0]; rw [upd_s]
  have hv : (if cls then way else min way 4) ≤ 5 := by cases cls <;> simp <;> omega
  have hov : OkV (nI (if cls then way else min way 4)) := by
    generalize (if cls then way else min way 4) = v at hv
    have : v = 0 ∨ v = 1 ∨ v = 2 ∨ v = 3 ∨ v = 4 ∨ v = 5 := by omega
    rcases this with rfl | rfl | rfl | rfl | rfl | rfl
    · exact Or.inl (Or.inl rfl)
    · exact Or.inl (Or.inr (Or.inl rfl))
    · exact Or.inl (Or.inr (Or.inr (Or.inl rfl)))
    · exact Or.inl (Or.inr (Or.inr (Or.inr (Or.inl rfl))))
    · exact Or.inl (Or.inr (Or.inr (Or.inr (Or.inr rfl))))
    · exact Or.inr rfl
  have h1 : (S0 cls way c).2.2.2 1 = nI c := by simp only [S0]; rw [upd_n (by decide), upd_n (by decide), upd_s]
  have h6 : (S0 cls way c).2.2.2 6 = 999 := by simp only [S0]; rw [upd_n (by decide), upd_s]
  have hz : ∀ q, q ≠ 1 → q ≠ 2 → q ≠ 6 → (S0 cls way c).2.2.2 q = 0 := fun q q1 q2 q3 => by simp only [S0]; rw [upd_n q2, upd_n q3, upd_n q1]
  refine ⟨⟨⟨?_, List.nodup_nil, List.nodup_nil, ?_⟩, ⟨fun e he => (by cases he), Nat.zero_le _, h1, hc⟩, hz 5 (by decide) (by decide) (by decide), fun _ => hz 4 (by decide) (by decide) (by decide), h6, fun e he => (by cases he)⟩, h2⟩
  · exact ⟨List.nodup_nil, List.nodup_nil, Nat.zero_le _, fun e he => by cases he⟩
  · rw [OkN, h1, h2, h6, hz 3 (by decide) (by decide) (by decide), hz 4 (by decide) (by decide) (by decide), hz 16 (by decide) (by decide) (by decide), nI_toInt (by omega)]
    refine ⟨by omega, by omega, hov, by decide, ?_, by decide, by decide, by decide, by decide, by decide⟩
    have : (0 : Int32).toInt = 0 := by decide
    omega
theorem JR_run (hQ : Q.length ≤ 100) (hK : ∀ x ∈ Q, 0 ≤ x.toInt ∧ x.toInt < 1000) (hc : c ≤ 60) (hway : way ≤ 5) : ∀ k, k ≤ Q.length → JR Q c k (runS cls way c Q k).1 ∧ (runS cls way c Q k).1.2.2.2 2 = nI (if cls then way else min way 4)
  | 0, _ => JR_0 hc hway
  | k + 1, h => by
    obtain ⟨h1, h2⟩ := JR_run hQ hK hc hway k (by omega)
    have hkl : k < Q.length := by omega
    have := hK Q[k] (List.getElem_mem hkl)
    exact h1.step h2 hway (by omega) (List.getElem?_eq_getElem hkl) this.1 this.2
theorem run_hits (cls : Bool) (way c : Nat) (Q : List Int32) : ∀ k, (runS cls way c Q k).2.1 ≤ k
  | 0 => Nat.le_refl 0
  | k + 1 => by
    have := run_hits cls way c Q k
    simp only [runS]; split <;> omega
/-- entries and counts do not hang on what the two keep otherwise -/
theorem br_ent {S T : SS} (hS : JR Q c k S) (hT : One c T) (h4 : 0 < c → T.2.2.2 4 = S.2.2.2 4) (h6 : T.2.2.2 6 = S.2.2.2 6) (hST : S.1 = T.1) (hroom : c = 0 ∨ S.1.length < c ∨ ∃ e, fnd key S.1 = some e) : (bringS key 0 1 (-1) 0 S).2.1.1 = (bringS key 0 1 (-1) 0 T).2.1.1 ∧ (bringS key 0 1 (-1) 0 S).2.1.2.2.2 10 = S.2.2.2 10 ∧ (bringS key 0 1 (-1) 0 T).2.1.2.2.2 10 = T.2.2.2 10 ∧ gnow (bringS key 0 1 (-1) 0 S).2.2 = -1 ∧ gnow (bringS key 0 1 (-1) 0 T).2.2 = -1 := by
  by_cases hc : c = 0
  · subst hc
    rw [br_rej hS.one, br_rej hT]
    refine ⟨hST, ?_, ?_, rfl, rfl⟩ <;> · simp only [setN]; rw [upd_n (by decide)]
  · have hc0 : 0 < c := by omega
    have l4 : ∀ X : SS, (learnS key 1 X).2.2.2 4 = X.2.2.2 4 := fun X => learnS_sc key 1 X (by decide)
    have l6 : ∀ X : SS, (learnS key 1 X).2.2.2 6 = X.2.2.2 6 := fun X => learnS_sc key 1 X (by decide)
    have l10 : ∀ X : SS, (learnS key 1 X).2.2.2 10 = X.2.2.2 10 := fun X => learnS_sc key 1 X (by decide)
    cases hf : fnd key S.1 with
    | some e =>
      have hf2 : fnd key T.1 = some e := by rw [← hST]; exact hf
      rw [br_there hS.one hc0 hf, br_there hT hc0 hf2]
      refine ⟨?_, by rw [use_10]; exact l10 S, by rw [use_10]; exact l10 T, rfl, rfl⟩
      show useL (modK key (chgE 0 1 (-1)) S.1) key ((learnS key 1 S).2.2.2 4) ((learnS key 1 S).2.2.2 6) = useL (modK key (chgE 0 1 (-1)) T.1) key ((learnS key 1 T).2.2.2 4) ((learnS key 1 T).2.2.2 6)
      rw [l4, l6, l4, l6, h4 hc0, h6, hST]
    | none =>
      have hl : S.1.length < c := by
        rcases hroom with h | h | ⟨e, he⟩
        · omega
        · exact h
        · rw [hf] at he; cases he
      have hf2 : fnd key T.1 = none := by rw [← hST]; exact hf
      rw [(br_new (d := 0) hS.one hl hf).1, (br_new (d := 0) hT (by rw [← hST]; exact hl) hf2).1]
      refine ⟨?_, by rw [use_10]; exact l10 S, by rw [use_10]; exact l10 T, rfl, rfl⟩
      show useL (S.1 ++ [newE key 0 1 (-1)]) key ((learnS key 1 S).2.2.2 4) ((learnS key 1 S).2.2.2 6) = useL (T.1 ++ [newE key 0 1 (-1)]) key ((learnS key 1 T).2.2.2 4) ((learnS key 1 T).2.2.2 6)
      rw [l4, l6, l4, l6, h4 hc0, h6, hST]
theorem run_eq (hQ : Q.length ≤ 100) (hK : ∀ x ∈ Q, 0 ≤ x.toInt ∧ x.toInt < 1000) (hc : c ≤ 60) (hway : way ≤ 5) : ∀ k, k ≤ Q.length → (runS true way c Q k).1.1 = (runS false way c Q k).1.1 ∧ (runS true way c Q k).1.2.2.2 10 = (runS false way c Q k).1.2.2.2 10 ∧ (runS true way c Q k).2 = (runS false way c Q k).2 := by
  by_cases hw5 : way = 5
  · intro k
    induction k with
    | zero => intro _; exact ⟨rfl, rfl, rfl⟩
    | succ k ih =>
      intro hk
      obtain ⟨i1, i2, i3⟩ := ih (by omega)
      obtain ⟨j1, j2⟩ := JR_run (cls := true) hQ hK hc hway k (by omega)
      obtain ⟨m1, m2⟩ := JR_run (cls := false) hQ hK hc hway k (by omega)
      have hkl : k < Q.length := by omega
      have hq : Q[k]? = some Q[k] := List.getElem?_eq_getElem hkl
      have hky := kyQ_at hq
      simp only [runS]
      generalize runS true way c Q k = T at *
      generalize runS false way c Q k = M at *
      obtain ⟨S, hs, gs⟩ := T
      obtain ⟨S', hs', gs'⟩ := M
      simp only [Prod.mk.injEq] at i1 i2 i3 j1 j2 m1 m2 ⊢
      obtain ⟨rfl, rfl⟩ := i3
      have key : (rst true way c Q k S).1.1 = (rst false way c Q k S').1.1 ∧ (rst true way c Q k S).1.2.2.2 10 = (rst false way c Q k S').1.2.2.2 10 ∧ (rst true way c Q k S).2 = (rst false way c Q k S').2 := by
        rw [rst, rst]
        have hiff : isF way c Q k S ↔ isF way c Q k S' := by simp only [isF]; rw [i1]
        by_cases hF : isF way c Q k S
        · have hF' := hiff.1 hF
          obtain ⟨e, he, hfa⟩ := rst_far j1 hF
          rw [if_pos hF, if_pos hF', ← i1, hfa, hky]
          obtain ⟨_, hfn, hc0, hlc⟩ := hF
          rw [hky] at hfn
          obtain ⟨g1, g2, g3, g4, g5, g6, g7⟩ := j1.goes (by omega) hc0 hlc hfn he.1 true
          obtain ⟨f1, f2, f3, f4, f5, f6, f7⟩ := m1.goes (by omega) hc0 (by rw [← i1]; exact hlc) (by rw [← i1]; exact hfn) (show e ∈ S'.1 by rw [← i1]; exact he.1) false
          dsimp only
          generalize (if (true : Bool) = true then evS e S else dropM e S) = A at g1 g2 g3 g4 g5 g6 g7 ⊢
          generalize (if (false : Bool) = true then evS e S' else dropM e S') = B at f1 f2 f3 f4 f5 f6 f7 ⊢
          have l10 : ∀ X : SS, (learnS Q[k] 1 X).2.2.2 10 = X.2.2.2 10 := fun X => learnS_sc _ 1 X (by decide)
          rw [(br_new (d := 0) g2 g4 g5).1, (br_new (d := 0) f2 f4 f5).1]
          refine ⟨?_, ?_, rfl⟩
          · show useL (A.1 ++ [newE Q[k] 0 1 (-1)]) Q[k] ((learnS Q[k] 1 A).2.2.2 4) ((learnS Q[k] 1 A).2.2.2 6) = useL (B.1 ++ [newE Q[k] 0 1 (-1)]) Q[k] ((learnS Q[k] 1 B).2.2.2 4) ((learnS Q[k] 1 B).2.2.2 6)
            rw [learnS_sc _ 1 A (by decide), learnS_sc _ 1 A (by decide), learnS_sc _ 1 B (by decide), learnS_sc _ 1 B (by decide), g6 4 (by decide) (by decide), g6 6 (by decide) (by decide), f6 4 (by decide) (by decide), f6 6 (by decide) (by decide), j1.us hc0, m1.us hc0, j1.ag, m1.ag, g3, f3, i1]
          · rw [use_10, use_10]
            show (learnS Q[k] 1 A).2.2.2 10 = (learnS Q[k] 1 B).2.2.2 10
            rw [l10, l10, g7, f7, i2]
        · have hF' : ¬ isF way c Q k S' := fun h => hF (hiff.2 h)
          rw [if_neg hF, if_neg hF', hky]
          have hroom : c = 0 ∨ S.1.length < c ∨ ∃ e, fnd Q[k] S.1 = some e := by
            by_cases hc0 : c = 0
            · exact Or.inl hc0
            · by_cases hl : S.1.length < c
              · exact Or.inr (Or.inl hl)
              · cases hf : fnd Q[k] S.1 with
                | some e => exact Or.inr (Or.inr ⟨e, rfl⟩)
                | none => exact absurd ⟨hw5, by rw [hky]; exact hf, by omega, by have := j1.one.l; omega⟩ hF
          obtain ⟨b1, b2, b3, b4, b5⟩ := br_ent (key := Q[k]) j1 m1.one (fun h0 => by rw [j1.us h0, m1.us h0]) (by rw [j1.ag, m1.ag]) i1 hroom
          exact ⟨b1, by rw [b2, b3, i2], by rw [b4, b5]⟩
      exact ⟨key.1, key.2.1, by rw [i1], by rw [key.2.2]⟩
  · have h0 : S0 true way c = S0 false way c := by
      have e : min way 4 = way := by omega
      simp [S0, e]
    have hr : ∀ k S, rst true way c Q k S = rst false way c Q k S := fun k S => by
      have : ¬ isF way c Q k S := fun h => hw5 h.1
      rw [rst, rst, if_neg this, if_neg this]
    have : ∀ k, runS true way c Q k = runS false way c Q k := by
      intro k
      induction k with
      | zero => simp only [runS, h0]
      | succ k ih => simp only [runS, ih, hr]
    intro k _
    rw [this k]; exact ⟨rfl, rfl, rfl⟩
end RunEq
