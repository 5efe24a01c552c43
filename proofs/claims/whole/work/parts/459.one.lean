/-! entries that weigh one: a put makes one go at most -/
def One (c : Nat) (S : SS) : Prop := (∀ e ∈ S.1, eW e = 1 ∧ eP e = 0) ∧ S.1.length ≤ c ∧ S.2.2.2 1 = nI c ∧ c ≤ 60
theorem One.w {c : Nat} {S : SS} (h : One c S) : ∀ e ∈ S.1, eW e = 1 ∧ eP e = 0 := h.1
theorem One.l {c : Nat} {S : SS} (h : One c S) : S.1.length ≤ c := h.2.1
theorem One.cap {c : Nat} {S : SS} (h : One c S) : S.2.2.2 1 = nI c := h.2.2.1
theorem One.c60 {c : Nat} {S : SS} (h : One c S) : c ≤ 60 := h.2.2.2
theorem sumBy_1 {f : En → Int32} : ∀ {L : List En}, (∀ e ∈ L, f e = 1) → sumBy f L = nI L.length
  | [], _ => rfl
  | e :: l, h => by
    rw [sumBy, h e (by simp), sumBy_1 (fun x hx => h x (by simp [hx])), List.length_cons, Int32.add_comm, nI_1]
theorem sumBy_0 {f : En → Int32} : ∀ {L : List En}, (∀ e ∈ L, f e = 0) → sumBy f L = 0
  | [], _ => rfl
  | e :: l, h => by
    rw [sumBy, h e (by simp), sumBy_0 (fun x hx => h x (by simp [hx]))]; rfl
section OneS
variable {b c : Nat} {S : SS} {k d : Int32}
theorem One.load (h : One c S) : sumBy eW S.1 = nI S.1.length := sumBy_1 (fun e he => (h.w e he).1)
theorem One.pin (h : One c S) (k : Int32) : sumBy (pinW k) S.1 = 0 := sumBy_0 (fun e he => by simp [pinW, (h.w e he).2])
theorem One.rej (h : One c S) (hc : 0 < c) : rejS k 1 S = false := by
  have h60 := h.c60
  have e1 : (1 : Int32) + 0 ≤ nI c := (nI_leI (a := 1) (b := c) (by omega) (by omega)).2 (by omega)
  rw [rejS, h.pin k, h.cap, decide_eq_true e1, Bool.not_true, Bool.false_or]
  by_cases c1 : 60 ≤ S.1.length
  · have : S.1.all (fun e => !decide (eP e = 0)) = false := by
      cases hS : S.1 with
      | nil => rw [hS] at c1; simp at c1
      | cons e l =>
        have := (h.w e (by rw [hS]; simp)).2
        simp [this]
    rw [this, Bool.and_false]
  · rw [decide_eq_false c1, Bool.and_false, Bool.false_and]
theorem One.rej0 (h : One 0 S) : rejS k 1 S = true := by
  rw [rejS, h.pin k, h.cap]; rfl
theorem One.st (h : One c S) (hl : S.1.length < c) : stopT 1 S = true := by
  have h60 := h.c60
  rw [stopT, h.load, h.cap, nI_1, decide_eq_true (show S.1.length < 60 by omega), decide_eq_true ((nI_leI (by omega) (by omega)).2 (by omega))]; rfl
theorem One.nst (h : One c S) (hl : S.1.length = c) : stopT 1 S = false := by
  have h60 := h.c60
  rw [stopT, h.load, h.cap, nI_1, decide_eq_false (p := nI (S.1.length + 1) ≤ nI c) (fun hx => by have := (nI_leI (by omega) (by omega)).1 hx; omega), Bool.and_false]
theorem One.stl (h : One c S) : stopL S = true := by
  have h60 := h.c60
  have hl := h.l
  rw [stopL, h.load, h.cap]
  exact decide_eq_true ((nI_leI (by omega) (by omega)).2 hl)
theorem One.learn (h : One c S) : One c (learnS k 1 S) := ⟨by rw [learnS_1]; exact h.w, by rw [learnS_1]; exact h.l, by rw [learnS_sc k 1 S (by decide)]; exact h.cap, h.c60⟩
theorem One.ev (h : One c S) {e : En} : One c (evS e S) := ⟨fun x hx => h.w x (mem_delK.1 hx).1, Nat.le_trans (List.length_filter_le _ _) h.l, by rw [ev_cap]; exact h.cap, h.c60⟩
theorem useL_w {L : List En} {k u a : Int32} (h : ∀ e ∈ L, eW e = 1 ∧ eP e = 0) : ∀ e ∈ useL L k u a, eW e = 1 ∧ eP e = 0 := by
  have h1 : ∀ e ∈ modK k (usedE (u + 1)) L, eW e = 1 ∧ eP e = 0 := fun e he => by
    obtain ⟨x, hx, rfl⟩ := modK_mem he
    split
    · exact h x hx
    · exact h x hx
  intro e he
  rw [useL] at he
  split at he
  · obtain ⟨x, hx, rfl⟩ := List.mem_map.1 he
    exact h1 x hx
  · exact h1 e he
theorem One.use (h : One c S) : One c (useS k S) := ⟨useL_w h.w, by simp only [useS]; rw [useL_len]; exact h.l, by rw [use_cap]; exact h.cap, h.c60⟩
theorem One.chg (h : One c S) : One c (withE (modK k (chgE 0 1 (-1)) S.1) (learnS k 1 S)) := by
  refine ⟨fun e he => ?_, by simp only [withE, modK, List.length_map]; exact h.l, h.learn.cap, h.c60⟩
  obtain ⟨x, hx, rfl⟩ := modK_mem (L := S.1) he
  split
  · exact ⟨rfl, (h.w x hx).2⟩
  · exact h.w x hx
theorem One.new (h : One c S) (hl : S.1.length < c) : One c (withE (S.1 ++ [newE k 0 1 (-1)]) S) := by
  refine ⟨fun e he => ?_, by simp only [withE, List.length_append, List.length_singleton]; omega, h.cap, h.c60⟩
  rcases List.mem_append.1 he with hx | hx
  · exact h.w e hx
  · rw [List.mem_singleton] at hx; subst hx; exact ⟨rfl, rfl⟩
/-- what a put is -/
theorem br_rej (h : One 0 S) : bringS k 0 1 (-1) d S = (-1, setN 12 (S.2.2.2 12 + 1) S, [(6, k, 0, 1, d)]) := by
  rw [bringS, h.rej0, if_pos rfl]
theorem br_there (h : One c S) (hc : 0 < c) {e : En} (hf : fnd k S.1 = some e) : bringS k 0 1 (-1) d S = (0, useS k (withE (modK k (chgE 0 1 (-1)) S.1) (learnS k 1 S)), [(1, k, 0, 1, d)]) := by
  rw [bringS, h.rej hc, if_neg (by decide), hf, if_neg (by simp), chgS, evRun_stop h.chg.stl]; rfl
theorem br_new (h : One c S) (hl : S.1.length < c) (hf : fnd k S.1 = none) : bringS k 0 1 (-1) d S = (1, useS k (withE (S.1 ++ [newE k 0 1 (-1)]) (learnS k 1 S)), [(0, k, 0, 1, d)]) ∧ roomS k 1 d S = (learnS k 1 S, []) := by
  have hs : stopT 1 (learnS k 1 S) = true := h.learn.st (by rw [learnS_1]; exact hl)
  have hr : roomS k 1 d S = (learnS k 1 S, []) := by rw [roomS, evRun_stop hs]
  refine ⟨?_, hr⟩
  rw [bringS, h.rej (by omega), if_neg (by decide), hf, if_pos (by simp), hr, learnS_1]; rfl
theorem br_full (h : One c S) (hc : 0 < c) (ok : Ok b S) (hw : OkW (S.2.2.2 2)) (hl : S.1.length = c) (hf : fnd k S.1 = none) : ∃ e, e ∈ S.1 ∧ bringS k 0 1 (-1) d S = (1, useS k (withE (delK (eK e) S.1 ++ [newE k 0 1 (-1)]) (evS e (learnS k 1 S))), [gone d e, (0, k, 0, 1, d)]) ∧ roomS k 1 d S = (evS e (learnS k 1 S), [gone d e]) := by
  have okl : Ok b (learnS k 1 S) := learnS_ok ok (by decide) (by decide)
  have h1 : One c (learnS k 1 S) := h.learn
  have hl1 : (learnS k 1 S).1.length = c := by rw [learnS_1]; exact hl
  have hns := h1.nst hl1
  cases hch : chS k (learnS k 1 S) with
  | none =>
    exfalso
    have hall := chS_none (by rw [learnS_sc k 1 S (by decide)]; exact hw) hch
    rw [learnS_1] at hall
    cases hS : S.1 with
    | nil => rw [hS] at hl; simp at hl; omega
    | cons e l =>
      have hm : e ∈ S.1 := by rw [hS]; simp
      rcases mayGo_f (hall e hm) with h2 | h2
      · exact h2 (h.w e hm).2
      · exact fnd_none.1 hf e hm h2
  | some e =>
    have hem := (chS_mem okl hch).1
    have hlen := evS_len okl hem
    have hs : stopT 1 (evS e (learnS k 1 S)) = true := h1.ev.st (by omega)
    have hr : roomS k 1 d S = (evS e (learnS k 1 S), [gone d e]) := by
      rw [roomS, evRun_some (n := 59) hns hch, evRun_stop hs]
    have he1 : (evS e (learnS k 1 S)).1 = delK (eK e) S.1 := by show delK (eK e) (learnS k 1 S).1 = _; rw [learnS_1]
    refine ⟨e, by rw [learnS_1] at hem; exact hem, ?_, hr⟩
    rw [bringS, h.rej hc, if_neg (by decide), hf, if_pos (by simp), hr]
    dsimp only
    rw [he1]; rfl
end OneS
