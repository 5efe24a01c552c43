/-! what a store does, apart from how it is laid out -/
def setN (q : Nat) (v : Int32) (S : SS) : SS := (S.1, S.2.1, S.2.2.1, upd S.2.2.2 q v)
def withE (L : List En) (S : SS) : SS := (L, S.2.1, S.2.2.1, S.2.2.2)
def rejS (k wt : Int32) (S : SS) : Bool := !decide (wt + sumBy (pinW k) S.1 ≤ S.2.2.2 1) || ((fnd k S.1).isNone && decide (60 ≤ S.1.length) && S.1.all (fun e => !decide (eP e = 0)))
def learnS (k wt : Int32) (S : SS) : SS :=
  if k ∈ S.2.1 then (S.1, delG k S.2.1, S.2.2.1, upd S.2.2.2 3 (if S.2.2.2 1 < S.2.2.2 3 + wt then S.2.2.2 1 else S.2.2.2 3 + wt))
  else if k ∈ S.2.2.1 then (S.1, S.2.1, delG k S.2.2.1, upd S.2.2.2 3 (if S.2.2.2 3 - wt < 0 then 0 else S.2.2.2 3 - wt))
  else S
def newE (k v wt t : Int32) : En := (k, v, wt, 0, 0, t, 0)
def roomS (k wt d : Int32) (S : SS) : SS × List Ev := evRun (stopT wt) k d 60 (learnS k wt S)
def chgS (k v wt t d : Int32) (S : SS) : SS × List Ev := evRun stopL k d 60 (withE (modK k (chgE v wt t) S.1) (learnS k wt S))
def bringS (k v wt t d : Int32) (S : SS) : Int32 × SS × List Ev :=
  if rejS k wt S then (-1, setN 12 (S.2.2.2 12 + 1) S, [(6, k, 0, wt, d)])
  else if (fnd k S.1).isNone then (1, useS k (withE ((roomS k wt d S).1.1 ++ [newE k v wt t]) (roomS k wt d S).1), (roomS k wt d S).2 ++ [(0, k, v, wt, d)])
  else (0, useS k (chgS k v wt t d S).1, (chgS k v wt t d S).2 ++ [(1, k, v, wt, d)])
def fetchS (k d : Int32) (S : SS) : Int32 × SS × List Ev :=
  if (fnd k S.1).isNone then (0, setN 9 (S.2.2.2 9 + 1) S, [(5, k, 0, 0, d)]) else (1, setN 8 (S.2.2.2 8 + 1) (useS k S), [])
def takeS (k d : Int32) (S : SS) : Int32 × SS × List Ev := match fnd k S.1 with
  | none => (-3, S, [])
  | some e => (eV e + 10000, withE (delK k S.1) S, [(4, k, eV e, eW e, d)])
def fastS (k p : Int32) (S : SS) : Int32 × SS := match fnd k S.1 with
  | none => (-3, S)
  | some e => (if eP e = p then 0 else 1, withE (modK k (pinE p) S.1) S)
def capS (c d : Int32) (S : SS) : SS × List Ev := evRun stopL (-1) d 60 (setN 3 (if c < S.2.2.2 3 then c else S.2.2.2 3) (setN 1 c S))
def isCapB (c : Int32) : Bool := decide (0 ≤ c) && decide (c ≤ 5000)
def recapS (c d : Int32) (S : SS) : Int32 × SS × List Ev :=
  if isCapB c = false then (-2, S, [])
  else if ¬ sumBy pinA S.1 ≤ c then (-3, S, [])
  else (nI (capS c d S).2.length, (capS c d S).1, (capS c d S).2)
/-! facts about these -/
theorem fnd_isNone {k : Int32} {L : List En} : (fnd k L).isNone = true ↔ ∀ e ∈ L, eK e ≠ k := by rw [Option.isNone_iff_eq_none, fnd_none]
theorem perm_del {L : List En} (hn : (L.map eK).Nodup) {e : En} (he : e ∈ L) : (e :: delK (eK e) L).Perm L := by
  obtain ⟨i, hi, rfl⟩ := List.getElem_of_mem he
  exact ((delK_of hn (dropS_perm hi)).symm.cons _).trans (dropS_perm hi)
theorem pinW_ne {k : Int32} {e : En} (hk : eK e ≠ k) (hp : eP e = 0 ∨ eP e = 1) : pinW k e = pinA e := by
  rcases hp with h | h <;> simp [pinW, pinA, h, hk]
theorem pin_none {k : Int32} {L : List En} (hp : PB L) (h : ∀ e ∈ L, eK e ≠ k) : sumBy (pinW k) L = sumBy pinA L := sumBy_congr (fun e he => pinW_ne (h e he) (hp e he))
theorem pin_some {L : List En} (hn : (L.map eK).Nodup) (hp : PB L) {e : En} (he : e ∈ L) : sumBy (pinW (eK e)) L = sumBy pinA L - pinA e := by
  rw [← sum_del hn he pinA, ← sumBy_perm (pinW (eK e)) (perm_del hn he), sumBy_cons]
  have h1 : pinW (eK e) e = 0 := by simp [pinW]
  rw [h1, Int32.zero_add]
  exact pin_none (fun f hf => hp f (mem_delK.1 hf).1) (fun f hf => (mem_delK.1 hf).2)
theorem evRun_sub {stop : SS → Bool} {but d : Int32} : ∀ (n : Nat) (S : SS), (evRun stop but d n S).1.1.Sublist S.1
  | 0, S => List.Sublist.refl _
  | n + 1, S => by
    by_cases hs : stop S = true
    · rw [evRun_stop hs]; exact List.Sublist.refl _
    · cases hc : chS but S with
      | none => rw [evRun_none hc]; exact List.Sublist.refl _
      | some e => rw [evRun_some (by simpa using hs) hc]; exact (evRun_sub n (evS e S)).trans List.filter_sublist
theorem evRun_keep {stop : SS → Bool} {but d : Int32} {e0 : En} (hk : eK e0 = but) : ∀ (n b : Nat) (S : SS), Ok b S → b + n < 2147483648 → e0 ∈ S.1 → e0 ∈ (evRun stop but d n S).1.1
  | 0, b, S, _, _, h => h
  | n + 1, b, S, ok, hb, h => by
    by_cases hs : stop S = true
    · rw [evRun_stop hs]; exact h
    · cases hc : chS but S with
      | none => rw [evRun_none hc]; exact h
      | some e =>
        rw [evRun_some (by simpa using hs) hc]
        refine evRun_keep hk n (b + 1) (evS e S) (ok.ev (by omega)) (by omega) (mem_delK.2 ⟨h, ?_⟩)
        have := (chS_mem ok hc).2
        simp only [mayGo, Bool.and_eq_true, Bool.not_eq_true', decide_eq_false_iff_not, decide_eq_true_eq] at this
        rw [hk]; exact fun e => this.2 e.symm
theorem evRun_sc {stop : SS → Bool} {but d : Int32} (q : Nat) (h10 : q ≠ 10) (h16 : q ≠ 16) : ∀ (n : Nat) (S : SS), (evRun stop but d n S).1.2.2.2 q = S.2.2.2 q
  | 0, S => rfl
  | n + 1, S => by
    by_cases hs : stop S = true
    · rw [evRun_stop hs]
    · cases hc : chS but S with
      | none => rw [evRun_none hc]
      | some e =>
        rw [evRun_some (by simpa using hs) hc]
        show (evRun stop but d n (evS e S)).1.2.2.2 q = _
        rw [evRun_sc q h10 h16 n (evS e S)]
        simp only [evS]; rw [upd_n h16, upd_n h10]
theorem learnS_1 (k wt : Int32) (S : SS) : (learnS k wt S).1 = S.1 := by
  rw [learnS]; split
  · rfl
  · split <;> rfl
theorem learnS_sc (k wt : Int32) (S : SS) {q : Nat} (h : q ≠ 3) : (learnS k wt S).2.2.2 q = S.2.2.2 q := by
  rw [learnS]; split
  · exact upd_n h
  · split
    · exact upd_n h
    · rfl
theorem learnS_ok {b : Nat} {k wt : Int32} {S : SS} (h : Ok b S) (h1 : 1 ≤ wt.toInt) (h2 : wt.toInt ≤ 99) : Ok b (learnS k wt S) := by
  obtain ⟨a1, a2, a3, n1, n2, n3, n4, n5, n6, n7, n8, n9, n10⟩ := h
  have e0 : (0 : Int32).toInt = 0 := by decide
  have ea : (S.2.2.2 3 + wt).toInt = (S.2.2.2 3).toInt + wt.toInt := i32_add (by omega) (by omega)
  have es : (S.2.2.2 3 - wt).toInt = (S.2.2.2 3).toInt - wt.toInt := i32_sub (by omega) (by omega)
  rw [learnS]; split
  · refine ⟨?_, nodup_delG a2, a3, ?_⟩
    · simpa [upd] using a1
    · simp only [OkN]
      simp only [upd_n (show 1 ≠ 3 by decide), upd_n (show 2 ≠ 3 by decide), upd_s, upd_n (show 4 ≠ 3 by decide), upd_n (show 6 ≠ 3 by decide), upd_n (show 16 ≠ 3 by decide)]
      refine ⟨n1, n2, n3, ?_, ?_, n6, n7, n8, n9, n10⟩
      · split <;> omega
      · split
        · omega
        · rename_i hc; rw [i32_lt] at hc; omega
  · split
    · refine ⟨?_, a2, nodup_delG a3, ?_⟩
      · simpa [upd] using a1
      · simp only [OkN]
        simp only [upd_n (show 1 ≠ 3 by decide), upd_n (show 2 ≠ 3 by decide), upd_s, upd_n (show 4 ≠ 3 by decide), upd_n (show 6 ≠ 3 by decide), upd_n (show 16 ≠ 3 by decide)]
        refine ⟨n1, n2, n3, ?_, ?_, n6, n7, n8, n9, n10⟩
        · split
          · omega
          · rename_i hc; rw [i32_lt] at hc; omega
        · split <;> omega
    · exact ⟨a1, a2, a3, n1, n2, n3, n4, n5, n6, n7, n8, n9, n10⟩
/-- what put() may be given -/
def ArgP (k v wt t tick : Int32) : Prop := 0 ≤ k.toInt ∧ k.toInt < 1000 ∧ 1 ≤ wt.toInt ∧ wt.toInt ≤ 99 ∧ (t = -1 ∨ tick.toInt < t.toInt) ∧ VOk v
theorem modK_mem {L : List En} {k : Int32} {f : En → En} {x : En} (h : x ∈ modK k f L) : ∃ e ∈ L, x = if eK e = k then f e else e := by
  rw [modK, List.mem_map] at h
  obtain ⟨e, he, rfl⟩ := h
  exact ⟨e, he, rfl⟩
theorem modK_eK {L : List En} {k : Int32} {f : En → En} (hf : ∀ e, eK (f e) = eK e) : (modK k f L).map eK = L.map eK := by
  rw [modK, List.map_map]
  refine List.map_congr_left (fun e _ => ?_)
  simp only [Function.comp]; split
  · exact hf e
  · rfl
theorem modK_eL {L : List En} {k : Int32} {f : En → En} (hf : ∀ e, eL (f e) = eL e) : (modK k f L).map eL = L.map eL := by
  rw [modK, List.map_map]
  refine List.map_congr_left (fun e _ => ?_)
  simp only [Function.comp]; split
  · exact hf e
  · rfl
theorem chg_ok {b : Nat} {k v wt t : Int32} {S : SS} (h : Ok b S) (ha : ArgP k v wt t (S.2.2.2 5)) : Ok b (withE (modK k (chgE v wt t) S.1) (learnS k wt S)) := by
  have h' := learnS_ok (k := k) h ha.2.2.1 ha.2.2.2.1
  obtain ⟨a1, a2, a3, a4⟩ := h'
  refine ⟨?_, a2, a3, a4⟩
  have h1 := h.1
  show OkL ((learnS k wt S).2.2.2 4) ((learnS k wt S).2.2.2 5) (modK k (chgE v wt t) S.1)
  rw [learnS_sc k wt S (by decide), learnS_sc k wt S (by decide)]
  refine ⟨by rw [modK_eK (f := chgE v wt t) (fun _ => rfl)]; exact h1.1, by rw [modK_eL (f := chgE v wt t) (fun _ => rfl)]; exact h1.2.1, by simpa [modK] using h1.2.2.1, fun x hx => ?_⟩
  obtain ⟨e, he, rfl⟩ := modK_mem hx
  obtain ⟨b1, b2, b3, b4, b5, b6, b7, b8, b9⟩ := h1.2.2.2 e he
  split
  · exact ⟨b1, b2, ha.2.2.1, ha.2.2.2.1, b5, b6, b7, ha.2.2.2.2.1, b9.1, ha.2.2.2.2.2⟩
  · exact ⟨b1, b2, b3, b4, b5, b6, b7, b8, b9⟩
theorem setN_ok {b : Nat} {S : SS} (h : Ok b S) {q : Nat} {v : Int32} (hq : q = 8 ∨ q = 9 ∨ q = 10 ∨ q = 11 ∨ q = 12 ∨ q = 13 ∨ q = 15) : Ok b (setN q v S) := by
  obtain ⟨a1, a2, a3, n1, n2, n3, n4, n5, n6, n7, n8, n9, n10⟩ := h
  refine ⟨?_, a2, a3, ?_⟩
  · simp only [setN]; rw [upd_n (by omega), upd_n (by omega)]; exact a1
  · simp only [setN, OkN]
    rw [upd_n (by omega), upd_n (by omega), upd_n (by omega), upd_n (by omega), upd_n (by omega), upd_n (by omega)]
    exact ⟨n1, n2, n3, n4, n5, n6, n7, n8, n9, n10⟩
theorem room_len {b : Nat} {k wt d : Int32} {S : SS} (h : Ok b S) (hb : b + 60 < 2147483648) (h1 : 1 ≤ wt.toInt) (h2 : wt.toInt ≤ 99) : Ok (b + 60) (roomS k wt d S).1 ∧ (roomS k wt d S).2.length ≤ 60 := evRun_ok 60 b _ (learnS_ok h h1 h2) hb
theorem room_keys {k wt d : Int32} {S : SS} (hf : ∀ e ∈ S.1, eK e ≠ k) : ∀ e ∈ (roomS k wt d S).1.1, eK e ≠ k := fun e he => by
  have := (evRun_sub (stop := stopT wt) (but := k) (d := d) 60 (learnS k wt S)).mem he
  rw [learnS_1] at this
  exact hf e this
theorem new_nodup {L : List En} {k v wt t : Int32} (hn : (L.map eK).Nodup) (hf : ∀ e ∈ L, eK e ≠ k) : ((L ++ [newE k v wt t]).map eK).Nodup := by
  rw [List.map_append, List.nodup_append]
  refine ⟨hn, by simp, fun a ha c hc => ?_⟩
  obtain ⟨e, he, rfl⟩ := List.mem_map.1 ha
  rw [List.mem_map] at hc
  obtain ⟨f, hf2, rfl⟩ := hc
  rw [List.mem_singleton] at hf2
  subst hf2
  exact hf e he
theorem new_ok {b : Nat} {k v wt t : Int32} {S : SS} (h : Ok b S) (hb : b + 1 < 2147483648) (hl : S.1.length < 60) (ha : ArgP k v wt t (S.2.2.2 5)) (hf : ∀ e ∈ S.1, eK e ≠ k) : Ok (b + 1) (useS k (withE (S.1 ++ [newE k v wt t]) S)) := by
  obtain ⟨h1, h2, h3, n1, n2, n3, n4, n5, n6, n7, n8, n9, n10⟩ := h
  have e1 : (1 : Int32).toInt = 1 := by decide
  have e0 : (0 : Int32).toInt = 0 := by decide
  have eu : (S.2.2.2 4 + 1).toInt = (S.2.2.2 4).toInt + 1 := by rw [i32_add (by omega) (by omega), e1]
  refine ⟨?_, h2, h3, ?_⟩
  · have hp : (S.1 ++ [newE k v wt t]).Pairwise (fun e f => eK e = k ∨ eK f = k ∨ eL e ≠ eL f) := by
      rw [List.pairwise_append]
      refine ⟨?_, by simp, fun e he f hf2 => ?_⟩
      · have := h1.2.1
        rw [List.Nodup, List.pairwise_map] at this
        exact this.imp (fun hh => Or.inr (Or.inr hh))
      · rw [List.mem_singleton] at hf2; subst hf2; exact Or.inr (Or.inl rfl)
    have := OkL_use (k := k) (a := S.2.2.2 6) (u := S.2.2.2 4) (t := S.2.2.2 5) (new_nodup (v := v) (wt := wt) (t := t) h1.1 hf) hp (by simp; omega) (fun e he => ?_) n6 (by omega)
    · simpa [useS, withE, upd] using this
    · rcases List.mem_append.1 he with he | he
      · exact (h1.2.2.2 e he).k
      · rw [List.mem_singleton] at he; subst he
        exact ⟨ha.1, ha.2.1, ha.2.2.1, ha.2.2.2.1, by show 0 ≤ (0 : Int32).toInt; omega, by show (0 : Int32).toInt ≤ 999999; omega, fun hx => absurd rfl hx, ha.2.2.2.2.1, Or.inl rfl, ha.2.2.2.2.2⟩
  · simp only [useS, withE, OkN]
    simp only [upd_n (show 1 ≠ 15 by decide), upd_n (show 1 ≠ 4 by decide), upd_n (show 2 ≠ 15 by decide), upd_n (show 2 ≠ 4 by decide), upd_n (show 3 ≠ 15 by decide), upd_n (show 3 ≠ 4 by decide), upd_n (show 4 ≠ 15 by decide), upd_s, upd_n (show 6 ≠ 15 by decide), upd_n (show 6 ≠ 4 by decide), upd_n (show 16 ≠ 15 by decide), upd_n (show 16 ≠ 4 by decide)]
    exact ⟨n1, n2, n3, n4, n5, by omega, by omega, n8, n9, by omega⟩
/-! when all that must go has gone -/
theorem evRun_done {stop : SS → Bool} {but d : Int32} (J : SS → Prop) (hJ1 : ∀ b S, Ok b S → OkW (S.2.2.2 2) → J S → stop S = false → chS but S ≠ none) (hJ2 : ∀ b S e, Ok b S → J S → chS but S = some e → J (evS e S)) :
    ∀ (c b : Nat) (S : SS), Ok b S → OkW (S.2.2.2 2) → J S → b + c < 2147483648 → S.1.length ≤ c → stop (evRun stop but d c S).1 = true
  | 0, b, S, ok, hw, hJ, hb, hl => by
    by_cases hs : stop S = true
    · exact hs
    · cases hc : chS but S with
      | none => exact absurd hc (hJ1 b S ok hw hJ (by simpa using hs))
      | some e =>
        have := List.length_pos_of_mem (chS_mem ok hc).1; omega
  | c + 1, b, S, ok, hw, hJ, hb, hl => by
    by_cases hs : stop S = true
    · rw [evRun_stop hs]; exact hs
    · cases hc : chS but S with
      | none => exact absurd hc (hJ1 b S ok hw hJ (by simpa using hs))
      | some e =>
        rw [evRun_some (by simpa using hs) hc]
        have hlen := evS_len ok (chS_mem ok hc).1
        exact evRun_done J hJ1 hJ2 c (b + 1) (evS e S) (ok.ev (by omega)) (W4.ev (e := e) hw) (hJ2 b S e ok hJ hc) (by omega) (by omega)
def JT (k wt : Int32) (S : SS) : Prop := wt + sumBy (pinW k) S.1 ≤ S.2.2.2 1 ∧ (∀ e ∈ S.1, eK e ≠ k) ∧ (60 ≤ S.1.length → ∃ e ∈ S.1, eP e = 0)
def JL (k wt : Int32) (S : SS) : Prop := wt + sumBy (pinW k) S.1 ≤ S.2.2.2 1 ∧ ∃ e ∈ S.1, eK e = k ∧ eW e = wt
def JC (S : SS) : Prop := sumBy pinA S.1 ≤ S.2.2.2 1
theorem chS_none {but : Int32} {S : SS} (hw : OkW (S.2.2.2 2)) (h : chS but S = none) : ∀ e ∈ S.1, mayGo but e = false := (chooseS_none hw).1 h
theorem mayGo_f {but : Int32} {e : En} (h : mayGo but e = false) : eP e ≠ 0 ∨ eK e = but := by
  simp only [mayGo, Bool.and_eq_false_iff, decide_eq_false_iff_not, Bool.not_eq_false', decide_eq_true_eq] at h
  exact h
theorem mayGo_t {but : Int32} {e : En} (h : mayGo but e = true) : eP e = 0 ∧ eK e ≠ but := by
  simp only [mayGo, Bool.and_eq_true, Bool.not_eq_true', decide_eq_false_iff_not, decide_eq_true_eq] at h
  exact h
theorem ev_pin {b : Nat} {S : SS} {e : En} {but k : Int32} (ok : Ok b S) (h : chS but S = some e) : sumBy (pinW k) (evS e S).1 = sumBy (pinW k) S.1 := by
  obtain ⟨h1, h2⟩ := chS_mem ok h
  have h3 := (mayGo_t h2).1
  show sumBy (pinW k) (delK (eK e) S.1) = _
  rw [sum_del ok.1.1 h1, show pinW k e = 0 by simp [pinW, h3], Int32.sub_zero]
theorem ev_pinA {b : Nat} {S : SS} {e : En} {but : Int32} (ok : Ok b S) (h : chS but S = some e) : sumBy pinA (evS e S).1 = sumBy pinA S.1 := by
  obtain ⟨h1, h2⟩ := chS_mem ok h
  have h3 := (mayGo_t h2).1
  show sumBy pinA (delK (eK e) S.1) = _
  rw [sum_del ok.1.1 h1, show pinA e = 0 by simp [pinA, h3], Int32.sub_zero]
theorem ev_cap {S : SS} {e : En} : (evS e S).2.2.2 1 = S.2.2.2 1 := by
  simp only [evS]; rw [upd_n (by decide), upd_n (by decide)]
theorem JT_1 {k wt : Int32} (b : Nat) (S : SS) (ok : Ok b S) (hw : OkW (S.2.2.2 2)) (h : JT k wt S) (hs : stopT wt S = false) : chS k S ≠ none := by
  intro hc
  have hn := chS_none hw hc
  have hP : ∀ e ∈ S.1, eP e = 1 := fun e he => by
    rcases mayGo_f (hn e he) with h1 | h1
    · rcases ok.1.PB e he with h2 | h2
      · exact absurd h2 h1
      · exact h2
    · exact absurd h1 (h.2.1 e he)
  have hl : S.1.length < 60 := by
    by_cases c : 60 ≤ S.1.length
    · obtain ⟨e, he, h0⟩ := h.2.2 c
      rw [hP e he] at h0; exact absurd h0 (by decide)
    · omega
  have hsum : sumBy eW S.1 = sumBy (pinW k) S.1 := sumBy_congr (fun e he => by simp [pinW, hP e he, h.2.1 e he])
  have : stopT wt S = true := by
    simp only [stopT, Bool.and_eq_true, decide_eq_true_eq]
    exact ⟨hl, by rw [hsum, Int32.add_comm]; exact h.1⟩
  rw [this] at hs; cases hs
theorem JT_2 {k wt : Int32} (b : Nat) (S : SS) (e : En) (ok : Ok b S) (h : JT k wt S) (hc : chS k S = some e) : JT k wt (evS e S) := by
  refine ⟨by rw [ev_pin ok hc, ev_cap]; exact h.1, fun f hf => h.2.1 f (mem_delK.1 hf).1, fun hl => ?_⟩
  have := evS_len ok (chS_mem ok hc).1
  have := ok.1.2.2.1
  omega
theorem JL_1 {k wt : Int32} (b : Nat) (S : SS) (ok : Ok b S) (hw : OkW (S.2.2.2 2)) (h : JL k wt S) (hs : stopW 0 S = false) : chS k S ≠ none := by
  intro hc
  have hn := chS_none hw hc
  obtain ⟨h1, e0, he0, rfl, rfl⟩ := h
  have hp := perm_del ok.1.1 he0
  have hsum : sumBy eW S.1 = eW e0 + sumBy (pinW (eK e0)) S.1 := by
    rw [← sumBy_perm eW hp, ← sumBy_perm (pinW (eK e0)) hp, sumBy_cons, sumBy_cons, show pinW (eK e0) e0 = 0 by simp [pinW], Int32.zero_add]
    congr 1
    refine sumBy_congr (fun f hf => ?_)
    obtain ⟨hf1, hf2⟩ := mem_delK.1 hf
    rcases mayGo_f (hn f hf1) with h2 | h2
    · rcases ok.1.PB f hf1 with h3 | h3
      · exact absurd h3 h2
      · simp [pinW, h3, hf2]
    · exact absurd h2 hf2
  have : stopW 0 S = true := by
    simp only [stopW, decide_eq_true_eq]
    rw [hsum, Int32.add_zero]; exact h1
  rw [this] at hs; cases hs
theorem JL_2 {k wt : Int32} (b : Nat) (S : SS) (e : En) (ok : Ok b S) (h : JL k wt S) (hc : chS k S = some e) : JL k wt (evS e S) := by
  obtain ⟨h1, e0, he0, h2, h3⟩ := h
  refine ⟨by rw [ev_pin ok hc, ev_cap]; exact h1, e0, mem_delK.2 ⟨he0, ?_⟩, h2, h3⟩
  have := (mayGo_t (chS_mem ok hc).2).2
  rw [h2]; exact fun e => this e.symm
theorem JC_1 (b : Nat) (S : SS) (ok : Ok b S) (hw : OkW (S.2.2.2 2)) (h : JC S) (hs : stopL S = false) : chS (-1) S ≠ none := by
  intro hc
  have hn := chS_none hw hc
  have hsum : sumBy eW S.1 = sumBy pinA S.1 := sumBy_congr (fun e he => by
    rcases mayGo_f (hn e he) with h2 | h2
    · simp [pinA, h2]
    · have := (ok.1.2.2.2 e he).1
      rw [h2] at this; exact absurd this (by decide))
  have : stopL S = true := by simp only [stopL, decide_eq_true_eq]; rw [hsum]; exact h
  rw [this] at hs; cases hs
theorem JC_2 (b : Nat) (S : SS) (e : En) (ok : Ok b S) (h : JC S) (hc : chS (-1) S = some e) : JC (evS e S) := by
  show sumBy pinA (evS e S).1 ≤ (evS e S).2.2.2 1
  rw [ev_pinA ok hc, ev_cap]; exact h
