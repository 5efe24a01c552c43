/-! the requests gone through anew: what both do -/
def lastOk (Q : List Int32) (k : Nat) (e : En) : Prop := ∃ j, j < k ∧ eL e = nI (j + 1) ∧ Q[j]? = some (eK e) ∧ ∀ i, j < i → i < k → Q[i]? ≠ some (eK e)
def JR (Q : List Int32) (c k : Nat) (S : SS) : Prop := Ok (2 * k) S ∧ One c S ∧ S.2.2.2 5 = 0 ∧ (0 < c → S.2.2.2 4 = nI k) ∧ S.2.2.2 6 = 999 ∧ ∀ e ∈ S.1, lastOk Q k e
theorem JR.ok {Q : List Int32} {c k : Nat} {S : SS} (h : JR Q c k S) : Ok (2 * k) S := h.1
theorem JR.one {Q : List Int32} {c k : Nat} {S : SS} (h : JR Q c k S) : One c S := h.2.1
theorem JR.tk {Q : List Int32} {c k : Nat} {S : SS} (h : JR Q c k S) : S.2.2.2 5 = 0 := h.2.2.1
theorem JR.us {Q : List Int32} {c k : Nat} {S : SS} (h : JR Q c k S) : 0 < c → S.2.2.2 4 = nI k := h.2.2.2.1
theorem JR.ag {Q : List Int32} {c k : Nat} {S : SS} (h : JR Q c k S) : S.2.2.2 6 = 999 := h.2.2.2.2.1
theorem JR.la {Q : List Int32} {c k : Nat} {S : SS} (h : JR Q c k S) : ∀ e ∈ S.1, lastOk Q k e := h.2.2.2.2.2
def nxE (Q : List Int32) (k : Nat) (e : En) : Nat := nxA Q (eK e) (k + 1)
def farB (Q : List Int32) (k : Nat) (a b : En) : Bool := decide (nxE Q k b < nxE Q k a) || (decide (nxE Q k a = nxE Q k b) && decide (eK a < eK b))
theorem farB_iff {Q : List Int32} {k : Nat} {a b : En} : farB Q k a b = true ↔ nxE Q k b < nxE Q k a ∨ (nxE Q k a = nxE Q k b ∧ (eK a).toInt < (eK b).toInt) := by
  simp only [farB, Bool.or_eq_true, Bool.and_eq_true, decide_eq_true_eq, i32_lt]
def IsFar (Q : List Int32) (k : Nat) (L : List En) (e : En) : Prop := e ∈ L ∧ ∀ f ∈ L, f = e ∨ farB Q k e f = true
theorem IsFar.uniq {Q : List Int32} {k : Nat} {L : List En} {e f : En} (h1 : IsFar Q k L e) (h2 : IsFar Q k L f) : e = f := by
  rcases h1.2 f h2.1 with h | h
  · exact h.symm
  · rcases h2.2 e h1.1 with h3 | h3
    · exact h3
    · rw [farB_iff] at h h3; omega
theorem IsFar.perm {Q : List Int32} {k : Nat} {L M : List En} {e : En} (p : L.Perm M) (h : IsFar Q k L e) : IsFar Q k M e := ⟨p.mem_iff.1 h.1, fun f hf => h.2 f (p.mem_iff.2 hf)⟩
def fa (Q : List Int32) (k : Nat) (L : List En) : Option En := L.find? (fun e => L.all (fun f => decide (f = e) || farB Q k e f))
theorem fa_eq {Q : List Int32} {k : Nat} {L : List En} {e : En} (h : IsFar Q k L e) : fa Q k L = some e := by
  have hp : ∀ x, (L.all (fun f => decide (f = x) || farB Q k x f)) = true ↔ ∀ f ∈ L, f = x ∨ farB Q k x f = true := fun x => by
    simp only [List.all_eq_true, Bool.or_eq_true, decide_eq_true_eq]
  cases hf : fa Q k L with
  | none =>
    rw [fa, List.find?_eq_none] at hf
    exact absurd ((hp e).2 h.2) (by simpa using hf e h.1)
  | some x =>
    have hm : x ∈ L := List.mem_of_find?_eq_some hf
    have hx := (hp x).1 (by have := List.find?_some hf; exact this)
    rw [IsFar.uniq (show IsFar Q k L x from ⟨hm, hx⟩) h]
def dropM (e : En) (S : SS) : SS := (delK (eK e) S.1, S.2.1, S.2.2.1, upd S.2.2.2 10 (S.2.2.2 10 + 1))
def gnow (E : List Ev) : Int32 := match E with
  | [] => -1
  | ev :: _ => if ev.1 = 2 then ev.2.1 else -1
def kyQ (Q : List Int32) (k : Nat) : Int32 := Q[k]?.getD 0
def isF (way c : Nat) (Q : List Int32) (k : Nat) (S : SS) : Prop := way = 5 ∧ fnd (kyQ Q k) S.1 = none ∧ 0 < c ∧ S.1.length = c
def isFd (way c : Nat) (Q : List Int32) (k : Nat) (S : SS) : Decidable (isF way c Q k S) := inferInstanceAs (Decidable (way = 5 ∧ fnd (kyQ Q k) S.1 = none ∧ 0 < c ∧ S.1.length = c))
def rst (cls : Bool) (way c : Nat) (Q : List Int32) (k : Nat) (S : SS) : SS × Int32 :=
  @ite _ (isF way c Q k S) (isFd way c Q k S) (match fa Q k S.1 with
    | some e => ((bringS (kyQ Q k) 0 1 (-1) 0 (if cls then evS e S else dropM e S)).2.1, eK e)
    | none => (S, -1))
   ((bringS (kyQ Q k) 0 1 (-1) 0 S).2.1, gnow (bringS (kyQ Q k) 0 1 (-1) 0 S).2.2)
def S0 (cls : Bool) (way c : Nat) : SS := ([], [], [], upd (upd (upd (fun _ => 0) 1 (nI c)) 6 999) 2 (nI (if cls then way else min way 4)))
def runS (cls : Bool) (way c : Nat) (Q : List Int32) : Nat → SS × Nat × (Nat → Int32)
  | 0 => (S0 cls way c, 0, fun _ => -1)
  | k + 1 => ((rst cls way c Q k (runS cls way c Q k).1).1, (runS cls way c Q k).2.1 + (if (fnd (kyQ Q k) (runS cls way c Q k).1.1).isSome then 1 else 0), upd (runS cls way c Q k).2.2 k (rst cls way c Q k (runS cls way c Q k).1).2)
section RunJ
variable {Q : List Int32} {c k : Nat} {S : SS} {key : Int32}
theorem use_last {L : List En} {k u a : Int32} {e : En} (h : e ∈ useL L k u a) : ∃ x ∈ L, eK e = eK x ∧ eL e = if eK x = k then u + 1 else eL x := by
  have h1 : ∀ e ∈ modK k (usedE (u + 1)) L, ∃ x ∈ L, eK e = eK x ∧ eL e = if eK x = k then u + 1 else eL x := fun e he => by
    obtain ⟨x, hx, rfl⟩ := modK_mem he
    refine ⟨x, hx, ?_, ?_⟩ <;> split <;> rfl
  rw [useL] at h
  split at h
  · obtain ⟨x, hx, rfl⟩ := List.mem_map.1 h
    exact h1 x hx
  · exact h1 e h
theorem lastOk.up {e : En} (h : lastOk Q k e) (hn : Q[k]? ≠ some (eK e)) : lastOk Q (k + 1) e := by
  obtain ⟨j, h1, h2, h3, h4⟩ := h
  refine ⟨j, by omega, h2, h3, fun i i1 i2 => ?_⟩
  by_cases c : i = k
  · subst c; exact hn
  · exact h4 i i1 (by omega)
theorem use_la {X : SS} (hq : Q[k]? = some key) (hu : X.2.2.2 4 = nI k) (hX : ∀ x ∈ X.1, eK x ≠ key → lastOk Q k x) : ∀ e ∈ (useS key X).1, lastOk Q (k + 1) e := by
  intro e he
  obtain ⟨x, hx, h1, h2⟩ := use_last (L := X.1) he
  by_cases c : eK x = key
  · rw [if_pos c, hu, nI_1] at h2
    exact ⟨k, by omega, h2, by rw [h1, c]; exact hq, fun i i1 i2 => by omega⟩
  · rw [if_neg c] at h2
    have := (hX x hx c).up (by rw [hq]; intro e; exact c (Option.some.inj e).symm)
    obtain ⟨j, j1, j2, j3, j4⟩ := this
    exact ⟨j, j1, by rw [h2]; exact j2, by rw [h1]; exact j3, fun i i1 i2 => by rw [h1]; exact j4 i i1 i2⟩
theorem use_4 {X : SS} {k : Int32} : (useS k X).2.2.2 4 = X.2.2.2 4 + 1 := by simp only [useS]; rw [upd_n (by decide), upd_s]
theorem use_6 {X : SS} {k : Int32} : (useS k X).2.2.2 6 = X.2.2.2 6 := by simp only [useS]; rw [upd_n (by decide), upd_n (by decide)]
theorem use_10 {X : SS} {k : Int32} : (useS k X).2.2.2 10 = X.2.2.2 10 := by simp only [useS]; rw [upd_n (by decide), upd_n (by decide)]
theorem ev_q {S : SS} {e : En} {q : Nat} (h1 : q ≠ 10) (h2 : q ≠ 16) : (evS e S).2.2.2 q = S.2.2.2 q := by simp only [evS]; rw [upd_n h2, upd_n h1]
theorem JR.argP (h : JR Q c k S) (k1 : 0 ≤ key.toInt) (k2 : key.toInt < 1000) : ArgP key 0 1 (-1) (S.2.2.2 5) := ⟨k1, k2, by decide, by decide, Or.inl rfl, by constructor <;> decide⟩
/-- a put, when nothing goes for it or one does -/
theorem JR.there (h : JR Q c k S) (hk : k < 100) (hc : 0 < c) (hq : Q[k]? = some key) (k1 : 0 ≤ key.toInt) (k2 : key.toInt < 1000) : JR Q c (k + 1) (useS key (withE (modK key (chgE 0 1 (-1)) S.1) (learnS key 1 S))) := by
  have ok1 := chg_ok h.ok (h.argP k1 k2)
  have h4 : (withE (modK key (chgE 0 1 (-1)) S.1) (learnS key 1 S)).2.2.2 4 = nI k := by
    show (learnS key 1 S).2.2.2 4 = nI k
    rw [learnS_sc key 1 S (by decide)]; exact h.us hc
  refine ⟨(ok1.use (by omega)).up (by omega), h.one.chg.use, ?_, fun _ => by rw [use_4, h4, nI_1], ?_, use_la hq h4 (fun x hx hne => ?_)⟩
  · rw [use_tick]; show (learnS key 1 S).2.2.2 5 = 0; rw [learnS_sc key 1 S (by decide)]; exact h.tk
  · rw [use_6]; show (learnS key 1 S).2.2.2 6 = 999; rw [learnS_sc key 1 S (by decide)]; exact h.ag
  · obtain ⟨y, hy, rfl⟩ := modK_mem (L := S.1) hx
    by_cases cy : eK y = key
    · rw [if_pos cy] at hne; exact absurd cy hne
    · rw [if_neg cy]; exact h.la y hy
theorem JR.new {b : Nat} {T : SS} (hk : k < 100) (hb : b + 1 ≤ 2 * (k + 1)) (ok : Ok b T) (one : One c T) (tk : T.2.2.2 5 = 0) (us : T.2.2.2 4 = nI k) (ag : T.2.2.2 6 = 999) (la : ∀ e ∈ T.1, lastOk Q k e) (hl : T.1.length < c) (hf : fnd key T.1 = none) (hq : Q[k]? = some key) (k1 : 0 ≤ key.toInt) (k2 : key.toInt < 1000) : JR Q c (k + 1) (useS key (withE (T.1 ++ [newE key 0 1 (-1)]) (learnS key 1 T))) := by
  have h60 := one.c60
  have okl : Ok b (learnS key 1 T) := learnS_ok ok (by decide) (by decide)
  have e1 : withE (T.1 ++ [newE key 0 1 (-1)]) (learnS key 1 T) = withE ((learnS key 1 T).1 ++ [newE key 0 1 (-1)]) (learnS key 1 T) := by rw [learnS_1]
  have h4 : (withE (T.1 ++ [newE key 0 1 (-1)]) (learnS key 1 T)).2.2.2 4 = nI k := by
    show (learnS key 1 T).2.2.2 4 = nI k
    rw [learnS_sc key 1 T (by decide)]; exact us
  have harg : ArgP key 0 1 (-1) ((learnS key 1 T).2.2.2 5) := ⟨k1, k2, by decide, by decide, Or.inl rfl, by constructor <;> decide⟩
  refine ⟨?_, ?_, ?_, fun _ => by rw [use_4, h4, nI_1], ?_, use_la hq h4 (fun x hx hne => ?_)⟩
  · rw [e1]; exact (new_ok okl (by omega) (by rw [learnS_1]; omega) harg (by rw [learnS_1]; exact fnd_none.1 hf)).up (by omega)
  · rw [e1]; exact (one.learn.new (by rw [learnS_1]; exact hl)).use
  · rw [use_tick]; show (learnS key 1 T).2.2.2 5 = 0; rw [learnS_sc key 1 T (by decide)]; exact tk
  · rw [use_6]; show (learnS key 1 T).2.2.2 6 = 999; rw [learnS_sc key 1 T (by decide)]; exact ag
  · rcases List.mem_append.1 (show x ∈ T.1 ++ [newE key 0 1 (-1)] from hx) with hx | hx
    · exact la x hx
    · rw [List.mem_singleton] at hx; subst hx; exact absurd rfl hne
theorem JR.bring (h : JR Q c k S) (hw : OkW (S.2.2.2 2) ∨ S.1.length < c ∨ c = 0 ∨ ∃ e, fnd key S.1 = some e) (hk : k < 100) (hq : Q[k]? = some key) (k1 : 0 ≤ key.toInt) (k2 : key.toInt < 1000) : JR Q c (k + 1) (bringS key 0 1 (-1) 0 S).2.1 := by
  by_cases hc : c = 0
  · subst hc
    rw [br_rej h.one]
    have hnil : S.1 = [] := List.eq_nil_of_length_eq_zero (by have := h.one.l; omega)
    refine ⟨(setN_ok h.ok (by simp)).up (by omega), ⟨h.one.w, h.one.l, by rw [← h.one.cap]; simp only [setN]; rw [upd_n (by decide)], h.one.c60⟩, ?_, fun hx => by omega, ?_, fun e he => ?_⟩
    · simp only [setN]; rw [upd_n (by decide)]; exact h.tk
    · simp only [setN]; rw [upd_n (by decide)]; exact h.ag
    · have he' : e ∈ S.1 := he
      rw [hnil] at he'; cases he'
  · have hc0 : 0 < c := by omega
    cases hf : fnd key S.1 with
    | some e => rw [br_there h.one hc0 hf]; exact h.there hk hc0 hq k1 k2
    | none =>
      by_cases hl : S.1.length < c
      · rw [(br_new (d := 0) h.one hl hf).1]
        exact JR.new hk (by omega) h.ok h.one h.tk (h.us hc0) h.ag h.la hl hf hq k1 k2
      · have hl2 : S.1.length = c := by have := h.one.l; omega
        have hw' : OkW (S.2.2.2 2) := by
          rcases hw with hw | hw | hw | ⟨e, he⟩
          · exact hw
          · omega
          · omega
          · rw [hf] at he; cases he
        obtain ⟨e, hem, hbr, _⟩ := br_full (d := 0) h.one hc0 h.ok hw' hl2 hf
        rw [hbr]
        have okl : Ok (2 * k) (learnS key 1 S) := learnS_ok h.ok (by decide) (by decide)
        have hem' : e ∈ (learnS key 1 S).1 := by rw [learnS_1]; exact hem
        have hlen := evS_len okl hem'
        rw [learnS_1] at hlen
        -- the entry went, then the new one came
        have okT : Ok (2 * k + 1) (evS e (learnS key 1 S)) := okl.ev (by omega)
        have e1 : withE (delK (eK e) S.1 ++ [newE key 0 1 (-1)]) (evS e (learnS key 1 S)) = withE ((evS e (learnS key 1 S)).1 ++ [newE key 0 1 (-1)]) (evS e (learnS key 1 S)) := by
          show _ = withE (delK (eK e) (learnS key 1 S).1 ++ [newE key 0 1 (-1)]) (evS e (learnS key 1 S))
          rw [learnS_1]
        have h60 := h.one.c60
        have hfe : ∀ x ∈ (evS e (learnS key 1 S)).1, eK x ≠ key := fun x hx => by
          have := (mem_delK.1 hx).1
          rw [learnS_1] at this
          exact fnd_none.1 hf x this
        have h4 : (withE ((evS e (learnS key 1 S)).1 ++ [newE key 0 1 (-1)]) (evS e (learnS key 1 S))).2.2.2 4 = nI k := by
          show (evS e (learnS key 1 S)).2.2.2 4 = nI k
          rw [ev_q (by decide) (by decide), learnS_sc key 1 S (by decide)]; exact h.us hc0
        have harg : ArgP key 0 1 (-1) ((evS e (learnS key 1 S)).2.2.2 5) := ⟨k1, k2, by decide, by decide, Or.inl rfl, by constructor <;> decide⟩
        show JR Q c (k + 1) (useS key (withE (delK (eK e) S.1 ++ [newE key 0 1 (-1)]) (evS e (learnS key 1 S))))
        rw [e1]
        refine ⟨(new_ok okT (by omega) (by omega) harg hfe).up (by omega), (h.one.learn.ev.new (by omega)).use, ?_, fun _ => by rw [use_4, h4, nI_1], ?_, use_la hq h4 (fun x hx hne => ?_)⟩
        · rw [use_tick]; show (evS e (learnS key 1 S)).2.2.2 5 = 0; rw [ev_q (by decide) (by decide), learnS_sc key 1 S (by decide)]; exact h.tk
        · rw [use_6]; show (evS e (learnS key 1 S)).2.2.2 6 = 999; rw [ev_q (by decide) (by decide), learnS_sc key 1 S (by decide)]; exact h.ag
        · rcases List.mem_append.1 (show x ∈ (evS e (learnS key 1 S)).1 ++ [newE key 0 1 (-1)] from hx) with hx | hx
          · have := (mem_delK.1 hx).1
            rw [learnS_1] at this
            exact h.la x this
          · rw [List.mem_singleton] at hx; subst hx; exact absurd rfl hne
end RunJ
