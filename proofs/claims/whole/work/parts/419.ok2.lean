/-! what stays as it must -/
def Ok2 (b : Nat) (S : SS) : Prop := Ok b S ∧ OkW (S.2.2.2 2) ∧ sumBy eW S.1 ≤ S.2.2.2 1
theorem sum_bd {f : En → Int32} {L : List En} (hf : ∀ e ∈ L, 0 ≤ (f e).toInt ∧ (f e).toInt ≤ 99) (hl : L.length ≤ 100) : 0 ≤ (sumBy f L).toInt ∧ (sumBy f L).toInt ≤ 99 * L.length := by
  induction L with
  | nil => simp only [sumBy]; decide
  | cons e l ih =>
    simp only [List.length_cons] at hl
    have h1 := ih (fun x hx => hf x (by simp [hx])) (by omega)
    have h2 := hf e (by simp)
    have h3 : (f e + sumBy f l).toInt = (f e).toInt + (sumBy f l).toInt := i32_add (by omega) (by omega)
    simp only [sumBy, List.length_cons]
    omega
theorem OkL.W {u t : Int32} {L : List En} (h : OkL u t L) : ∀ e ∈ L, 0 ≤ (eW e).toInt ∧ (eW e).toInt ≤ 99 := fun e he => by
  have := h.2.2.2 e he
  exact ⟨by have := this.2.2.1; omega, this.2.2.2.1⟩
theorem sum_del_le {u t : Int32} {L : List En} (h : OkL u t L) {e : En} (he : e ∈ L) : sumBy eW (delK (eK e) L) ≤ sumBy eW L := by
  have h1 := sum_bd h.W (by have := h.2.2.1; omega)
  have h60 := h.2.2.1
  have h2 := h.W e he
  rw [sum_del h.1 he, i32_le, i32_sub (by omega) (by omega)]; omega
section Ok2s
variable {b : Nat} {S : SS}
theorem Ok2.up {c : Nat} (h : Ok2 b S) (hc : b ≤ c) : Ok2 c S := ⟨h.1.up hc, h.2.1, h.2.2⟩
theorem use_way {k : Int32} : (useS k S).2.2.2 2 = S.2.2.2 2 := by simp only [useS]; rw [upd_n (by decide), upd_n (by decide)]
theorem use_cap {k : Int32} : (useS k S).2.2.2 1 = S.2.2.2 1 := by simp only [useS]; rw [upd_n (by decide), upd_n (by decide)]
theorem use_tick {k : Int32} : (useS k S).2.2.2 5 = S.2.2.2 5 := by simp only [useS]; rw [upd_n (by decide), upd_n (by decide)]
theorem use_sum {k : Int32} : sumBy eW (useS k S).1 = sumBy eW S.1 := sum_use (f := eW) (fun _ _ => rfl) (fun _ => rfl)
theorem evRun_way {stop : SS → Bool} {but d : Int32} {n : Nat} : (evRun stop but d n S).1.2.2.2 2 = S.2.2.2 2 := evRun_sc 2 (by decide) (by decide) n S
theorem bring_ok {k v wt t d : Int32} (h : Ok2 b S) (hb : b + 64 < 2147483648) (ha : ArgP k v wt t (S.2.2.2 5)) : Ok2 (b + 64) (bringS k v wt t d S).2.1 ∧ (bringS k v wt t d S).2.2.length ≤ 61 ∧ (bringS k v wt t d S).2.1.2.2.2 5 = S.2.2.2 5 := by
  obtain ⟨ok, hw, hc⟩ := h
  rw [bringS]
  cases hr : rejS k wt S with
  | true =>
    rw [if_pos rfl]
    exact ⟨⟨(setN_ok ok (by simp)).up (by omega), by simp only [setN]; rw [upd_n (by decide)]; exact hw, by simp only [setN]; rw [upd_n (by decide)]; exact hc⟩, by simp, by simp only [setN]; rw [upd_n (by decide)]⟩
  | false =>
    rw [if_neg (by decide)]
    cases hf : fnd k S.1 with
    | none =>
      rw [if_pos (by rfl)]
      have hst := room_done (d := d) ok hw (by omega) ha.2.2.1 ha.2.2.2.1 hr hf
      simp only [stopT, Bool.and_eq_true, decide_eq_true_eq] at hst
      obtain ⟨hok, hGl⟩ := room_len (k := k) (d := d) ok (by omega) ha.2.2.1 ha.2.2.2.1
      have hkeys := room_keys (wt := wt) (d := d) (fnd_none.1 hf)
      have htk : (roomS k wt d S).1.2.2.2 5 = S.2.2.2 5 := by
        rw [roomS, evRun_sc 5 (by decide) (by decide), learnS_sc k wt S (by decide)]
      have hwk : (roomS k wt d S).1.2.2.2 2 = S.2.2.2 2 := by
        rw [roomS, evRun_sc 2 (by decide) (by decide), learnS_sc k wt S (by decide)]
      refine ⟨⟨(new_ok (v := v) (wt := wt) (t := t) hok (by omega) hst.1 (by rw [htk]; exact ha) hkeys).up (by omega), ?_, ?_⟩, ?_, ?_⟩
      · rw [use_way]; simp only [withE]; rw [hwk]; exact hw
      · rw [use_sum, use_cap]; simp only [withE]; rw [sumBy_snoc]; exact hst.2
      · simp; omega
      · rw [use_tick]; simp only [withE]; exact htk
    | some e =>
      rw [if_neg (by simp)]
      have okc := chg_ok (v := v) ok ha
      have hwl : OkW ((withE (modK k (chgE v wt t) S.1) (learnS k wt S)).2.2.2 2) := by simp only [withE]; rw [learnS_sc k wt S (by decide)]; exact hw
      obtain ⟨hokc, hGl⟩ := evRun_ok (stop := stopL) (but := k) (d := d) 60 b _ okc (by omega)
      have hdone := evRun_done (stop := stopL) (but := k) (d := d) (JL k wt) (fun b S o1 o2 o3 o4 => JL_1 b S o1 o2 o3 (by rw [stopW_0]; exact o4)) JL_2 60 b _ okc hwl (chg_JL (v := v) (tl := t) ok hr hf) (by omega) okc.1.2.2.1
      have hwk : (chgS k v wt t d S).1.2.2.2 2 = S.2.2.2 2 := by
        rw [chgS, evRun_sc 2 (by decide) (by decide)]; simp only [withE]; rw [learnS_sc k wt S (by decide)]
      have htk : (chgS k v wt t d S).1.2.2.2 5 = S.2.2.2 5 := by
        rw [chgS, evRun_sc 5 (by decide) (by decide)]; simp only [withE]; rw [learnS_sc k wt S (by decide)]
      have hokc' : Ok (b + 60) (chgS k v wt t d S).1 := hokc
      have hGl' : (chgS k v wt t d S).2.length ≤ 60 := hGl
      have hdone' : stopL (chgS k v wt t d S).1 = true := hdone
      refine ⟨⟨(hokc'.use (by omega)).up (by omega), ?_, ?_⟩, ?_, ?_⟩
      · rw [use_way, hwk]; exact hw
      · rw [use_sum, use_cap]; simpa [stopL] using hdone'
      · simp; omega
      · rw [use_tick]; exact htk
theorem fetch_ok {k d : Int32} (h : Ok2 b S) (hb : b + 64 < 2147483648) : Ok2 (b + 64) (fetchS k d S).2.1 ∧ (fetchS k d S).2.2.length ≤ 1 ∧ (fetchS k d S).2.1.2.2.2 5 = S.2.2.2 5 := by
  obtain ⟨ok, hw, hc⟩ := h
  rw [fetchS]
  split
  · exact ⟨⟨(setN_ok ok (by simp)).up (by omega), by simp only [setN]; rw [upd_n (by decide)]; exact hw, by simp only [setN]; rw [upd_n (by decide)]; exact hc⟩, by simp, by simp only [setN]; rw [upd_n (by decide)]⟩
  · refine ⟨⟨(setN_ok (ok.use (by omega)) (by simp)).up (by omega), ?_, ?_⟩, by simp, ?_⟩
    · simp only [setN]; rw [upd_n (by decide), use_way]; exact hw
    · simp only [setN]; rw [upd_n (by decide), use_sum, use_cap]; exact hc
    · simp only [setN]; rw [upd_n (by decide), use_tick]
theorem take_ok {k d : Int32} (h : Ok2 b S) : Ok2 b (takeS k d S).2.1 ∧ (takeS k d S).2.2.length ≤ 1 ∧ (takeS k d S).2.1.2.2.2 5 = S.2.2.2 5 := by
  obtain ⟨ok, hw, hc⟩ := id h
  rw [takeS]
  cases hf : fnd k S.1 with
  | none => exact ⟨h, by simp, rfl⟩
  | some e =>
    obtain ⟨heM, heK⟩ := fnd_some hf
    refine ⟨⟨⟨ok.1.del k, ok.2⟩, hw, ?_⟩, by simp, rfl⟩
    have := sum_del_le ok.1 heM
    rw [heK] at this
    show sumBy eW (delK k S.1) ≤ S.2.2.2 1
    rw [i32_le] at *; omega
theorem fast_ok {k p : Int32} (hp : p = 0 ∨ p = 1) (h : Ok2 b S) : Ok2 b (fastS k p S).2 ∧ (fastS k p S).2.2.2.2 = S.2.2.2 := by
  obtain ⟨ok, hw, hc⟩ := id h
  rw [fastS]
  cases hf : fnd k S.1 with
  | none => exact ⟨h, rfl⟩
  | some e =>
    refine ⟨⟨⟨?_, ok.2⟩, hw, ?_⟩, rfl⟩
    · have h1 := ok.1
      refine ⟨by show ((modK k (pinE p) S.1).map eK).Nodup; rw [modK_eK (f := pinE p) (fun _ => rfl)]; exact h1.1, by show ((modK k (pinE p) S.1).map eL).Nodup; rw [modK_eL (f := pinE p) (fun _ => rfl)]; exact h1.2.1, by simpa [withE, modK] using h1.2.2.1, fun x hx => ?_⟩
      obtain ⟨e, he, rfl⟩ := modK_mem hx
      obtain ⟨b1, b2, b3, b4, b5, b6, b7, b8, b9⟩ := h1.2.2.2 e he
      by_cases c : eK e = k
      · rw [if_pos c]; exact ⟨b1, b2, b3, b4, b5, b6, b7, b8, hp, b9.2⟩
      · rw [if_neg c]; exact ⟨b1, b2, b3, b4, b5, b6, b7, b8, b9⟩
    · show sumBy eW (modK k (pinE p) S.1) ≤ S.2.2.2 1
      rw [sum_mod (f := eW) (g := pinE p) (fun _ => rfl)]; exact hc
theorem cap_ok0 {c : Int32} (ok : Ok b S) (hc : isCapB c = true) : Ok b (setN 3 (if c < S.2.2.2 3 then c else S.2.2.2 3) (setN 1 c S)) := by
  obtain ⟨a1, a2, a3, o1, o2, o3, o4, o5, o6, o7, o8, o9, o10⟩ := ok
  simp only [isCapB, Bool.and_eq_true, decide_eq_true_eq, i32_le] at hc
  have e0 : (0 : Int32).toInt = 0 := by decide
  have e5 : (5000 : Int32).toInt = 5000 := by decide
  refine ⟨?_, a2, a3, ?_⟩
  · simpa [setN, upd] using a1
  · simp only [setN, OkN]
    simp only [upd_n (show 1 ≠ 3 by decide), upd_n (show 2 ≠ 3 by decide), upd_n (show 2 ≠ 1 by decide), upd_s, upd_n (show 4 ≠ 3 by decide), upd_n (show 4 ≠ 1 by decide), upd_n (show 6 ≠ 3 by decide), upd_n (show 6 ≠ 1 by decide), upd_n (show 16 ≠ 3 by decide), upd_n (show 16 ≠ 1 by decide)]
    refine ⟨by omega, by omega, o3, ?_, ?_, o6, o7, o8, o9, o10⟩
    · split <;> omega
    · split
      · omega
      · rename_i hx; rw [i32_lt] at hx; omega
theorem recap_ok {c d : Int32} (h : Ok2 b S) (hb : b + 64 < 2147483648) : Ok2 (b + 64) (recapS c d S).2.1 ∧ (recapS c d S).2.2.length ≤ 60 ∧ (recapS c d S).2.1.2.2.2 5 = S.2.2.2 5 := by
  obtain ⟨ok, hw, hcp⟩ := id h
  rw [recapS]
  split
  · exact ⟨h.up (by omega), by simp, rfl⟩
  · rename_i hc
    have hc' : isCapB c = true := by simpa using hc
    split
    · exact ⟨h.up (by omega), by simp, rfl⟩
    · rename_i hp
      have hp' : sumBy pinA S.1 ≤ c := Classical.not_not.1 hp
      have ok1 := cap_ok0 ok hc'
      have hw1 : OkW ((setN 3 (if c < S.2.2.2 3 then c else S.2.2.2 3) (setN 1 c S)).2.2.2 2) := by simp only [setN]; rw [upd_n (by decide), upd_n (by decide)]; exact hw
      obtain ⟨hokc, hGl⟩ := evRun_ok (stop := stopL) (but := -1) (d := d) 60 b _ ok1 (by omega)
      have hdone := evRun_done (stop := stopL) (but := -1) (d := d) JC JC_1 JC_2 60 b _ ok1 hw1 (by simp only [JC, setN]; rw [upd_n (by decide), upd_s]; exact hp') (by omega) ok1.1.2.2.1
      refine ⟨⟨Ok.up hokc (by omega), ?_, ?_⟩, hGl, ?_⟩
      · show OkW ((capS c d S).1.2.2.2 2)
        rw [capS, evRun_way]; exact hw1
      · have : stopL (capS c d S).1 = true := hdone
        simpa [stopL] using this
      · show (capS c d S).1.2.2.2 5 = _
        rw [capS, evRun_sc 5 (by decide) (by decide)]; simp only [setN]; rw [upd_n (by decide), upd_n (by decide)]
end Ok2s
section MRest
variable {F b o m : Nat} {S : SS} {w went t : Nat → Int32} {E : List Ev} {came sil : Int32}
theorem m_gets (h : RM S w o) (ok : Ok b S) (hF : 1000 ≤ F) (hEl : E.length + 100 < 2147480000) (hq : QS sil E t came) (k d : Int32) :
    Tot (X10_gets F k w (nI o) t came d sil) (fun y => y.1 = (fetchS k d S).1 ∧ RM (fetchS k d S).2.1 y.2.1 o ∧ FrO w y.2.1 o ∧ QS sil (E ++ (fetchS k d S).2.2) y.2.2.1 y.2.2.2) := by
  have ho := h.ho
  have hF1 : 100 ≤ F := by omega
  rw [X10_gets]
  refine tot_b (h.find ok hF1 k) (fun r hr => ?_)
  cases hf : fnd k S.1 with
  | none =>
    rw [hf] at hr
    obtain ⟨L, p, hE, hi⟩ := hr
    rcases hi with ⟨rfl, _⟩ | ⟨i, hi, rfl, he⟩
    · rw [if_pos rfl, fetchS, hf, if_pos (show (none : Option En).isNone = true from rfl)]
      simp (disch := omega) only [nI_add, pn_add, pn_addl, pn_mul, pn_cl, pn_nlt0, false_or, pn_ge, pn_le, Nat.add_zero, Nat.zero_add, ↓reduceIte, Option.bind_some, nI_leI, nI_ltI, nI_eq, pn_ne1, pn_1ne]
      refine tot_b (m_tells hq (by omega) 5 k 0 0 d) (fun ⟨t', c'⟩ hq' => tot_s ⟨rfl, ?_, ?_, hq'⟩)
      · have := (h.set 9 (S.2.2.2 9 + 1) (by omega) (by omega)).1
        rw [h.2.2.2 9 (by omega) (by omega)]; exact this
      · exact (h.set 9 _ (by omega) (by omega)).2
    · cases he
  | some e =>
    rw [hf] at hr
    obtain ⟨L, p, hE, hi⟩ := hr
    have hlen := hE.2.1
    rcases hi with ⟨_, hi⟩ | ⟨i, hi, rfl, he⟩
    · cases hi
    obtain ⟨heM, heK⟩ := fnd_some hf
    rw [if_neg (by simp (disch := omega) only [nI_add, pn_add, pn_addl, pn_mul, pn_cl, pn_nlt0, false_or, pn_ge, pn_le, Nat.add_zero, Nat.zero_add, ↓reduceIte, Option.bind_some, nI_leI, nI_ltI, nI_eq, pn_ne1, pn_1ne]; simp), fetchS, hf, if_neg (show ¬ (some e).isNone = true by simp)]
    simp (disch := omega) only [nI_add, pn_add, pn_addl, pn_mul, pn_cl, pn_nlt0, false_or, pn_ge, pn_le, Nat.add_zero, Nat.zero_add, ↓reduceIte, Option.bind_some, nI_leI, nI_ltI, nI_eq, pn_ne1, pn_1ne]
    rw [h.2.2.2 8 (by omega) (by omega)]
    obtain ⟨s1, s2⟩ := h.set 8 (S.2.2.2 8 + 1) (by omega) (by omega)
    have := RM.use (F := F) (e := e) (r := nI i) s1 (by simpa [setN] using ok.1.1) (by simpa [setN, upd] using ok.age) hF1 ⟨L, p, EM.same hE (upd_n (by omega)) (fun q _ _ => upd_n (by omega)), Or.inr ⟨i, hi, rfl, he⟩⟩
    refine tot_b this (fun w' ⟨k1, k2⟩ => tot_s ⟨rfl, ?_, s2.trans k2, by simpa using hq⟩)
    rw [heK] at k1
    obtain ⟨c1, c2, c3, c4⟩ := k1
    refine ⟨?_, c2, c3, fun q q1 q2 => ?_⟩
    · simpa [setN, useS, upd] using c1
    · show w' (o + q) = _
      rw [c4 q q1 q2]
      simp only [setN, useS]
      by_cases c8 : q = 8
      · subst c8; simp [upd]
      · by_cases c15 : q = 15
        · subst c15; simp [upd]
        · by_cases c4' : q = 4
          · subst c4'; simp [upd]
          · simp [upd, c8, c15, c4']
theorem m_goesS {i : Nat} {L : List En} {e : En} (h : RM S w o) (hF : 1000 ≤ F) (ok : Ok b S) (p : L.Perm S.1) (hE : EM L w o) (hi : i < L.length) (he : L[i] = e) : Tot (X10_goes F (nI i) w (nI o)) (fun w' => RM (withE (delK (eK e) S.1) S) w' o ∧ FrO w w' o) := by
  have ho := h.ho
  have okL := ok.1.perm p
  obtain ⟨_, hy, hz, hN⟩ := h
  refine tot_m (m_goes hE okL.1 hi hF) (fun u ⟨e1, fu⟩ => ⟨⟨⟨_, ?_, e1⟩, ?_, ?_, fun q q1 q2 => ?_⟩, fun q hq => fu q (by omega) (by omega)⟩)
  · have hp : (L[i] :: L.eraseIdx i).Perm L := by
      have h1 := List.eraseIdx_eq_take_drop_succ L i
      rw [h1]
      have e2 : L = L.take i ++ (L[i] :: L.drop (i + 1)) := by simp
      refine (List.perm_middle.symm).trans ?_
      rw [← e2]
    have hp2 := delK_of okL.1 hp
    rw [he] at hp2
    exact hp2.trans (delK_perm p)
  · exact GM.same hy (fu _ (by omega) (by omega)) (fun q _ _ => fu q (by omega) (by omega))
  · exact GM.same hz (fu _ (by omega) (by omega)) (fun q _ _ => fu q (by omega) (by omega))
  · rw [fu _ (by omega) (by omega)]; exact hN q q1 q2
theorem m_removes (h : RM S w o) (ok : Ok b S) (hF : 1000 ≤ F) (hEl : E.length + 100 < 2147480000) (hq : QS sil E t came) (k d : Int32) :
    Tot (X10_removes F k w (nI o) t came d sil) (fun y => y.1 = bi (fnd k S.1).isSome ∧ RM (takeS k d S).2.1 y.2.1 o ∧ FrO w y.2.1 o ∧ QS sil (E ++ (takeS k d S).2.2) y.2.2.1 y.2.2.2) := by
  have ho := h.ho
  have hF1 : 100 ≤ F := by omega
  rw [X10_removes]
  refine tot_b (h.find ok hF1 k) (fun r hr => ?_)
  cases hf : fnd k S.1 with
  | none =>
    rw [hf] at hr
    obtain ⟨L, p, hE, hi⟩ := hr
    rcases hi with ⟨rfl, _⟩ | ⟨i, hi, rfl, he⟩
    · rw [if_pos rfl, takeS, hf]
      exact tot_s ⟨rfl, h, FrO.rfl', by simpa using hq⟩
    · cases he
  | some e =>
    rw [hf] at hr
    obtain ⟨L, p, hE, hi⟩ := hr
    have hlen := hE.2.1
    rcases hi with ⟨_, hi⟩ | ⟨i, hi, rfl, he⟩
    · cases hi
    obtain ⟨heM, heK⟩ := fnd_some hf
    have hle : L[i] = e := by simpa using he.symm
    rw [if_neg (by simp (disch := omega) only [nI_add, pn_add, pn_addl, pn_mul, pn_cl, pn_nlt0, false_or, pn_ge, pn_le, Nat.add_zero, Nat.zero_add, ↓reduceIte, Option.bind_some, nI_leI, nI_ltI, nI_eq, pn_ne1, pn_1ne]; simp), takeS, hf]
    simp (disch := omega) only [m_of1 hE hi, m_of2 hE hi, Option.bind_some]
    refine tot_b (m_tells hq (by omega) 4 k (eV L[i]) (eW L[i]) d) (fun ⟨t', c'⟩ hq' => ?_)
    refine tot_b (m_goesS h hF ok p hE hi hle) (fun w' ⟨k1, k2⟩ => tot_s ⟨rfl, ?_, k2, ?_⟩)
    · rw [heK] at k1; exact k1
    · rw [hle] at hq'; exact hq'
theorem m_pins (h : RM S w o) (ok : Ok b S) (hF : 100 ≤ F) (k p : Int32) :
    Tot (X10_pins F k p w (nI o)) (fun y => y.1 = (if (fnd k S.1).isNone then 0 else (fastS k p S).1) ∧ RM (fastS k p S).2 y.2 o ∧ FrO w y.2 o) := by
  have ho := h.ho
  rw [X10_pins]
  refine tot_b (h.find ok hF k) (fun r hr => ?_)
  cases hf : fnd k S.1 with
  | none =>
    rw [hf] at hr
    obtain ⟨L, pp, hE, hi⟩ := hr
    rcases hi with ⟨rfl, _⟩ | ⟨i, hi, rfl, he⟩
    · rw [if_pos rfl, fastS, hf]
      exact tot_s ⟨rfl, h, FrO.rfl'⟩
    · cases he
  | some e =>
    rw [hf] at hr
    obtain ⟨L, pp, hE, hi⟩ := hr
    have hlen := hE.2.1
    rcases hi with ⟨_, hi⟩ | ⟨i, hi, rfl, he⟩
    · cases hi
    obtain ⟨heM, heK⟩ := fnd_some hf
    have hle : L[i] = e := by simpa using he.symm
    have okL := ok.1.perm pp
    have hrow := hE.2.2.2 i hi
    rw [if_neg (by simp (disch := omega) only [nI_add, pn_add, pn_addl, pn_mul, pn_cl, pn_nlt0, false_or, pn_ge, pn_le, Nat.add_zero, Nat.zero_add, ↓reduceIte, Option.bind_some, nI_leI, nI_ltI, nI_eq, pn_ne1, pn_1ne]; simp), fastS, hf, m_of6 hE hi]
    simp only [Option.bind_some, hle, Option.isNone_some, Bool.false_eq_true, if_false]
    obtain ⟨_, hy, hz, hN⟩ := id h
    have hset : L.set i (pinE p L[i]) = modK k (pinE p) L := set_modK okL.1 hi (by rw [hle]; exact heK) _
    by_cases c : eP e = p
    · rw [if_pos c, if_pos c]
      refine tot_s ⟨rfl, ⟨⟨L, ?_, hE⟩, hy, hz, hN⟩, FrO.rfl'⟩
      have : modK k (pinE p) L = L := by
        rw [← hset, show pinE p L[i] = L[i] by rw [hle, ← c]; rfl, List.set_getElem_self]
      have h2 := modK_perm (k := k) (f := pinE p) pp
      rw [this] at h2; exact h2
    · rw [if_neg c, if_neg c, show ((6 : Int32)) = nI 6 from rfl]
      simp (disch := omega) only [m_sets, Option.bind_some]
      refine tot_s ⟨rfl, ⟨⟨_, modK_perm pp, ?_⟩, GM.same hy (upd_n (by omega)) (fun q _ _ => upd_n (by omega)), GM.same hz (upd_n (by omega)) (fun q _ _ => upd_n (by omega)), fun q q1 q2 => ?_⟩, fun q hq => upd_n (by omega)⟩
      · have hs := EM.set (w' := upd w (o + 24 + 7 * i + 6) p) hE hi (upd_n (by omega)) (fun q _ _ _ => upd_n (by omega))
        rw [show rowAt (upd w (o + 24 + 7 * i + 6) p) (o + 24 + 7 * i) = pinE p L[i] by
          rw [hrow]; simp (disch := omega) only [rowAt, upd_s, upd_n, pinE], hset] at hs
        exact hs
      · show upd w (o + 24 + 7 * i + 6) p (o + q) = _
        rw [upd_n (by omega)]; exact hN q q1 q2
theorem m_caps (h : RM S w o) (ok : Ok b S) (hw4 : OkW (S.2.2.2 2)) (hF : 1000 ≤ F) (hb : b + 200 < 2147483648) (hm : m + 60 < 2147483647) (hEl : E.length + 100 < 2147480000) (hq : QS sil E t came) {c d : Int32} (hc : isCapB c = true) :
    Tot (X10_caps F c w (nI o) went (nI m) t came d sil) (fun y => y.1 = nI (capS c d S).2.length ∧ RM (capS c d S).1 y.2.1 o ∧ FrO w y.2.1 o ∧ WNT went m (capS c d S).2 y.2.2.1 ∧ y.2.2.2.1 = nI (m + (capS c d S).2.length) ∧ QS sil (E ++ (capS c d S).2) y.2.2.2.2.1 y.2.2.2.2.2) := by
  have ho := h.ho
  have ok1 := cap_ok0 ok hc
  have h3 := h.2.2.2 3 (by omega) (by omega)
  obtain ⟨_, _, _, o1, o2, o3, o4, o5, _⟩ := id ok
  simp only [isCapB, Bool.and_eq_true, decide_eq_true_eq, i32_le] at hc
  have e0 : (0 : Int32).toInt = 0 := by decide
  rw [X10_caps]
  simp (disch := omega) only [nI_add, pn_add, pn_addl, pn_mul, pn_cl, pn_nlt0, false_or, pn_ge, pn_le, Nat.add_zero, Nat.zero_add, ↓reduceIte, Option.bind_some, nI_leI, nI_ltI, nI_eq, pn_ne1, pn_1ne, upd_n, near_eq, h3]
  rw [if_pos (show 0 ≤ S.2.2.2 3 by rw [i32_le]; omega)]
  have ev : (if c ≤ S.2.2.2 3 then c else S.2.2.2 3) = (if c < S.2.2.2 3 then c else S.2.2.2 3) := by
    by_cases c1 : c < S.2.2.2 3
    · rw [if_pos c1, if_pos (by rw [i32_lt] at c1; rw [i32_le]; omega)]
    · rw [if_neg c1]
      by_cases c2 : c ≤ S.2.2.2 3
      · rw [if_pos c2]; rw [i32_lt] at c1; rw [i32_le] at c2; exact i32_eq.2 (by omega)
      · rw [if_neg c2]
  rw [ev]
  obtain ⟨s1, s2⟩ := h.set 1 c (by omega) (by omega)
  obtain ⟨s3, s4⟩ := s1.set 3 (if c < S.2.2.2 3 then c else S.2.2.2 3) (by omega) (by omega)
  have hw1 : OkW ((setN 3 (if c < S.2.2.2 3 then c else S.2.2.2 3) (setN 1 c S)).2.2.2 2) := by simp only [setN]; rw [upd_n (by decide), upd_n (by decide)]; exact hw4
  have hrun := m_L40 (F := F) (o := o) (sil := sil) hF c d F 60 b m 0 _ E _ went t came ok1.1.2.2.1 (by omega) (by omega) (by omega) (by omega) (by omega) s3 ok1 hw1 (by simp only [setN]; rw [upd_n (by decide), upd_s]) hq
  refine tot_b hrun (fun y hy => ?_)
  obtain ⟨y1, y2, y3, y4, y5, y6⟩ := y
  obtain ⟨g0, g1, g2, g3, g4, g5⟩ := hy
  refine tot_s ⟨?_, g1, (s2.trans s4).trans g2, g3, g4, g5⟩
  rw [Int32.zero_add] at g0; exact g0
end MRest
