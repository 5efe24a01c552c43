/-! the reference: put, get, remove, pin, resize -/
theorem EM.snoc {L : List En} {w w' : Nat → Int32} {o : Nat} (h : EM L w o) (hl : L.length < 60) (h0 : w' o = nI (L.length + 1)) (hr : ∀ q, o + 24 ≤ q → q < o + 24 + 7 * L.length → w' q = w q) : EM (L ++ [rowAt w' (o + 24 + 7 * L.length)]) w' o := by
  obtain ⟨a, b, c, d⟩ := h
  refine ⟨by rw [h0]; simp, by simp; omega, c, fun i hi => ?_⟩
  simp only [List.length_append, List.length_singleton] at hi
  by_cases e : i < L.length
  · rw [List.getElem_append_left e, d i e]
    simp only [rowAt]
    rw [hr (o + 24 + 7 * i) (by omega) (by omega), hr (o + 24 + 7 * i + 1) (by omega) (by omega), hr (o + 24 + 7 * i + 2) (by omega) (by omega), hr (o + 24 + 7 * i + 3) (by omega) (by omega), hr (o + 24 + 7 * i + 4) (by omega) (by omega), hr (o + 24 + 7 * i + 5) (by omega) (by omega), hr (o + 24 + 7 * i + 6) (by omega) (by omega)]
  · have e2 : i = L.length := by omega
    subst e2; simp
theorem useL_new {L : List En} {k v wt x t u a : Int32} : useL (L ++ [(k, v, wt, 0, x, t, 0)]) k u a = useL (L ++ [newE k v wt t]) k u a := by
  have : modK k (usedE (u + 1)) (L ++ [(k, v, wt, 0, x, t, 0)]) = modK k (usedE (u + 1)) (L ++ [newE k v wt t]) := by
    simp [modK, newE, usedE]
  rw [useL, useL, this]
section MPuts
variable {F b o m : Nat} {S : SS} {w went t : Nat → Int32} {E : List Ev} {r came sil : Int32} {e : En}
theorem rej_JT {k wt : Int32} (hr : rejS k wt S = false) (hf : fnd k S.1 = none) : JT k wt S := by
  simp only [rejS, hf, Bool.or_eq_false_iff, Bool.not_eq_false', decide_eq_true_eq, Option.isNone_none, Bool.true_and, Bool.and_eq_false_iff, decide_eq_false_iff_not] at hr
  refine ⟨hr.1, fnd_none.1 hf, fun hl => ?_⟩
  rcases hr.2 with h | h
  · exact absurd hl h
  · rw [Bool.eq_false_iff] at h
    apply Classical.byContradiction
    intro hx
    apply h
    rw [List.all_eq_true]
    intro e he
    simp only [Bool.not_eq_true', decide_eq_false_iff_not]
    exact fun h0 => hx ⟨e, he, h0⟩
theorem learn_JT {k wt : Int32} (h : JT k wt S) : JT k wt (learnS k wt S) := by
  rw [JT, learnS_1, learnS_sc k wt S (by decide)]; exact h
theorem room_done {k wt d : Int32} (ok : Ok b S) (hw : OkW (S.2.2.2 2)) (hb : b + 60 < 2147483648) (w1 : 1 ≤ wt.toInt) (w2 : wt.toInt ≤ 99) (hr : rejS k wt S = false) (hf : fnd k S.1 = none) : stopT wt (roomS k wt d S).1 = true :=
  evRun_done (JT k wt) JT_1 JT_2 60 b _ (learnS_ok ok w1 w2) (by rw [learnS_sc k wt S (by decide)]; exact hw) (learn_JT (rej_JT hr hf)) hb (by rw [learnS_1]; exact ok.1.2.2.1)
theorem chg_JL {k v wt tl : Int32} (ok : Ok b S) (hr : rejS k wt S = false) (hf : fnd k S.1 = some e) : JL k wt (withE (modK k (chgE v wt tl) S.1) (learnS k wt S)) := by
  obtain ⟨heM, heK⟩ := fnd_some hf
  simp only [rejS, Bool.or_eq_false_iff, Bool.not_eq_false', decide_eq_true_eq] at hr
  refine ⟨?_, chgE v wt tl e, ?_, heK, rfl⟩
  · show wt + sumBy (pinW k) (modK k (chgE v wt tl) S.1) ≤ (learnS k wt S).2.2.2 1
    rw [learnS_sc k wt S (by decide)]
    have : sumBy (pinW k) (modK k (chgE v wt tl) S.1) = sumBy (pinW k) S.1 := by
      rw [modK, sumBy_map]
      refine sumBy_congr (fun x hx => ?_)
      by_cases c : eK x = k
      · simp only [c, if_true]
        simp [pinW, chgE, c]
      · simp only [c, if_false]
    rw [this]; exact hr.1
  · show chgE v wt tl e ∈ modK k (chgE v wt tl) S.1
    rw [modK, List.mem_map]
    exact ⟨e, heM, by rw [if_pos heK]⟩
theorem m_puts (h : RM S w o) (ok : Ok b S) (hw4 : OkW (S.2.2.2 2)) (hF : 1000 ≤ F) (hb : b + 200 < 2147483648) (hm : m + 60 < 2147483647) (hEl : E.length + 100 < 2147480000) (hq : QS sil E t came) {k v wt tl d : Int32} (ha : ArgP k v wt tl (S.2.2.2 5)) :
    Tot (X10_puts F k v wt tl w (nI o) went (nI m) t came d sil) (fun y => y.1 = (bringS k v wt tl d S).1 ∧ RM (bringS k v wt tl d S).2.1 y.2.1 o ∧ FrO w y.2.1 o ∧ (∃ m', y.2.2.2.1 = nI m' ∧ m' ≤ m + 60) ∧ QS sil (E ++ (bringS k v wt tl d S).2.2) y.2.2.2.2.1 y.2.2.2.2.2
      ∧ (rejS k wt S = true ∨ ∃ G, WNT went m G y.2.2.1 ∧ y.2.2.2.1 = nI (m + G.length) ∧ G = if (fnd k S.1).isNone then (roomS k wt d S).2 else (chgS k v wt tl d S).2)
      ∧ (rejS k wt S = true → y.2.2.1 = went ∧ y.2.2.2.1 = nI m)) := by
  have ho := h.ho
  have hF1 : 100 ≤ F := by omega
  have h60 := ok.1.2.2.1
  rw [X10_puts, m_isRejected h ok hF1 k wt]
  simp only [Option.bind_some]
  cases hj : rejS k wt S with
  | true =>
    rw [if_neg (show ¬ bi true = 0 by decide), bringS, hj, if_pos rfl]
    simp (disch := omega) only [nI_add, pn_add, pn_addl, pn_mul, pn_cl, pn_nlt0, false_or, pn_ge, pn_le, Nat.add_zero, Nat.zero_add, ↓reduceIte, Option.bind_some, nI_leI, nI_ltI, nI_eq, pn_ne1, pn_1ne]
    refine tot_b (m_tells hq (by omega) 6 k 0 wt d) (fun ⟨t', c'⟩ hq' => tot_s ⟨rfl, ?_, ?_, ⟨m, rfl, by omega⟩, hq', Or.inl trivial, fun _ => ⟨rfl, rfl⟩⟩)
    · have := (h.set 12 (S.2.2.2 12 + 1) (by omega) (by omega)).1
      rw [h.2.2.2 12 (by omega) (by omega)]; exact this
    · exact (h.set 12 _ (by omega) (by omega)).2
  | false =>
    rw [if_pos (show bi false = 0 from rfl), bringS, hj, if_neg (show ¬ false = true by decide)]
    refine tot_b (m_learns h ok hF1 k wt ha.2.2.1 ha.2.2.2.1) (fun w1 ⟨hR1, f1⟩ => ?_)
    have ok1 := learnS_ok (k := k) ok ha.2.2.1 ha.2.2.2.1
    have hwl : OkW ((learnS k wt S).2.2.2 2) := by rw [learnS_sc k wt S (by decide)]; exact hw4
    have hfi := hR1.find ok1 hF1 k
    rw [learnS_1] at hfi
    refine tot_b hfi (fun r hr => ?_)
    cases hf : fnd k S.1 with
    | none =>
      rw [hf] at hr
      obtain ⟨L0, p0, hE0, hi0⟩ := hr
      rcases hi0 with ⟨rfl, _⟩ | ⟨i, hi, rfl, he⟩
      · rw [if_pos rfl, if_pos (show (none : Option En).isNone = true from rfl)]
        have hnk := fnd_none.1 hf
        have hrun := m_room (F := F) (o := o) (sil := sil) (went := went) hF k v wt tl d (JT k wt) JT_1 JT_2 (by omega) hm (by omega) hR1 ok1 hwl (learn_JT (rej_JT hj hf)) hq
        rw [show evRun (stopT wt) k d 60 (learnS k wt S) = roomS k wt d S from rfl] at hrun
        obtain ⟨y, hy, g1, g2, g3, g4, g5, g6⟩ := hrun
        obtain ⟨⟨a1, a2, a3, a4, a5⟩, hA, hB⟩ := bd_s hy
        refine tot_e hA ?_
        simp only at hB ⊢
        refine tot_e hB ?_
        obtain ⟨y1, y2, y3, y4, y5⟩ := y
        simp only at g1 g2 g3 g4 g5 ⊢
        subst g4
        have hl60 : (roomS k wt d S).1.1.length < 60 := by
          simp only [stopT, Bool.and_eq_true, decide_eq_true_eq] at g6; exact g6.1
        obtain ⟨hok, hGl⟩ := room_len (k := k) (d := d) ok (by omega) ha.2.2.1 ha.2.2.2.1
        have hkeys := room_keys (wt := wt) (d := d) hnk
        obtain ⟨⟨L, p, hE⟩, hgy, hgz, hN⟩ := g1
        have hlL : L.length < 60 := by rw [p.length_eq]; exact hl60
        have hy0 := hE.1
        simp (disch := omega) only [nI_add, pn_add, pn_addl, pn_mul, pn_cl, pn_nlt0, false_or, pn_ge, pn_le, Nat.add_zero, Nat.zero_add, ↓reduceIte, Option.bind_some, nI_leI, nI_ltI, nI_eq, pn_ne1, pn_1ne, hy0]
        rw [show ((0 : Int32)) = nI 0 from rfl, show ((3 : Int32)) = nI 3 from rfl, show ((6 : Int32)) = nI 6 from rfl]
        simp (disch := omega) only [m_sets, tellsAll_eq, Option.bind_some, Nat.add_zero]
        refine tot_b (m_tells g5 (by simp; omega) (nI 0) k v wt d) (fun ⟨t', c'⟩ hq' => ?_)
        simp only
        generalize hx : upd (upd (upd (upd (upd (upd (upd y1 o (nI (L.length + 1))) (o + 24 + 7 * L.length) k) (o + 24 + 7 * L.length + 1) v) (o + 24 + 7 * L.length + 2) wt) (o + 24 + 7 * L.length + 5) tl) (o + 24 + 7 * L.length + 3) (nI 0)) (o + 24 + 7 * L.length + 6) (nI 0) = x
        have fx : ∀ q, q ≠ o → (q < o + 24 + 7 * L.length ∨ o + 24 + 7 * L.length + 7 ≤ q) → x q = y1 q := by
          intro q q1 q2
          rw [← hx, upd_n (by omega), upd_n (by omega), upd_n (by omega), upd_n (by omega), upd_n (by omega), upd_n (by omega), upd_n (by omega)]
        have hEx := EM.snoc (w' := x) hE hlL (by rw [← hx, upd_n (by omega), upd_n (by omega), upd_n (by omega), upd_n (by omega), upd_n (by omega), upd_n (by omega), upd_s]) (fun q q1 q2 => fx q (by omega) (by omega))
        have hrow : rowAt x (o + 24 + 7 * L.length) = (k, v, wt, 0, y1 (o + 24 + 7 * L.length + 4), tl, 0) := by
          rw [← hx]
          simp (disch := omega) only [rowAt, upd_s, upd_n]
          rfl
        rw [hrow] at hEx
        have hndM : ((L ++ [(k, v, wt, 0, y1 (o + 24 + 7 * L.length + 4), tl, 0)]).map eK).Nodup := by
          have := new_nodup (v := v) (wt := wt) (t := tl) ((p.map eK).nodup_iff.2 hok.1.1) (fun e he => hkeys e (p.mem_iff.1 he))
          rw [List.map_append] at this ⊢
          exact this
        refine tot_b (m_find hEx hF1 k) (fun r2 hr2 => ?_)
        rw [fnd_eq (e := (k, v, wt, 0, y1 (o + 24 + 7 * L.length + 4), tl, 0)) hndM (by simp) rfl] at hr2
        rcases hr2 with ⟨_, hr2⟩ | ⟨i, hi, rfl, he⟩
        · cases hr2
        have hki : eK (L ++ [(k, v, wt, 0, y1 (o + 24 + 7 * L.length + 4), tl, 0)])[i] = k := by
          simp only [Option.some.injEq] at he; rw [← he]
        have hup := RM.useG (F := F) (S := withE ((roomS k wt d S).1.1 ++ [newE k v wt tl]) (roomS k wt d S).1) hEx hndM hi hki (by
          rw [useL_new]; exact useL_perm (p.append_right _))
          (GM.same hgy (fx _ (by omega) (by omega)) (fun q _ _ => fx q (by omega) (by omega)))
          (GM.same hgz (fx _ (by omega) (by omega)) (fun q _ _ => fx q (by omega) (by omega)))
          (fun q q1 q2 => by rw [fx _ (by omega) (by omega)]; exact hN q q1 q2) hok.age hF1
        refine tot_b hup (fun w2 ⟨k1, k2⟩ => ?_)
        rw [show X10_flag F 1 = some 1 from rfl]
        refine tot_s ⟨rfl, k1, fun q hq2 => ?_, ⟨_, rfl, by omega⟩, ?_, Or.inr ⟨_, g3, rfl, ?_⟩, fun hx => by cases hx⟩
        · show w2 q = w q
          rw [k2 q hq2, fx q (by omega) (by omega), g2 q hq2, f1 q hq2]
        · rw [← List.append_assoc]; exact hq'
        · rw [if_pos (by rfl)]
      · cases he
    | some e =>
      rw [hf] at hr
      obtain ⟨L, p, hE, hi⟩ := hr
      rcases hi with ⟨_, hi⟩ | ⟨i, hi, rfl, he⟩
      · cases hi
      have hlen := hE.2.1
      have hle : L[i] = e := by simpa using he.symm
      obtain ⟨heM, heK⟩ := fnd_some hf
      have okL := ok.1.perm p
      rw [if_neg (by simp (disch := omega) only [nI_add, pn_add, pn_addl, pn_mul, pn_cl, pn_nlt0, false_or, pn_ge, pn_le, Nat.add_zero, Nat.zero_add, ↓reduceIte, Option.bind_some, nI_leI, nI_ltI, nI_eq, pn_ne1, pn_1ne]; simp), if_neg (by simp)]
      have hfi2 := hR1.find ok1 hF1 k
      rw [learnS_1, hf] at hfi2
      refine tot_b hfi2 (fun r2 hr2 => ?_)
      obtain ⟨M, pM, hEM, hiM⟩ := hr2
      rcases hiM with ⟨_, hiM⟩ | ⟨j, hj2, rfl, he2⟩
      · cases hiM
      have hlenM := hEM.2.1
      have hleM : M[j] = e := by simpa using he2.symm
      have okM := ok.1.perm pM
      simp (disch := omega) only [tellsAll_eq, Option.bind_some]
      generalize hx : upd (upd (upd w1 (o + 24 + 7 * j + 1) v) (o + 24 + 7 * j + 2) wt) (o + 24 + 7 * j + 5) tl = x
      have fx : ∀ q, (q < o + 24 + 7 * j ∨ o + 24 + 7 * j + 7 ≤ q) → x q = w1 q := by
        intro q q2
        rw [← hx, upd_n (by omega), upd_n (by omega), upd_n (by omega)]
      have hrow := hEM.2.2.2 j hj2
      have hEx : EM (modK k (chgE v wt tl) M) x o := by
        have hs := EM.set (w' := x) hEM hj2 (fx _ (by omega)) (fun q _ _ q3 => fx q q3)
        rw [show rowAt x (o + 24 + 7 * j) = chgE v wt tl M[j] by
          rw [← hx, hrow]; simp (disch := omega) only [rowAt, upd_s, upd_n, chgE], set_modK (k := k) okM.1 hj2 (by rw [hleM]; exact heK)] at hs
        exact hs
      have hRx : RM (withE (modK k (chgE v wt tl) S.1) (learnS k wt S)) x o := by
        obtain ⟨_, gy, gz, hN⟩ := hR1
        exact ⟨⟨_, modK_perm pM, hEx⟩, GM.same gy (fx _ (by omega)) (fun q _ _ => fx q (by omega)), GM.same gz (fx _ (by omega)) (fun q _ _ => fx q (by omega)), fun q q1 q2 => by rw [fx _ (by omega)]; exact hN q q1 q2⟩
      have okc := chg_ok (v := v) ok ha
      have hlc : (withE (modK k (chgE v wt tl) S.1) (learnS k wt S)).1.length ≤ 60 := okc.1.2.2.1
      have hrun := m_L101 (F := F) (o := o) (sil := sil) hF k v wt tl d (v5 := 0) (a := 0) (Or.inl ⟨rfl, rfl⟩) (JL k wt) JL_1 JL_2 F 60 b m _ E x went t came hlc (by omega) (by omega) (by omega) (by omega) (by omega) hRx okc hwl (chg_JL ok hj hf) hq
      rw [stopW_0] at hrun
      rw [show evRun stopL k d 60 (withE (modK k (chgE v wt tl) S.1) (learnS k wt S)) = chgS k v wt tl d S from rfl] at hrun
      refine tot_b hrun (fun y hy => ?_)
      obtain ⟨y1, y2, y3, y4, y5⟩ := y
      obtain ⟨g1, g2, g3, g4, g5, g6⟩ := hy
      simp only at g1 g2 g3 g4 g5 ⊢
      subst g4
      obtain ⟨hokc, hGl⟩ := evRun_ok (stop := stopL) (but := k) (d := d) 60 b _ okc (by omega)
      have hokc' : Ok (b + 60) (chgS k v wt tl d S).1 := hokc
      have hGl' : (chgS k v wt tl d S).2.length ≤ 60 := hGl
      refine tot_b (m_tells g5 (by simp; omega) 1 k v wt d) (fun ⟨t', c'⟩ hq' => ?_)
      simp only
      have hmem : chgE v wt tl e ∈ (chgS k v wt tl d S).1.1 := by
        refine evRun_keep (e0 := chgE v wt tl e) (but := k) heK 60 b _ okc (by omega) ?_
        show chgE v wt tl e ∈ modK k (chgE v wt tl) S.1
        rw [modK, List.mem_map]
        exact ⟨e, heM, by rw [if_pos heK]⟩
      have hfnd : fnd k (chgS k v wt tl d S).1.1 = some (chgE v wt tl e) := fnd_eq hokc'.1.1 hmem heK
      refine tot_b (g1.find hokc' hF1 k) (fun r2 hr2 => ?_)
      rw [hfnd] at hr2
      refine tot_b (RM.use g1 hokc'.1.1 hokc'.age hF1 hr2) (fun w2 ⟨k1, k2⟩ => ?_)
      rw [show X10_flag F 0 = some 0 from rfl]
      rw [show eK (chgE v wt tl e) = k from heK] at k1
      refine tot_s ⟨rfl, k1, fun q hq2 => ?_, ⟨_, rfl, by omega⟩, ?_, Or.inr ⟨_, g3, rfl, ?_⟩, fun hx => by cases hx⟩
      · show w2 q = w q
        rw [k2 q hq2, g2 q hq2, fx q (by omega), f1 q hq2]
      · rw [← List.append_assoc]; exact hq'
      · rw [if_neg (by simp)]
end MPuts
