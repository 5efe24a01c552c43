/-! the reference: one goes -/
section MEvict
variable {F b : Nat} {S : SS} {w went t : Nat → Int32} {o m : Nat} {E : List Ev} {e : En} {r came sil : Int32}
theorem m_isGhost {gy gz : List Int32} (hy : GM 0 gy w o) (hz : GM 1 gz w o) (ny : gy.Nodup) (nz : gz.Nodup) (hF : 100 ≤ F) (yg : Bool) (k : Int32) :
    Tot (X10_isGhost F (if yg then 0 else 1) k w (nI o)) (fun w' => GM 0 (if yg then addG k (delG k gy) else delG k gy) w' o ∧ GM 1 (if yg then delG k gz else addG k (delG k gz)) w' o ∧ ∀ q, q ≠ o + 19 → q ≠ o + 20 → (q < o + 444 ∨ o + 476 ≤ q) → w' q = w q) := by
  rw [X10_isGhost]
  refine tot_b (m_noGhost (s := 0) hy ny hF k) (fun w1 ⟨y1, f1⟩ => ?_)
  refine tot_b (m_noGhost (s := 1) (GM.same hz (f1 _ (by omega) (by omega)) (fun q _ _ => f1 q (by omega) (by omega))) nz hF k) (fun w2 ⟨z1, f2⟩ => ?_)
  have y2 : GM 0 (delG k gy) w2 o := GM.same y1 (f2 _ (by omega) (by omega)) (fun q _ _ => f2 q (by omega) (by omega))
  have ho := hy.2.1
  have key : ∀ (s : Nat) (g : List Int32), GM s g w2 o → Tot (if nI o + 19 + nI s < 0 ∨ 3392 ≤ (nI o + 19 + nI s).toNatClampNeg then none else (X10_lesser F 16 (w2 (nI o + 19 + nI s).toNatClampNeg + 1)).bind fun r5 => if nI o + 19 + nI s < 0 ∨ 3392 ≤ (nI o + 19 + nI s).toNatClampNeg then none else if nI o + 19 + nI s < 0 ∨ 3392 ≤ (nI o + 19 + nI s).toNatClampNeg then none else (X10_isGhost_L64 F F (nI s) k (upd w2 (nI o + 19 + nI s).toNatClampNeg r5 (nI o + 19 + nI s).toNatClampNeg - 1) (upd w2 (nI o + 19 + nI s).toNatClampNeg r5) (nI o)).bind fun k14 => (X10_ghostAt F (nI s) 0 (nI o)).bind fun r16 => if r16 < 0 ∨ 3392 ≤ r16.toNatClampNeg then none else some (upd k14 r16.toNatClampNeg k)) (fun w' => GM s (addG k g) w' o ∧ ∀ q, q ≠ o + 19 + s → (q < o + 444 + 16 * s ∨ o + 444 + 16 * s + 16 ≤ q) → w' q = w2 q) := by
    intro s g hg
    obtain ⟨hs, _, h0, h1, _⟩ := id hg
    obtain ⟨mm, hm⟩ : ∃ mm, mm + 1 = min 16 (g.length + 1) := ⟨min 16 (g.length + 1) - 1, by omega⟩
    have el : X10_lesser F 16 (nI (g.length + 1)) = some (nI (mm + 1)) := by
      rw [lesser_eq]
      by_cases c : g.length + 1 ≤ 16
      · rw [if_pos (by exact nI_le (b := 16) c (by omega))]; congr 2; omega
      · rw [if_neg (by exact nI_ge (a := 16) (by omega) (by omega))]; rw [show mm + 1 = 16 by omega]; rfl
    rw [X10_ghostAt]
    simp (disch := omega) only [nI_add, pn_add, pn_addl, pn_mul, pn_cl, pn_nlt0, false_or, pn_ge, pn_le, Nat.add_zero, Nat.zero_add, ↓reduceIte, Option.bind_some, nI_leI, nI_ltI, nI_eq, pn_ne1, pn_1ne, h0, el, upd_s, pk_mul, nI_pred]
    refine tot_b (m_front hg hF k hm _ rfl) (fun y ⟨a1, a2⟩ => tot_s ⟨a1, a2⟩)
  cases yg with
  | true =>
    simp only [if_true]
    refine tot_m (key 0 _ y2) (fun w' ⟨a1, a2⟩ => ⟨a1, GM.same z1 (a2 _ (by omega) (by omega)) (fun q _ _ => a2 q (by omega) (by omega)), fun q q1 q2 q3 => ?_⟩)
    rw [a2 q (by omega) (by omega), f2 q (by omega) (by omega), f1 q (by omega) (by omega)]
  | false =>
    simp only [Bool.false_eq_true, if_false]
    refine tot_m (key 1 _ z1) (fun w' ⟨a1, a2⟩ => ⟨GM.same y2 (a2 _ (by omega) (by omega)) (fun q _ _ => a2 q (by omega) (by omega)), a1, fun q q1 q2 q3 => ?_⟩)
    rw [a2 q (by omega) (by omega), f2 q (by omega) (by omega), f1 q (by omega) (by omega)]
theorem RM.find (h : RM S w o) (ok : Ok b S) (hF : 100 ≤ F) (k : Int32) : Tot (X10_entryOf F k w (nI o)) (fun r => IXM S.1 (fnd k S.1) r w o) := by
  obtain ⟨⟨L, p, hE⟩, _⟩ := h
  refine tot_m (m_find hE hF k) (fun r hr => ⟨L, p, hE, ?_⟩)
  rw [fnd_perm (ok.1.perm p).1 p] at hr
  exact hr
theorem RM.choose (h : RM S w o) (ok : Ok b S) (hF : 100 ≤ F) {way : Int32} (hw : OkW way) (but : Int32) : Tot (X10_chosen F way but w (nI o)) (fun r => IXM S.1 (chooseS way but (S.2.2.2 3) (S.2.2.2 16) S.1) r w o) := by
  obtain ⟨⟨L, p, hE⟩, _, _, hN⟩ := h
  have okL := ok.1.perm p
  refine tot_m (m_chosen hE hF hw but okL.C (by rw [hN 16 (by omega) (by omega)]; exact ok.turn)) (fun r hr => ⟨L, p, hE, ?_⟩)
  rw [chooseS_perm okL.2.1 p, hN 3 (by omega) (by omega), hN 16 (by omega) (by omega)] at hr
  exact hr
theorem RM.ho (h : RM S w o) : o + 848 ≤ 3392 := h.2.1.2.1
theorem m_evictsN (h : RM S w o) (ok : Ok b S) (hw4 : OkW (S.2.2.2 2)) (hF : 100 ≤ F) (but d : Int32) (hch : chooseS (S.2.2.2 2) but (S.2.2.2 3) (S.2.2.2 16) S.1 = none) :
    X10_evicts F but w (nI o) went (nI m) t came d sil = some (0, w, went, nI m, t, came) := by
  have ho := h.ho
  rw [X10_evicts]
  simp (disch := omega) only [nI_add, pn_add, pn_addl, pn_mul, pn_cl, pn_nlt0, false_or, pn_ge, pn_le, Nat.add_zero, Nat.zero_add, ↓reduceIte, Option.bind_some, nI_leI, nI_ltI, nI_eq, pn_ne1, pn_1ne]
  rw [h.2.2.2 2 (by omega) (by omega)]
  obtain ⟨r, hr, hx⟩ := h.choose ok hF hw4 but
  rw [hr, hch] at *
  obtain ⟨L, p, hE, hi⟩ := hx
  rcases hi with ⟨rfl, _⟩ | ⟨i, hi, rfl, he⟩
  · rfl
  · cases he
theorem m_evicts (h : RM S w o) (ok : Ok b S) (hw4 : OkW (S.2.2.2 2)) (hF : 1000 ≤ F) (hq : QS sil E t came) (hl : E.length + 1 < 2147480000) (hm : m < 2147483647) (but d : Int32) (hch : chooseS (S.2.2.2 2) but (S.2.2.2 3) (S.2.2.2 16) S.1 = some e) :
    Tot (X10_evicts F but w (nI o) went (nI m) t came d sil) (fun y => y.1 = 1 ∧ RM (evS e S) y.2.1 o ∧ FrO w y.2.1 o ∧ y.2.2.1 = upd went (m % 128) (eK e) ∧ y.2.2.2.1 = nI (m + 1) ∧ QS sil (E ++ [(2, eK e, eV e, eW e, d)]) y.2.2.2.2.1 y.2.2.2.2.2) := by
  have ho := h.ho
  have hF1 : 100 ≤ F := by omega
  rw [X10_evicts]
  simp (disch := omega) only [nI_add, pn_add, pn_addl, pn_mul, pn_cl, pn_nlt0, false_or, pn_ge, pn_le, Nat.add_zero, Nat.zero_add, ↓reduceIte, Option.bind_some, nI_leI, nI_ltI, nI_eq, pn_ne1, pn_1ne]
  rw [h.2.2.2 2 (by omega) (by omega)]
  refine tot_b (h.choose ok hF1 hw4 but) (fun r hx => ?_)
  rw [hch] at hx
  obtain ⟨L, p, hE, hi⟩ := hx
  rcases hi with ⟨_, hi⟩ | ⟨i, hi, rfl, he⟩
  · cases hi
  simp only [Option.some.injEq] at he
  have okL := ok.1.perm p
  have hlen := hE.2.1
  have heM : e ∈ S.1 := p.mem_iff.1 (he ▸ List.getElem_mem hi)
  obtain ⟨_, hy, hz, hN⟩ := h
  have hrem : nI m - nI m / 128 * 128 = nI (m % 128) := pk_rem (d := 128) (by omega) (by omega) (by omega)
  have hmod : m % 128 < 128 := Nat.mod_lt _ (by omega)
  simp (disch := omega) only [nI_add, pn_add, pn_addl, pn_mul, pn_cl, pn_nlt0, false_or, pn_ge, pn_le, Nat.add_zero, Nat.zero_add, ↓reduceIte, Option.bind_some, nI_leI, nI_ltI, nI_eq, pn_ne1, pn_1ne, m_of0 hE hi, m_of1 hE hi, m_of2 hE hi, hrem]
  refine tot_b (m_tells hq hl 2 (eK L[i]) (eV L[i]) (eW L[i]) d) (fun ⟨t', c'⟩ hq' => ?_)
  simp only
  have fin : ∀ (tv : Int32) (x : Nat → Int32), tv = S.2.2.2 16 + bi (decide (S.2.2.2 2 = 2)) → x = upd (upd w (o + 10) (w (o + 10) + 1)) (o + 16) tv → ∀ (rr : Int32), rr = (if isYoung L[i] then 0 else 1) →
      Tot ((X10_of F (nI i) 0 x (nI o)).bind fun r42 => ((X10_isGhost F rr r42 x (nI o)).bind fun k_w_44 => ((X10_goes F (nI i) k_w_44 (nI o)).bind fun k_w_46 => (some ((1 : Int32), k_w_46, (upd went (m % 128) (eK L[i])), nI (m + 1), t', c')))))
      (fun y => y.1 = 1 ∧ RM (evS e S) y.2.1 o ∧ FrO w y.2.1 o ∧ y.2.2.1 = upd went (m % 128) (eK e) ∧ y.2.2.2.1 = nI (m + 1) ∧ QS sil (E ++ [(2, eK e, eV e, eW e, d)]) y.2.2.2.2.1 y.2.2.2.2.2) := by
    intro tv x htv hx rr hrr
    have fx : ∀ q, q ≠ o + 10 → q ≠ o + 16 → x q = w q := fun q q1 q2 => by rw [hx, upd_n q2, upd_n q1]
    have hEx : EM L x o := EM.same hE (fx _ (by omega) (by omega)) (fun q _ _ => fx q (by omega) (by omega))
    rw [m_of0 hEx hi, hrr]
    simp only [Option.bind_some]
    refine tot_b (m_isGhost (GM.same hy (fx _ (by omega) (by omega)) (fun q _ _ => fx q (by omega) (by omega))) (GM.same hz (fx _ (by omega) (by omega)) (fun q _ _ => fx q (by omega) (by omega))) ok.2.1 ok.2.2.1 hF1 (isYoung L[i]) (eK L[i])) (fun v ⟨g1, g2, fv⟩ => ?_)
    have hEv : EM L v o := EM.same hEx (fv _ (by omega) (by omega) (by omega)) (fun q _ _ => fv q (by omega) (by omega) (by omega))
    refine tot_b (m_goes hEv okL.1 hi hF) (fun u ⟨e1, fu⟩ => tot_s ⟨rfl, ⟨⟨_, ?_, e1⟩, ?_, ?_, fun q q1 q2 => ?_⟩, fun q hq2 => ?_, ?_, rfl, ?_⟩)
    · have hp : (L[i] :: L.eraseIdx i).Perm L := by
        have h1 := List.eraseIdx_eq_take_drop_succ L i
        rw [h1]
        have e2 : L = L.take i ++ (L[i] :: L.drop (i + 1)) := by simp
        refine (List.perm_middle.symm).trans ?_
        rw [← e2]
      have hp2 := delK_of okL.1 hp
      rw [← he] at hp2
      exact hp2.trans (delK_perm p)
    · simp only [evS]; rw [he]
      exact GM.same g1 (fu _ (by omega) (by omega)) (fun q _ _ => fu q (by omega) (by omega))
    · simp only [evS]; rw [he]
      exact GM.same g2 (fu _ (by omega) (by omega)) (fun q _ _ => fu q (by omega) (by omega))
    · show u (o + q) = _
      rw [fu _ (by omega) (by omega), fv _ (by omega) (by omega) (by omega), hx]
      simp only [evS]
      by_cases c16 : q = 16
      · subst c16; rw [upd_s, upd_s, htv]
      · rw [upd_n (by omega), upd_n c16]
        by_cases c10 : q = 10
        · subst c10; rw [upd_s, upd_s, hN 10 (by omega) (by omega)]
        · rw [upd_n (by omega), upd_n c10, hN q q1 q2]
    · show u q = w q
      rw [fu _ (by omega) (by omega), fv _ (by omega) (by omega) (by omega), fx _ (by omega) (by omega)]
    · rw [he]
    · rw [he]; exact hq'
  have hC : 1 ≤ eC L[i] := okL.C _ (List.getElem_mem hi)
  have hyo : isYoung L[i] = decide (eC L[i] ≤ 1) := by
    simp only [isYoung]
    rw [i32_le] at hC
    by_cases c : eC L[i] = 1
    · simp [c]
    · have : ¬ eC L[i] ≤ 1 := by intro h; rw [i32_le] at h; exact c (i32_eq.2 (by omega))
      simp [c, this]
  have h16 : w (o + 16) = S.2.2.2 16 := hN 16 (by omega) (by omega)
  have fxo : ∀ tv : Int32, EM L (upd (upd w (o + 10) (w (o + 10) + 1)) (o + 16) tv) o := fun tv => EM.same hE (by rw [upd_n (by omega), upd_n (by omega)]) (fun q _ _ => by rw [upd_n (by omega), upd_n (by omega)])
  have f1 : X10_flag F 1 = some 1 := rfl
  have f0 : X10_flag F 0 = some 0 := rfl
  by_cases cw : S.2.2.2 2 = 2
  · rw [if_pos cw]
    simp (disch := omega) only [nI_add, pn_add, pn_addl, pn_mul, pn_cl, pn_nlt0, false_or, pn_ge, pn_le, Nat.add_zero, Nat.zero_add, ↓reduceIte, Option.bind_some, nI_leI, nI_ltI, nI_eq, pn_ne1, pn_1ne, f1, f0, m_of3 (fxo _) hi, upd_n]
    by_cases cy : eC L[i] ≤ 1
    · rw [if_pos cy]
      refine fin _ _ ?_ rfl 0 ?_
      · rw [h16, cw]; rfl
      · rw [hyo]; simp [cy]
    · rw [if_neg cy]
      refine fin _ _ ?_ rfl 1 ?_
      · rw [h16, cw]; rfl
      · rw [hyo]; simp [cy]
  · rw [if_neg cw]
    simp (disch := omega) only [nI_add, pn_add, pn_addl, pn_mul, pn_cl, pn_nlt0, false_or, pn_ge, pn_le, Nat.add_zero, Nat.zero_add, ↓reduceIte, Option.bind_some, nI_leI, nI_ltI, nI_eq, pn_ne1, pn_1ne, f1, f0, m_of3 (fxo _) hi, upd_n]
    by_cases cy : eC L[i] ≤ 1
    · rw [if_pos cy]
      refine fin _ _ ?_ rfl 0 ?_
      · rw [h16]; simp [cw, bi]
      · rw [hyo]; simp [cy]
    · rw [if_neg cy]
      refine fin _ _ ?_ rfl 1 ?_
      · rw [h16]; simp [cw, bi]
      · rw [hyo]; simp [cy]
end MEvict
