/-! the reference: what it does is what the spec says -/
section MStore
variable {F b o m : Nat} {S : SS} {w went t : Nat → Int32} {E : List Ev} {r came sil : Int32} {e : En}
theorem RM.load (h : RM S w o) (hF : 100 ≤ F) : X10_load F w (nI o) = some (sumBy eW S.1) := by
  obtain ⟨⟨L, p, hE⟩, _⟩ := h
  rw [m_load hE hF, sumBy_perm eW p]
theorem RM.pinned (h : RM S w o) (hF : 100 ≤ F) (k : Int32) : X10_pinned F k w (nI o) = some (sumBy (pinW k) S.1) := by
  obtain ⟨⟨L, p, hE⟩, _⟩ := h
  rw [m_pinned hE hF, sumBy_perm (pinW k) p]
theorem RM.many (h : RM S w o) : w o = nI S.1.length := by
  obtain ⟨⟨L, p, hE⟩, _⟩ := h
  rw [hE.1, p.length_eq]
theorem RM.allPinned (h : RM S w o) (ok : Ok b S) (hF : 100 ≤ F) (h60 : S.1.length = 60) : ∃ x, X10_pinnedMany F w (nI o) = some x ∧ (x = 60 ↔ S.1.all (fun e => !decide (eP e = 0)) = true) := by
  obtain ⟨⟨L, p, hE⟩, _⟩ := h
  refine ⟨_, m_pinnedMany hE hF, ?_⟩
  rw [sumBy_perm eP p]
  have e1 : sumBy eP S.1 = nI (S.1.countP (fun e => !decide (eP e = 0))) := by
    rw [← sumBy_cnt]
    refine sumBy_congr (fun e he => ?_)
    rcases ok.1.PB e he with c | c <;> simp [c]
  have hle := List.countP_le_length (p := fun e : En => !decide (eP e = 0)) (l := S.1)
  rw [e1]
  constructor
  · intro hx
    have hx2 : nI (S.1.countP (fun e => !decide (eP e = 0))) = nI 60 := hx
    rw [nI_eq (by omega) (by omega)] at hx2
    rw [List.all_eq_true]
    have := List.countP_eq_length.1 (hx2.trans h60.symm)
    exact this
  · intro hx
    rw [List.all_eq_true] at hx
    rw [List.countP_eq_length.2 hx, h60]; rfl
theorem m_isRejected (h : RM S w o) (ok : Ok b S) (hF : 100 ≤ F) (k wt : Int32) : X10_isRejected F k wt w (nI o) = some (bi (rejS k wt S)) := by
  have ho := h.ho
  have h60 := ok.1.2.2.1
  rw [X10_isRejected, h.pinned hF k]
  simp (disch := omega) only [nI_add, pn_add, pn_addl, pn_mul, pn_cl, pn_nlt0, false_or, pn_ge, pn_le, Nat.add_zero, Nat.zero_add, ↓reduceIte, Option.bind_some, nI_leI, nI_ltI, nI_eq, pn_ne1, pn_1ne]
  rw [h.2.2.2 1 (by omega) (by omega), h.many, rejS]
  by_cases c1 : wt + sumBy (pinW k) S.1 ≤ S.2.2.2 1
  · rw [if_neg (by rw [Int32.not_lt]; exact c1)]
    by_cases c2 : S.1.length = 60
    · rw [if_pos (by rw [c2]; rfl)]
      obtain ⟨x, hx, hx2⟩ := h.allPinned ok hF c2
      rw [hx]
      simp only [Option.bind_some]
      by_cases c3 : x = 60
      · rw [if_pos c3]
        have := hx2.1 c3
        obtain ⟨r, hr, hri⟩ := h.find ok hF k
        rw [hr]
        simp only [Option.bind_some]
        obtain ⟨L, p, hE, hi⟩ := hri
        rcases hi with ⟨rfl, hi⟩ | ⟨i, hi, rfl, he⟩
        · rw [if_pos rfl, hi]; simp [c1, c2, this, bi]
        · have := hE.2.1
          rw [if_neg (by simp (disch := omega) only [nI_add, pn_add, pn_addl, pn_mul, pn_cl, pn_nlt0, false_or, pn_ge, pn_le, Nat.add_zero, Nat.zero_add, ↓reduceIte, Option.bind_some, nI_leI, nI_ltI, nI_eq, pn_ne1, pn_1ne]; simp), he]; simp [c1, bi]
      · rw [if_neg c3]
        have : S.1.all (fun e => !decide (eP e = 0)) = false := by
          rw [Bool.eq_false_iff]; exact fun hy => c3 (hx2.2 hy)
        rw [this]; simp [c1, bi]
    · rw [if_neg (by
        intro hx
        have hx2 : nI S.1.length = nI 60 := hx
        rw [nI_eq (by omega) (by omega)] at hx2
        exact c2 hx2)]
      simp [c1, bi, show ¬ 60 ≤ S.1.length by omega]
  · rw [if_pos (by rwa [Int32.not_le] at c1)]; simp [c1, bi]
theorem RM.set (h : RM S w o) (q : Nat) (v : Int32) (h1 : 1 ≤ q) (h2 : q ≤ 18) : RM (setN q v S) (upd w (o + q) v) o ∧ FrO w (upd w (o + q) v) o := by
  obtain ⟨⟨L, p, hE⟩, hy, hz, hN⟩ := h
  refine ⟨⟨⟨L, p, EM.same hE (upd_n (by omega)) (fun q _ _ => upd_n (by omega))⟩, GM.same hy (upd_n (by omega)) (fun q _ _ => upd_n (by omega)), GM.same hz (upd_n (by omega)) (fun q _ _ => upd_n (by omega)), fun j j1 j2 => ?_⟩, fun j hj => upd_n (by omega)⟩
  simp only [setN]
  by_cases c : j = q
  · subst c; rw [upd_s, upd_s]
  · rw [upd_n (by omega), upd_n c, hN j j1 j2]
theorem near_eq (v mo : Int32) : X10_near F v mo = some (if 0 ≤ v then (if mo ≤ v then mo else v) else 0) := by
  rw [X10_near, lesser_eq]; split <;> rfl
theorem m_learns (h : RM S w o) (ok : Ok b S) (hF : 100 ≤ F) (k wt : Int32) (w1 : 1 ≤ wt.toInt) (w2 : wt.toInt ≤ 99) : Tot (X10_learns F k wt w (nI o)) (fun w' => RM (learnS k wt S) w' o ∧ FrO w w' o) := by
  have ho := h.ho
  obtain ⟨hL, hy, hz, hN⟩ := id h
  have h1 := hN 1 (by omega) (by omega)
  have h3 := hN 3 (by omega) (by omega)
  obtain ⟨_, _, _, n1, n2, n3, n4, n5, _⟩ := id ok
  have e0 : (0 : Int32).toInt = 0 := by decide
  have ea : (S.2.2.2 3 + wt).toInt = (S.2.2.2 3).toInt + wt.toInt := i32_add (by omega) (by omega)
  have es : (S.2.2.2 3 - wt).toInt = (S.2.2.2 3).toInt - wt.toInt := i32_sub (by omega) (by omega)
  obtain ⟨n, hn⟩ : ∃ n, F = n + 3 := ⟨F - 3, by omega⟩
  have u1 : X10_learns F k wt w (nI o) = X10_learns_L2 F (n + 2 + 1) k wt (nI 0) w (nI o) := by rw [X10_learns, show n + 2 + 1 = F by omega]; rfl
  have put : ∀ v : Int32, ∀ s : Nat, s < 2 → ∀ g : List Int32, GM s g w o → g.Nodup → Tot (X10_noGhost F (nI s) k (upd w (o + 3) v) (nI o)) (fun w' => GM s (delG k g) w' o ∧ (∀ q, q ≠ o + 19 + s → (q < o + 444 + 16 * s ∨ o + 444 + 16 * s + 16 ≤ q) → w' q = upd w (o + 3) v q)) := by
    intro v s hs g hg hnd
    exact m_noGhost (GM.same hg (upd_n (by omega)) (fun q _ _ => upd_n (by omega))) hnd hF k
  rw [u1, X10_learns_L2, if_neg (by decide)]
  refine tot_b (m_ghostOf (s := 0) hy hF k) (fun r hr => ?_)
  rcases hr with ⟨rfl, hk⟩ | ⟨i, hi, rfl, hk⟩
  · rw [if_pos rfl, nI_1, X10_learns_L2, if_neg (by decide)]
    refine tot_b (m_ghostOf (s := 1) hz hF k) (fun r hr => ?_)
    rcases hr with ⟨rfl, hk2⟩ | ⟨i, hi, rfl, hk2⟩
    · rw [if_pos rfl, nI_1, X10_learns_L2, if_pos (by decide), learnS, if_neg hk, if_neg hk2]
      exact tot_s ⟨h, FrO.rfl'⟩
    · have hmem : k ∈ S.2.2.1 := hk2 ▸ List.getElem_mem hi
      have hl := hz.2.2.2.1
      rw [if_neg (by simp (disch := omega) only [nI_add, pn_add, pn_addl, pn_mul, pn_cl, pn_nlt0, false_or, pn_ge, pn_le, Nat.add_zero, Nat.zero_add, ↓reduceIte, Option.bind_some, nI_leI, nI_ltI, nI_eq, pn_ne1, pn_1ne]; simp), if_neg (show ¬ nI (0 + 1) = 0 by decide)]
      simp (disch := omega) only [nI_add, pn_add, pn_addl, pn_mul, pn_cl, pn_nlt0, false_or, pn_ge, pn_le, Nat.add_zero, Nat.zero_add, ↓reduceIte, Option.bind_some, nI_leI, nI_ltI, nI_eq, pn_ne1, pn_1ne, near_eq, h1, h3]
      rw [learnS, if_neg hk, if_pos hmem]
      have ev : (if 0 ≤ S.2.2.2 3 + -wt then (if S.2.2.2 1 ≤ S.2.2.2 3 + -wt then S.2.2.2 1 else S.2.2.2 3 + -wt) else 0) = (if S.2.2.2 3 - wt < 0 then 0 else S.2.2.2 3 - wt) := by
        rw [← Int32.sub_eq_add_neg]
        by_cases c : 0 ≤ S.2.2.2 3 - wt
        · rw [if_pos c, if_neg (by rw [i32_le]; omega), if_neg (by rw [Int32.not_lt]; exact c)]
        · rw [if_neg c, if_pos (by rwa [Int32.not_le] at c)]
      rw [ev]
      refine tot_id (tot_m (put _ 1 (by omega) _ hz ok.2.2.1) (fun w' ⟨g1, g2⟩ => ⟨⟨?_, ?_, g1, ?_⟩, fun q hq => ?_⟩))
      · obtain ⟨L, p, hE⟩ := hL
        exact ⟨L, p, EM.same hE (by rw [g2 _ (by omega) (by omega), upd_n (by omega)]) (fun q _ _ => by rw [g2 _ (by omega) (by omega), upd_n (by omega)])⟩
      · exact GM.same hy (by rw [g2 _ (by omega) (by omega), upd_n (by omega)]) (fun q _ _ => by rw [g2 _ (by omega) (by omega), upd_n (by omega)])
      · intro q q1 q2
        rw [g2 _ (by omega) (by omega)]
        by_cases c : q = 3
        · subst c; rw [upd_s]; rfl
        · rw [upd_n (by omega), hN q q1 q2]; exact (upd_n c).symm
      · rw [g2 _ (by omega) (by omega), upd_n (by omega)]
  · have hmem : k ∈ S.2.1 := hk ▸ List.getElem_mem hi
    have hl := hy.2.2.2.1
    rw [if_neg (by simp (disch := omega) only [nI_add, pn_add, pn_addl, pn_mul, pn_cl, pn_nlt0, false_or, pn_ge, pn_le, Nat.add_zero, Nat.zero_add, ↓reduceIte, Option.bind_some, nI_leI, nI_ltI, nI_eq, pn_ne1, pn_1ne]; simp), if_pos (show nI 0 = 0 from rfl)]
    simp (disch := omega) only [nI_add, pn_add, pn_addl, pn_mul, pn_cl, pn_nlt0, false_or, pn_ge, pn_le, Nat.add_zero, Nat.zero_add, ↓reduceIte, Option.bind_some, nI_leI, nI_ltI, nI_eq, pn_ne1, pn_1ne, near_eq, h1, h3]
    rw [learnS, if_pos hmem]
    have ev : (if 0 ≤ S.2.2.2 3 + wt then (if S.2.2.2 1 ≤ S.2.2.2 3 + wt then S.2.2.2 1 else S.2.2.2 3 + wt) else 0) = (if S.2.2.2 1 < S.2.2.2 3 + wt then S.2.2.2 1 else S.2.2.2 3 + wt) := by
      rw [if_pos (by rw [i32_le]; omega)]
      by_cases c : S.2.2.2 1 < S.2.2.2 3 + wt
      · rw [if_pos c, if_pos (by rw [i32_lt] at c; rw [i32_le]; omega)]
      · rw [if_neg c]
        by_cases c2 : S.2.2.2 1 ≤ S.2.2.2 3 + wt
        · rw [if_pos c2]; rw [i32_lt] at c; rw [i32_le] at c2; exact i32_eq.2 (by omega)
        · rw [if_neg c2]
    rw [ev]
    refine tot_id (tot_m (put _ 0 (by omega) _ hy ok.2.1) (fun w' ⟨g1, g2⟩ => ⟨⟨?_, g1, ?_, ?_⟩, fun q hq => ?_⟩))
    · obtain ⟨L, p, hE⟩ := hL
      exact ⟨L, p, EM.same hE (by rw [g2 _ (by omega) (by omega), upd_n (by omega)]) (fun q _ _ => by rw [g2 _ (by omega) (by omega), upd_n (by omega)])⟩
    · exact GM.same hz (by rw [g2 _ (by omega) (by omega), upd_n (by omega)]) (fun q _ _ => by rw [g2 _ (by omega) (by omega), upd_n (by omega)])
    · intro q q1 q2
      rw [g2 _ (by omega) (by omega)]
      by_cases c : q = 3
      · subst c; rw [upd_s]; rfl
      · rw [upd_n (by omega), hN q q1 q2]; exact (upd_n c).symm
    · rw [g2 _ (by omega) (by omega), upd_n (by omega)]
/-- a use where the row of the one used may be new -/
theorem RM.useG {L : List En} {i : Nat} {k : Int32} (hE : EM L w o) (hnL : (L.map eK).Nodup) (hi : i < L.length) (hk : eK L[i] = k) (hper : (useL L k (S.2.2.2 4) (S.2.2.2 6)).Perm (useL S.1 k (S.2.2.2 4) (S.2.2.2 6))) (hy : GM 0 S.2.1 w o) (hz : GM 1 S.2.2.1 w o) (hN : ∀ q, 1 ≤ q → q ≤ 18 → w (o + q) = S.2.2.2 q) (ha : 0 < S.2.2.2 6) (hF : 100 ≤ F) :
    Tot (X10_uses F (nI i) w (nI o)) (fun w' => RM (useS k S) w' o ∧ FrO w w' o) := by
  have ho := hy.2.1
  have h6 := hN 6 (by omega) (by omega)
  have h4 := hN 4 (by omega) (by omega)
  have h15 := hN 15 (by omega) (by omega)
  have ha2 : w (o + 6) ≠ 0 := by rw [h6]; intro e; rw [e] at ha; exact absurd ha (by decide)
  refine tot_m (m_uses hE hnL hi ha2 hF) (fun w' ⟨q1, q2, q3, q4⟩ => ⟨⟨⟨_, ?_, q1⟩, ?_, ?_, fun q hq1 hq2 => ?_⟩, fun q hq => q4 q (by omega) (by omega) (by omega)⟩)
  · simp only [useS]; rw [hk, h4, h6]; exact hper
  · exact GM.same hy (q4 _ (by omega) (by omega) (by omega)) (fun q _ _ => q4 q (by omega) (by omega) (by omega))
  · exact GM.same hz (q4 _ (by omega) (by omega) (by omega)) (fun q _ _ => q4 q (by omega) (by omega) (by omega))
  · simp only [useS]
    by_cases c15 : q = 15
    · subst c15; rw [upd_s, q3, h4, h6, h15]
    · rw [upd_n c15]
      by_cases c4 : q = 4
      · subst c4; rw [upd_s, q2, h4]
      · rw [upd_n c4, q4 _ (by omega) (by omega) (by omega), hN q hq1 hq2]
theorem tellsAll_eq {i : Nat} (hi : i < 60) (ho : o + 848 ≤ 3392) (v wt tl : Int32) : X10_tellsAll F (nI i) v wt tl w (nI o) = some (upd (upd (upd w (o + 24 + 7 * i + 1) v) (o + 24 + 7 * i + 2) wt) (o + 24 + 7 * i + 5) tl) := by
  rw [X10_tellsAll, show ((1 : Int32)) = nI 1 from rfl, show ((2 : Int32)) = nI 2 from rfl, show ((5 : Int32)) = nI 5 from rfl]
  simp (disch := omega) only [m_sets, Option.bind_some]
end MStore
