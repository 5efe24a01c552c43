/-! all events of a call are heard: the reference -/
section MDone
variable {F o n : Nat}
set_option maxRecDepth 100000 in
set_option maxHeartbeats 1000000 in
theorem m_L2 (hF : 1000 ≤ F) (hn : n ≤ 8) (v1 : Int32) :
    ∀ (f c i b m : Nat) (H : Nat → Nat → Int32) (S : SS) (G : List Lg) (E : List Ev) (w went t : Nat → Int32) (came dp0 : Int32), i + c = 100 → c < f → b + 512 * c + 1000 < 2147483648 → m + 480 * c < 2147483000 → E.length + 488 * c + 1000 < 2147480000 → RM S w o → Ok2 b S → (∀ i, i < n → OkH (H i)) → QM E t came → EvAll E → LM n H w o → GLm G w o →
    Tot (X10_done_L2 F f v1 (nI i) w (nI o) went (nI m) t came dp0 0) (fun y => RM (hearA n c i (H, S, G, E)).2.1 y.1 o ∧ QM (hearA n c i (H, S, G, E)).2.2.2 y.2.2.2.1 y.2.2.2.2.1 ∧ (∃ m', y.2.2.1 = nI m' ∧ m' ≤ m + 480 * c) ∧ LM n (hearA n c i (H, S, G, E)).1 y.1 o ∧ GLm (hearA n c i (H, S, G, E)).2.2.1 y.1 o ∧ ∀ q, (q < o ∨ o + 748 ≤ q) → y.1 q = w q) := by
  intro f
  induction f with
  | zero => intro c i b m H S G E w went t came dp0 _ hm; omega
  | succ f ih =>
    intro c i b m H S G E w went t came dp0 hic hm hb hmm hEl h hS hH hq hE hL hG
    have ho := h.ho
    obtain ⟨q0, q2⟩ := id hq
    rw [X10_done_L2]
    by_cases cl : E.length ≤ i
    · rw [if_pos (by rw [q0]; exact nI_le cl (by omega))]
      have e : hearA n c i (H, S, G, E) = (H, S, G, E) := by
        cases c with
        | zero => rfl
        | succ c => rw [hearA, List.getElem?_eq_none (by omega)]
      rw [e]
      exact tot_s ⟨h, hq, ⟨m, rfl, by omega⟩, hL, hG, fun _ _ => rfl⟩
    have hiE : i < E.length := by omega
    rw [if_neg (by rw [q0]; exact nI_ge (by omega) (by omega))]
    by_cases ci : 100 ≤ i
    · have e0 : c = 0 := by omega
      subst e0
      rw [if_pos (by exact nI_le (a := 100) ci (by omega))]
      exact tot_s ⟨h, hq, ⟨m, rfl, by omega⟩, hL, hG, fun _ _ => rfl⟩
    have hi100 : i < 100 := by omega
    obtain ⟨c', rfl⟩ : ∃ c', c = c' + 1 := ⟨c - 1, by omega⟩
    rw [if_neg (by exact nI_ge (b := 100) (by omega) (by omega))]
    have hEv : E[i] = (t (5 * i), t (5 * i + 1), t (5 * i + 2), t (5 * i + 3), t (5 * i + 4)) := q2 i hiE hi100
    have hevOk : EvOk E[i] := hE _ (List.getElem_mem hiE)
    have he? : E[i]? = some E[i] := List.getElem?_eq_getElem hiE
    obtain ⟨g1, g2, g3, ⟨X, g4, g5⟩, g6, g7⟩ := hear1_ok (b := b) hevOk hn (by omega) hS hH hE
    have e1 : t (5 * i) = E[i].1 := by rw [hEv]
    have e2 : t (5 * i + 1) = E[i].2.1 := by rw [hEv]
    have e2v : t (5 * i + 2) = E[i].2.2.1 := by rw [hEv]
    have e5 : t (5 * i + 4) = E[i].2.2.2.2 := by rw [hEv]
    have e17 : w (o + 17) = S.2.2.2 17 := h.2.2.2 17 (by omega) (by omega)
    have body : ∀ w1 : Nat → Int32, RM (deepS E[i] S) w1 o → (∀ q, q ≠ o + 17 → w1 q = w q) →
        Tot ((X10_done_L125 F F v1 (nI i) E[i].1 E[i].2.1 E[i].2.2.1 0 0 w1 (nI o) went (nI m) t came (E[i].2.2.2.2 + 1) 0).bind fun (x23, k24, k25, k26, k27, k28) => ((X10_logs F E[i].1 E[i].2.1 (k27 (5 * i + 3)) x23 k24 (nI o) (E[i].2.2.2.2 + 1)).bind fun k30 => X10_done_L2 F f v1 (nI (i + 1)) k30 (nI o) k25 k26 k27 k28 (E[i].2.2.2.2 + 1) 0))
        (fun y => RM (hearA n (c' + 1) i (H, S, G, E)).2.1 y.1 o ∧ QM (hearA n (c' + 1) i (H, S, G, E)).2.2.2 y.2.2.2.1 y.2.2.2.2.1 ∧ (∃ m', y.2.2.1 = nI m' ∧ m' ≤ m + 480 * (c' + 1)) ∧ LM n (hearA n (c' + 1) i (H, S, G, E)).1 y.1 o ∧ GLm (hearA n (c' + 1) i (H, S, G, E)).2.2.1 y.1 o ∧ ∀ q, (q < o ∨ o + 748 ≤ q) → y.1 q = w q) := by
      intro w1 hR1 fw1
      have hL1 : LM n H w1 o := ⟨hn, by rw [fw1 _ (by omega)]; exact hL.2.1, fun a j ha hj => by rw [fw1 _ (by omega)]; exact hL.2.2 a j ha hj⟩
      have hrun := m_L125 (F := F) (o := o) (n := n) (sil := 0) (kind := E[i].1) (key := E[i].2.1) (v := E[i].2.2.1) (d := E[i].2.2.2.2 + 1) hF hevOk.1 hevOk.2.1 hevOk.2.2.1 v1 (nI i) F n 0 b m 0 H (deepS E[i] S) E w1 went t came (by omega) hn (by omega) (by omega) (by omega) (by omega) hR1 (hS.set (by simp)) hH (Or.inl ⟨rfl, by omega, hq⟩) hL1
      rw [show hearL E[i].1 E[i].2.1 E[i].2.2.1 (E[i].2.2.2.2 + 1) n 0 (0, H, deepS E[i] S, E) = hear1 n E[i] H S E from rfl] at hrun
      refine tot_b hrun (fun y ⟨z0, z1, z2, ⟨m', z3, z3'⟩, z4, z5⟩ => ?_)
      obtain ⟨r, y2, y3, y4, y5, y6⟩ := y
      simp only at z0 z1 z2 z3 z4 z5 ⊢
      subst z3
      have z2' : QM (hear1 n E[i] H S E).2.2.2 y5 y6 := by
        rcases z2 with ⟨_, _, z2⟩ | z2
        · exact z2
        · exact absurd z2 (by decide)
      have hwt : y5 (5 * i + 3) = E[i].2.2.2.1 := by
        have hlt : i < (hear1 n E[i] H S E).2.2.2.length := by rw [g4, List.length_append]; omega
        have := z2'.2 i hlt hi100
        have h2 : (hear1 n E[i] H S E).2.2.2[i] = E[i] := by
          simp only [g4]; rw [List.getElem_append_left hiE]
        rw [h2] at this
        rw [this]
      rw [hwt, z0]
      have hG2 : GLm G y2 o := by
        refine ⟨?_, hG.2.1, fun k hk => ?_⟩
        · rw [z1.2.2.2 18 (by omega) (by omega), g6 18 (by simp [keepQ]) (by decide), ← h.2.2.2 18 (by omega) (by omega)]; exact hG.1
        · have hk40 := hG.2.1
          rw [hG.2.2 k hk, z5 _ (by omega), z5 _ (by omega), z5 _ (by omega), z5 _ (by omega), z5 _ (by omega), fw1 _ (by omega), fw1 _ (by omega), fw1 _ (by omega), fw1 _ (by omega), fw1 _ (by omega)]
      refine tot_b (m_log ho hF hG2 E[i].1 E[i].2.1 E[i].2.2.2.1 (hear1 n E[i] H S E).1 (E[i].2.2.2.2 + 1)) (fun w3 ⟨u1, u2⟩ => ?_)
      rw [Int32.add_sub_cancel] at u1
      rw [hearA, he?]
      have hR3 : RM (setN 18 (nI (logE n E[i] H S G E).length) (hear1 n E[i] H S E).2.2.1) w3 o := by
        obtain ⟨⟨L, p, hEE⟩, hy, hz, hN⟩ := z1
        refine ⟨⟨L, p, EM.same hEE (u2 _ (by omega) (by omega)) (fun q _ _ => u2 q (by omega) (by omega))⟩, GM.same hy (u2 _ (by omega) (by omega)) (fun q _ _ => u2 q (by omega) (by omega)), GM.same hz (u2 _ (by omega) (by omega)) (fun q _ _ => u2 q (by omega) (by omega)), fun q q1 q2 => ?_⟩
        simp only [setN]
        by_cases c18 : q = 18
        · subst c18; rw [upd_s]; exact u1.1
        · rw [upd_n c18, u2 _ (by omega) (by omega)]; exact hN q q1 q2
      have hL3 : LM n (hear1 n E[i] H S E).2.1 w3 o := ⟨hn, by rw [u2 _ (by omega) (by omega)]; exact z4.2.1, fun a j ha hj => by rw [u2 _ (by omega) (by omega)]; exact z4.2.2 a j ha hj⟩
      refine tot_m (ih c' (i + 1) (b + 512) m' _ _ _ _ w3 y3 y5 y6 _ (by omega) (by omega) (by omega) (by omega) (by rw [g4, List.length_append]; omega) hR3 (g1.set (by simp)) g2 z2' g3 hL3 u1) (fun y ⟨k1, k2, ⟨m2, k3, k4⟩, k5, k6, k7⟩ => ⟨k1, k2, ⟨m2, k3, by omega⟩, k5, k6, fun q hq2 => ?_⟩)
      rw [k7 q hq2, u2 _ (by omega) (by omega), z5 q (by omega), fw1 _ (by omega)]
    have deep : ∀ k, Tot (if E[i].2.2.2.2 + 1 - 1 ≤ S.2.2.2 17 then (X10_done_L125 F F v1 (nI i) E[i].1 E[i].2.1 E[i].2.2.1 0 0 w (nI o) went (nI m) t came (E[i].2.2.2.2 + 1) 0).bind k else (X10_done_L125 F F v1 (nI i) E[i].1 E[i].2.1 E[i].2.2.1 0 0 (upd w (o + 17) (E[i].2.2.2.2 + 1 - 1)) (nI o) went (nI m) t came (E[i].2.2.2.2 + 1) 0).bind k) (fun y => RM (hearA n (c' + 1) i (H, S, G, E)).2.1 y.1 o ∧ QM (hearA n (c' + 1) i (H, S, G, E)).2.2.2 y.2.2.2.1 y.2.2.2.2.1 ∧ (∃ m', y.2.2.1 = nI m' ∧ m' ≤ m + 480 * (c' + 1)) ∧ LM n (hearA n (c' + 1) i (H, S, G, E)).1 y.1 o ∧ GLm (hearA n (c' + 1) i (H, S, G, E)).2.2.1 y.1 o ∧ ∀ q, (q < o ∨ o + 748 ≤ q) → y.1 q = w q) ∨ k ≠ (fun (x23, k24, k25, k26, k27, k28) => ((X10_logs F E[i].1 E[i].2.1 (k27 (5 * i + 3)) x23 k24 (nI o) (E[i].2.2.2.2 + 1)).bind fun k30 => X10_done_L2 F f v1 (nI (i + 1)) k30 (nI o) k25 k26 k27 k28 (E[i].2.2.2.2 + 1) 0)) := by
      intro k
      by_cases hk : k = (fun (x23, k24, k25, k26, k27, k28) => ((X10_logs F E[i].1 E[i].2.1 (k27 (5 * i + 3)) x23 k24 (nI o) (E[i].2.2.2.2 + 1)).bind fun k30 => X10_done_L2 F f v1 (nI (i + 1)) k30 (nI o) k25 k26 k27 k28 (E[i].2.2.2.2 + 1) 0))
      · left
        subst hk
        rw [Int32.add_sub_cancel]
        by_cases cd : E[i].2.2.2.2 ≤ S.2.2.2 17
        · rw [if_pos cd]
          refine body w ?_ (fun _ _ => rfl)
          have : deepS E[i] S = S := by
            rw [deepS, if_neg (by rw [Int32.not_lt]; exact cd)]
            simp only [setN]; rw [upd_same]
          rw [this]; exact h
        · rw [if_neg cd]
          refine body _ ?_ (fun q hq2 => upd_n hq2)
          have := (h.set 17 E[i].2.2.2.2 (by omega) (by omega)).1
          rw [deepS, if_pos (by rwa [Int32.not_le] at cd)]; exact this
      · exact Or.inr hk
    simp (maxSteps := 3000000) (disch := omega) only [nI_add, pn_add, pn_addl, pn_mul, pn_cl, pn_nlt0, false_or, pn_ge, pn_le, Nat.add_zero, Nat.zero_add, ↓reduceIte, Option.bind_some, nI_leI, nI_ltI, nI_eq, pn_ne1, pn_1ne, e1, e2, e2v, e5, e17]
    by_cases k5 : E[i].1 = 5
    · rw [if_pos k5]
      have hv0 : E[i].2.2.1 = 0 := hevOk.2.2.2 (Or.inl k5)
      rw [hv0] at deep
      rcases deep _ with hd | hd
      · exact hd
      · exact absurd rfl hd
    rw [if_neg k5]
    by_cases k6 : E[i].1 = 6
    · rw [if_pos k6]
      have hv0 : E[i].2.2.1 = 0 := hevOk.2.2.2 (Or.inr k6)
      rw [hv0] at deep
      rcases deep _ with hd | hd
      · exact hd
      · exact absurd rfl hd
    rw [if_neg k6]
    rcases deep _ with hd | hd
    · exact hd
    · exact absurd rfl hd
set_option maxRecDepth 100000 in
theorem m_done {b m : Nat} {H : Nat → Nat → Int32} {S : SS} {G : List Lg} {E : List Ev} {w went t : Nat → Int32} {came dp0 : Int32} (hF : 1000 ≤ F) (hn : n ≤ 8) (ans : Int32) (hb : b + 60000 < 2147483648) (hm : m + 48000 < 2147483000) (hEl : E.length ≤ 100000) (h : RM S w o) (hS : Ok2 b S) (hH : ∀ i, i < n → OkH (H i)) (hq : QM E t came) (hE : EvAll E) (hL : LM n H w o) (hG : GLm G w o) :
    Tot (X10_done F ans w (nI o) went (nI m) t came dp0 0) (fun y => y.1 = ans ∧ RM (hearS n H S G E).2.1 y.2.1 o ∧ QM (hearS n H S G E).2.2.2 y.2.2.2.2.1 y.2.2.2.2.2.1 ∧ (∃ m', y.2.2.2.1 = nI m' ∧ m' ≤ m + 48000) ∧ LM n (hearS n H S G E).1 y.2.1 o ∧ GLm (hearS n H S G E).2.2.1 y.2.1 o ∧ ∀ q, (q < o ∨ o + 748 ≤ q) → y.2.1 q = w q) := by
  have ho := h.ho
  have hok := hearA_ok hn 100 0 b H S G E (by omega) hS hH hE (by rw [← h.2.2.2 18 (by omega) (by omega)]; exact hG.1) hG.2.1
  rw [X10_done]
  refine tot_b (m_L2 hF hn ans F 100 0 b m H S G E w went t came dp0 (by omega) (by omega) (by omega) (by omega) (by omega) h hS hH hq hE hL hG) (fun y ⟨z1, z2, z3, z4, z5, z6⟩ => ?_)
  obtain ⟨y1, y2, y3, y4, y5, y6⟩ := y
  simp only at z1 z2 z3 z4 z5 z6 ⊢
  obtain ⟨_, _, _, ⟨X, x1, x2⟩, _⟩ := hok
  have hlen : (hearA n 100 0 (H, S, G, E)).2.2.2.length ≤ 200000 := by rw [x1, List.length_append]; omega
  have z20 := z2.1
  by_cases cl : (hearA n 100 0 (H, S, G, E)).2.2.2.length ≤ 100
  · rw [if_pos (by rw [z20]; exact nI_le (b := 100) cl (by omega))]
    refine tot_s ⟨rfl, ?_, z2, z3, z4, z5, z6⟩
    show RM (hearS n H S G E).2.1 y1 o
    simp only [hearS]
    rw [show (hearA n 100 0 (H, S, G, E)).2.2.2.length - 100 = 0 by omega, nI_0, Int32.add_zero]
    have : setN 13 ((hearA n 100 0 (H, S, G, E)).2.1.2.2.2 13) (hearA n 100 0 (H, S, G, E)).2.1 = (hearA n 100 0 (H, S, G, E)).2.1 := by
      simp only [setN]; rw [upd_same]
    rw [this]; exact z1
  · rw [if_neg (by rw [z20]; exact nI_ge (a := 100) (by omega) (by omega))]
    simp (disch := omega) only [nI_add, pn_add, pn_addl, pn_mul, pn_cl, pn_nlt0, false_or, pn_ge, pn_le, Nat.add_zero, Nat.zero_add, ↓reduceIte, Option.bind_some, nI_leI, nI_ltI, nI_eq, pn_ne1, pn_1ne]
    have hset := (z1.set 13 ((hearA n 100 0 (H, S, G, E)).2.1.2.2.2 13 + nI ((hearA n 100 0 (H, S, G, E)).2.2.2.length - 100)) (by omega) (by omega)).1
    have e13 : y1 (o + 13) + (y5 - 100) = (hearA n 100 0 (H, S, G, E)).2.1.2.2.2 13 + nI ((hearA n 100 0 (H, S, G, E)).2.2.2.length - 100) := by
      rw [z1.2.2.2 13 (by omega) (by omega), z20, show nI (hearA n 100 0 (H, S, G, E)).2.2.2.length - 100 = nI ((hearA n 100 0 (H, S, G, E)).2.2.2.length - 100) from pk_sub (b := 100) (by omega)]
    rw [e13]
    generalize hw2 : upd y1 (o + 13) ((hearA n 100 0 (H, S, G, E)).2.1.2.2.2 13 + nI ((hearA n 100 0 (H, S, G, E)).2.2.2.length - 100)) = w2 at hset ⊢
    have fw2 : ∀ q, q ≠ o + 13 → w2 q = y1 q := fun q hq => by rw [← hw2, upd_n hq]
    have hk40 := z5.2.1
    have a1 : LM n (hearA n 100 0 (H, S, G, E)).1 w2 o := ⟨hn, by rw [fw2 _ (by omega)]; exact z4.2.1, fun a j ha hj => by rw [fw2 _ (by omega)]; exact z4.2.2 a j ha hj⟩
    have a2 : GLm (hearA n 100 0 (H, S, G, E)).2.2.1 w2 o := ⟨by rw [fw2 _ (by omega)]; exact z5.1, z5.2.1, fun k hk => by
      rw [z5.2.2 k hk, fw2 _ (by omega), fw2 _ (by omega), fw2 _ (by omega), fw2 _ (by omega), fw2 _ (by omega)]⟩
    have a3 : ∀ q, (q < o ∨ o + 748 ≤ q) → w2 q = w q := fun q hq2 => by rw [fw2 _ (by omega)]; exact z6 q hq2
    exact tot_s ⟨rfl, hset, z2, z3, a1, a2, a3⟩
end MDone
