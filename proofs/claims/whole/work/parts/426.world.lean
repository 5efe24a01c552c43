/-! requests; the world of one store; calls -/
def addR (k : Int32) (Q : List Int32) : List Int32 := (if Q.length < 100 then Q else Q.drop 1) ++ [k]
def RQc (Q : List Int32) (x : tX5) : Prop := x.2 = nI Q.length ∧ Q.length ≤ 100 ∧ AR Q x.1
def RQm (Q : List Int32) (w : Nat → Int32) (o : Nat) : Prop := w (o + 14) = nI Q.length ∧ Q.length ≤ 100 ∧ ∀ i (h : i < Q.length), Q[i] = w (o + 748 + i)
theorem addR_len {k : Int32} {Q : List Int32} (h : Q.length ≤ 100) : (addR k Q).length = min 100 (Q.length + 1) := by
  simp only [addR]; split <;> simp <;> omega
theorem c_req {F : Nat} {Q : List Int32} {kk : Nat → Int32} {sz : Int32} (h : RQc Q (kk, sz)) (hF : 200 ≤ F) (k : Int32) : Tot (X5_add F k kk sz) (fun r => RQc (addR k Q) r) := by
  obtain ⟨h0, h1, h2⟩ := h
  simp only at h0 h2
  subst h0
  rw [X5_add]
  by_cases c : Q.length < 100
  · rw [if_pos (by exact nI_lt (b := 100) c (by omega))]
    simp (disch := omega) only [nI_add, pn_add, pn_addl, pn_mul, pn_cl, pn_nlt0, false_or, pn_ge, pn_le, Nat.add_zero, Nat.zero_add, ↓reduceIte, Option.bind_some, nI_leI, nI_ltI, nI_eq, pn_ne1, pn_1ne]
    refine tot_s ⟨?_, by rw [addR_len h1]; omega, ?_⟩
    · rw [addR_len h1, Nat.min_eq_right (by omega)]
    · rw [addR, if_pos c]; exact AR.snoc h2 k
  · have e : Q.length = 100 := by omega
    rw [if_neg (by rw [e]; decide)]
    refine tot_b (Q := fun x => ∀ q, x q = if q < 99 then kk (q + 1) else kk q) ?_ (fun x hx => tot_s ⟨?_, by rw [addR_len h1]; omega, ?_⟩)
    · refine tot_m (P := fun x => ∀ q, x q = if q < 100 - 1 then kk (q + 1) else kk q) ?_ (fun x hx q => by rw [hx q])
      refine tot_loop (fun n i x => X5_add_L11 F n k (nI i) x) (fun i x => 1 ≤ i ∧ ∀ q, x q = if q < i - 1 then kk (q + 1) else kk q) 100 ?_ ?_ F 1 kk (by omega) (by omega) ⟨by omega, fun q => by rw [if_neg (by omega)]⟩
      · intro n x ⟨_, hx⟩
        rw [X5_add_L11, if_pos (by decide)]
        exact tot_s hx
      · intro n i x hi ⟨h1', hx⟩ ih
        obtain ⟨j, rfl⟩ : ∃ j, i = j + 1 := ⟨i - 1, by omega⟩
        rw [X5_add_L11, if_neg (by exact nI_ge (b := 100) (by omega) (by omega)), nI_pred]
        simp (disch := omega) only [nI_add, pn_add, pn_addl, pn_mul, pn_cl, pn_nlt0, false_or, pn_ge, pn_le, Nat.add_zero, Nat.zero_add, ↓reduceIte, Option.bind_some, nI_leI, nI_ltI, nI_eq, pn_ne1, pn_1ne]
        refine ih _ ⟨by omega, fun q => ?_⟩
        by_cases cq : q = j
        · subst cq; rw [upd_s, if_pos (by omega), hx, if_neg (by omega)]
        · rw [upd_n cq, hx]
          by_cases c2 : q < j + 1 - 1
          · rw [if_pos c2, if_pos (by omega)]
          · rw [if_neg c2, if_neg (by omega)]
    · rw [addR_len h1, e]; rfl
    · intro j hj
      rw [addR_len h1, e] at hj
      have hj2 : j < 100 := by omega
      show (addR k Q)[j] = upd x 99 k j
      simp only [addR, c, if_false]
      by_cases c9 : j < 99
      · rw [upd_n (by omega), hx, if_pos c9, List.getElem_append_left (by simp; omega), List.getElem_drop, ← h2 (j + 1) (by omega)]
        congr 1; omega
      · have e9 : j = 99 := by omega
        subst e9
        rw [upd_s, List.getElem_append_right (by simp; omega)]; simp
theorem m_req {F : Nat} {Q : List Int32} {w : Nat → Int32} (h : RQm Q w 0) (hF : 200 ≤ F) (k : Int32) : Tot (X10_requests F k w) (fun w' => RQm (addR k Q) w' 0 ∧ ∀ q, q ≠ 14 → (q < 748 ∨ 848 ≤ q) → w' q = w q) := by
  obtain ⟨h0, h1, h2⟩ := h
  simp only [Nat.zero_add] at h0 h2
  have c14 : (14 : Int32).toNatClampNeg = 14 := rfl
  rw [X10_requests, c14, h0]
  by_cases c : Q.length < 100
  · rw [if_neg (by
      intro hx
      have hx2 : nI Q.length = nI 100 := hx
      rw [nI_eq (by omega) (by omega)] at hx2; omega)]
    simp (disch := omega) only [nI_add, pn_add, pn_addl, pn_mul, pn_cl, pn_nlt0, false_or, pn_ge, pn_le, Nat.add_zero, Nat.zero_add, ↓reduceIte, Option.bind_some, nI_leI, nI_ltI, nI_eq, pn_ne1, pn_1ne, upd_n, h0]
    refine tot_s ⟨⟨?_, by rw [addR_len h1]; omega, fun j hj => ?_⟩, fun q q1 q2 => ?_⟩
    · simp only [Nat.zero_add]; rw [upd_s, addR_len h1, Nat.min_eq_right (by omega)]
    · rw [addR_len h1] at hj
      simp only [addR, c, if_true, Nat.zero_add]
      rw [upd_n (by omega)]
      by_cases cj : j < Q.length
      · rw [List.getElem_append_left cj, h2 j cj, upd_n (by omega)]
      · have e : j = Q.length := by omega
        subst e; rw [upd_s]; simp
    · rw [upd_n q1, upd_n (by omega)]
  · have e : Q.length = 100 := by omega
    rw [e, if_pos (show nI 100 = 100 from rfl)]
    refine tot_b (Q := fun x => ∀ q, x q = if 748 ≤ q ∧ q < 847 then w (q + 1) else w q) ?_ (fun x hx => ?_)
    · refine tot_m (P := fun x => ∀ q, x q = if 748 ≤ q ∧ q < 748 + 99 then w (q + 1) else w q) ?_ (fun x hx q => by rw [hx q])
      refine tot_loop (fun n i x => X10_requests_L14 F n k (nI i) x) (fun i x => ∀ q, x q = if 748 ≤ q ∧ q < 748 + i then w (q + 1) else w q) 99 ?_ ?_ F 0 w (by omega) (by omega) (fun q => by rw [if_neg (by omega)])
      · intro n x hx
        rw [X10_requests_L14, if_pos (by decide)]
        exact tot_s hx
      · intro n i x hi hx ih
        rw [X10_requests_L14, if_neg (by exact nI_ge (b := 99) hi (by omega))]
        simp (disch := omega) only [nI_add, pn_add, pn_addl, pn_mul, pn_cl, pn_nlt0, false_or, pn_ge, pn_le, Nat.add_zero, Nat.zero_add, ↓reduceIte, Option.bind_some, nI_leI, nI_ltI, nI_eq, pn_ne1, pn_1ne]
        refine ih _ (fun q => ?_)
        by_cases cq : q = 748 + i
        · subst cq; rw [upd_s, if_pos (by omega), hx, if_neg (by omega)]
        · rw [upd_n cq, hx]
          by_cases c2 : 748 ≤ q ∧ q < 748 + i
          · rw [if_pos c2, if_pos (by omega)]
          · rw [if_neg c2, if_neg (by omega)]
    · have hx14 : x 14 = nI 100 := by rw [hx, if_neg (by omega), h0, e]
      have e99 : nI 100 - 1 = nI 99 := nI_pred 99
      rw [hx14, e99, upd_s]
      simp (disch := omega) only [nI_add, pn_add, pn_addl, pn_mul, pn_cl, pn_nlt0, false_or, pn_ge, pn_le, Nat.add_zero, Nat.zero_add, ↓reduceIte, Option.bind_some, nI_leI, nI_ltI, nI_eq, pn_ne1, pn_1ne, upd_n, upd_s]
      refine tot_s ⟨⟨?_, by rw [addR_len h1]; omega, fun j hj => ?_⟩, fun q q1 q2 => ?_⟩
      · simp only [Nat.zero_add]; rw [upd_s, addR_len h1, e]; rfl
      · rw [addR_len h1, e] at hj
        simp only [addR, c, if_false, Nat.zero_add]
        rw [upd_n (by omega)]
        by_cases c9 : j < 99
        · have e1 : x (748 + j) = w (748 + j + 1) := by rw [hx, if_pos ⟨by omega, by omega⟩]
          rw [upd_n (by omega), upd_n (by omega), e1, List.getElem_append_left (by simp; omega), List.getElem_drop, h2 _ (by omega)]
          congr 1; omega
        · have e9 : j = 99 := by omega
          subst e9
          rw [upd_s, List.getElem_append_right (by simp; omega)]; simp
      · rw [upd_n q1, upd_n (by omega), upd_n q1, hx, if_neg (by omega)]
/-- the world: listeners, store, log, requests -/
abbrev WV : Type := Nat × (Nat → Nat → Int32) × SS × List Lg × List Int32
def RWc (V : WV) (x8 : tX8) (x6 : tX6) (x1 : tX1) (xy xz : tX2) (l8 : tL8) (x4 : tX4) (x5 : tX5) : Prop := RC V.2.2.1 x6 x1 xy xz ∧ LC V.1 V.2.1 l8 ∧ GLc V.2.2.2.1 x4 ∧ RQc V.2.2.2.2 x5 ∧ x8 = (nI V.1, V.2.2.1.2.2.2 5, V.2.2.1.2.2.2 13, V.2.2.1.2.2.2 17)
def RWm (V : WV) (w : Nat → Int32) (o : Nat) : Prop := RM V.2.2.1 w o ∧ LM V.1 V.2.1 w o ∧ GLm V.2.2.2.1 w o ∧ RQm V.2.2.2.2 w o
def OkWV (b T : Nat) (V : WV) : Prop := V.1 ≤ 8 ∧ Ok2 b V.2.2.1 ∧ (∀ i, i < V.1 → OkH (V.2.1 i)) ∧ (∀ k ∈ V.2.2.2.2, 0 ≤ k.toInt ∧ k.toInt < 1000) ∧ 0 ≤ (V.2.2.1.2.2.2 5).toInt ∧ (V.2.2.1.2.2.2 5).toInt ≤ T
def reqV (k : Int32) (V : WV) : WV := (V.1, V.2.1, setN 14 (nI (addR k V.2.2.2.2).length) V.2.2.1, V.2.2.2.1, addR k V.2.2.2.2)
/-- what was done and told is heard -/
def doneV (S : SS) (E : List Ev) (V : WV) : WV := (V.1, (hearS V.1 V.2.1 S V.2.2.2.1 E).1, (hearS V.1 V.2.1 S V.2.2.2.1 E).2.1, (hearS V.1 V.2.1 S V.2.2.2.1 E).2.2.1, V.2.2.2.2)
theorem hearS_nil {n : Nat} {H : Nat → Nat → Int32} {S : SS} {G : List Lg} : hearS n H S G [] = (H, S, G, []) := by
  have e : hearA n 100 0 (H, S, G, []) = (H, S, G, []) := by rw [hearA]; rfl
  rw [hearS, e]
  have : setN 13 (S.2.2.2 13 + nI (([] : List Ev).length - 100)) S = S := by
    have : nI (([] : List Ev).length - 100) = 0 := rfl
    rw [this, Int32.add_zero]; simp only [setN]; rw [upd_same]
  rw [this]
theorem doneV_nil {V : WV} : doneV V.2.2.1 [] V = V := by rw [doneV, hearS_nil]
/-- what has been heard is in order -/
theorem hearS_ok {n b : Nat} {H : Nat → Nat → Int32} {S : SS} {G : List Lg} {E : List Ev} (hn : n ≤ 8) (hb : b + 60000 < 2147483648) (hS : Ok2 b S) (hH : ∀ i, i < n → OkH (H i)) (hE : EvAll E) (h18 : S.2.2.2 18 = nI G.length) (hG : G.length ≤ 40) :
    Ok2 (b + 51200) (hearS n H S G E).2.1 ∧ (∀ i, i < n → OkH ((hearS n H S G E).1 i)) ∧ (hearS n H S G E).2.1.2.2.2 5 = S.2.2.2 5 ∧ (hearS n H S G E).2.1.2.2.2 14 = S.2.2.2 14 ∧ (hearS n H S G E).2.1.2.2.2 7 = S.2.2.2 7 := by
  obtain ⟨g1, g2, _, _, g5, _, _⟩ := hearA_ok hn 100 0 b H S G E (by omega) hS hH hE h18 hG
  refine ⟨Ok2.up (g1.set (by simp)) (by omega), g2, ?_, ?_, ?_⟩
  · simp only [hearS, setN]; rw [upd_n (by decide), g5 5 (by simp [keepQ]) (by decide) (by decide)]
  · simp only [hearS, setN]; rw [upd_n (by decide), g5 14 (by simp [keepQ]) (by decide) (by decide)]
  · simp only [hearS, setN]; rw [upd_n (by decide), g5 7 (by simp [keepQ]) (by decide) (by decide)]
