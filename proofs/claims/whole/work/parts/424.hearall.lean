/-! all events of a call are heard -/
abbrev ASt : Type := (Nat → Nat → Int32) × SS × List Lg × List Ev
def deepS (ev : Ev) (S : SS) : SS := setN 17 (if S.2.2.2 17 < ev.2.2.2.2 then ev.2.2.2.2 else S.2.2.2 17) S
def hear1 (n : Nat) (ev : Ev) (H : Nat → Nat → Int32) (S : SS) (E : List Ev) : HSt := hearL ev.1 ev.2.1 ev.2.2.1 (ev.2.2.2.2 + 1) n 0 (0, H, deepS ev S, E)
def logE (n : Nat) (ev : Ev) (H : Nat → Nat → Int32) (S : SS) (G : List Lg) (E : List Ev) : List Lg := addL (ev.1, ev.2.1, ev.2.2.2.2, ev.2.2.2.1, (hear1 n ev H S E).1) G
def hearA (n : Nat) : Nat → Nat → ASt → ASt
  | 0, _, x => x
  | c + 1, i, (H, S, G, E) => match E[i]? with
    | none => (H, S, G, E)
    | some ev => hearA n c (i + 1) ((hear1 n ev H S E).2.1, setN 18 (nI (logE n ev H S G E).length) (hear1 n ev H S E).2.2.1, logE n ev H S G E, (hear1 n ev H S E).2.2.2)
theorem RC_set {S : SS} {x6 : tX6} {x1 : tX1} {xy xz : tX2} (h : RC S x6 x1 xy xz) {q : Nat} {v : Int32} (hq : keepQ q) : RC (setN q v S) x6 x1 xy xz := by
  obtain ⟨hap, got, cap, wy, bal, wbt⟩ := x6
  obtain ⟨kK, kV, kW, kC, kL, kT, kP, sz, ld, pl, us, ag, hv⟩ := x1
  obtain ⟨hL, hld, hpl, hy, hz, n1, n2, n3, n4, n5, n6, n7, n8, n9, n10, n11, n12⟩ := h
  refine ⟨hL, hld, hpl, hy, hz, ?_⟩
  have hk : ∀ x, (x = 1 ∨ x = 2 ∨ x = 3 ∨ x = 4 ∨ x = 6 ∨ (8 ≤ x ∧ x ≤ 12) ∨ x = 15 ∨ x = 16) → upd S.2.2.2 q v x = S.2.2.2 x := fun x hx => upd_n (fun e => keep_n hq hx e.symm)
  simp only [setN, NC]
  rw [hk 9 (by omega), hk 10 (by omega), hk 11 (by omega), hk 12 (by omega), hk 8 (by omega), hk 1 (by omega), hk 2 (by omega), hk 3 (by omega), hk 16 (by omega), hk 4 (by omega), hk 6 (by omega), hk 15 (by omega)]
  exact ⟨n1, n2, n3, n4, n5, n6, n7, n8, n9, n10, n11, n12⟩
theorem Ok2.set {b : Nat} {S : SS} (h : Ok2 b S) {q : Nat} {v : Int32} (hq : q = 7 ∨ q = 13 ∨ q = 14 ∨ q = 17 ∨ q = 18) : Ok2 b (setN q v S) := by
  obtain ⟨⟨a1, a2, a3, n1, n2, n3, n4, n5, n6, n7, n8, n9, n10⟩, hw, hc⟩ := h
  refine ⟨⟨?_, a2, a3, ?_⟩, ?_, ?_⟩
  · simp only [setN]; rw [upd_n (by omega), upd_n (by omega)]; exact a1
  · simp only [setN, OkN]
    rw [upd_n (by omega), upd_n (by omega), upd_n (by omega), upd_n (by omega), upd_n (by omega), upd_n (by omega)]
    exact ⟨n1, n2, n3, n4, n5, n6, n7, n8, n9, n10⟩
  · simp only [setN]; rw [upd_n (by omega)]; exact hw
  · simp only [setN]; rw [upd_n (by omega)]; exact hc
def EvAll (E : List Ev) : Prop := ∀ ev ∈ E, EvOk ev
/-- what one event's hearing leaves -/
theorem hear1_ok {n b : Nat} {H : Nat → Nat → Int32} {S : SS} {E : List Ev} {ev : Ev} (hev : EvOk ev) (hn : n ≤ 8) (hb : b + 512 < 2147483648) (hS : Ok2 b S) (hH : ∀ i, i < n → OkH (H i)) (hE : EvAll E) :
    Ok2 (b + 512) (hear1 n ev H S E).2.2.1 ∧ (∀ i, i < n → OkH ((hear1 n ev H S E).2.1 i)) ∧ EvAll (hear1 n ev H S E).2.2.2 ∧ (∃ X, (hear1 n ev H S E).2.2.2 = E ++ X ∧ X.length ≤ 488) ∧ (∀ q, keepQ q → q ≠ 17 → (hear1 n ev H S E).2.2.1.2.2.2 q = S.2.2.2 q) ∧ (hear1 n ev H S E).2.2.1.2.2.2 17 = (if S.2.2.2 17 < ev.2.2.2.2 then ev.2.2.2.2 else S.2.2.2 17) := by
  obtain ⟨g1, g2, g3, ⟨X, g4, g5⟩, g6⟩ := hearL_ok (kind := ev.1) (d := ev.2.2.2.2 + 1) hev.1 hev.2.1 hev.2.2.1 (n := n) n 0 b 0 H (deepS ev S) E (by omega) (by omega) (hS.set (by simp)) hH hE
  refine ⟨Ok2.up g1 (by omega), g2, g3, ⟨X, g4, by omega⟩, fun q hq h17 => ?_, ?_⟩
  · have := g6 q hq
    rw [show hearL ev.1 ev.2.1 ev.2.2.1 (ev.2.2.2.2 + 1) n 0 (0, H, deepS ev S, E) = hear1 n ev H S E from rfl] at this
    rw [this]; simp only [deepS, setN]; rw [upd_n h17]
  · have := g6 17 (by simp [keepQ])
    rw [show hearL ev.1 ev.2.1 ev.2.2.1 (ev.2.2.2.2 + 1) n 0 (0, H, deepS ev S, E) = hear1 n ev H S E from rfl] at this
    rw [this]; simp only [deepS, setN]; rw [upd_s]
set_option maxRecDepth 100000 in
theorem hearA_ok {n : Nat} (hn : n ≤ 8) : ∀ (c i b : Nat) (H : Nat → Nat → Int32) (S : SS) (G : List Lg) (E : List Ev), b + 512 * c < 2147483648 → Ok2 b S → (∀ i, i < n → OkH (H i)) → EvAll E → S.2.2.2 18 = nI G.length → G.length ≤ 40 →
    Ok2 (b + 512 * c) (hearA n c i (H, S, G, E)).2.1 ∧ (∀ j, j < n → OkH ((hearA n c i (H, S, G, E)).1 j)) ∧ EvAll (hearA n c i (H, S, G, E)).2.2.2 ∧ (∃ X, (hearA n c i (H, S, G, E)).2.2.2 = E ++ X ∧ X.length ≤ 488 * c) ∧ (∀ q, keepQ q → q ≠ 17 → q ≠ 18 → (hearA n c i (H, S, G, E)).2.1.2.2.2 q = S.2.2.2 q) ∧ (hearA n c i (H, S, G, E)).2.1.2.2.2 18 = nI (hearA n c i (H, S, G, E)).2.2.1.length ∧ (hearA n c i (H, S, G, E)).2.2.1.length ≤ 40 := by
  intro c
  induction c with
  | zero => intro i b H S G E _ hS hH hE h18 hG; exact ⟨hS, hH, hE, ⟨[], by simp [hearA], by simp⟩, fun _ _ _ _ => rfl, h18, hG⟩
  | succ c ih =>
    intro i b H S G E hb hS hH hE h18 hG
    rw [hearA]
    cases he : E[i]? with
    | none => exact ⟨hS.up (by omega), hH, hE, ⟨[], by simp, by simp⟩, fun _ _ _ _ => rfl, h18, hG⟩
    | some ev =>
      have hev := hE ev (List.mem_of_getElem? he)
      obtain ⟨g1, g2, g3, ⟨X, g4, g5⟩, g6, g7⟩ := hear1_ok (b := b) hev hn (by omega) hS hH hE
      have hlen : (logE n ev H S G E).length ≤ 40 := by rw [logE, addL_len]; omega
      obtain ⟨k1, k2, k3, ⟨Y, k4, k5⟩, k6, k7, k8⟩ := ih (i + 1) (b + 512) (hear1 n ev H S E).2.1 (setN 18 (nI (logE n ev H S G E).length) (hear1 n ev H S E).2.2.1) (logE n ev H S G E) (hear1 n ev H S E).2.2.2 (by omega) (g1.set (by simp)) g2 g3 (by simp only [setN]; rw [upd_s]) hlen
      refine ⟨Ok2.up k1 (by omega), k2, k3, ⟨X ++ Y, ?_, by rw [List.length_append]; omega⟩, fun q hq h17 h18 => ?_, k7, k8⟩
      · show (hearA n c (i + 1) _).2.2.2 = _
        rw [k4, g4, List.append_assoc]
      · show (hearA n c (i + 1) _).2.1.2.2.2 q = _
        rw [k6 q hq h17 h18]; simp only [setN]; rw [upd_n h18, g6 q hq h17]
section CHearAll
variable {F n : Nat}
set_option maxRecDepth 100000 in
theorem c_L10 (hF : 200 ≤ F) (hn : n ≤ 8) :
    ∀ (m c i b : Nat) (H : Nat → Nat → Int32) (S : SS) (G : List Lg) (E : List Ev) (x8 : tX8) (x6 : tX6) (x1 : tX1) (xy xz : tX2) (xq : tX7) (l8 : tL8) (x4 : tX4), i + c = 100 → c < m → b + 512 * c + 1000 < 2147483648 → RC S x6 x1 xy xz → Ok2 b S → (∀ i, i < n → OkH (H i)) → QC E xq → EvAll E → LC n H l8 → GLc G x4 → x8 = (nI n, S.2.2.2 5, S.2.2.2 13, S.2.2.2 17) → E.length + 488 * c < 2147480000 →
    Tot (X8_hear_L10 F m (nI i) x8 x6 x1 xy xz xq l8 x4) (fun y => y.1 = (nI n, (hearA n c i (H, S, G, E)).2.1.2.2.2 5, (hearA n c i (H, S, G, E)).2.1.2.2.2 13, (hearA n c i (H, S, G, E)).2.1.2.2.2 17) ∧ RC (hearA n c i (H, S, G, E)).2.1 y.2.1 y.2.2.1 y.2.2.2.1 y.2.2.2.2.1 ∧ QC (hearA n c i (H, S, G, E)).2.2.2 y.2.2.2.2.2.1 ∧ LC n (hearA n c i (H, S, G, E)).1 y.2.2.2.2.2.2.1 ∧ GLc (hearA n c i (H, S, G, E)).2.2.1 y.2.2.2.2.2.2.2) := by
  intro m
  induction m with
  | zero => intro c i b H S G E x8 x6 x1 xy xz xq l8 x4 _ hm; omega
  | succ m ih =>
    intro c i b H S G E x8 x6 x1 xy xz xq l8 x4 hic hm hb h hS hH hq hE hL hG hx8 hEl
    subst hx8
    obtain ⟨hap, got, cap, wy, bal, wbt⟩ := x6
    obtain ⟨kK, kV, kW, kC, kL, kT, kP, sz, ld, pl, us, ag, hvv⟩ := x1
    obtain ⟨yk, ys⟩ := xy
    obtain ⟨zk, zs⟩ := xz
    obtain ⟨qa, qb, qc, qd, qe, qs, ql, qp⟩ := xq
    obtain ⟨a0, a1, a2, a3, a4, a5, a6, a7, a8⟩ := l8
    obtain ⟨s0, s1, s2, s3, s4, s5, s6⟩ := x4
    have hq' := hq
    obtain ⟨q0, q1, q2⟩ := hq'
    rw [X8_hear_L10]
    by_cases cl : min 100 E.length ≤ i
    · rw [if_pos (by rw [q0]; exact nI_le cl (by omega))]
      have e : hearA n c i (H, S, G, E) = (H, S, G, E) := by
        cases c with
        | zero => rfl
        | succ c => rw [hearA, List.getElem?_eq_none (by omega)]
      rw [e]
      exact tot_s ⟨rfl, h, hq, hL, hG⟩
    have hiE : i < E.length := by omega
    have hi100 : i < 100 := by omega
    obtain ⟨c', rfl⟩ : ∃ c', c = c' + 1 := ⟨c - 1, by omega⟩
    rw [if_neg (by rw [q0]; exact nI_ge (by omega) (by omega)), if_neg (by exact nI_ge (b := 100) (by omega) (by omega))]
    simp (disch := omega) only [nI_add, pn_add, pn_addl, pn_mul, pn_cl, pn_nlt0, false_or, pn_ge, pn_le, Nat.add_zero, Nat.zero_add, ↓reduceIte, Option.bind_some, nI_leI, nI_ltI, nI_eq, pn_ne1, pn_1ne]
    have hev0 := q2 i hiE hi100
    have hEv : E[i] = (qa i, qb i, qc i, qd i, qe i) := hev0
    have hevOk : EvOk E[i] := hE _ (List.getElem_mem hiE)
    have he? : E[i]? = some E[i] := List.getElem?_eq_getElem hiE
    obtain ⟨g1, g2, g3, ⟨X, g4, g5⟩, g6, g7⟩ := hear1_ok (b := b) hevOk hn (by omega) hS hH hE
    have hv := hevOk.1
    have k1 := hevOk.2.1
    have k2 := hevOk.2.2.1
    have hRd : RC (deepS E[i] S) (hap, got, cap, wy, bal, wbt) (kK, kV, kW, kC, kL, kT, kP, sz, ld, pl, us, ag, hvv) (yk, ys) (zk, zs) := RC_set h (by simp [keepQ])
    have hqd : QC E (qa, qb, qc, qd, qe, qs, ql, qe i + 1) := hq
    have hrun := c_L61 (F := F) (n := n) (kind := E[i].1) (key := E[i].2.1) (v := E[i].2.2.1) (dd := qe i) (d0 := E[i].2.2.2.2) (wt := E[i].2.2.2.1) (by omega) hv k1 k2 (nI n, S.2.2.2 5, S.2.2.2 13, S.2.2.2 17) rfl hi100 F n 0 b 0 H (deepS E[i] S) E _ _ _ _ (qa, qb, qc, qd, qe, qs, ql, qe i + 1) (a0, a1, a2, a3, a4, a5, a6, a7, a8) (by omega) hn (by omega) (by omega) hRd (hS.set (by simp)) hH hqd hL ⟨hiE, rfl⟩
    have e1 : E[i].1 = qa i := by rw [hEv]
    have e2 : E[i].2.1 = qb i := by rw [hEv]
    have e3 : E[i].2.2.2.1 = qd i := by rw [hEv]
    have e5 : E[i].2.2.2.2 = qe i := by rw [hEv]
    have hh : hearL E[i].1 E[i].2.1 E[i].2.2.1 (dep (qa, qb, qc, qd, qe, qs, ql, qe i + 1)) n 0 (0, H, deepS E[i] S, E) = hear1 n E[i] H S E := by
      rw [hear1, e5]
    rw [hh] at hrun
    rw [← e1, ← e2]
    refine tot_b hrun (fun y ⟨z0, z1, z2, z3, z4⟩ => ?_)
    obtain ⟨r, ⟨j1, j2, j3, j4, j5, j6⟩, ⟨j7, j8, j9, j10, j11, j12, j13, j14, j15, j16, j17, j18, j19⟩, ⟨j20, j21⟩, ⟨j22, j23⟩, ⟨j24, j25, j26, j27, j28, j29, j30, j31⟩, ⟨l0, l1, l2, l3, l4, l5, l6, l7, l8⟩⟩ := y
    simp only at z0 z1 z2 z3 z4 ⊢
    have hwt : j27 i = E[i].2.2.2.1 := by
      have hlt : i < (hear1 n E[i] H S E).2.2.2.length := by rw [g4, List.length_append]; omega
      have := z2.2.2 i hlt hi100
      have h2 : (hear1 n E[i] H S E).2.2.2[i] = E[i] := by
        simp only [g4]; rw [List.getElem_append_left hiE]
      rw [h2] at this
      rw [this]
    rw [hwt, ← e5]
    refine tot_b (c_log hG E[i].1 E[i].2.1 E[i].2.2.2.2 E[i].2.2.2.1 r) (fun y hy => ?_)
    obtain ⟨t0, t1, t2, t3, t4, t5, t6⟩ := y
    simp only at hy ⊢
    rw [z0] at hy
    rw [hearA, he?]
    have hx8 : ((nI n, S.2.2.2 5, S.2.2.2 13, if S.2.2.2 17 < E[i].2.2.2.2 then E[i].2.2.2.2 else S.2.2.2 17) : tX8) = (nI n, (setN 18 (nI (logE n E[i] H S G E).length) (hear1 n E[i] H S E).2.2.1).2.2.2 5, (setN 18 (nI (logE n E[i] H S G E).length) (hear1 n E[i] H S E).2.2.1).2.2.2 13, (setN 18 (nI (logE n E[i] H S G E).length) (hear1 n E[i] H S E).2.2.1).2.2.2 17) := by
      simp only [setN]
      rw [upd_n (by decide), upd_n (by decide), upd_n (by decide), g6 5 (by simp [keepQ]) (by decide), g6 13 (by simp [keepQ]) (by decide), g7]
    exact ih c' (i + 1) (b + 512) _ _ _ _ _ _ _ _ _ _ _ _ (by omega) (by omega) (by omega) (RC_set z1 (by simp [keepQ])) (g1.set (by simp)) g2 z2 g3 z4 hy hx8 (by rw [g4, List.length_append]; omega)
/-- what is left when all is heard: the lost ones are counted -/
def hearS (n : Nat) (H : Nat → Nat → Int32) (S : SS) (G : List Lg) (E : List Ev) : ASt := ((hearA n 100 0 (H, S, G, E)).1, setN 13 ((hearA n 100 0 (H, S, G, E)).2.1.2.2.2 13 + nI ((hearA n 100 0 (H, S, G, E)).2.2.2.length - 100)) (hearA n 100 0 (H, S, G, E)).2.1, (hearA n 100 0 (H, S, G, E)).2.2.1, (hearA n 100 0 (H, S, G, E)).2.2.2)
set_option maxRecDepth 100000 in
theorem c_hear {b : Nat} {H : Nat → Nat → Int32} {S : SS} {G : List Lg} {E : List Ev} {x8 : tX8} {x6 : tX6} {x1 : tX1} {xy xz : tX2} {xq : tX7} {l8 : tL8} {x4 : tX4} (hF : 200 ≤ F) (hn : n ≤ 8) (hb : b + 60000 < 2147483648) (h : RC S x6 x1 xy xz) (hS : Ok2 b S) (hH : ∀ i, i < n → OkH (H i)) (hq : QC E xq) (hE : EvAll E) (hL : LC n H l8) (hG : GLc G x4) (hx8 : x8 = (nI n, S.2.2.2 5, S.2.2.2 13, S.2.2.2 17)) (hEl : E.length ≤ 100000) :
    Tot (X8_hear F x8 x6 x1 xy xz xq l8 x4) (fun y => y.1 = (nI n, (hearS n H S G E).2.1.2.2.2 5, (hearS n H S G E).2.1.2.2.2 13, (hearS n H S G E).2.1.2.2.2 17) ∧ RC (hearS n H S G E).2.1 y.2.1 y.2.2.1 y.2.2.2.1 y.2.2.2.2.1 ∧ QC (hearS n H S G E).2.2.2 y.2.2.2.2.2.1 ∧ LC n (hearS n H S G E).1 y.2.2.2.2.2.2.1 ∧ GLc (hearS n H S G E).2.2.1 y.2.2.2.2.2.2.2) := by
  have hrun := c_L10 (F := F) (n := n) hF hn F 100 0 b H S G E x8 x6 x1 xy xz xq l8 x4 (by omega) (by omega) (by omega) h hS hH hq hE hL hG hx8 (by omega)
  obtain ⟨x8a, x8b, x8c, x8d⟩ := x8
  obtain ⟨hap, got, cap, wy, bal, wbt⟩ := x6
  obtain ⟨kK, kV, kW, kC, kL, kT, kP, sz, ld, pl, us, ag, hvv⟩ := x1
  obtain ⟨yk, ys⟩ := xy
  obtain ⟨zk, zs⟩ := xz
  obtain ⟨qa, qb, qc, qd, qe, qs, ql, qp⟩ := xq
  obtain ⟨a0, a1, a2, a3, a4, a5, a6, a7, a8⟩ := l8
  obtain ⟨s0, s1, s2, s3, s4, s5, s6⟩ := x4
  rw [X8_hear]
  refine tot_b hrun (fun y ⟨z0, z1, z2, z3, z4⟩ => ?_)
  obtain ⟨⟨m1, m2, m3, m4⟩, ⟨j1, j2, j3, j4, j5, j6⟩, ⟨j7, j8, j9, j10, j11, j12, j13, j14, j15, j16, j17, j18, j19⟩, ⟨j20, j21⟩, ⟨j22, j23⟩, ⟨j24, j25, j26, j27, j28, j29, j30, j31⟩, ⟨l0, l1, l2, l3, l4, l5, l6, l7, l8⟩, ⟨t0, t1, t2, t3, t4, t5, t6⟩⟩ := y
  simp only [Prod.mk.injEq] at z0
  obtain ⟨rfl, rfl, rfl, rfl⟩ := z0
  refine tot_s ⟨?_, RC_set z1 (by simp [keepQ]), z2, z3, z4⟩
  have hl : j30 = nI ((hearA n 100 0 (H, S, G, E)).2.2.2.length - 100) := z2.2.1
  simp only [hearS, setN]
  rw [hl, upd_n (by decide), upd_s, upd_n (by decide)]
end CHearAll
