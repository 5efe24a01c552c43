/-! what there is: ghosts, listeners, requests, victims, room -/
section Q2
variable {F b n : Nat} {S : SS} {x6 : tX6} {x1 : tX1} {xy xz : tX2} {w : Nat → Int32}
theorem isHearerM {H : Nat → Nat → Int32} (h : LM n H w 0) (p : Int32) : X10_isHearer F p w = some (bi (decide (0 ≤ p) && decide (p ≤ nI n - 1))) := by
  have h7 : w (7 : Int32).toNatClampNeg = nI n := h.2.1
  rw [X10_isHearer, h7, show X10_isIn F p.toInt64 0 (nI n - 1).toInt64 = _ from isIn_eq (F := F) p 0 (nI n - 1)]
  simp only [Option.bind_some]; rw [if_neg (Classical.not_not.2 (bi_01 _))]
theorem listenerAt_in {tk ls dp : Int32} (hn : n ≤ 8) {i : Nat} (hi : i < n) : X8_listenerAt F (nI i) (nI n, tk, ls, dp) = some (some i) := by
  rw [X8_listenerAt, if_neg (nI_pos (by omega)), if_neg (by exact nI_ge hi (by omega))]
  simp (disch := omega) only [nI_add, pn_add, pn_addl, pn_mul, pn_cl, pn_nlt0, false_or, pn_ge, pn_le, Nat.add_zero, Nat.zero_add, ↓reduceIte, Option.bind_some, nI_leI, nI_ltI, nI_eq, pn_ne1, pn_1ne]
theorem listenerAt_out {tk ls dp p : Int32} (hn : n ≤ 8) (hp : ∀ i, i < n → p ≠ nI i) : X8_listenerAt F p (nI n, tk, ls, dp) = some none := by
  rw [X8_listenerAt]
  by_cases c : p < 0
  · rw [if_pos c]
  · rw [if_neg c]
    obtain ⟨i, hi, rfl⟩ := nI_of c
    rw [if_pos (by
      rw [nI_leI (by omega) hi]
      by_cases c2 : i < n
      · exact absurd rfl (hp i c2)
      · omega)]
theorem q_ghost (hc : RC S x6 x1 xy xz) (hm : RM S w 0) (p1 p2 th : Int32) : ∃ r, X9_ghost F p1 p2 xy xz = some r ∧ X10_ghost F p1 p2 th w 0 = some (r, 0) := by
  obtain ⟨hap, got, cap, wy, bal, wbt⟩ := x6
  obtain ⟨kK, kV, kW, kC, kL, kT, kP, sz, ld, pl, us, ag, hv⟩ := x1
  obtain ⟨_, _, _, hy, hz, _⟩ := hc
  obtain ⟨_, gy, gz, _⟩ := hm
  obtain ⟨yk, ys⟩ := xy
  obtain ⟨zk, zs⟩ := xz
  have key : ∀ (g : List Int32) (kk : Nat → Int32) (s : Nat), GC g (kk, nI g.length) → GM s g w 0 → ∃ r, X2_keyAt F p2 kk (nI g.length) = some r ∧ (if (19 + nI s) < 0 ∨ 3392 ≤ (19 + nI s).toNatClampNeg then none else ((X10_isIn F p2.toInt64 0 ((w (19 + nI s).toNatClampNeg) - 1).toInt64).bind fun r3 => (if r3 = 0 then (some ((-1 : Int32), (0 : Int32))) else ((X10_ghostAt F (nI s) p2 0).bind fun r5 => (if r5 < 0 ∨ 3392 ≤ r5.toNatClampNeg then none else (some (w r5.toNatClampNeg, 0))))))) = some (r, 0) := by
    intro g kk s hg hgm
    obtain ⟨hs, ho, h0, h1, h2⟩ := hgm
    have h0' : w (19 + s) = nI g.length := by rw [← h0, Nat.zero_add]
    rw [X2_keyAt]
    simp (disch := omega) only [nI_add, pn_add, pn_addl, pn_mul, pn_cl, pn_nlt0, false_or, pn_ge, pn_le, Nat.add_zero, Nat.zero_add, ↓reduceIte, Option.bind_some, nI_leI, nI_ltI, nI_eq, pn_ne1, pn_1ne, h0']
    rw [show X10_isIn F p2.toInt64 0 (nI g.length - 1).toInt64 = _ from isIn_eq (F := F) p2 0 (nI g.length - 1)]
    simp only [Option.bind_some]
    rcases rng_n p2 (n := g.length) (by omega) with ⟨i, hi, rfl, hr⟩ | ⟨hn, hr⟩
    · have hidx : (0 + 444 + 16 * nI s + nI i : Int32) = nI (444 + 16 * s + i) := by
        rw [show (0 + 444 : Int32) = nI 444 from rfl]; simp (disch := omega) only [nI_add, pn_add, pn_addl, pn_mul, pn_cl, pn_nlt0, false_or, pn_ge, pn_le, Nat.add_zero, Nat.zero_add, ↓reduceIte, Option.bind_some, nI_leI, nI_ltI, nI_eq, pn_ne1, pn_1ne]
      rw [hr, if_neg (show ¬ bi true = 0 by decide), X10_ghostAt]
      simp only [Option.bind_some]
      rw [hidx]
      simp (disch := omega) only [nI_add, pn_add, pn_addl, pn_mul, pn_cl, pn_nlt0, false_or, pn_ge, pn_le, Nat.add_zero, Nat.zero_add, ↓reduceIte, Option.bind_some, nI_leI, nI_ltI, nI_eq, pn_ne1, pn_1ne]
      have e := h2 i hi
      rw [show 0 + 444 + 16 * s + i = 444 + 16 * s + i by omega] at e
      exact ⟨kk i, rfl, by rw [← e, hg.2.2 i hi]⟩
    · refine ⟨-1, ?_, by rw [hr]; rfl⟩
      by_cases c : p2 < 0
      · rw [if_pos c]
      · rw [if_neg c]
        obtain ⟨i, hi, rfl⟩ := nI_of c
        rw [if_pos (by
          rw [nI_leI (by omega) hi]
          by_cases c2 : i < g.length
          · exact absurd rfl (hn i c2)
          · omega)]
  have ey : ys = nI S.2.1.length := hy.1
  have ez : zs = nI S.2.2.1.length := hz.1
  subst ey; subst ez
  rw [X9_ghost, X10_ghost, show X10_isIn F p1.toInt64 0 1 = _ from isIn_eq (F := F) p1 0 1]
  simp only [Option.bind_some]
  cases hk : (decide (0 ≤ p1) && decide (p1 ≤ 1)) with
  | false =>
    have n0 : ¬ p1 = 0 := fun e => by subst e; exact absurd hk (by decide)
    have n1 : ¬ p1 = 1 := fun e => by subst e; exact absurd hk (by decide)
    exact ⟨-1, by rw [if_neg n0, if_neg n1], by rw [if_pos (show bi false = 0 from rfl)]⟩
  | true =>
    rw [if_neg (show ¬ bi true = 0 by decide)]
    by_cases c0 : p1 = 0
    · subst c0
      obtain ⟨r, r1, r2⟩ := key S.2.1 yk 0 hy gy
      exact ⟨r, by rw [if_pos rfl, r1]; rfl, r2⟩
    · by_cases c1 : p1 = 1
      · subst c1
        obtain ⟨r, r1, r2⟩ := key S.2.2.1 zk 1 hz gz
        exact ⟨r, by rw [if_neg (by decide), if_pos rfl, r1]; rfl, r2⟩
      · obtain ⟨h1, h2⟩ := rng_of hk
        have e0 : (0 : Int32).toInt = 0 := by decide
        have e1 : (1 : Int32).toInt = 1 := by decide
        exfalso
        by_cases c : p1.toInt = 0
        · exact c0 (i32_eq.2 (by omega))
        · exact c1 (i32_eq.2 (by omega))
theorem q_listener {H : Nat → Nat → Int32} {x8 : tX8} {l8 : tL8} (h8 : x8.1 = nI n) (hc : LC n H l8) (hm : LM n H w 0) (hH : ∀ i, i < n → OkH (H i)) (p1 p2 th : Int32) : ∃ r, X9_listener F p1 p2 x8 l8 = some r ∧ X10_listener F p1 p2 th w 0 = some (r, 0) := by
  obtain ⟨lc, tk, ls, dp⟩ := x8
  obtain ⟨a0, a1, a2, a3, a4, a5, a6, a7, a8⟩ := l8
  simp only at h8
  subst h8
  have hn := hc.1
  rw [X9_listener, X10_listener, isHearerM hm]
  simp only [Option.bind_some]
  rcases rng_n p1 (n := n) (by omega) with ⟨i, hi, rfl, hr⟩ | ⟨hno, hr⟩
  · rw [listenerAt_in hn hi, hr, if_neg (show ¬ bi true = 0 by decide), show X10_isIn F p2.toInt64 0 2 = _ from isIn_eq (F := F) p2 0 2]
    simp only [Option.bind_some]
    obtain ⟨_, _, _, _, _, _, l6, l7, l8⟩ := hc.2.1 i hi
    have m6 := hm.2.2 i 6 hi (by omega)
    have m7 := hm.2.2 i 7 hi (by omega)
    have m8 := hm.2.2 i 8 hi (by omega)
    simp only [Nat.zero_add] at m6 m7 m8
    have has : X9_asInt F (H i 6) = some (H i 6) := by rw [X9_asInt]; rcases (hH i hi).2.2.2.1 with h | h <;> rw [h] <;> rfl
    rw [l6, l7, l8, has]
    cases hk : (decide (0 ≤ p2) && decide (p2 ≤ 2)) with
    | false =>
      have n0 : ¬ p2 = 0 := fun e => by subst e; exact absurd hk (by decide)
      have n1 : ¬ p2 = 1 := fun e => by subst e; exact absurd hk (by decide)
      have n2 : ¬ p2 = 2 := fun e => by subst e; exact absurd hk (by decide)
      exact ⟨-1, by rw [if_neg n0, if_neg n1, if_neg n2], by rw [if_pos (show bi false = 0 from rfl)]⟩
    | true =>
      rw [if_neg (show ¬ bi true = 0 by decide), X10_hearerAt]
      obtain ⟨r1, r2⟩ := rng_of hk
      have e0 : (0 : Int32).toInt = 0 := by decide
      have e2 : (2 : Int32).toInt = 2 := by decide
      obtain ⟨k, hk1, rfl, hk3⟩ := i32_nI (x := p2) (by omega)
      have hk2 : k ≤ 2 := by omega
      have hidx : (0 + 476 + 9 * nI i + 6 + nI k : Int32) = nI (476 + 9 * i + 6 + k) := by
        rw [show (0 + 476 : Int32) = nI 476 from rfl]; simp (disch := omega) only [nI_add, pn_add, pn_addl, pn_mul, pn_cl, pn_nlt0, false_or, pn_ge, pn_le, Nat.add_zero, Nat.zero_add, ↓reduceIte, Option.bind_some, nI_leI, nI_ltI, nI_eq, pn_ne1, pn_1ne]
      simp only [Option.bind_some]
      rw [hidx]
      simp (disch := omega) only [nI_add, pn_add, pn_addl, pn_mul, pn_cl, pn_nlt0, false_or, pn_ge, pn_le, Nat.add_zero, Nat.zero_add, ↓reduceIte, Option.bind_some, nI_leI, nI_ltI, nI_eq, pn_ne1, pn_1ne]
      have h3 : k = 0 ∨ k = 1 ∨ k = 2 := by omega
      rcases h3 with rfl | rfl | rfl
      · exact ⟨H i 6, by rw [if_pos (by decide)], by rw [← m6]⟩
      · exact ⟨H i 7, by rw [if_neg (by decide), if_pos (by decide)], by rw [← m7]⟩
      · exact ⟨H i 8, by rw [if_neg (by decide), if_neg (by decide), if_pos (by decide)], by rw [← m8]⟩
  · rw [listenerAt_out hn hno, hr]
    exact ⟨-1, rfl, by rw [if_pos (show bi false = 0 from rfl)]⟩
theorem q_request {Q : List Int32} {x5 : tX5} (hc : RQc Q x5) (hm : RQm Q w 0) (p1 th : Int32) : ∃ r, X9_request F p1 x5 = some r ∧ X10_request F p1 th w = some (r, 0) := by
  obtain ⟨kk, sz⟩ := x5
  obtain ⟨h0, h1, h2⟩ := hc
  obtain ⟨m0, _, m2⟩ := hm
  simp only at h0 h2
  subst h0
  have m0' : w (14 : Int32).toNatClampNeg = nI Q.length := m0
  rw [X9_request, X10_request, within_eq, m0', show X10_isIn F p1.toInt64 0 (nI Q.length - 1).toInt64 = _ from isIn_eq (F := F) p1 0 (nI Q.length - 1)]
  simp only [Option.bind_some]
  rcases rng_n p1 (n := Q.length) (by omega) with ⟨i, hi, rfl, hr⟩ | ⟨hno, hr⟩
  · rw [hr, if_neg (show ¬ bi true = 0 by decide), if_neg (show ¬ bi true = 0 by decide)]
    simp (disch := omega) only [nI_add, pn_add, pn_addl, pn_mul, pn_cl, pn_nlt0, false_or, pn_ge, pn_le, Nat.add_zero, Nat.zero_add, ↓reduceIte, Option.bind_some, nI_leI, nI_ltI, nI_eq, pn_ne1, pn_1ne]
    have e := m2 i hi
    rw [Nat.zero_add] at e
    exact ⟨kk i, rfl, by rw [← h2 i hi, e]⟩
  · rw [hr]; exact ⟨-1, by rw [if_pos (show bi false = 0 from rfl)], by rw [if_pos (show bi false = 0 from rfl)]⟩
theorem q_victim (hc : RC S x6 x1 xy xz) (hm : RM S w 0) (ok : Ok b S) (hF : 100 ≤ F) (p1 th : Int32) : ∃ r, X9_victim F p1 x6 x1 = some r ∧ X10_victim F p1 th w 0 = some (r, 0) := by
  obtain ⟨r, hr, hix⟩ := RC.choose hc ok hF p1 (-1)
  obtain ⟨hap, got, cap, wy, bal, wbt⟩ := x6
  obtain ⟨kK, kV, kW, kC, kL, kT, kP, sz, ld, pl, us, ag, hv⟩ := x1
  rw [X9_victim, hr, X10_victim, show X10_isIn F p1.toInt64 0 4 = _ from isIn_eq (F := F) p1 0 4]
  simp only [Option.bind_some]
  obtain ⟨L, p, hE, hi⟩ := hix
  have hlL := hE.2.1
  cases hk : (decide (0 ≤ p1) && decide (p1 ≤ 4)) with
  | false =>
    have hn : chooseS p1 (-1) (S.2.2.2 3) (S.2.2.2 16) S.1 = none := by
      have ne : ∀ k : Nat, k ≤ 4 → ¬ p1 = nI k := by
        intro k hk4 hx; subst hx
        have : (decide (0 ≤ nI k) && decide (nI k ≤ 4)) = true := by
          simp only [Bool.and_eq_true, decide_eq_true_eq]
          exact ⟨nI_pos' (by omega), nI_le (b := 4) hk4 (by omega)⟩
        rw [this] at hk; cases hk
      rw [chooseS, if_neg (show ¬ p1 = 0 from ne 0 (by omega)), if_neg (show ¬ p1 = 1 from ne 1 (by omega)), if_neg (show ¬ p1 = 2 from ne 2 (by omega)), if_neg (show ¬ p1 = 3 from ne 3 (by omega)), if_neg (show ¬ p1 = 4 from ne 4 (by omega))]
    rw [hn] at hi
    rcases hi with ⟨rfl, _⟩ | ⟨i, hi, rfl, he⟩
    · exact ⟨-1, by rw [X1_keyOf, c_hasN]; rfl, by rw [if_pos (show bi false = 0 from rfl)]⟩
    · cases he
  | true =>
    rw [if_neg (show ¬ bi true = 0 by decide)]
    obtain ⟨r', hr', M, pM, hEM, hiM⟩ := RM.choose hm ok hF (way4 hk) (-1)
    have hr3 : X10_chosen F p1 (-1) w 0 = some r' := hr'
    have hlM := hEM.2.1
    rw [hr3]
    simp only [Option.bind_some]
    rcases hi with ⟨rfl, hi⟩ | ⟨i, hi, rfl, he⟩
    · rcases hiM with ⟨rfl, _⟩ | ⟨j, hj, rfl, hej⟩
      · exact ⟨-1, by rw [X1_keyOf, c_hasN]; rfl, by rw [if_pos rfl]⟩
      · rw [hi] at hej; cases hej
    · rcases hiM with ⟨rfl, hj⟩ | ⟨j, hj, rfl, hej⟩
      · rw [he] at hj; cases hj
      · have hLM : L[i] = M[j] := by rw [he] at hej; simpa using hej
        have hnj : ¬ nI j = -1 := by simp (disch := omega) only [nI_add, pn_add, pn_addl, pn_mul, pn_cl, pn_nlt0, false_or, pn_ge, pn_le, Nat.add_zero, Nat.zero_add, ↓reduceIte, Option.bind_some, nI_leI, nI_ltI, nI_eq, pn_ne1, pn_1ne]; simp
        have o0 : X10_of F (nI j) 0 w 0 = some (eK M[j]) := m_of0 hEM hj
        rw [if_neg hnj, o0, X1_keyOf, c_has hE hi]
        simp (disch := omega) only [nI_add, pn_add, pn_addl, pn_mul, pn_cl, pn_nlt0, false_or, pn_ge, pn_le, Nat.add_zero, Nat.zero_add, ↓reduceIte, Option.bind_some, nI_leI, nI_ltI, nI_eq, pn_ne1, pn_1ne, c_K hE hi]
        exact ⟨eK L[i], by rw [if_neg (by decide)]; rfl, by rw [hLM]⟩
theorem q_room (hc : RC S x6 x1 xy xz) (hm : RM S w 0) (ok : Ok b S) (hF : 100 ≤ F) (p1 th : Int32) : ∃ r, X9_room F p1 x6 x1 = some r ∧ X10_room F p1 th w 0 = some (r, 0) := by
  obtain ⟨r, hr, hix⟩ := RC.choose hc ok hF 0 (-1)
  have hmany := hm.many
  have h1 : w (1 : Int32).toNatClampNeg = S.2.2.2 1 := hm.2.2.2 1 (by omega) (by omega)
  have hload : X10_load F w 0 = some (sumBy eW S.1) := hm.load hF
  have hpin0 : sumBy (pinW (-1)) S.1 = sumBy pinA S.1 := pin_none ok.1.PB (fun e he hx => by
    have := (ok.1.2.2.2 e he).1
    rw [hx] at this; exact absurd this (by decide))
  have hpin : X10_pinned F (-1) w 0 = some (sumBy pinA S.1) := by
    have := hm.pinned hF (-1); rw [hpin0] at this; exact this
  have h60 := ok.1.2.2.1
  have hless : ∀ v : Int32, X10_lesser F 99 v = some (if v < 99 then v else 99) := fun v => by
    rw [lesser_eq]
    congr 1
    by_cases c : v < 99
    · rw [if_pos c, if_pos (by rw [i32_lt] at c; rw [i32_le]; omega)]
    · rw [if_neg c]
      by_cases c2 : v ≤ 99
      · rw [if_pos c2]; rw [i32_lt] at c; rw [i32_le] at c2; exact i32_eq.2 (by omega)
      · rw [if_neg c2]
  obtain ⟨hap, got, cap, wy, bal, wbt⟩ := x6
  obtain ⟨kK, kV, kW, kC, kL, kT, kP, sz, ld, pl, us, ag, hv⟩ := x1
  obtain ⟨L, p, hE, hi⟩ := hix
  have hlL := hE.2.1
  have hll := p.length_eq
  obtain ⟨_, hld, hpl, _, _, _, _, _, _, _, n6, _⟩ := hc
  have hw0 : w (0 : Int32).toNatClampNeg = nI S.1.length := hmany
  rw [X9_room, X10_room, h1, hw0, hE.1, hload, hpin, hpl, hld, n6]
  simp only [Option.bind_some, hless]
  by_cases c60 : S.1.length < 60
  · have hne : ¬ nI S.1.length = 60 := by
      intro hx; have hx2 : nI S.1.length = nI 60 := hx
      rw [nI_eq (by omega) (by omega)] at hx2; omega
    rw [if_pos (by rw [hll]; exact nI_lt (b := 60) c60 (by omega)), if_neg hne, if_neg hne]
    by_cases c0 : p1 = 0
    · exact ⟨_, by rw [if_pos c0], by rw [if_pos c0]⟩
    · by_cases c1 : p1 = 1
      · exact ⟨_, by rw [if_neg c0, if_pos c1], by rw [if_neg c0, if_pos c1]⟩
      · exact ⟨_, by rw [if_neg c0, if_neg c1], by rw [if_neg c0, if_neg c1]⟩
  · have e60 : S.1.length = 60 := by omega
    have heq : nI S.1.length = 60 := by rw [e60]; rfl
    rw [if_neg (by rw [hll, e60]; decide), if_pos heq, if_pos heq]
    obtain ⟨x, hx, hx2⟩ := hm.allPinned ok hF e60
    have hx3 : X10_pinnedMany F w 0 = some x := hx
    rw [hx3]
    simp only [Option.bind_some]
    by_cases c0 : p1 = 0
    · rw [if_pos c0, if_pos c0]
      have hr2 : X6_choose F 0 (-1) (hap, got, S.2.2.2 1, wy, bal, wbt) (kK, kV, kW, kC, kL, kT, kP, nI L.length, sumBy eW S.1, sumBy pinA S.1, us, ag, hv) = some r := by
        rw [← hE.1, ← hld, ← hpl, ← n6]; exact hr
      rw [hr2]
      simp only [Option.bind_some]
      have hall : x = 60 ↔ chooseS 0 (-1) (S.2.2.2 3) (S.2.2.2 16) S.1 = none := by
        rw [hx2, chooseS_none (Or.inl rfl), List.all_eq_true]
        constructor
        · intro h e he
          have := h e he
          simp only [Bool.not_eq_true', decide_eq_false_iff_not] at this
          simp [mayGo, this]
        · intro h e he
          rcases mayGo_f (h e he) with h2 | h2
          · simpa using h2
          · have := (ok.1.2.2.2 e he).1
            rw [h2] at this; exact absurd this (by decide)
      rcases hi with ⟨rfl, hi⟩ | ⟨i, hi, rfl, he⟩
      · exact ⟨0, by rw [if_pos rfl], by rw [if_pos (hall.2 hi)]⟩
      · have hni : ¬ nI i = -1 := by simp (disch := omega) only [nI_add, pn_add, pn_addl, pn_mul, pn_cl, pn_nlt0, false_or, pn_ge, pn_le, Nat.add_zero, Nat.zero_add, ↓reduceIte, Option.bind_some, nI_leI, nI_ltI, nI_eq, pn_ne1, pn_1ne]; simp
        have hx60 : ¬ x = 60 := fun e => by have := hall.1 e; rw [this] at he; cases he
        exact ⟨_, by rw [if_neg hni], by rw [if_neg hx60]⟩
    · by_cases c1 : p1 = 1
      · exact ⟨0, by rw [if_neg c0, if_pos c1], by rw [if_neg c0, if_pos c1]⟩
      · exact ⟨-1, by rw [if_neg c0, if_neg c1], by rw [if_neg c0, if_neg c1]⟩
end Q2
