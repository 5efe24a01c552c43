/-! behind -/
section Behind
variable {F : Nat} {k a : Int32}
def usN (k a : Int32) : Nat → List En → Int32 → Int32 → List En × Int32
  | 0, L, _, h => (L, h)
  | n + 1, L, u, h => usN k a n (useL L k u a) (u + 1) (if (u + 1) - (u + 1) / a * a = 0 then h + 1 else h)
theorem usN_perm : ∀ (n : Nat) (L M : List En) (u h : Int32), L.Perm M → (usN k a n L u h).1.Perm (usN k a n M u h).1 ∧ (usN k a n L u h).2 = (usN k a n M u h).2
  | 0, L, M, u, h, p => ⟨p, rfl⟩
  | n + 1, L, M, u, h, p => usN_perm n _ _ _ _ (useL_perm p)
theorem usN_keys : ∀ (n : Nat) (L : List En) (u h : Int32), (usN k a n L u h).1.map eK = L.map eK
  | 0, L, u, h => rfl
  | n + 1, L, u, h => (usN_keys n _ _ _).trans useL_keys
theorem usN_len (n : Nat) (L : List En) (u h : Int32) : (usN k a n L u h).1.length = L.length := by
  have := congrArg List.length (usN_keys (k := k) (a := a) n L u h)
  simpa using this
theorem useL_at {L : List En} {u : Int32} {i : Nat} (hi : i < L.length) (hk : eK L[i] = k) : ∃ h : i < (useL L k u a).length, eK (useL L k u a)[i] = k := by
  have h1 : i < (useL L k u a).length := by rw [useL_len]; exact hi
  refine ⟨h1, ?_⟩
  have h2 := congrArg (fun l => l[i]?) (useL_keys (L := L) (k := k) (u := u) (a := a))
  simp only [List.getElem?_map, List.getElem?_eq_getElem hi, List.getElem?_eq_getElem h1, Option.map_some, Option.some.injEq] at h2
  rw [h2, hk]
theorem c_behind {kK kV kW kT kP : Nat → Int32} {sz ld pl v3 v6 : Int32} (hF : 100 ≤ F) (ha : 0 < a) {m i : Nat} (hm : m < 1000) :
    ∀ (n j : Nat) (L : List En) (kC kL : Nat → Int32) (u h : Int32), j ≤ m → m - j < n → EC L kK kV kW kC kL kT kP sz → (L.map eK).Nodup → (hi : i < L.length) → eK L[i] = k →
    Tot (X9_behind_L56 F n (nI m) v3 (nI i) v6 (nI j) (kK, kV, kW, kC, kL, kT, kP, sz, ld, pl, u, a, h)) (fun y => ∃ kC' kL' u', y = (kK, kV, kW, kC', kL', kT, kP, sz, ld, pl, u', a, (usN k a (m - j) L u h).2) ∧ EC (usN k a (m - j) L u h).1 kK kV kW kC' kL' kT kP sz) := by
  intro n
  induction n with
  | zero => intro j L kC kL u h _ hn; omega
  | succ n ih =>
    intro j L kC kL u h hj hn hE hnd hi hk
    rw [X9_behind_L56]
    by_cases c : m ≤ j
    · rw [if_pos ((nI_leI (by omega) (by omega)).2 c), show m - j = 0 by omega]
      exact tot_s ⟨kC, kL, u, rfl, hE⟩
    · rw [if_neg (fun hx => c ((nI_leI (by omega) (by omega)).1 hx))]
      refine tot_b (c_use hE hnd hi hF u a h ha) (fun r ⟨r1, r2, r3⟩ => ?_)
      obtain ⟨q1, q2, q3, q4⟩ := r
      dsimp only at r1 r2 r3 ⊢
      subst r2; subst r3
      rw [hk] at r1
      obtain ⟨hi', hk'⟩ := useL_at (u := u) (a := a) hi hk
      have e : m - j = (m - (j + 1)) + 1 := by omega
      rw [nI_1, e]
      exact ih (j + 1) (useL L k u a) q1 q2 (u + 1) _ (by omega) (by omega) r1 (by rw [useL_keys]; exact hnd) hi' hk'
theorem m_behind {o : Nat} {v3 v4 : Int32} (hF : 100 ≤ F) {m i : Nat} (hm : m < 1000) (ha : a ≠ 0) :
    ∀ (n j : Nat) (L : List En) (w : Nat → Int32), j ≤ m → m - j < n → EM L w o → w (o + 6) = a → (L.map eK).Nodup → (hi : i < L.length) → eK L[i] = k →
    Tot (X10_behind_L68 F n (nI m) v3 v4 (nI i) (nI j) w (nI o)) (fun w' => EM (usN k a (m - j) L (w (o + 4)) (w (o + 15))).1 w' o ∧ w' (o + 15) = (usN k a (m - j) L (w (o + 4)) (w (o + 15))).2 ∧ ∀ q, q < o → w' q = w q) := by
  intro n
  induction n with
  | zero => intro j L w _ hn; omega
  | succ n ih =>
    intro j L w hj hn hE h6 hnd hi hk
    rw [X10_behind_L68]
    by_cases c : m ≤ j
    · rw [if_pos ((nI_leI (by omega) (by omega)).2 c), show m - j = 0 by omega]
      exact tot_s ⟨hE, rfl, fun _ _ => rfl⟩
    · rw [if_neg (fun hx => c ((nI_leI (by omega) (by omega)).1 hx))]
      refine tot_b (m_uses hE hnd hi (by rw [h6]; exact ha) hF) (fun w' ⟨r1, r2, r3, r4⟩ => ?_)
      rw [hk, h6] at r1
      rw [h6] at r3
      obtain ⟨hi', hk'⟩ := useL_at (u := w (o + 4)) (a := a) hi hk
      have e : m - j = (m - (j + 1)) + 1 := by omega
      rw [nI_1, e]
      have := ih (j + 1) (useL L k (w (o + 4)) a) w' (by omega) (by omega) r1 (by rw [r4 _ (by omega) (by omega) (by omega), h6]) (by rw [useL_keys]; exact hnd) hi' hk'
      rw [r2, r3] at this
      exact tot_m this (fun z ⟨z1, z2, z3⟩ => ⟨z1, z2, fun q hq => by rw [z3 q hq, r4 q (by omega) (by omega) (by omega)]⟩)
end Behind
section SBehind
variable {F N : Nat} {x8 : tX8} {x6 : tX6} {x1 : tX1} {xy xz : tX2} {l8 : tL8} {x4 : tX4} {x5 : tX5} {i0 i1 : Option tWi} {w ik : Nat → Int32} {wm th : Int32} {u6 : tX6} {u1 : tX1} {uy uz : tX2} {uq : tX7}
theorem S_behind (hF : 1000 ≤ F) (hN : N < 512) (hI : Inv N (x8, x6, x1, xy, xz, l8, x4, x5) i0 i1 w ik wm) (p1 p2 p3 : Int32) :
    Tot (X9_behind F p1 p2 p3 x6 x1 xy xz u6 u1 uy uz uq) (fun y => Tot (X10_behind F p1 p2 p3 th w 0 wm 0) (fun z => y.1 = z.1 ∧ z.2.1 = 0 ∧ z.2.2.2.1 = 0 ∧ z.2.2.2.2.2 = 0 ∧ Inv (N + 1) (x8, x6, x1, xy, xz, l8, x4, x5) i0 i1 z.2.2.1 ik z.2.2.2.2.1)) := by
  have f100 : 100 ≤ F := by omega
  have f200 : 200 ≤ F := by omega
  obtain ⟨⟨V, hc, hm, ok⟩, _, _, ⟨m, rfl, hmm⟩⟩ := id hI
  have okS := ok.2.1.1
  have hlay := c_lay (F := F) (d6 := u6) (d1 := u1) (dy := uy) (dz := uz) (dq := uq) f200 hc.1 okS
  obtain ⟨w2, hp, hm2, hf2⟩ := m_paper (F := F) (o := 0) (wm := nI m) (sil := 0) hF hm
  have hfc := fun (y : tX6 × tX1 × tX2 × tX2 × tX7) (hy : RC V.2.2.1 y.1 y.2.1 y.2.2.1 y.2.2.2.1) => RC.find (F := F) hy okS f100 p1
  obtain ⟨uhap, ugot, ucap, uwy, ubal, uwbt⟩ := u6
  obtain ⟨uK, uV, uW, uC, uL, uT, uP, usz, uld, upl, uus, uag, uhv⟩ := u1
  obtain ⟨uyk, uys⟩ := uy
  obtain ⟨uzk, uzs⟩ := uz
  obtain ⟨ea, eb, ec, ed, ee, es, el, ep⟩ := uq
  obtain ⟨hap, got, cap, wy, bal, wbt⟩ := x6
  obtain ⟨kK, kV, kW, kC, kL, kT, kP, sz, ld, pl, us, ag, hvv⟩ := x1
  obtain ⟨yk, ys⟩ := xy
  obtain ⟨zk, zs⟩ := xz
  obtain ⟨r1, hr1, M0, pM0, hE0, hx0⟩ := hm.1.find okS f100 p1
  obtain ⟨r2, hr2, M, pM, hEM, hxM⟩ := hm2.1.find okS f100 p1
  have noIn : ∀ (y : Int32), fnd p1 V.2.2.1.1 = none → r1 = -1 := fun _ hn => by
    rcases hx0 with ⟨e, _⟩ | ⟨i, hi, _, he⟩
    · exact e
    · rw [hn] at he; cases he
  have isIn : ∀ e, fnd p1 V.2.2.1.1 = some e → ¬ r1 = -1 := fun e hn => by
    rcases hx0 with ⟨_, he⟩ | ⟨i, hi, hr, he⟩
    · rw [hn] at he; cases he
    · have := hE0.2.1
      rw [hr]; simp (disch := omega) only [nI_add, pn_add, pn_addl, pn_mul, pn_cl, pn_nlt0, false_or, pn_ge, pn_le, Nat.add_zero, Nat.zero_add, ↓reduceIte, Option.bind_some, nI_leI, nI_ltI, nI_eq, pn_ne1, pn_1ne]; simp
  rw [X9_behind, within_eq, within_eq, X10_behind, show X10_entryOf F p1 w 0 = _ from hr1, show X10_isIn F p2.toInt64 1 99 = _ from isIn_eq (F := F) p2 1 99, show X10_isIn F p3.toInt64 0 2 = _ from isIn_eq (F := F) p3 0 2]
  simp only [Option.bind_some]
  have out : ∀ (c : Int32) (g : Option (Int32 × Int32 × (Nat → Int32) × Int32 × Int32 × Int32)) , Tot g (fun z => (-1 : Int32) = z.1 ∧ z.2.1 = 0 ∧ z.2.2.2.1 = 0 ∧ z.2.2.2.2.2 = 0 ∧ Inv (N + 1) (x8, (hap, got, cap, wy, bal, wbt), (kK, kV, kW, kC, kL, kT, kP, sz, ld, pl, us, ag, hvv), (yk, ys), (zk, zs), l8, x4, x5) i0 i1 z.2.2.1 ik z.2.2.2.2.1) → Tot (if c = -1 then some (-1, 0, w, 0, nI m, 0) else g) (fun z => (-1 : Int32) = z.1 ∧ z.2.1 = 0 ∧ z.2.2.2.1 = 0 ∧ z.2.2.2.2.2 = 0 ∧ Inv (N + 1) (x8, (hap, got, cap, wy, bal, wbt), (kK, kV, kW, kC, kL, kT, kP, sz, ld, pl, us, ag, hvv), (yk, ys), (zk, zs), l8, x4, x5) i0 i1 z.2.2.1 ik z.2.2.2.2.1) := fun c g hg => by
    by_cases hcc : c = -1
    · rw [if_pos hcc]; exact tot_s ⟨rfl, rfl, rfl, rfl, hI.same⟩
    · rw [if_neg hcc]; exact hg
  cases h1 : (decide (1 ≤ p2) && decide (p2 ≤ 99)) with
  | false =>
    rw [if_pos (show bi false = 0 from rfl), if_pos (show bi false = 0 from rfl)]
    exact tot_s (out r1 _ (tot_s ⟨rfl, rfl, rfl, rfl, hI.same⟩))
  | true =>
    rw [if_neg (show ¬ bi true = 0 by decide), if_neg (show ¬ bi true = 0 by decide)]
    cases h2 : (decide (0 ≤ p3) && decide (p3 ≤ 2)) with
    | false =>
      rw [if_pos (show bi false = 0 from rfl), if_pos (show bi false = 0 from rfl)]
      exact tot_s (out r1 _ (tot_s ⟨rfl, rfl, rfl, rfl, hI.same⟩))
    | true =>
      rw [if_neg (show ¬ bi true = 0 by decide), if_neg (show ¬ bi true = 0 by decide)]
      refine tot_b hlay (fun y ⟨g0, g1, g2⟩ => ?_)
      have hfy := hfc y g0
      obtain ⟨⟨j1, j2, j3, j4, j5, j6⟩, ⟨j7, j8, j9, j10, j11, j12, j13, j14, j15, j16, j17, j18, j19⟩, ⟨j20, j21⟩, ⟨j22, j23⟩, ⟨j24, j25, j26, j27, j28, j29, j30, j31⟩⟩ := y
      dsimp only
      refine tot_b hfy (fun r ⟨L, pL, hE, hxL⟩ => ?_)
      rcases hxL with ⟨rfl, hn⟩ | ⟨i, hi, rfl, hn⟩
      · rw [if_pos rfl, noIn 0 hn, if_pos rfl]
        exact tot_s (tot_s ⟨rfl, rfl, rfl, rfl, hI.same⟩)
      · have hl60 := hE.2.1
        rw [if_neg (show ¬ nI i = -1 by simp (disch := omega) only [nI_add, pn_add, pn_addl, pn_mul, pn_cl, pn_nlt0, false_or, pn_ge, pn_le, Nat.add_zero, Nat.zero_add, ↓reduceIte, Option.bind_some, nI_leI, nI_ltI, nI_eq, pn_ne1, pn_1ne]; simp), if_neg (isIn _ hn), hp, Option.bind_some]
        rcases hxM with ⟨_, hx2⟩ | ⟨j, hj, rfl, hx2⟩
        · rw [hn] at hx2; cases hx2
        · have hm60 := hEM.2.1
          have hkL : eK L[i] = p1 := (fnd_some hn).2
          have hkM : eK M[j] = p1 := (fnd_some hx2).2
          have ndL := (okS.1.perm pL).1
          have ndM := (okS.1.perm pM).1
          have hr := rng_of h1
          have e1 : (1 : Int32).toInt = 1 := by decide
          have e99 : (99 : Int32).toInt = 99 := by decide
          obtain ⟨n, hn2, en, en2⟩ := i32_nI (x := p2) (by omega)
          subst en
          obtain ⟨_, _, _, _, _, c1, c2, c3, c4, c5, c6, c7, c8, c9, c10, c11, c12⟩ := g0
          have ha : 0 < j18 := by rw [c11]; exact okS.age
          have hw6 : w2 (2544 + 6) = j18 := by rw [c11]; exact hm2.1.2.2.2 6 (by omega) (by omega)
          have hw4 : w2 (2544 + 4) = j17 := by rw [c10]; exact hm2.1.2.2.2 4 (by omega) (by omega)
          have hw15 : w2 (2544 + 15) = j19 := by rw [c12]; exact hm2.1.2.2.2 15 (by omega) (by omega)
          have ha0 : j18 ≠ 0 := fun hx => by rw [hx] at ha; exact absurd ha (by decide)
          refine tot_b (c_behind (F := F) (k := p1) (a := j18) (ld := j15) (pl := j16) (v3 := p3) (v6 := j19) (m := n) (i := i) f100 ha (by omega) F 0 L j10 j11 j17 j19 (by omega) (by omega) hE ndL hi hkL) (fun y ⟨kC', kL', u', hy, hE'⟩ => ?_)
          subst hy
          dsimp only
          rw [Nat.sub_zero] at hE' ⊢
          have cc : ((2544 : Int32) + 15).toNatClampNeg = 2559 := by decide
          have nn : ¬ ((2544 : Int32) + 15 < 0 ∨ 3392 ≤ ((2544 : Int32) + 15).toNatClampNeg) := by decide
          have pLM := (usN_perm (k := p1) (a := j18) n L M j17 j19 (pL.trans pM.symm))
          have hmb := m_behind (F := F) (k := p1) (a := j18) (o := 2544) (v3 := p3) (v4 := w2 2559) (m := n) (i := j) f100 (by omega) ha0 F 0 M w2 (by omega) (by omega) hEM hw6 ndM hj hkM
          rw [hw4, hw15, Nat.sub_zero] at hmb
          obtain ⟨w3, hw3, hE3, h153, hfr3⟩ := hmb
          have hInv : Inv (N + 1) (x8, (hap, got, cap, wy, bal, wbt), (kK, kV, kW, kC, kL, kT, kP, sz, ld, pl, us, ag, hvv), (yk, ys), (zk, zs), l8, x4, x5) i0 i1 w3 ik (nI 0) := hI.paper (fun q hq => by rw [hfr3 q hq, hf2 q hq]) (by omega)
          have hi' : i < (usN p1 j18 n L j17 j19).1.length := by rw [usN_len]; exact hi
          have hj' : j < (usN p1 j18 n M j17 j19).1.length := by rw [usN_len]; exact hj
          have same : (usN p1 j18 n L j17 j19).1[i] = (usN p1 j18 n M j17 j19).1[j] := by
            have k1 := congrArg (fun l => l[i]?) (usN_keys (k := p1) (a := j18) n L j17 j19)
            simp only [List.getElem?_map, List.getElem?_eq_getElem hi, List.getElem?_eq_getElem hi', Option.map_some, Option.some.injEq] at k1
            have k2 := congrArg (fun l => l[j]?) (usN_keys (k := p1) (a := j18) n M j17 j19)
            simp only [List.getElem?_map, List.getElem?_eq_getElem hj, List.getElem?_eq_getElem hj', Option.map_some, Option.some.injEq] at k2
            exact nodup_key (by rw [usN_keys]; exact ndM) (pLM.1.mem_iff.1 (List.getElem_mem hi')) (List.getElem_mem hj') (by rw [k1, k2, hkL, hkM])
          have hs : ¬ ((nI i : Int32) < 0 ∨ 60 ≤ (nI i : Int32).toNatClampNeg) := by simp (disch := omega) only [nI_add, pn_add, pn_addl, pn_mul, pn_cl, pn_nlt0, false_or, pn_ge, pn_le, Nat.add_zero, Nat.zero_add, ↓reduceIte, Option.bind_some, nI_leI, nI_ltI, nI_eq, pn_ne1, pn_1ne]; simp
          have hc2 : (nI i : Int32).toNatClampNeg = i := by simp (disch := omega) only [nI_add, pn_add, pn_addl, pn_mul, pn_cl, pn_nlt0, false_or, pn_ge, pn_le, Nat.add_zero, Nat.zero_add, ↓reduceIte, Option.bind_some, nI_leI, nI_ltI, nI_eq, pn_ne1, pn_1ne]
          have cb : X10_comesBack F 2544 1 = some (0, 0) := rfl
          have hw15' : w2 2559 = j19 := hw15
          rw [if_neg nn, cc, hw15', show X10_entryOf F p1 w2 2544 = _ from hr2, Option.bind_some, show X10_behind_L68 F F (nI n) p3 j19 (nI j) 0 w2 2544 = _ from hw3, Option.bind_some, cb]
          by_cases q0 : p3 = 0
          · rw [if_pos q0, if_pos q0, if_neg hs, hc2, c_C hE' hi', same, show X10_of F (nI j) 3 w3 2544 = _ from m_of3 hE3 hj', Option.bind_some, Option.bind_some]
            exact tot_s (tot_s ⟨rfl, rfl, rfl, rfl, hInv⟩)
          · rw [if_neg q0, if_neg q0]
            by_cases q1 : p3 = 1
            · rw [if_pos q1, if_pos q1, c_placeOf hE' f100 1 hi', Option.bind_some, show X10_placeOf F 1 (nI j) w3 2544 = _ from m_placeOf hE3 f100 1 hj', Option.bind_some, Option.bind_some, same, place_perm pLM.1]
              exact tot_s (tot_s ⟨rfl, rfl, rfl, rfl, hInv⟩)
            · rw [if_neg q1, if_neg q1, if_neg (by decide), Option.bind_some]
              refine tot_s (tot_s ⟨?_, rfl, rfl, rfl, hInv⟩)
              have h153' : w3 2559 = (usN p1 j18 n M j17 j19).2 := h153
              show (usN p1 j18 n L j17 j19).2 - j19 = w3 2559 - j19
              rw [h153', pLM.2]
end SBehind
