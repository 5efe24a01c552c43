/-! listeners come and turn -/
section SListen
variable {F N : Nat} {x8 : tX8} {x6 : tX6} {x1 : tX1} {xy xz : tX2} {l8 : tL8} {x4 : tX4} {x5 : tX5} {i0 i1 : Option tWi} {w ik : Nat → Int32} {wm th : Int32}
def newH (n : Nat) (H : Nat → Nat → Int32) (p1 p2 p3 p4 p5 p6 : Int32) : Nat → Nat → Int32 := fun i q => if i = n then (if q = 0 then p1 else if q = 1 then p2 else if q = 2 then p3 else if q = 3 then p4 else if q = 4 then p5 else if q = 5 then p6 else if q = 6 then 1 else 0) else H i q
def listenV (p1 p2 p3 p4 p5 p6 : Int32) (V : WV) : WV := (V.1 + 1, newH V.1 V.2.1 p1 p2 p3 p4 p5 p6, setN 7 (nI (V.1 + 1)) V.2.2.1, V.2.2.2.1, V.2.2.2.2)
theorem S_listen (hI : Inv N (x8, x6, x1, xy, xz, l8, x4, x5) i0 i1 w ik wm) (p1 p2 p3 p4 p5 p6 : Int32) :
    Tot (X9_listen F p1 p2 p3 p4 p5 p6 x8 l8) (fun y => Tot (X10_listen F p1 p2 p3 p4 p5 p6 th w 0) (fun z => y.1 = z.1 ∧ Inv (N + 1) (y.2.1, x6, x1, xy, xz, y.2.2, x4, x5) i0 i1 z.2.2 ik wm)) := by
  obtain ⟨⟨V, hc, hm, ok⟩, _, _, ⟨m, rfl, hmm⟩⟩ := id hI
  obtain ⟨lc, tk, ls, dpp⟩ := x8
  obtain ⟨a0, a1, a2, a3, a4, a5, a6, a7, a8⟩ := l8
  obtain ⟨c1, c2, c3, c4, c5⟩ := hc
  simp only [Prod.mk.injEq] at c5
  obtain ⟨rfl, d2, d3, d4⟩ := c5
  have hn := c2.1
  have h7 : w (7 : Int32).toNatClampNeg = nI V.1 := hm.2.1.2.1
  rw [X9_listen, X10_listen, within_eq, within_eq, within_eq, within_eq, within_eq, isWeightC, h7]
  rw [show X10_isIn F p1.toInt64 (-1) 6 = _ from isIn_eq (F := F) p1 (-1) 6, show X10_isIn F p2.toInt64 1 9 = _ from isIn_eq (F := F) p2 1 9, show X10_isIn F p3.toInt64 0 (p2 - 1).toInt64 = _ from isIn_eq (F := F) p3 0 (p2 - 1), show X10_isIn F p4.toInt64 0 6 = _ from isIn_eq (F := F) p4 0 6, show X10_isIn F p5.toInt64 (-999) 999 = _ from isIn_eq (F := F) p5 (-999) 999, show X10_isIn F p6.toInt64 1 99 = _ from isIn_eq (F := F) p6 1 99]
  simp only [Option.bind_some]
  cases k1 : (decide (-1 ≤ p1) && decide (p1 ≤ 6)) with
  | false => rw [if_pos (show bi false = 0 from rfl), if_pos (show bi false = 0 from rfl)]; exact tot_s (tot_s ⟨rfl, hI.same⟩)
  | true =>
  rw [if_neg (show ¬ bi true = 0 by decide), if_neg (show ¬ bi true = 0 by decide)]
  cases k2 : (decide (1 ≤ p2) && decide (p2 ≤ 9)) with
  | false => rw [if_pos (show bi false = 0 from rfl), if_pos (show bi false = 0 from rfl)]; exact tot_s (tot_s ⟨rfl, hI.same⟩)
  | true =>
  rw [if_neg (show ¬ bi true = 0 by decide), if_neg (show ¬ bi true = 0 by decide)]
  cases k3 : (decide (0 ≤ p3) && decide (p3 ≤ p2 - 1)) with
  | false => rw [if_pos (show bi false = 0 from rfl), if_pos (show bi false = 0 from rfl)]; exact tot_s (tot_s ⟨rfl, hI.same⟩)
  | true =>
  rw [if_neg (show ¬ bi true = 0 by decide), if_neg (show ¬ bi true = 0 by decide)]
  cases k4 : (decide (0 ≤ p4) && decide (p4 ≤ 6)) with
  | false => rw [if_pos (show bi false = 0 from rfl), if_pos (show bi false = 0 from rfl)]; exact tot_s (tot_s ⟨rfl, hI.same⟩)
  | true =>
  rw [if_neg (show ¬ bi true = 0 by decide), if_neg (show ¬ bi true = 0 by decide)]
  cases k5 : (decide (-999 ≤ p5) && decide (p5 ≤ 999)) with
  | false => rw [if_pos (show bi false = 0 from rfl), if_pos (show bi false = 0 from rfl)]; exact tot_s (tot_s ⟨rfl, hI.same⟩)
  | true =>
  rw [if_neg (show ¬ bi true = 0 by decide), if_neg (show ¬ bi true = 0 by decide)]
  have fin : (p4 = 1 → 1 ≤ p6.toInt ∧ p6.toInt ≤ 99) → Tot (if nI V.1 < 8 then (if nI V.1 < 0 ∨ 8 ≤ (nI V.1).toNatClampNeg then none else ((X3_begin F p1 p2 p3 p4 p5 p6 (a0 (nI V.1).toNatClampNeg) (a1 (nI V.1).toNatClampNeg) (a2 (nI V.1).toNatClampNeg) (a3 (nI V.1).toNatClampNeg) (a4 (nI V.1).toNatClampNeg) (a5 (nI V.1).toNatClampNeg) (a6 (nI V.1).toNatClampNeg) (a7 (nI V.1).toNatClampNeg) (a8 (nI V.1).toNatClampNeg)).bind fun (b0, b1, b2, b3, b4, b5, b6, b7, b8) => (some (nI V.1, ((nI V.1 + 1, tk, ls, dpp) : tX8), ((upd a0 (nI V.1).toNatClampNeg b0, upd a1 (nI V.1).toNatClampNeg b1, upd a2 (nI V.1).toNatClampNeg b2, upd a3 (nI V.1).toNatClampNeg b3, upd a4 (nI V.1).toNatClampNeg b4, upd a5 (nI V.1).toNatClampNeg b5, upd a6 (nI V.1).toNatClampNeg b6, upd a7 (nI V.1).toNatClampNeg b7, upd a8 (nI V.1).toNatClampNeg b8) : tL8))))) else (some ((-3), (nI V.1, tk, ls, dpp), (a0, a1, a2, a3, a4, a5, a6, a7, a8))))
      (fun y => Tot (if nI V.1 = 8 then (some ((-3 : Int32), (0 : Int32), w)) else ((X10_hearerAt F (nI V.1) 0).bind fun r11 => (if ((r11 + 0) : Int32) < 0 ∨ 3392 ≤ (r11 + 0).toNatClampNeg then none else (if ((r11 + 1) : Int32) < 0 ∨ 3392 ≤ (r11 + 1).toNatClampNeg then none else (if ((r11 + 2) : Int32) < 0 ∨ 3392 ≤ (r11 + 2).toNatClampNeg then none else (if ((r11 + 3) : Int32) < 0 ∨ 3392 ≤ (r11 + 3).toNatClampNeg then none else (if ((r11 + 4) : Int32) < 0 ∨ 3392 ≤ (r11 + 4).toNatClampNeg then none else (if ((r11 + 5) : Int32) < 0 ∨ 3392 ≤ (r11 + 5).toNatClampNeg then none else (if ((r11 + 6) : Int32) < 0 ∨ 3392 ≤ (r11 + 6).toNatClampNeg then none else (if ((r11 + 7) : Int32) < 0 ∨ 3392 ≤ (r11 + 7).toNatClampNeg then none else (if ((r11 + 8) : Int32) < 0 ∨ 3392 ≤ (r11 + 8).toNatClampNeg then none else (some ((((upd (upd (upd (upd (upd (upd (upd (upd (upd (upd w (r11 + 0).toNatClampNeg p1) (r11 + 1).toNatClampNeg p2) (r11 + 2).toNatClampNeg p3) (r11 + 3).toNatClampNeg p4) (r11 + 4).toNatClampNeg p5) (r11 + 5).toNatClampNeg p6) (r11 + 6).toNatClampNeg 1) (r11 + 7).toNatClampNeg 0) (r11 + 8).toNatClampNeg 0) (7 : Int32).toNatClampNeg (((upd (upd (upd (upd (upd (upd (upd (upd (upd w (r11 + 0).toNatClampNeg p1) (r11 + 1).toNatClampNeg p2) (r11 + 2).toNatClampNeg p3) (r11 + 3).toNatClampNeg p4) (r11 + 4).toNatClampNeg p5) (r11 + 5).toNatClampNeg p6) (r11 + 6).toNatClampNeg 1) (r11 + 7).toNatClampNeg 0) (r11 + 8).toNatClampNeg 0) (7 : Int32).toNatClampNeg) + 1)) (7 : Int32).toNatClampNeg) - 1), 0, (upd (upd (upd (upd (upd (upd (upd (upd (upd (upd w (r11 + 0).toNatClampNeg p1) (r11 + 1).toNatClampNeg p2) (r11 + 2).toNatClampNeg p3) (r11 + 3).toNatClampNeg p4) (r11 + 4).toNatClampNeg p5) (r11 + 5).toNatClampNeg p6) (r11 + 6).toNatClampNeg 1) (r11 + 7).toNatClampNeg 0) (r11 + 8).toNatClampNeg 0) (7 : Int32).toNatClampNeg (((upd (upd (upd (upd (upd (upd (upd (upd (upd w (r11 + 0).toNatClampNeg p1) (r11 + 1).toNatClampNeg p2) (r11 + 2).toNatClampNeg p3) (r11 + 3).toNatClampNeg p4) (r11 + 4).toNatClampNeg p5) (r11 + 5).toNatClampNeg p6) (r11 + 6).toNatClampNeg 1) (r11 + 7).toNatClampNeg 0) (r11 + 8).toNatClampNeg 0) (7 : Int32).toNatClampNeg) + 1))))))))))))))) (fun z => y.1 = z.1 ∧ Inv (N + 1) (y.2.1, x6, x1, xy, xz, y.2.2, x4, x5) i0 i1 z.2.2 ik (nI m))) := by
    intro hw
    by_cases c8 : V.1 < 8
    · rw [if_pos (by exact nI_lt (b := 8) c8 (by omega)), X3_begin]
      simp (disch := omega) only [nI_add, pn_add, pn_addl, pn_mul, pn_cl, pn_nlt0, false_or, pn_ge, pn_le, Nat.add_zero, Nat.zero_add, ↓reduceIte, Option.bind_some, nI_leI, nI_ltI, nI_eq, pn_ne1, pn_1ne]
      refine tot_s ?_
      rw [if_neg (by
        intro hx; have hx2 : nI V.1 = nI 8 := hx
        rw [nI_eq (by omega) (by omega)] at hx2; omega), X10_hearerAt]
      simp only [Option.bind_some]
      have hidx : ∀ j : Nat, ((0 + 476 + 9 * nI V.1 : Int32) + nI j) = nI (476 + 9 * V.1 + j) := by
        intro j; rw [show (0 + 476 : Int32) = nI 476 from rfl]; simp (disch := omega) only [nI_add, pn_add, pn_addl, pn_mul, pn_cl, pn_nlt0, false_or, pn_ge, pn_le, Nat.add_zero, Nat.zero_add, ↓reduceIte, Option.bind_some, nI_leI, nI_ltI, nI_eq, pn_ne1, pn_1ne]
      have j0 : ((0 + 476 + 9 * nI V.1 : Int32) + 0) = nI (476 + 9 * V.1 + 0) := hidx 0
      have j1 : ((0 + 476 + 9 * nI V.1 : Int32) + 1) = nI (476 + 9 * V.1 + 1) := hidx 1
      have j2 : ((0 + 476 + 9 * nI V.1 : Int32) + 2) = nI (476 + 9 * V.1 + 2) := hidx 2
      have j3 : ((0 + 476 + 9 * nI V.1 : Int32) + 3) = nI (476 + 9 * V.1 + 3) := hidx 3
      have j4 : ((0 + 476 + 9 * nI V.1 : Int32) + 4) = nI (476 + 9 * V.1 + 4) := hidx 4
      have j5 : ((0 + 476 + 9 * nI V.1 : Int32) + 5) = nI (476 + 9 * V.1 + 5) := hidx 5
      have j6 : ((0 + 476 + 9 * nI V.1 : Int32) + 6) = nI (476 + 9 * V.1 + 6) := hidx 6
      have j7 : ((0 + 476 + 9 * nI V.1 : Int32) + 7) = nI (476 + 9 * V.1 + 7) := hidx 7
      have j8 : ((0 + 476 + 9 * nI V.1 : Int32) + 8) = nI (476 + 9 * V.1 + 8) := hidx 8
      have h77 : w 7 = nI V.1 := h7
      rw [j0, j1, j2, j3, j4, j5, j6, j7, j8, show (7 : Int32).toNatClampNeg = 7 from rfl]
      simp (disch := omega) only [pn_cl, pn_nlt0, false_or, pn_ge, ↓reduceIte, upd_n, upd_s, h77]
      generalize hx : upd (upd (upd (upd (upd (upd (upd (upd (upd w (476 + 9 * V.1 + 0) p1) (476 + 9 * V.1 + 1) p2) (476 + 9 * V.1 + 2) p3) (476 + 9 * V.1 + 3) p4) (476 + 9 * V.1 + 4) p5) (476 + 9 * V.1 + 5) p6) (476 + 9 * V.1 + 6) 1) (476 + 9 * V.1 + 7) 0) (476 + 9 * V.1 + 8) 0 = x
      have fx : ∀ q, (q < 476 + 9 * V.1 ∨ 476 + 9 * V.1 + 9 ≤ q) → x q = w q := by
        intro q hq
        rw [← hx, upd_n (by omega), upd_n (by omega), upd_n (by omega), upd_n (by omega), upd_n (by omega), upd_n (by omega), upd_n (by omega), upd_n (by omega), upd_n (by omega)]
      have fr : ∀ j, j < 9 → x (476 + 9 * V.1 + j) = newH V.1 V.2.1 p1 p2 p3 p4 p5 p6 V.1 j := by
        intro j hj
        have h9 : j = 0 ∨ j = 1 ∨ j = 2 ∨ j = 3 ∨ j = 4 ∨ j = 5 ∨ j = 6 ∨ j = 7 ∨ j = 8 := by omega
        rcases h9 with rfl | rfl | rfl | rfl | rfl | rfl | rfl | rfl | rfl <;> rw [← hx] <;> simp (disch := omega) only [upd_n, upd_s] <;> simp [newH]
      have hRW : RWm (listenV p1 p2 p3 p4 p5 p6 V) (upd x 7 (nI (V.1 + 1))) 0 := by
        obtain ⟨m1, m2, m3, m4⟩ := hm
        have hg := m3.2.1
        have hq := m4.2.1
        refine ⟨?_, ⟨by show V.1 + 1 ≤ 8; omega, ?_, fun i j hi hj => ?_⟩, ⟨?_, hg, fun k hk => ?_⟩, ⟨?_, hq, fun i hi => ?_⟩⟩
        · have hs := (m1.far (w' := x) (fun q q1 q2 => fx q (by omega))).set 7 (nI (V.1 + 1)) (by omega) (by omega)
          rw [Nat.zero_add] at hs
          exact hs.1
        · rw [Nat.zero_add, upd_s]; rfl
        · have hi' : i < V.1 + 1 := hi
          show upd x 7 (nI (V.1 + 1)) (0 + 476 + 9 * i + j) = newH V.1 V.2.1 p1 p2 p3 p4 p5 p6 i j
          rw [Nat.zero_add, upd_n (by omega)]
          by_cases ci : i = V.1
          · subst ci; exact fr j hj
          · rw [fx _ (by omega)]
            have := m2.2.2 i j (by omega) hj
            rw [Nat.zero_add] at this
            rw [this]; simp [newH, ci]
        · rw [upd_n (by omega), fx _ (by omega)]; exact m3.1
        · have hk' : k < V.2.2.2.1.length := hk
          show V.2.2.2.1[k] = _
          rw [m3.2.2 k hk', upd_n (by omega), upd_n (by omega), upd_n (by omega), upd_n (by omega), upd_n (by omega), fx _ (by omega), fx _ (by omega), fx _ (by omega), fx _ (by omega), fx _ (by omega)]
        · rw [upd_n (by omega), fx _ (by omega)]; exact m4.1
        · have hi' : i < V.2.2.2.2.length := hi
          show V.2.2.2.2[i] = _
          rw [m4.2.2 i hi', upd_n (by omega), fx _ (by omega)]
      rw [← nI_1] at hRW
      refine tot_s ⟨?_, hI.go ⟨listenV p1 p2 p3 p4 p5 p6 V, ?_, ?_, ?_⟩ (fun q q1 q2 => ?_) ⟨m, rfl, by omega⟩⟩
      · show nI V.1 = nI V.1 + 1 - 1
        rw [nI_1, nI_pred]
      · refine ⟨RC_set c1 (by simp [keepQ]), ⟨by show V.1 + 1 ≤ 8; omega, fun i hi => ?_, fun i hi1 hi2 => by have hi1' : V.1 + 1 ≤ i := hi1; rw [upd_n (by omega)]; exact c2.2.2 i (by omega) hi2⟩, c3, c4, ?_⟩
        · have hi' : i < V.1 + 1 := hi
          simp only [listenV]
          by_cases ci : i = V.1
          · subst ci
            refine ⟨?_, ?_, ?_, ?_, ?_, ?_, ?_, ?_, ?_⟩ <;> rw [upd_s] <;> simp [newH]
          · obtain ⟨l0, l1, l2, l3, l4, l5, l6, l7, l8⟩ := c2.2.1 i (by omega)
            refine ⟨?_, ?_, ?_, ?_, ?_, ?_, ?_, ?_, ?_⟩ <;> rw [upd_n ci] <;> simp only [newH, ci, if_false] <;> assumption
        · simp only [listenV, setN]
          rw [upd_n (by decide), upd_n (by decide), upd_n (by decide), d2, d3, d4]
      · exact hRW
      · have ok' := OkWV.up ok (show 3100000 * N ≤ 3100000 * (N + 1) by omega) (show 1000 * N ≤ 1000 * (N + 1) by omega)
        obtain ⟨o1, o2, o3, o4, o5, o6⟩ := ok'
        have e5 : (listenV p1 p2 p3 p4 p5 p6 V).2.2.1.2.2.2 5 = V.2.2.1.2.2.2 5 := by simp only [listenV, setN]; rw [upd_n (by decide)]
        refine ⟨by show V.1 + 1 ≤ 8; omega, o2.set (by simp), fun i hi => ?_, o4, by rw [e5]; exact o5, by rw [e5]; exact o6⟩
        have hi' : i < V.1 + 1 := hi
        show OkH (newH V.1 V.2.1 p1 p2 p3 p4 p5 p6 i)
        by_cases ci : i = V.1
        · subst ci
          have e1 : (1 : Int32).toInt = 1 := by decide
          have e0 : (0 : Int32).toInt = 0 := by decide
          have e9 : (9 : Int32).toInt = 9 := by decide
          have s21 := (rng_of k2).1
          have s22 := (rng_of k2).2
          have s31 := (rng_of k3).1
          have s32 := (rng_of k3).2
          rw [e1] at s21
          rw [e9] at s22
          rw [e0] at s31
          rw [i32_sub (by omega) (by omega), e1] at s32
          refine ⟨⟨?_, ?_, ?_, ?_⟩, ?_, ?_, ?_, ?_⟩
          · simp only [newH]; simp; rw [i32_lt, e0]; omega
          · simp only [newH]; simp; exact s22
          · simp only [newH]; simp; exact s31
          · simp only [newH]; simp; omega
          · simp only [newH]; simp; exact (rng_of k5).1
          · simp only [newH]; simp; exact (rng_of k5).2
          · right; simp [newH]
          · simp only [newH]; simp; exact hw
        · have := o3 i (by omega)
          simpa [newH, ci, OkH] using this
      · show upd x 7 (nI V.1 + 1) q = w q
        rw [upd_n (by omega), fx _ (by omega)]
    · have e8 : V.1 = 8 := by omega
      rw [if_neg (by rw [e8]; decide)]
      refine tot_s ?_
      rw [if_pos (by rw [e8]; rfl)]
      exact tot_s ⟨rfl, hI.same⟩
  by_cases c1' : p4 = 1
  · rw [if_pos c1', if_pos c1']
    cases k6 : (decide (1 ≤ p6) && decide (p6 ≤ 99)) with
    | false => rw [if_pos (show bi false = 0 from rfl), if_pos (show bi false = 0 from rfl)]; exact tot_s (tot_s ⟨rfl, hI.same⟩)
    | true =>
      rw [if_neg (show ¬ bi true = 0 by decide), if_neg (show ¬ bi true = 0 by decide)]
      exact fin (fun _ => rng_of k6)
  · rw [if_neg c1', if_neg c1']
    exact fin (fun h => absurd h c1')
end SListen
