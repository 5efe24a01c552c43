/-! a listener turns; buckets -/
section STurn
variable {F N : Nat} {x8 : tX8} {x6 : tX6} {x1 : tX1} {xy xz : tX2} {l8 : tL8} {x4 : tX4} {x5 : tX5} {i0 i1 : Option tWi} {w ik : Nat → Int32} {wm th : Int32}
def onH (j : Nat) (p : Int32) (H : Nat → Nat → Int32) : Nat → Nat → Int32 := fun i q => if i = j ∧ q = 6 then p else H i q
theorem S_turn (hI : Inv N (x8, x6, x1, xy, xz, l8, x4, x5) i0 i1 w ik wm) (p1 p2 : Int32) (hz : p2 = 0 ∨ p2 = 1) :
    Tot (X9_turn F p1 p2 x8 l8) (fun y => Tot (X10_turn F p1 p2 th w 0) (fun z => y.1 = z.1 ∧ Inv (N + 1) (x8, x6, x1, xy, xz, y.2, x4, x5) i0 i1 z.2.2 ik wm)) := by
  obtain ⟨⟨V, hc, hm, ok⟩, _, _, ⟨m, rfl, hmm⟩⟩ := id hI
  obtain ⟨lc, tk, ls, dpp⟩ := x8
  obtain ⟨a0, a1, a2, a3, a4, a5, a6, a7, a8⟩ := l8
  obtain ⟨c1, c2, c3, c4, c5⟩ := hc
  have c5' := c5
  simp only [Prod.mk.injEq] at c5
  obtain ⟨rfl, d2, d3, d4⟩ := c5
  have hn := c2.1
  rw [X9_turn, X10_turn, isHearerM hm.2.1]
  simp only [Option.bind_some]
  rcases rng_n p1 (n := V.1) (by omega) with ⟨i, hi, rfl, hr⟩ | ⟨hno, hr⟩
  · have hidx : ((0 + 476 + 9 * nI i : Int32) + 6) = nI (476 + 9 * i + 6) := by
      rw [show (0 + 476 : Int32) = nI 476 from rfl]; simp (disch := omega) only [nI_add, pn_add, pn_addl, pn_mul, pn_cl, pn_nlt0, false_or, pn_ge, pn_le, Nat.add_zero, Nat.zero_add, ↓reduceIte, Option.bind_some, nI_leI, nI_ltI, nI_eq, pn_ne1, pn_1ne]
    have ef : X10_flag F p2 = some p2 := by rcases hz with rfl | rfl <;> rfl
    have f0 : X10_flag F 0 = some 0 := rfl
    have f1 : X10_flag F 1 = some 1 := rfl
    have s0 : X9_asInt F 0 = some 0 := rfl
    have s1 : X9_asInt F 1 = some 1 := rfl
    obtain ⟨_, _, _, _, _, _, l6, _, _⟩ := c2.2.1 i hi
    have m6 := hm.2.1.2.2 i 6 hi (by omega)
    rw [Nat.zero_add] at m6
    rw [listenerAt_in hn hi, hr, if_neg (show ¬ bi true = 0 by decide), X10_hearerAt]
    simp only [Option.bind_some]
    rw [hidx, l6, ef, f0, f1, s0, s1]
    simp (disch := omega) only [nI_add, pn_add, pn_addl, pn_mul, pn_cl, pn_nlt0, false_or, pn_ge, pn_le, Nat.add_zero, Nat.zero_add, ↓reduceIte, Option.bind_some, nI_leI, nI_ltI, nI_eq, pn_ne1, pn_1ne, m6]
    have hz' : ¬ ¬ (p2 = 0 ∨ p2 = 1) := Classical.not_not.2 hz
    have hRW : RWm (V.1, onH i p2 V.2.1, V.2.2.1, V.2.2.2.1, V.2.2.2.2) (upd w (476 + 9 * i + 6) p2) 0 := by
      obtain ⟨m1, m2, m3, m4⟩ := hm
      have hg := m3.2.1
      have hq := m4.2.1
      refine ⟨m1.far (fun q q1 q2 => upd_n (by omega)), ⟨hn, by rw [upd_n (by omega)]; exact m2.2.1, fun a j ha hj => ?_⟩, ⟨by rw [upd_n (by omega)]; exact m3.1, hg, fun k hk => ?_⟩, ⟨by rw [upd_n (by omega)]; exact m4.1, hq, fun k hk => ?_⟩⟩
      · have ha' : a < V.1 := ha
        have := m2.2.2 a j ha hj
        rw [Nat.zero_add] at this ⊢
        show upd w (476 + 9 * i + 6) p2 (476 + 9 * a + j) = onH i p2 V.2.1 a j
        by_cases cc : a = i ∧ j = 6
        · obtain ⟨rfl, rfl⟩ := cc; rw [upd_s]; simp [onH]
        · rw [upd_n (by omega), this]; simp [onH, cc]
      · have hk' : k < V.2.2.2.1.length := hk
        show V.2.2.2.1[k] = _
        rw [m3.2.2 k hk', upd_n (by omega), upd_n (by omega), upd_n (by omega), upd_n (by omega), upd_n (by omega)]
      · have hk' : k < V.2.2.2.2.length := hk
        show V.2.2.2.2[k] = _
        rw [m4.2.2 k hk', upd_n (by omega)]
    have hRC : RWc (V.1, onH i p2 V.2.1, V.2.2.1, V.2.2.2.1, V.2.2.2.2) (nI V.1, tk, ls, dpp) x6 x1 xy xz (a0, a1, a2, a3, a4, a5, upd a6 i p2, a7, a8) x4 x5 := by
      refine ⟨c1, ⟨hn, fun j hj => ?_, fun j hj1 hj2 => by have hj1' : V.1 ≤ j := hj1; rw [upd_n (by omega)]; exact c2.2.2 j hj1' hj2⟩, c3, c4, c5'⟩
      obtain ⟨q0, q1, q2, q3, q4, q5, q6, q7, q8⟩ := c2.2.1 j hj
      refine ⟨by simp [onH, q0], by simp [onH, q1], by simp [onH, q2], by simp [onH, q3], by simp [onH, q4], by simp [onH, q5], ?_, by simp [onH, q7], by simp [onH, q8]⟩
      by_cases cj : j = i
      · subst cj; rw [upd_s]; simp [onH]
      · rw [upd_n cj, q6]; simp [onH, cj]
    have hOK : OkWV (3100000 * (N + 1)) (1000 * (N + 1)) (V.1, onH i p2 V.2.1, V.2.2.1, V.2.2.2.1, V.2.2.2.2) := by
      obtain ⟨o1, o2, o3, o4, o5, o6⟩ := OkWV.up ok (show 3100000 * N ≤ 3100000 * (N + 1) by omega) (show 1000 * N ≤ 1000 * (N + 1) by omega)
      refine ⟨o1, o2, fun j hj => ?_, o4, o5, o6⟩
      have := o3 j hj
      show OkH (onH i p2 V.2.1 j)
      by_cases cj : j = i
      · subst cj
        obtain ⟨h1, h2, h3, h4, h5⟩ := this
        exact ⟨by simpa [onH] using h1, by simpa [onH] using h2, by simpa [onH] using h3, by simpa [onH] using hz, by simpa [onH] using h5⟩
      · simpa [onH, cj, OkH] using this
    have fin : ∀ r : Int32, Tot (some (r, ((a0, a1, a2, a3, a4, a5, upd a6 i p2, a7, a8) : tL8))) (fun y => Tot (some (r, (0 : Int32), upd w (476 + 9 * i + 6) p2)) (fun z => y.1 = z.1 ∧ Inv (N + 1) ((nI V.1, tk, ls, dpp), x6, x1, xy, xz, y.2, x4, x5) i0 i1 z.2.2 ik (nI m))) := fun r =>
      tot_s (tot_s ⟨rfl, hI.go ⟨_, hRC, hRW, hOK⟩ (fun q q1 q2 => upd_n (by omega)) ⟨m, rfl, by omega⟩⟩)
    by_cases c : V.2.1 i 6 = p2
    · rw [if_pos c, if_neg hz', if_pos c]; exact fin 0
    · rw [if_neg c, if_neg hz', if_neg c]; exact fin 1
  · rw [listenerAt_out hn hno, hr, if_pos (show bi false = 0 from rfl)]
    exact tot_s (tot_s ⟨rfl, hI.same⟩)
end STurn
/-! the least count above another one -/
def abvF (v b : Int32) (e : En) : Int32 := if eC e ≤ v then b else if b = -1 then eC e else if b ≤ eC e then b else eC e
def abv (v : Int32) (L : List En) : Int32 := L.foldl (abvF v) (-1)
theorem abvF_comm {v : Int32} (hv : -1 ≤ v.toInt) (b : Int32) (x y : En) : abvF v (abvF v b x) y = abvF v (abvF v b y) x := by
  have e1 : (-1 : Int32).toInt = -1 := by decide
  simp only [abvF]
  by_cases c1 : eC x ≤ v <;> by_cases c2 : eC y ≤ v <;> simp only [c1, c2, if_true, if_false]
  have hx : ¬ eC x = -1 := by intro e; rw [e, i32_le] at c1; omega
  have hy : ¬ eC y = -1 := by intro e; rw [e, i32_le] at c2; omega
  by_cases c3 : b = -1
  · simp only [c3, if_true, hx, hy, if_false]
    by_cases c4 : eC x ≤ eC y
    · rw [if_pos c4]
      by_cases c5 : eC y ≤ eC x
      · rw [if_pos c5]; rw [i32_le] at c4 c5; exact i32_eq.2 (by omega)
      · rw [if_neg c5]
    · rw [if_neg c4, if_pos (by rw [i32_le] at c4 ⊢; omega)]
  · by_cases c4 : b ≤ eC x <;> by_cases c5 : b ≤ eC y <;> by_cases c6 : eC x ≤ eC y <;> by_cases c7 : eC y ≤ eC x <;> simp only [c3, c4, c5, c6, c7, hx, hy, if_true, if_false] <;> simp only [i32_le] at c4 c5 c6 c7 <;> (first | (exfalso; omega) | (apply i32_eq.2; omega))
theorem abv_perm {v : Int32} (hv : -1 ≤ v.toInt) {L M : List En} (p : L.Perm M) : abv v L = abv v M := fold_perm (abvF_comm hv) p (-1)
/-- what the least one above is -/
theorem abv_spec {v : Int32} (hv : -1 ≤ v.toInt) (L : List En) : (abv v L = -1 ∧ ∀ e ∈ L, eC e ≤ v) ∨ (v.toInt < (abv v L).toInt ∧ ∃ e ∈ L, eC e = abv v L) := by
  have e1 : (-1 : Int32).toInt = -1 := by decide
  induction L using snoc_ind with
  | h0 => left; exact ⟨rfl, by simp⟩
  | hs l e ih =>
    have hs : abv v (l ++ [e]) = abvF v (abv v l) e := by simp [abv, List.foldl_append]
    rw [hs, abvF]
    by_cases c1 : eC e ≤ v
    · rw [if_pos c1]
      rcases ih with ⟨i1, i2⟩ | ⟨i1, x, hx, i2⟩
      · left; refine ⟨i1, fun y hy => ?_⟩
        rcases List.mem_append.1 hy with hy | hy
        · exact i2 y hy
        · rw [List.mem_singleton.1 hy]; exact c1
      · right; exact ⟨i1, x, by simp [hx], i2⟩
    · rw [if_neg c1]
      right
      rw [i32_le] at c1
      rcases ih with ⟨i1, i2⟩ | ⟨i1, x, hx, i2⟩
      · rw [i1, if_pos rfl]; exact ⟨by omega, e, by simp, rfl⟩
      · have hne : ¬ abv v l = -1 := by intro h; rw [h] at i1; omega
        rw [if_neg hne]
        by_cases c2 : abv v l ≤ eC e
        · rw [if_pos c2]; exact ⟨i1, x, by simp [hx], i2⟩
        · rw [if_neg c2]; exact ⟨by omega, e, by simp, rfl⟩
theorem abv_0 {L : List En} (h : ∀ e ∈ L, 1 ≤ eC e) : abv 0 L = abv (-1) L := by
  have e1 : (1 : Int32).toInt = 1 := by decide
  have e0 : (0 : Int32).toInt = 0 := by decide
  have em : (-1 : Int32).toInt = -1 := by decide
  rw [abv, abv]
  have : ∀ (L : List En) (b : Int32), (∀ e ∈ L, 1 ≤ eC e) → L.foldl (abvF 0) b = L.foldl (abvF (-1)) b := by
    intro L
    induction L with
    | nil => intro b _; rfl
    | cons x l ih =>
      intro b hx
      simp only [List.foldl_cons]
      have h1 := hx x (by simp)
      rw [i32_le, e1] at h1
      have : abvF 0 b x = abvF (-1) b x := by
        rw [abvF, abvF, if_neg (show ¬ eC x ≤ 0 by rw [i32_le]; omega), if_neg (show ¬ eC x ≤ -1 by rw [i32_le]; omega)]
      rw [this]
      exact ih _ (fun e he => hx e (by simp [he]))
  exact this L (-1) h
/-- how many unlike counts from v on -/
def unl (L : List En) : Nat → Int32 → Nat
  | 0, _ => 0
  | c + 1, v => if v = -1 then 0 else 1 + unl L c (abv v L)
def chn (L : List En) : Nat → Int32 → Int32
  | 0, v => v
  | k + 1, v => if v = -1 then -1 else chn L k (abv v L)
def cabv (L : List En) (v : Int32) : Nat := L.countP (fun e => decide (v < eC e))
theorem cabv_lt {L : List En} {v : Int32} (hv : -1 ≤ v.toInt) (hn : abv v L ≠ -1) : cabv L (abv v L) < cabv L v := by
  rcases abv_spec hv L with ⟨h, _⟩ | ⟨h1, e, he, h2⟩
  · exact absurd h hn
  · refine cnt_lt (fun g _ hg => ?_) he ?_ ?_
    · simp only [decide_eq_true_eq, i32_lt] at hg ⊢; omega
    · simp only [decide_eq_false_iff_not, i32_lt, h2]; omega
    · simp only [decide_eq_true_eq, i32_lt, h2]; exact h1
/-- with a wide enough bound it is all one -/
theorem unl_big {L : List En} : ∀ (c d : Nat) (v : Int32), (v = -1 ∨ (0 ≤ v.toInt ∧ cabv L v < c ∧ cabv L v < d)) → unl L c v = unl L d v := by
  have em : (-1 : Int32).toInt = -1 := by decide
  intro c
  induction c with
  | zero =>
    intro d v h
    rcases h with rfl | ⟨_, h, _⟩
    · cases d <;> rfl
    · omega
  | succ c ih =>
    intro d v h
    rcases h with rfl | ⟨h0, h1, h2⟩
    · cases d <;> rfl
    · obtain ⟨d', rfl⟩ : ∃ d', d = d' + 1 := ⟨d - 1, by omega⟩
      have hne : ¬ v = -1 := by intro e; rw [e] at h0; omega
      rw [unl, unl, if_neg hne, if_neg hne]
      congr 1
      refine ih d' _ ?_
      rcases abv_spec (v := v) (by omega) L with ⟨a, _⟩ | ⟨a, _⟩
      · exact Or.inl a
      · have := cabv_lt (L := L) (v := v) (by omega) (by intro e; rw [e] at a; omega)
        exact Or.inr ⟨by omega, by omega, by omega⟩
/-- the k-th one stands just where k is less than how many there are -/
theorem chn_unl {L : List En} : ∀ (c k : Nat) (v : Int32), (v = -1 ∨ (0 ≤ v.toInt ∧ cabv L v < c)) → (chn L k v ≠ -1 ↔ k < unl L c v) := by
  have em : (-1 : Int32).toInt = -1 := by decide
  intro c
  induction c with
  | zero =>
    intro k v h
    rcases h with rfl | ⟨_, h⟩
    · cases k <;> simp [chn, unl]
    · omega
  | succ c ih =>
    intro k v h
    rcases h with rfl | ⟨h0, h1⟩
    · cases k <;> simp [chn, unl]
    · have hne : ¬ v = -1 := by intro e; rw [e] at h0; omega
      rw [unl, if_neg hne]
      cases k with
      | zero => simp [chn, hne]; omega
      | succ k =>
        rw [chn, if_neg hne, ih k (abv v L) ?_]
        · omega
        · rcases abv_spec (v := v) (by omega) L with ⟨a, _⟩ | ⟨a, _⟩
          · exact Or.inl a
          · have := cabv_lt (L := L) (v := v) (by omega) (by intro e; rw [e] at a; omega)
            exact Or.inr ⟨by omega, by omega⟩
theorem unl_perm {L M : List En} (p : L.Perm M) : ∀ (c : Nat) (v : Int32), -1 ≤ v.toInt → unl L c v = unl M c v := by
  have em : (-1 : Int32).toInt = -1 := by decide
  intro c
  induction c with
  | zero => intro v _; rfl
  | succ c ih =>
    intro v hv
    rw [unl, unl, abv_perm hv p]
    split
    · rfl
    · rw [ih]
      rcases abv_spec hv M with ⟨a, _⟩ | ⟨a, _⟩
      · rw [a]; omega
      · omega
theorem chn_perm {L M : List En} (p : L.Perm M) : ∀ (c : Nat) (v : Int32), -1 ≤ v.toInt → chn L c v = chn M c v := by
  have em : (-1 : Int32).toInt = -1 := by decide
  intro c
  induction c with
  | zero => intro v _; rfl
  | succ c ih =>
    intro v hv
    rw [chn, chn, abv_perm hv p]
    split
    · rfl
    · rw [ih]
      rcases abv_spec hv M with ⟨a, _⟩ | ⟨a, _⟩
      · rw [a]; omega
      · omega
