/-! acts of listeners -/
theorem upd_same {f : Nat → Int32} {i : Nat} : upd f i (f i) = f := by
  funext j; by_cases c : j = i
  · subst c; rw [upd_s]
  · rw [upd_n c]
def EvOk (ev : Ev) : Prop := VOk ev.2.2.1 ∧ 0 ≤ ev.2.1.toInt ∧ ev.2.1.toInt < 1000 ∧ (ev.1 = 5 ∨ ev.1 = 6 → ev.2.2.1 = 0)
theorem VOk.z : VOk 0 := by constructor <;> decide
theorem neg_msb (x : Int32) : x < 0 ↔ x.toBitVec.msb = true := by
  show x.toBitVec.slt (0 : Int32).toBitVec = true ↔ _
  rw [show (0 : Int32).toBitVec = 0#32 from rfl, BitVec.slt_zero_eq_msb]
theorem xor_neg (x : Int32) : x ^^^ 1000 < 0 ↔ x < 0 := by
  rw [neg_msb, neg_msb, Int32.toBitVec_xor, BitVec.msb_xor, show (1000 : Int32).toBitVec.msb = false from by decide]
  simp
theorem rem_neg {x : Int32} (h1 : -1000 < x.toInt) (h2 : x.toInt < 0) : x - x / 1000 * 1000 = x := by
  have e1 : (1000 : Int32).toInt = 1000 := by decide
  have : x / 1000 = 0 := by
    apply i32_eq.2
    rw [Int32.toInt_div_of_ne_right x 1000 (by decide), e1]
    rw [show x.toInt = -(-x.toInt) by omega, Int.neg_tdiv, Int.tdiv_eq_ediv_of_nonneg (by omega), Int.ediv_eq_zero_of_lt (by omega) (by omega)]
    decide
  rw [this]; simp
/-- the key that an act is for, by both ways to say it -/
theorem keyF {x : Int32} (h1 : -1000 < x.toInt) (h2 : x.toInt < 2000) : fmod x 1000 = (x - x / 1000 * 1000 + 1000) - (x - x / 1000 * 1000 + 1000) / 1000 * 1000 ∧ 0 ≤ (fmod x 1000).toInt ∧ (fmod x 1000).toInt < 1000 := by
  have e1 : (1000 : Int32).toInt = 1000 := by decide
  by_cases c : x.toInt < 0
  · have hr := rem_neg h1 c
    have hx0 : x < 0 := by rw [i32_lt]; exact c
    have hne : ¬ x = 0 := by intro e; rw [e] at c; exact absurd c (by decide)
    have ha : (x + 1000).toInt = x.toInt + 1000 := by rw [i32_add (by omega) (by omega), e1]
    obtain ⟨n, hn, hn2, hn3⟩ := i32_nI (x := x + 1000) (by omega)
    rw [fmod, hr, if_pos ⟨(xor_neg x).2 hx0, hne⟩, hn2, show nI n - nI n / 1000 * 1000 = nI (n % 1000) from pk_rem (d := 1000) hn (by omega) (by omega)]
    rw [Nat.mod_eq_of_lt (by omega), nI_toInt (by omega)]
    exact ⟨rfl, by omega, by omega⟩
  · obtain ⟨n, hn, hn2, hn3⟩ := i32_nI (x := x) (by omega)
    have hx0 : ¬ x < 0 := by rw [i32_lt]; exact c
    have hr : x - x / 1000 * 1000 = nI (n % 1000) := by rw [hn2]; exact pk_rem (d := 1000) hn (by omega) (by omega)
    have hm := Nat.mod_lt n (show 1000 > 0 by omega)
    rw [fmod, if_neg (fun hh => hx0 ((xor_neg x).1 hh.1)), hr]
    have e2 : nI (n % 1000) + 1000 = nI (n % 1000 + 1000) := pn_add _ _
    rw [e2, show nI (n % 1000 + 1000) - nI (n % 1000 + 1000) / 1000 * 1000 = nI ((n % 1000 + 1000) % 1000) from pk_rem (d := 1000) (by omega) (by omega) (by omega)]
    rw [show (n % 1000 + 1000) % 1000 = n % 1000 by omega, nI_toInt (by omega)]
    exact ⟨rfl, by omega, by omega⟩
def OkH (h : Nat → Int32) : Prop := (0 < h 1 ∧ (h 1).toInt ≤ 9 ∧ 0 ≤ (h 2).toInt ∧ (h 2).toInt < (h 1).toInt) ∧ -999 ≤ (h 4).toInt ∧ (h 4).toInt ≤ 999 ∧ (h 6 = 0 ∨ h 6 = 1) ∧ (h 3 = 1 → 1 ≤ (h 5).toInt ∧ (h 5).toInt ≤ 99)
def hearsB (h : Nat → Int32) (kind key : Int32) : Bool := decide (h 6 = 1) && (decide (h 0 = -1) || decide (h 0 = kind)) && decide (key - key / h 1 * h 1 = h 2)
def actS (h : Nat → Int32) (key v d : Int32) (S : SS) : Bool × SS × List Ev :=
  if h 3 = 1 then (!decide ((bringS (fmod (key + h 4) 1000) v (h 5) (-1) d S).1 = -1), (bringS (fmod (key + h 4) 1000) v (h 5) (-1) d S).2)
  else if h 3 = 2 then (decide ((fetchS (fmod (key + h 4) 1000) d S).1 = 1), (fetchS (fmod (key + h 4) 1000) d S).2)
  else if h 3 = 3 then ((fnd (fmod (key + h 4) 1000) S.1).isSome, (takeS (fmod (key + h 4) 1000) d S).2)
  else if h 3 = 4 then (decide ((fastS (fmod (key + h 4) 1000) 1 S).1 = 1), (fastS (fmod (key + h 4) 1000) 1 S).2, [])
  else if h 3 = 5 then (decide ((fastS (fmod (key + h 4) 1000) 0 S).1 = 1), (fastS (fmod (key + h 4) 1000) 0 S).2, [])
  else if h 3 = 6 then (if h 4 = 0 then (false, S, []) else (decide (0 ≤ (recapS (S.2.2.2 1 + h 4) d S).1), (recapS (S.2.2.2 1 + h 4) d S).2))
  else (false, S, [])
theorem key_rng {key sh : Int32} (k1 : 0 ≤ key.toInt) (k2 : key.toInt < 1000) (s1 : -999 ≤ sh.toInt) (s2 : sh.toInt ≤ 999) : -1000 < (key + sh).toInt ∧ (key + sh).toInt < 2000 := by
  rw [i32_add (by omega) (by omega)]; omega
section Vals
variable {b : Nat} {S : SS}
theorem evRun_val {stop : SS → Bool} {but d : Int32} : ∀ (n b : Nat) (S : SS), Ok b S → b + n < 2147483648 → ∀ ev ∈ (evRun stop but d n S).2, EvOk ev
  | 0, b, S, _, _ => by simp [evRun]
  | n + 1, b, S, ok, hb => by
    by_cases hs : stop S = true
    · rw [evRun_stop hs]; simp
    · cases hc : chS but S with
      | none => rw [evRun_none hc]; simp
      | some e =>
        rw [evRun_some (by simpa using hs) hc]
        intro ev hev
        rcases List.mem_cons.1 hev with rfl | hev
        · have := ok.1.2.2.2 e (chS_mem ok hc).1
          exact ⟨this.2.2.2.2.2.2.2.2.2, this.1, this.2.1, fun h => by rcases h with h | h <;> exact absurd h (show ¬ (2 : Int32) = _ by decide)⟩
        · exact evRun_val n (b + 1) (evS e S) (ok.ev (by omega)) (by omega) ev hev
theorem bring_val {k v wt t d : Int32} (ok : Ok b S) (hb : b + 64 < 2147483648) (ha : ArgP k v wt t (S.2.2.2 5)) : ∀ ev ∈ (bringS k v wt t d S).2.2, EvOk ev := by
  rw [bringS]
  split
  · intro ev hev
    rw [List.mem_singleton] at hev; subst hev
    exact ⟨VOk.z, ha.1, ha.2.1, fun _ => rfl⟩
  · split
    · intro ev hev
      rcases List.mem_append.1 hev with hev | hev
      · exact evRun_val 60 b _ (learnS_ok ok ha.2.2.1 ha.2.2.2.1) (by omega) ev hev
      · rw [List.mem_singleton] at hev; subst hev
        exact ⟨ha.2.2.2.2.2, ha.1, ha.2.1, fun h => by rcases h with h | h <;> exact absurd h (show ¬ (0 : Int32) = _ by decide)⟩
    · intro ev hev
      rcases List.mem_append.1 hev with hev | hev
      · exact evRun_val 60 b _ (chg_ok (v := v) ok ha) (by omega) ev hev
      · rw [List.mem_singleton] at hev; subst hev
        exact ⟨ha.2.2.2.2.2, ha.1, ha.2.1, fun h => by rcases h with h | h <;> exact absurd h (show ¬ (1 : Int32) = _ by decide)⟩
theorem fetch_val {k d : Int32} (k1 : 0 ≤ k.toInt) (k2 : k.toInt < 1000) : ∀ ev ∈ (fetchS k d S).2.2, EvOk ev := by
  rw [fetchS]
  split
  · intro ev hev
    rw [List.mem_singleton] at hev; subst hev
    exact ⟨VOk.z, k1, k2, fun _ => rfl⟩
  · simp
theorem take_val {k d : Int32} (ok : Ok b S) (k1 : 0 ≤ k.toInt) (k2 : k.toInt < 1000) : ∀ ev ∈ (takeS k d S).2.2, EvOk ev := by
  rw [takeS]
  cases hf : fnd k S.1 with
  | none => simp
  | some e =>
    intro ev hev
    simp only [List.mem_singleton] at hev; subst hev
    exact ⟨ok.1.V e (fnd_some hf).1, k1, k2, fun h => by rcases h with h | h <;> exact absurd h (show ¬ (4 : Int32) = _ by decide)⟩
theorem recap_val {c d : Int32} (ok : Ok b S) (hb : b + 64 < 2147483648) : ∀ ev ∈ (recapS c d S).2.2, EvOk ev := by
  rw [recapS]
  split
  · simp
  · rename_i hc
    split
    · simp
    · exact evRun_val 60 b _ (cap_ok0 ok (by simpa using hc)) (by omega)
/-- a cap as it is -/
theorem recap_id {d : Int32} (h : Ok2 b S) : ∃ x, recapS (S.2.2.2 1) d S = (x, S, []) := by
  obtain ⟨⟨a1, a2, a3, o1, o2, o3, o4, o5, o6⟩, hw, hc⟩ := h
  rw [recapS]
  split
  · exact ⟨_, rfl⟩
  · split
    · exact ⟨_, rfl⟩
    · have e1 : setN 3 (if S.2.2.2 1 < S.2.2.2 3 then S.2.2.2 1 else S.2.2.2 3) (setN 1 (S.2.2.2 1) S) = S := by
        rw [if_neg (by rw [i32_lt]; omega)]
        simp only [setN]
        rw [upd_same, upd_same]
      refine ⟨nI 0, ?_⟩
      rw [capS, e1, evRun_stop (by simpa [stopL] using hc)]; rfl
theorem act_ok {h : Nat → Int32} {key v d : Int32} (hS : Ok2 b S) (hh : OkH h) (hb : b + 64 < 2147483648) (hv : VOk v) (k1 : 0 ≤ key.toInt) (k2 : key.toInt < 1000) : Ok2 (b + 64) (actS h key v d S).2.1 ∧ (actS h key v d S).2.2.length ≤ 61 ∧ (∀ ev ∈ (actS h key v d S).2.2, EvOk ev) ∧ (actS h key v d S).2.1.2.2.2 5 = S.2.2.2 5 := by
  obtain ⟨r1, r2⟩ := key_rng k1 k2 hh.2.1 hh.2.2.1
  obtain ⟨_, f1, f2⟩ := keyF r1 r2
  rw [actS]
  split
  · rename_i h1
    obtain ⟨w1, w2⟩ := hh.2.2.2.2 h1
    have ha : ArgP (fmod (key + h 4) 1000) v (h 5) (-1) (S.2.2.2 5) := ⟨f1, f2, w1, w2, Or.inl rfl, hv⟩
    obtain ⟨g1, g2, g3⟩ := bring_ok (v := v) (d := d) hS hb ha
    exact ⟨g1, g2, bring_val hS.1 hb ha, g3⟩
  · split
    · obtain ⟨g1, g2, g3⟩ := fetch_ok (k := fmod (key + h 4) 1000) (d := d) hS hb
      exact ⟨g1, Nat.le_trans g2 (by decide), fetch_val f1 f2, g3⟩
    · split
      · obtain ⟨g1, g2, g3⟩ := take_ok (k := fmod (key + h 4) 1000) (d := d) hS
        exact ⟨g1.up (by omega), Nat.le_trans g2 (by decide), take_val hS.1 f1 f2, g3⟩
      · split
        · obtain ⟨g1, g2⟩ := fast_ok (k := fmod (key + h 4) 1000) (p := 1) (Or.inr rfl) hS
          exact ⟨g1.up (by omega), by simp, by simp, by rw [g2]⟩
        · split
          · obtain ⟨g1, g2⟩ := fast_ok (k := fmod (key + h 4) 1000) (p := 0) (Or.inl rfl) hS
            exact ⟨g1.up (by omega), by simp, by simp, by rw [g2]⟩
          · split
            · split
              · exact ⟨hS.up (by omega), by simp, by simp, rfl⟩
              · obtain ⟨g1, g2, g3⟩ := recap_ok (c := S.2.2.2 1 + h 4) (d := d) hS hb
                exact ⟨g1, Nat.le_trans g2 (by decide), recap_val hS.1 hb, g3⟩
            · exact ⟨hS.up (by omega), by simp, by simp, rfl⟩
end Vals
/-- listeners as the store's world has them, as the reference has them -/
def LC (n : Nat) (H : Nat → Nat → Int32) : tL8 → Prop
  | (a0, a1, a2, a3, a4, a5, a6, a7, a8) => n ≤ 8 ∧ (∀ i, i < n → a0 i = H i 0 ∧ a1 i = H i 1 ∧ a2 i = H i 2 ∧ a3 i = H i 3 ∧ a4 i = H i 4 ∧ a5 i = H i 5 ∧ a6 i = H i 6 ∧ a7 i = H i 7 ∧ a8 i = H i 8) ∧ ∀ i, n ≤ i → i < 8 → a6 i = 0 ∨ a6 i = 1
def LM (n : Nat) (H : Nat → Nat → Int32) (w : Nat → Int32) (o : Nat) : Prop := n ≤ 8 ∧ w (o + 7) = nI n ∧ ∀ i j, i < n → j < 9 → w (o + 476 + 9 * i + j) = H i j
section CAct
variable {F b n : Nat} {S : SS} {H : Nat → Nat → Int32} {x6 : tX6} {x1 : tX1} {xy xz : tX2} {xq : tX7} {l8 : tL8} {E : List Ev}
theorem c_act (h : RC S x6 x1 xy xz) (hS : Ok2 b S) (hF : 100 ≤ F) (hb : b + 200 < 2147483648) (hq : QC E xq) (hL : LC n H l8) {j : Nat} (hj : j < n) (hh : OkH (H j)) {key v : Int32} (hv : VOk v) (k1 : 0 ≤ key.toInt) (k2 : key.toInt < 1000) :
    Tot (X8_act F j key v x6 x1 xy xz xq l8) (fun y => y.1 = bi (actS (H j) key v (dep xq) S).1 ∧ RC (actS (H j) key v (dep xq) S).2.1 y.2.1 y.2.2.1 y.2.2.2.1 y.2.2.2.2.1 ∧ QC (E ++ (actS (H j) key v (dep xq) S).2.2) y.2.2.2.2.2 ∧ dep y.2.2.2.2.2 = dep xq) := by
  obtain ⟨r1, r2⟩ := key_rng k1 k2 hh.2.1 hh.2.2.1
  obtain ⟨_, f1, f2⟩ := keyF r1 r2
  have cfetch := c_fetch (F := F) h hS.1 hF hq (fmod (key + H j 4) 1000)
  have ctake := c_takeOut (F := F) h hS.1 hF hq (fmod (key + H j 4) 1000)
  have cfast := fun p hp => c_fastS (F := F) h hS.1 hF (fmod (key + H j 4) 1000) (p := p) hp
  have crecap := c_recap (F := F) h hS.1 hF hb hq (S.2.2.2 1 + H j 4)
  have cbring := fun (w1 : 1 ≤ (H j 5).toInt) (w2 : (H j 5).toInt ≤ 99) => c_bring (F := F) (v := v) h hS.1 hF hb hq (k := fmod (key + H j 4) 1000) (wt := H j 5) (t := -1) ⟨f1, f2, w1, w2, Or.inl rfl, hv⟩ (fun hr hf => by
    have := room_done (d := dep xq) hS.1 hS.2.1 (by omega) w1 w2 hr hf
    simp only [stopT, Bool.and_eq_true, decide_eq_true_eq] at this; exact this.1)
  have hcap : x6.2.2.1 = S.2.2.2 1 := by
    obtain ⟨hap, got, cap, wy, bal, wbt⟩ := x6
    obtain ⟨kK, kV, kW, kC, kL, kT, kP, sz, ld, pl, us, ag, hv⟩ := x1
    exact h.2.2.2.2.2.2.2.2.2.2.1
  obtain ⟨hap, got, cap, wy, bal, wbt⟩ := x6
  obtain ⟨kK, kV, kW, kC, kL, kT, kP, sz, ld, pl, us, ag, hv⟩ := x1
  obtain ⟨yk, ys⟩ := xy
  obtain ⟨zk, zs⟩ := xz
  obtain ⟨qa, qb, qc, qd, qe, qs, ql, qp⟩ := xq
  obtain ⟨a0, a1, a2, a3, a4, a5, a6, a7, a8⟩ := l8
  obtain ⟨_, hL2, _⟩ := hL
  obtain ⟨l0, l1, l2, l3, l4, l5, l6, l7, l8⟩ := hL2 j hj
  simp only at hcap
  subst hcap
  rw [X8_act, X3_keyFor, l3, l4, l5, actS]
  simp only [Option.bind_some]
  by_cases d1 : H j 3 = 1
  · simp only [d1, if_true]
    obtain ⟨w1, w2⟩ := hh.2.2.2.2 d1
    refine tot_b (cbring w1 w2) (fun y ⟨g0, g1, g2, g3⟩ => ?_)
    obtain ⟨r, ⟨j1, j2, j3, j4, j5, j6⟩, ⟨j7, j8, j9, j10, j11, j12, j13, j14, j15, j16, j17, j18, j19⟩, ⟨j20, j21⟩, ⟨j22, j23⟩, ⟨j24, j25, j26, j27, j28, j29, j30, j31⟩⟩ := y
    simp only at g0 g1 g2 g3 ⊢
    rw [← g0]
    by_cases cr : r = -1
    · rw [if_pos cr]; exact tot_s ⟨by simp [cr, bi], g1, g2, g3⟩
    · rw [if_neg cr]; exact tot_s ⟨by simp [cr, bi], g1, g2, g3⟩
  simp only [d1, if_false]
  by_cases d2 : H j 3 = 2
  · simp only [d2, if_true]
    refine tot_b cfetch (fun y ⟨g0, g1, g2, g3⟩ => ?_)
    obtain ⟨r, ⟨j1, j2, j3, j4, j5, j6⟩, ⟨j7, j8, j9, j10, j11, j12, j13, j14, j15, j16, j17, j18, j19⟩, ⟨j24, j25, j26, j27, j28, j29, j30, j31⟩⟩ := y
    simp only at g0 g1 g2 g3 ⊢
    rw [← g0]
    by_cases cr : r = 1
    · rw [if_pos cr]; exact tot_s ⟨by simp [cr, bi], g1, g2, g3⟩
    · rw [if_neg cr]; exact tot_s ⟨by simp [cr, bi], g1, g2, g3⟩
  simp only [d2, if_false]
  by_cases d3 : H j 3 = 3
  · simp only [d3, if_true]
    refine tot_b ctake (fun y ⟨g0, g1, g2, g3⟩ => ?_)
    obtain ⟨r, ⟨j1, j2, j3, j4, j5, j6⟩, ⟨j7, j8, j9, j10, j11, j12, j13, j14, j15, j16, j17, j18, j19⟩, ⟨j24, j25, j26, j27, j28, j29, j30, j31⟩⟩ := y
    simp only at g0 g1 g2 g3 ⊢
    cases hf : fnd (fmod (key + H j 4) 1000) S.1 with
    | none =>
      rw [takeS, hf] at g0
      rw [if_pos g0]; exact tot_s ⟨rfl, g1, g2, g3⟩
    | some e =>
      rw [takeS, hf] at g0
      have hv2 := hS.1.1.V e (fnd_some hf).1
      have e3 : (-3 : Int32).toInt = -3 := by decide
      have e4 : (10000 : Int32).toInt = 10000 := by decide
      have hne : ¬ r = -3 := by
        rw [g0]; intro hx
        have := congrArg Int32.toInt hx
        obtain ⟨v1, v2⟩ := hv2
        simp only at this
        rw [i32_add (by omega) (by omega), e3, e4] at this; omega
      rw [if_neg hne]; exact tot_s ⟨rfl, g1, g2, g3⟩
  simp only [d3, if_false]
  by_cases d4 : H j 3 = 4
  · simp only [d4, if_true]
    refine tot_b (cfast 1 (Or.inr rfl)) (fun y ⟨g0, g1⟩ => ?_)
    obtain ⟨r, ⟨j7, j8, j9, j10, j11, j12, j13, j14, j15, j16, j17, j18, j19⟩⟩ := y
    simp only at g0 g1 ⊢
    rw [← g0]
    by_cases cr : r = 1
    · rw [if_pos cr]; exact tot_s ⟨by simp [cr, bi], g1, by simpa using hq, rfl⟩
    · rw [if_neg cr]; exact tot_s ⟨by simp [cr, bi], g1, by simpa using hq, rfl⟩
  simp only [d4, if_false]
  by_cases d5 : H j 3 = 5
  · simp only [d5, if_true]
    refine tot_b (cfast 0 (Or.inl rfl)) (fun y ⟨g0, g1⟩ => ?_)
    obtain ⟨r, ⟨j7, j8, j9, j10, j11, j12, j13, j14, j15, j16, j17, j18, j19⟩⟩ := y
    simp only at g0 g1 ⊢
    rw [← g0]
    by_cases cr : r = 1
    · rw [if_pos cr]; exact tot_s ⟨by simp [cr, bi], g1, by simpa using hq, rfl⟩
    · rw [if_neg cr]; exact tot_s ⟨by simp [cr, bi], g1, by simpa using hq, rfl⟩
  simp only [d5, if_false]
  by_cases d6 : H j 3 = 6
  · simp only [d6, if_true]
    refine tot_b crecap (fun y ⟨g0, g1, g2, g3⟩ => ?_)
    obtain ⟨r, ⟨j1, j2, j3, j4, j5, j6⟩, ⟨j7, j8, j9, j10, j11, j12, j13, j14, j15, j16, j17, j18, j19⟩, ⟨j20, j21⟩, ⟨j22, j23⟩, ⟨j24, j25, j26, j27, j28, j29, j30, j31⟩⟩ := y
    simp only at g0 g1 g2 g3 ⊢
    by_cases c0 : H j 4 = 0
    · obtain ⟨x, hx⟩ := recap_id (d := qp) hS
      rw [c0, Int32.add_zero, show dep (qa, qb, qc, qd, qe, qs, ql, qp) = qp from rfl, hx] at g1 g2
      simp only [c0, if_true]
      split <;> exact tot_s ⟨rfl, g1, g2, g3⟩
    · simp only [c0, if_false]
      rw [← g0]
      by_cases cr : r < 0
      · rw [if_pos cr]
        have : ¬ 0 ≤ r := by rw [Int32.not_le]; exact cr
        exact tot_s ⟨by simp [this, bi], g1, g2, g3⟩
      · rw [if_neg cr]
        have : 0 ≤ r := by rwa [Int32.not_lt] at cr
        exact tot_s ⟨by simp [this, bi], g1, g2, g3⟩
  · simp only [d6, if_false]
    exact tot_s ⟨rfl, h, by simpa using hq, rfl⟩
end CAct
