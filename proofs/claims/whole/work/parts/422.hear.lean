/-! one event is heard by all -/
def keepQ (q : Nat) : Prop := q = 5 ∨ q = 7 ∨ q = 13 ∨ q = 14 ∨ q = 17 ∨ q = 18
theorem use_sc {S : SS} {k : Int32} {q : Nat} (h : keepQ q) : (useS k S).2.2.2 q = S.2.2.2 q := by
  simp only [useS]; rw [upd_n (by rcases h with h | h | h | h | h | h <;> omega), upd_n (by rcases h with h | h | h | h | h | h <;> omega)]
theorem keep_n {q x : Nat} (h : keepQ q) (hx : x = 1 ∨ x = 2 ∨ x = 3 ∨ x = 4 ∨ x = 6 ∨ (8 ≤ x ∧ x ≤ 12) ∨ x = 15 ∨ x = 16) : q ≠ x := by
  rcases h with h | h | h | h | h | h <;> omega
theorem bring_sc {S : SS} {k v wt t d : Int32} {q : Nat} (h : keepQ q) : (bringS k v wt t d S).2.1.2.2.2 q = S.2.2.2 q := by
  rw [bringS]
  split
  · simp only [setN]; rw [upd_n (keep_n h (by omega))]
  · split
    · rw [use_sc h]; simp only [withE, roomS]; rw [evRun_sc q (keep_n h (by omega)) (keep_n h (by omega)), learnS_sc k wt S (keep_n h (by omega))]
    · rw [use_sc h]; simp only [chgS]; rw [evRun_sc q (keep_n h (by omega)) (keep_n h (by omega))]; simp only [withE]; rw [learnS_sc k wt S (keep_n h (by omega))]
theorem fetch_sc {S : SS} {k d : Int32} {q : Nat} (h : keepQ q) : (fetchS k d S).2.1.2.2.2 q = S.2.2.2 q := by
  rw [fetchS]
  split
  · simp only [setN]; rw [upd_n (keep_n h (by omega))]
  · simp only [setN]; rw [upd_n (keep_n h (by omega)), use_sc h]
theorem take_sc {S : SS} {k d : Int32} {q : Nat} : (takeS k d S).2.1.2.2.2 q = S.2.2.2 q := by
  rw [takeS]; split <;> rfl
theorem fast_sc {S : SS} {k p : Int32} {q : Nat} : (fastS k p S).2.2.2.2 q = S.2.2.2 q := by
  rw [fastS]; split <;> rfl
theorem recap_sc {S : SS} {c d : Int32} {q : Nat} (h : keepQ q) : (recapS c d S).2.1.2.2.2 q = S.2.2.2 q := by
  rw [recapS]
  split
  · rfl
  · split
    · rfl
    · simp only [capS]; rw [evRun_sc q (keep_n h (by omega)) (keep_n h (by omega))]; simp only [setN]; rw [upd_n (keep_n h (by omega)), upd_n (keep_n h (by omega))]
theorem act_sc {S : SS} {h : Nat → Int32} {key v d : Int32} {q : Nat} (hq : keepQ q) : (actS h key v d S).2.1.2.2.2 q = S.2.2.2 q := by
  rw [actS]
  split
  · exact bring_sc hq
  · split
    · exact fetch_sc hq
    · split
      · exact take_sc
      · split
        · exact fast_sc
        · split
          · exact fast_sc
          · split
            · split
              · rfl
              · exact recap_sc hq
            · rfl
abbrev HSt : Type := Int32 × (Nat → Nat → Int32) × SS × List Ev
def updH (H : Nat → Nat → Int32) (j : Nat) (r : Bool) : Nat → Nat → Int32 := fun i q => if i = j then (if q = 7 then H j 7 + 1 else if q = 8 then H j 8 + bi r else H j q) else H i q
def hearL (kind key v d : Int32) : Nat → Nat → HSt → HSt
  | 0, _, x => x
  | c + 1, j, (cnt, H, S, E) => if hearsB (H j) kind key then hearL kind key v d c (j + 1) (cnt + 1, updH H j (actS (H j) key v d S).1, (actS (H j) key v d S).2.1, E ++ (actS (H j) key v d S).2.2) else hearL kind key v d c (j + 1) (cnt, H, S, E)
theorem updH_ok {H : Nat → Nat → Int32} {j : Nat} {r : Bool} {i : Nat} (h : OkH (H i)) : OkH (updH H j r i) := by
  by_cases c : i = j
  · subst c; simpa [updH, OkH] using h
  · simpa [updH, OkH, c] using h
/-- what holds of it all while one event is heard -/
theorem hearL_ok {kind key v d : Int32} (hv : VOk v) (k1 : 0 ≤ key.toInt) (k2 : key.toInt < 1000) {n : Nat} : ∀ (c j b : Nat) (cnt : Int32) (H : Nat → Nat → Int32) (S : SS) (E : List Ev), j + c = n → b + 64 * c < 2147483648 → Ok2 b S → (∀ i, i < n → OkH (H i)) → (∀ ev ∈ E, EvOk ev) →
    Ok2 (b + 64 * c) (hearL kind key v d c j (cnt, H, S, E)).2.2.1 ∧ (∀ i, i < n → OkH ((hearL kind key v d c j (cnt, H, S, E)).2.1 i)) ∧ (∀ ev ∈ (hearL kind key v d c j (cnt, H, S, E)).2.2.2, EvOk ev) ∧ (∃ X, (hearL kind key v d c j (cnt, H, S, E)).2.2.2 = E ++ X ∧ X.length ≤ 61 * c) ∧ ∀ q, keepQ q → (hearL kind key v d c j (cnt, H, S, E)).2.2.1.2.2.2 q = S.2.2.2 q := by
  intro c
  induction c with
  | zero => intro j b cnt H S E _ _ hS hH hE; exact ⟨hS, hH, hE, ⟨[], by simp [hearL], by simp⟩, fun _ _ => rfl⟩
  | succ c ih =>
    intro j b cnt H S E hj hb hS hH hE
    rw [hearL]
    split
    · obtain ⟨a1, a2, a3, a4⟩ := act_ok (d := d) hS (hH j (by omega)) (by omega) hv k1 k2
      obtain ⟨g1, g2, g3, ⟨X, g4, g5⟩, g6⟩ := ih (j + 1) (b + 64) (cnt + 1) (updH H j (actS (H j) key v d S).1) (actS (H j) key v d S).2.1 (E ++ (actS (H j) key v d S).2.2) (by omega) (by omega) a1 (fun i hi => updH_ok (hH i hi)) (fun ev hev => by
        rcases List.mem_append.1 hev with h | h
        · exact hE ev h
        · exact a3 ev h)
      refine ⟨?_, g2, g3, ⟨(actS (H j) key v d S).2.2 ++ X, ?_, ?_⟩, fun q hq => by rw [g6 q hq, act_sc hq]⟩
      · rw [show b + 64 * (c + 1) = b + 64 + 64 * c by omega]; exact g1
      · rw [g4, List.append_assoc]
      · rw [List.length_append]; omega
    · obtain ⟨g1, g2, g3, ⟨X, g4, g5⟩, g6⟩ := ih (j + 1) b cnt H S E (by omega) (by omega) hS hH hE
      exact ⟨g1.up (by omega), g2, g3, ⟨X, g4, by omega⟩, g6⟩
section CHear
variable {F n : Nat}
theorem c_L61 (hF : 100 ≤ F) {kind key v dd d0 wt : Int32} (hv : VOk v) (k1 : 0 ≤ key.toInt) (k2 : key.toInt < 1000) (x8 : tX8) (hx8 : x8.1 = nI n) {i : Nat} (hi : i < 100) :
    ∀ (m c j b : Nat) (cnt : Int32) (H : Nat → Nat → Int32) (S : SS) (E : List Ev) (x6 : tX6) (x1 : tX1) (xy xz : tX2) (xq : tX7) (l8 : tL8), j + c = n → n ≤ 8 → c < m → b + 64 * c + 200 < 2147483648 → RC S x6 x1 xy xz → Ok2 b S → (∀ i, i < n → OkH (H i)) → QC E xq → LC n H l8 → (∃ h : i < E.length, E[i] = (kind, key, v, wt, d0)) →
    Tot (X8_hear_L61 F m (nI i) kind key dd cnt (nI j) x8 x6 x1 xy xz xq l8) (fun y => y.1 = (hearL kind key v (dep xq) c j (cnt, H, S, E)).1 ∧ RC (hearL kind key v (dep xq) c j (cnt, H, S, E)).2.2.1 y.2.1 y.2.2.1 y.2.2.2.1 y.2.2.2.2.1 ∧ QC (hearL kind key v (dep xq) c j (cnt, H, S, E)).2.2.2 y.2.2.2.2.2.1 ∧ dep y.2.2.2.2.2.1 = dep xq ∧ LC n (hearL kind key v (dep xq) c j (cnt, H, S, E)).2.1 y.2.2.2.2.2.2) := by
  intro m
  induction m with
  | zero => intro c j b cnt H S E x6 x1 xy xz xq l8 _ _ hm; omega
  | succ m ih =>
    intro c j b cnt H S E x6 x1 xy xz xq l8 hj hn8 hm hb h hS hH hq hL hEi
    obtain ⟨lc, tk, ls, dp⟩ := x8
    simp only at hx8
    subst hx8
    have hact := fun (hjn : j < n) => c_act (F := F) h hS hF (by omega) hq hL hjn (hH j hjn) hv k1 k2
    obtain ⟨hap, got, cap, wy, bal, wbt⟩ := x6
    obtain ⟨kK, kV, kW, kC, kL, kT, kP, sz, ld, pl, us, ag, hvv⟩ := x1
    obtain ⟨yk, ys⟩ := xy
    obtain ⟨zk, zs⟩ := xz
    obtain ⟨qa, qb, qc, qd, qe, qs, ql, qp⟩ := xq
    obtain ⟨a0, a1, a2, a3, a4, a5, a6, a7, a8⟩ := l8
    have hL' := hL
    obtain ⟨_, hL2, hL3⟩ := hL
    rw [X8_hear_L61]
    by_cases c0 : c = 0
    · subst c0
      have e : j = n := by omega
      subst e
      rw [if_pos (by exact nI_le (Nat.le_refl _) (by omega))]
      exact tot_s ⟨rfl, h, hq, rfl, hL'⟩
    obtain ⟨c', rfl⟩ : ∃ c', c = c' + 1 := ⟨c - 1, by omega⟩
    have hjn : j < n := by omega
    obtain ⟨l0, l1, l2, l3, l4, l5, l6, l7, l8⟩ := hL2 j hjn
    have hh := hH j hjn
    rw [if_neg (by exact nI_ge hjn (by omega)), if_neg (by exact nI_ge (b := 8) (by omega) (by omega))]
    simp (disch := omega) only [nI_add, pn_add, pn_addl, pn_mul, pn_cl, pn_nlt0, false_or, pn_ge, pn_le, Nat.add_zero, Nat.zero_add, ↓reduceIte, Option.bind_some, nI_leI, nI_ltI, nI_eq, pn_ne1, pn_1ne]
    rw [l6, l0, l1, l2, X3_hearsKind, X3_hearsKey]
    have hd1 : ¬ H j 1 ≤ 0 := by rw [Int32.not_le]; exact hh.1.1
    have hd2 : ¬ H j 1 = 0 := by intro e; rw [e] at hd1; exact hd1 (by decide)
    rw [if_neg hd1, if_neg hd2]
    have skip : hearsB (H j) kind key = false → Tot (X8_hear_L61 F m (nI i) kind key dd cnt (nI (j + 1)) (nI n, tk, ls, dp) (hap, got, cap, wy, bal, wbt) (kK, kV, kW, kC, kL, kT, kP, sz, ld, pl, us, ag, hvv) (yk, ys) (zk, zs) (qa, qb, qc, qd, qe, qs, ql, qp) (a0, a1, a2, a3, a4, a5, a6, a7, a8)) (fun y => y.1 = (hearL kind key v qp (c' + 1) j (cnt, H, S, E)).1 ∧ RC (hearL kind key v qp (c' + 1) j (cnt, H, S, E)).2.2.1 y.2.1 y.2.2.1 y.2.2.2.1 y.2.2.2.2.1 ∧ QC (hearL kind key v qp (c' + 1) j (cnt, H, S, E)).2.2.2 y.2.2.2.2.2.1 ∧ dep y.2.2.2.2.2.1 = qp ∧ LC n (hearL kind key v qp (c' + 1) j (cnt, H, S, E)).2.1 y.2.2.2.2.2.2) := by
      intro hf
      rw [hearL, hf, if_neg (by decide)]
      exact ih c' (j + 1) b cnt H S E _ _ _ _ _ _ (by omega) hn8 (by omega) (by omega) h hS hH hq hL' hEi
    have e6 := hh.2.2.2.1
    by_cases o6 : H j 6 = 0
    · rw [if_pos o6]
      exact skip (by simp [hearsB, o6])
    have o61 : H j 6 = 1 := by rcases e6 with e | e; exact absurd e o6; exact e
    rw [if_neg o6]
    by_cases o0 : H j 0 = -1 ∨ H j 0 = kind
    · have ek : (if H j 0 = -1 then some (1 : Int32) else if H j 0 = kind then some 1 else some 0) = some 1 := by
        rcases o0 with o | o
        · rw [if_pos o]
        · by_cases o' : H j 0 = -1
          · rw [if_pos o']
          · rw [if_neg o', if_pos o]
      rw [ek]
      simp only [Option.bind_some]
      rw [if_neg (by decide)]
      by_cases o2 : key - key / H j 1 * H j 1 = H j 2
      · rw [if_pos o2]
        simp only [Option.bind_some]
        rw [if_neg (by decide)]
        have hhb : hearsB (H j) kind key = true := by
          simp only [hearsB, o61, o2, decide_true, Bool.and_true, Bool.true_and, Bool.or_eq_true, decide_eq_true_eq]; exact o0
        obtain ⟨hiE, hEv⟩ := hEi
        have hqv : qc i = v := by
          have := hq.2.2 i hiE hi
          rw [hEv] at this
          simp only [Prod.mk.injEq] at this
          exact this.2.2.1.symm
        rw [hqv]
        refine tot_b (hact hjn) (fun y ⟨g0, g1, g2, g3⟩ => ?_)
        obtain ⟨r, ⟨j1, j2, j3, j4, j5, j6⟩, ⟨j7, j8, j9, j10, j11, j12, j13, j14, j15, j16, j17, j18, j19⟩, ⟨j20, j21⟩, ⟨j22, j23⟩, ⟨j24, j25, j26, j27, j28, j29, j30, j31⟩⟩ := y
        simp only at g0 g1 g2 g3 ⊢
        have g3' : j31 = qp := g3
        subst g3'
        have e7 : X9_asInt F r = some r := by
          rw [X9_asInt, g0]; cases (actS (H j) key v j31 S).1 <;> rfl
        rw [e7]
        simp only [Option.bind_some]
        rw [hearL, hhb, if_pos rfl]
        obtain ⟨a1', a2', a3', a4'⟩ := act_ok (d := j31) hS hh (by omega) hv k1 k2
        refine ih c' (j + 1) (b + 64) (cnt + 1) (updH H j (actS (H j) key v j31 S).1) (actS (H j) key v j31 S).2.1 (E ++ (actS (H j) key v j31 S).2.2) (j1, j2, j3, j4, j5, j6) _ _ _ (j24, j25, j26, j27, j28, j29, j30, j31) _ (by omega) hn8 (by omega) (by omega) g1 a1' (fun i hi => updH_ok (hH i hi)) g2 ⟨hn8, fun p hp => ?_, hL3⟩ ⟨by simp; omega, by rw [List.getElem_append_left hiE]; exact hEv⟩
        obtain ⟨m0, m1, m2, m3, m4, m5, m6, m7, m8⟩ := hL2 p hp
        by_cases cp : p = j
        · subst cp
          refine ⟨by simp [updH, m0], by simp [updH, m1], by simp [updH, m2], by simp [updH, m3], by simp [updH, m4], by simp [updH, m5], by simp [updH, m6], ?_, ?_⟩
          · rw [upd_s, m7]; simp [updH]
          · rw [upd_s, m8, g0]; simp [updH]
        · refine ⟨by simp [updH, m0, cp], by simp [updH, m1, cp], by simp [updH, m2, cp], by simp [updH, m3, cp], by simp [updH, m4, cp], by simp [updH, m5, cp], by simp [updH, m6, cp], ?_, ?_⟩
          · rw [upd_n cp, m7]; simp [updH, cp]
          · rw [upd_n cp, m8]; simp [updH, cp]
      · rw [if_neg o2]
        simp only [Option.bind_some, if_true]
        exact skip (by simp [hearsB, o2])
    · have ek : (if H j 0 = -1 then some (1 : Int32) else if H j 0 = kind then some 1 else some 0) = some 0 := by
        rw [if_neg (fun e => o0 (Or.inl e)), if_neg (fun e => o0 (Or.inr e))]
      rw [ek]
      simp only [Option.bind_some, if_true]
      exact skip (by
        have h1 : ¬ H j 0 = -1 := fun e => o0 (Or.inl e)
        have h2 : ¬ H j 0 = kind := fun e => o0 (Or.inr e)
        simp [hearsB, h1, h2])
end CHear
