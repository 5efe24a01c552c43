/-! what there is: places in an order -/
theorem rng_n (p : Int32) {n : Nat} (hn : n < 2147483648) : (∃ i, i < n ∧ p = nI i ∧ (decide (0 ≤ p) && decide (p ≤ nI n - 1)) = true) ∨ ((∀ i, i < n → p ≠ nI i) ∧ (decide (0 ≤ p) && decide (p ≤ nI n - 1)) = false) := by
  have e0 : (0 : Int32).toInt = 0 := by decide
  have e1 : (1 : Int32).toInt = 1 := by decide
  have en := nI_toInt hn
  have es : (nI n - 1).toInt = (n : Int) - 1 := by rw [i32_sub (by omega) (by omega), en, e1]
  cases h : (decide (0 ≤ p) && decide (p ≤ nI n - 1)) with
  | true =>
    left
    obtain ⟨h1, h2⟩ := rng_of h
    obtain ⟨i, hi, hi2, hi3⟩ := i32_nI (x := p) (by omega)
    exact ⟨i, by omega, hi2, rfl⟩
  | false =>
    right
    refine ⟨fun i hi hp => ?_, rfl⟩
    subst hp
    have ei := nI_toInt (show i < 2147483648 by omega)
    have h2 : (decide (0 ≤ nI i) && decide (nI i ≤ nI n - 1)) = true := by
      simp only [Bool.and_eq_true, decide_eq_true_eq, i32_le]; omega
    rw [h2] at h; cases h
theorem cnt_le {α : Type} {p q : α → Bool} {L : List α} (h : ∀ g ∈ L, p g = true → q g = true) : L.countP p ≤ L.countP q := List.countP_mono_left h
theorem cnt_lt {α : Type} {p q : α → Bool} {L : List α} (h : ∀ g ∈ L, p g = true → q g = true) {e : α} (he : e ∈ L) (h1 : p e = false) (h2 : q e = true) : L.countP p < L.countP q := by
  induction L with
  | nil => cases he
  | cons a l ih =>
    rw [List.countP_cons, List.countP_cons]
    have hm := cnt_le (p := p) (q := q) (L := l) (fun g hg => h g (by simp [hg]))
    rcases List.mem_cons.1 he with rfl | he'
    · rw [h1, h2]; simp; omega
    · have := ih (fun g hg => h g (by simp [hg])) he'
      have ha := h a (by simp)
      cases hp : p a
      · cases q a <;> simp <;> omega
      · rw [ha hp]; simp; omega
theorem place_cnt {ord : Int32} {L : List En} {e : En} : place ord L e = nI (L.countP (fun f => ahead ord f e)) := by
  rw [place, ← sumBy_cnt]; rfl
theorem place_lt {ord : Int32} {L : List En} {e : En} (he : e ∈ L) : L.countP (fun f => ahead ord f e) < L.length := by
  have h1 := (lin_ahead ord).1 e
  have := cnt_lt (p := fun f => ahead ord f e) (q := fun _ => true) (L := L) (fun _ _ _ => rfl) he h1 rfl
  simpa using this
theorem place_inj {ord : Int32} {L : List En} (hd : (L.map eL).Nodup) (hl : L.length ≤ 1000) {e f : En} (he : e ∈ L) (hf : f ∈ L) (h : place ord L e = place ord L f) : e = f := by
  have l1 := place_lt (ord := ord) he
  have l2 := place_lt (ord := ord) hf
  rw [place_cnt, place_cnt, nI_eq (by omega) (by omega)] at h
  have key : ∀ e f : En, e ∈ L → ahead ord e f = true → L.countP (fun g => ahead ord g e) < L.countP (fun g => ahead ord g f) := fun e f he hef =>
    cnt_lt (fun g _ hg => (lin_ahead ord).2.1 g e f hg hef) he ((lin_ahead ord).1 e) hef
  by_cases c : eL e = eL f
  · exact nodup_last hd he hf c
  · rcases (lin_ahead ord).2.2 e f c with h1 | h1
    · have := key e f he h1; omega
    · have := key f e hf h1; omega
theorem find_uniq {α : Type} {L M : List α} {P : α → Bool} (p : L.Perm M) (hu : ∀ e ∈ L, ∀ f ∈ L, P e = true → P f = true → e = f) : L.find? P = M.find? P := by
  cases h : L.find? P with
  | none =>
    symm; rw [List.find?_eq_none]
    intro x hx
    exact List.find?_eq_none.1 h x (p.mem_iff.2 hx)
  | some e =>
    have h1 := List.mem_of_find?_eq_some h
    have h2 := List.find?_some h
    cases h3 : M.find? P with
    | none => exact absurd h2 (List.find?_eq_none.1 h3 e (p.mem_iff.1 h1))
    | some f =>
      have h4 := List.mem_of_find?_eq_some h3
      have h5 := List.find?_some h3
      rw [hu e h1 f (p.mem_iff.2 h4) h2 h5]
theorem place_perm {ord : Int32} {L M : List En} (p : L.Perm M) (e : En) : place ord L e = place ord M e := sumBy_perm _ p
theorem keyAt_perm {ord q : Int32} {L M : List En} (hd : (L.map eL).Nodup) (hl : L.length ≤ 1000) (p : L.Perm M) : keyAtS ord q L = keyAtS ord q M := by
  rw [keyAtS, keyAtS, find_uniq p (P := fun e => place ord L e == q) (fun e he f hf h1 h2 => place_inj hd hl he hf (by
    simp only [beq_iff_eq] at h1 h2; rw [h1, h2]))]
  simp only [place_perm p]
theorem keyAt_out {ord q : Int32} {L : List En} (hq : ∀ i, i < L.length → q ≠ nI i) : keyAtS ord q L = -1 := by
  rw [keyAtS]
  have : L.find? (fun e => place ord L e == q) = none := by
    rw [List.find?_eq_none]
    intro e he hx
    simp only [beq_iff_eq] at hx
    rw [place_cnt] at hx
    exact hq _ (place_lt he) hx.symm
  rw [this]
theorem lead_perm {ord q : Int32} {L M : List En} (p : L.Perm M) : sumBy (leadW ord q L) L = sumBy (leadW ord q M) M := by
  rw [sumBy_perm _ p]
  exact sumBy_congr (fun e _ => by rw [leadW, leadW, place_perm p])
theorem lead_out {ord q : Int32} {L : List En} (hl : L.length ≤ 1000) (hq : ¬ q < nI L.length) : sumBy (leadW ord q L) L = sumBy eW L := by
  refine sumBy_congr (fun e he => ?_)
  have h1 := place_lt (ord := ord) he
  rw [leadW, place_cnt, if_pos]
  rw [i32_lt] at hq ⊢
  rw [nI_toInt (by omega)] at hq ⊢
  omega
section Q1
variable {F b : Nat} {S : SS} {x6 : tX6} {x1 : tX1} {xy xz : tX2} {w : Nat → Int32}
theorem isOrderC (p : Int32) : X9_isOrder F p = some (bi (decide (0 ≤ p) && decide (p ≤ 1))) := by
  have e0 : (0 : Int32).toInt = 0 := by decide
  have e1 : (1 : Int32).toInt = 1 := by decide
  rw [X9_isOrder]
  by_cases c0 : p = 0
  · subst c0; rw [if_pos rfl]; rfl
  · rw [if_neg c0]
    by_cases c1 : p = 1
    · subst c1; rw [if_pos rfl]; rfl
    · rw [if_neg c1]
      have : (decide (0 ≤ p) && decide (p ≤ 1)) = false := by
        rw [Bool.eq_false_iff]
        intro h
        obtain ⟨h1, h2⟩ := rng_of h
        by_cases c : p.toInt = 0
        · exact c0 (i32_eq.2 (by omega))
        · exact c1 (i32_eq.2 (by omega))
      rw [this]; rfl
theorem q_order (hc : RC S x6 x1 xy xz) (hm : RM S w 0) (ok : Ok b S) (hF : 100 ≤ F) (p1 p2 th : Int32) : ∃ r, X9_order F p1 p2 x1 = some r ∧ X10_order F p1 p2 th w 0 = some (r, 0) := by
  obtain ⟨hap, got, cap, wy, bal, wbt⟩ := x6
  obtain ⟨kK, kV, kW, kC, kL, kT, kP, sz, ld, pl, us, ag, hv⟩ := x1
  obtain ⟨⟨L, p, hE⟩, _⟩ := hc
  have hmany := hm.many
  obtain ⟨⟨M, pM, hEM⟩, _⟩ := hm
  have okL := ok.1.perm p
  have okM := ok.1.perm pM
  have h60 := ok.1.2.2.1
  rw [X9_order, X10_order, isOrderC, show X10_isIn F p1.toInt64 0 1 = _ from isIn_eq (F := F) p1 0 1]
  simp only [Option.bind_some]
  cases hk : (decide (0 ≤ p1) && decide (p1 ≤ 1)) with
  | false => exact ⟨-1, by rw [if_pos (show bi false = 0 from rfl)], by rw [if_pos (show bi false = 0 from rfl)]⟩
  | true =>
    rw [if_neg (show ¬ bi true = 0 by decide), if_neg (show ¬ bi true = 0 by decide), c_keyAt hE hF, show (0 : Int32).toNatClampNeg = 0 from rfl, hmany]
    rw [show X10_isIn F p2.toInt64 0 (nI S.1.length - 1).toInt64 = _ from isIn_eq (F := F) p2 0 (nI S.1.length - 1)]
    simp only [Option.bind_some]
    refine ⟨_, rfl, ?_⟩
    have hlL := okL.2.2.1
    have hlM := okM.2.2.1
    rw [keyAt_perm okL.2.1 (by omega) (p.trans pM.symm)]
    rcases rng_n p2 (n := S.1.length) (by omega) with ⟨i, hi, rfl, hr⟩ | ⟨hn, hr⟩
    · rw [hr, if_neg (show ¬ bi true = 0 by decide), show (0 : Int32) = nI 0 from rfl, m_keyAt hEM hF]; rfl
    · rw [hr, if_pos (show bi false = 0 from rfl), keyAt_out (fun i hi => hn i (by rw [← pM.length_eq]; exact hi))]
theorem q_lead (hc : RC S x6 x1 xy xz) (hm : RM S w 0) (ok : Ok b S) (hF : 100 ≤ F) (p1 p2 th : Int32) : ∃ r, X9_lead F p1 p2 x1 = some r ∧ X10_lead F p1 p2 th w 0 = some (r, 0) := by
  obtain ⟨hap, got, cap, wy, bal, wbt⟩ := x6
  obtain ⟨kK, kV, kW, kC, kL, kT, kP, sz, ld, pl, us, ag, hv⟩ := x1
  obtain ⟨⟨L, p, hE⟩, hld, _⟩ := hc
  obtain ⟨⟨M, pM, hEM⟩, _⟩ := hm
  have okL := ok.1.perm p
  have okM := ok.1.perm pM
  have hlL := okL.2.2.1
  have hlM := okM.2.2.1
  rw [X9_lead, X10_lead, isOrderC, show X10_isIn F p1.toInt64 0 1 = _ from isIn_eq (F := F) p1 0 1]
  simp only [Option.bind_some]
  cases hk : (decide (0 ≤ p1) && decide (p1 ≤ 1)) with
  | false => exact ⟨-1, by rw [if_pos (show bi false = 0 from rfl)], by rw [if_pos (show bi false = 0 from rfl)]⟩
  | true =>
    rw [if_neg (show ¬ bi true = 0 by decide), if_neg (show ¬ bi true = 0 by decide)]
    by_cases c : p2 < 0
    · exact ⟨-1, by rw [if_pos c], by rw [if_neg (by rw [Int32.not_le]; exact c)]⟩
    · have c' : 0 ≤ p2 := by rwa [Int32.not_lt] at c
      rw [if_neg c, if_pos c', c_weightsAhead hE hF]
      have hlead : X10_lead_L26 F F p1 p2 0 0 w 0 = some (sumBy (leadW p1 p2 M) M) := by
        obtain ⟨h0, h1, h2, h3⟩ := id hEM
        refine sum_loop (fun n v i => X10_lead_L26 F n p1 p2 v (nI i) w (nI 0)) (leadW p1 p2 M) M id ?_ ?_ F (by omega)
        · intro n v
          rw [X10_lead_L26, show (0 : Int32).toNatClampNeg = 0 from rfl]
          simp (disch := omega) only [nI_add, pn_add, pn_addl, pn_mul, pn_cl, pn_nlt0, false_or, pn_ge, pn_le, Nat.add_zero, Nat.zero_add, ↓reduceIte, Option.bind_some, nI_leI, nI_ltI, nI_eq, pn_ne1, pn_1ne, h0, Nat.le_refl, id]
        · intro n v i hi
          rw [X10_lead_L26, show (0 : Int32).toNatClampNeg = 0 from rfl]
          simp (disch := omega) only [nI_add, pn_add, pn_addl, pn_mul, pn_cl, pn_nlt0, false_or, pn_ge, pn_le, Nat.add_zero, Nat.zero_add, ↓reduceIte, Option.bind_some, nI_leI, nI_ltI, nI_eq, pn_ne1, pn_1ne, h0, m_placeOf hEM hF p1 hi, m_of2 hEM hi]
          simp only [leadW, ← Int32.not_le]
          by_cases c : p2 ≤ place p1 M M[i] <;> simp [c]
      rw [hlead]
      refine ⟨_, rfl, ?_⟩
      simp only [Option.bind_some]
      have hMS := lead_perm (ord := p1) (q := p2) (pM.trans p.symm)
      by_cases c2 : p2 < nI L.length
      · rw [if_pos c2, hMS]
      · rw [if_neg c2, hMS, lead_out (by omega) c2, hld, sumBy_perm eW p]
theorem q_entry (hc : RC S x6 x1 xy xz) (hm : RM S w 0) (ok : Ok b S) (hF : 100 ≤ F) (p1 p2 th : Int32) : ∃ r, X9_entry F p1 p2 x1 = some r ∧ X10_entry F p1 p2 th w 0 = some (r, 0) := by
  have hf := RC.find hc ok hF p1
  have hfm := RM.find hm ok hF p1
  obtain ⟨hap, got, cap, wy, bal, wbt⟩ := x6
  obtain ⟨kK, kV, kW, kC, kL, kT, kP, sz, ld, pl, us, ag, hv⟩ := x1
  obtain ⟨r, hr, L, p, hE, hi⟩ := hf
  obtain ⟨r', hr', M, pM, hEM, hiM⟩ := hfm
  have hr2 : X1_find F p1 kK sz = some r := hr
  have hlL := hE.2.1
  have hlM := hEM.2.1
  have hr3 : X10_entryOf F p1 w 0 = some r' := hr'
  rw [X9_entry, X10_entry, hr2, hr3]
  simp only [Option.bind_some]
  rcases hi with ⟨rfl, hi⟩ | ⟨i, hi, rfl, he⟩
  · rcases hiM with ⟨rfl, _⟩ | ⟨j, hj, rfl, hej⟩
    · exact ⟨-10000, by rw [if_pos rfl], by rw [if_pos rfl]⟩
    · rw [hi] at hej; cases hej
  · rcases hiM with ⟨rfl, hj⟩ | ⟨j, hj, rfl, hej⟩
    · rw [he] at hj; cases hj
    · have hLM : L[i] = M[j] := by rw [he] at hej; simpa using hej
      have hpl : ∀ ord, place ord L L[i] = place ord M M[j] := fun ord => by rw [hLM]; exact place_perm (p.trans pM.symm) _
      have hni : ¬ nI i = -1 := by simp (disch := omega) only [nI_add, pn_add, pn_addl, pn_mul, pn_cl, pn_nlt0, false_or, pn_ge, pn_le, Nat.add_zero, Nat.zero_add, ↓reduceIte, Option.bind_some, nI_leI, nI_ltI, nI_eq, pn_ne1, pn_1ne]; simp
      have hnj : ¬ nI j = -1 := by simp (disch := omega) only [nI_add, pn_add, pn_addl, pn_mul, pn_cl, pn_nlt0, false_or, pn_ge, pn_le, Nat.add_zero, Nat.zero_add, ↓reduceIte, Option.bind_some, nI_leI, nI_ltI, nI_eq, pn_ne1, pn_1ne]; simp
      rw [if_neg hni, if_neg hnj]
      rw [show X10_isIn F p2.toInt64 (0 : Int64) 7 = _ from isIn_eq (F := F) p2 0 7]
      simp only [Option.bind_some]
      have okL := ok.1.perm p
      have hpn : eP L[i] = 0 ∨ eP L[i] = 1 := okL.PB _ (List.getElem_mem hi)
      have hasi : X9_asInt F (eP L[i]) = some (eP L[i]) := by rw [X9_asInt]; rcases hpn with h | h <;> rw [h] <;> rfl
      cases hk : (decide (0 ≤ p2) && decide (p2 ≤ 7)) with
      | false =>
        have hne : ∀ k : Nat, k ≤ 7 → ¬ p2 = nI k := by
          intro k hk7 hx
          subst hx
          have : (decide (0 ≤ nI k) && decide (nI k ≤ 7)) = true := by
            simp only [Bool.and_eq_true, decide_eq_true_eq]
            exact ⟨nI_pos' (by omega), nI_le (b := 7) hk7 (by omega)⟩
          rw [this] at hk; cases hk
        refine ⟨-10000, ?_, by rw [if_pos (show bi false = 0 from rfl)]⟩
        rw [if_neg (show ¬ p2 = 0 from hne 0 (by omega)), if_neg (show ¬ p2 = 1 from hne 1 (by omega)), if_neg (show ¬ p2 = 2 from hne 2 (by omega)), if_neg (show ¬ p2 = 3 from hne 3 (by omega)), if_neg (show ¬ p2 = 4 from hne 4 (by omega)), if_neg (show ¬ p2 = 5 from hne 5 (by omega)), if_neg (show ¬ p2 = 6 from hne 6 (by omega)), if_neg (show ¬ p2 = 7 from hne 7 (by omega))]
      | true =>
        rw [if_neg (show ¬ bi true = 0 by decide)]
        obtain ⟨r1, r2⟩ := rng_of hk
        have e0 : (0 : Int32).toInt = 0 := by decide
        have e7 : (7 : Int32).toInt = 7 := by decide
        obtain ⟨k, hk1, rfl, hk3⟩ := i32_nI (x := p2) (by omega)
        have hk7 : k ≤ 7 := by omega
        have o1 : X10_of F (nI j) 1 w 0 = some (eV M[j]) := m_of1 hEM hj
        have o2 : X10_of F (nI j) 2 w 0 = some (eW M[j]) := m_of2 hEM hj
        have o3 : X10_of F (nI j) 3 w 0 = some (eC M[j]) := m_of3 hEM hj
        have o4 : X10_of F (nI j) 4 w 0 = some (eL M[j]) := m_of4 hEM hj
        have o5 : X10_of F (nI j) 5 w 0 = some (eT M[j]) := m_of5 hEM hj
        have o6 : X10_of F (nI j) 6 w 0 = some (eP M[j]) := m_of6 hEM hj
        have pl0 : X10_placeOf F 0 (nI j) w 0 = some (place 0 M M[j]) := m_placeOf hEM hF 0 hj
        have pl1 : X10_placeOf F 1 (nI j) w 0 = some (place 1 M M[j]) := m_placeOf hEM hF 1 hj
        simp (disch := omega) only [nI_add, pn_add, pn_addl, pn_mul, pn_cl, pn_nlt0, false_or, pn_ge, pn_le, Nat.add_zero, Nat.zero_add, ↓reduceIte, Option.bind_some, nI_leI, nI_ltI, nI_eq, pn_ne1, pn_1ne, c_V hE hi, c_W hE hi, c_C hE hi, c_L hE hi, c_T hE hi, c_P hE hi, hasi, c_placeOf hE hF _ hi]
        have h8 : k = 0 ∨ k = 1 ∨ k = 2 ∨ k = 3 ∨ k = 4 ∨ k = 5 ∨ k = 6 ∨ k = 7 := by omega
        rcases h8 with rfl | rfl | rfl | rfl | rfl | rfl | rfl | rfl
        · refine ⟨eV L[i], by rw [if_pos (by decide)], ?_⟩
          rw [if_neg (by decide), show nI (0 + 1) = 1 from rfl, o1, hLM]; rfl
        · refine ⟨eW L[i], by rw [if_neg (by decide), if_pos (by decide)], ?_⟩
          rw [if_neg (by decide), show nI (1 + 1) = 2 from rfl, o2, hLM]; rfl
        · refine ⟨eC L[i], by rw [if_neg (by decide), if_neg (by decide), if_pos (by decide)], ?_⟩
          rw [if_neg (by decide), show nI (2 + 1) = 3 from rfl, o3, hLM]; rfl
        · refine ⟨eL L[i], by rw [if_neg (by decide), if_neg (by decide), if_neg (by decide), if_pos (by decide)], ?_⟩
          rw [if_neg (by decide), show nI (3 + 1) = 4 from rfl, o4, hLM]; rfl
        · refine ⟨eT L[i], by rw [if_neg (by decide), if_neg (by decide), if_neg (by decide), if_neg (by decide), if_pos (by decide)], ?_⟩
          rw [if_neg (by decide), show nI (4 + 1) = 5 from rfl, o5, hLM]; rfl
        · refine ⟨eP L[i], by rw [if_neg (by decide), if_neg (by decide), if_neg (by decide), if_neg (by decide), if_neg (by decide), if_pos (by decide)], ?_⟩
          rw [if_neg (by decide), show nI (5 + 1) = 6 from rfl, o6, hLM]; rfl
        · refine ⟨place 0 L L[i], by rw [if_neg (by decide), if_neg (by decide), if_neg (by decide), if_neg (by decide), if_neg (by decide), if_neg (by decide), if_pos (by decide)], ?_⟩
          rw [if_pos (by decide), show nI 6 - 6 = 0 from rfl, pl0, hpl]; rfl
        · refine ⟨place 1 L L[i], by rw [if_neg (by decide), if_neg (by decide), if_neg (by decide), if_neg (by decide), if_neg (by decide), if_neg (by decide), if_neg (by decide), if_pos (by decide)], ?_⟩
          rw [if_pos (by decide), show nI 7 - 6 = 1 from rfl, pl1, hpl]; rfl
end Q1
