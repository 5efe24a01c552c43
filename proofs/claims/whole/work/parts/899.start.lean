/-! the start of the law -/
theorem ek_0 {s : State} {b : Nat} (hts : ∀ w ∈ lw_tbl, w.before #[Value.ref b] s = true) : ∃ (D : va_G) (cI cZ cL cW : ClassId), EK D (tyL cI cZ cL cW) nestW s := by
  have ht : ∀ w ∈ TB, w.before #[Value.ref b] s = true := fun w hw => hts w (List.mem_filter.1 hw).1
  obtain ⟨dX0, fX0, kX0⟩ := u_known (C := RX0) (T := TX0) (N := 9) ht inX0 (ht _ qT_X0)
  obtain ⟨dX1, fX1, kX1⟩ := u_known (C := RX1) (T := TX1) (N := 13) ht inX1 (ht _ qT_X1)
  obtain ⟨dX2, fX2, kX2⟩ := u_known (C := RX2) (T := TX2) (N := 2) ht inX2 (ht _ qT_X2)
  obtain ⟨dX3, fX3, kX3⟩ := u_known (C := RX3) (T := TX3) (N := 9) ht inX3 (ht _ qT_X3)
  obtain ⟨dX4, fX4, kX4⟩ := u_known (C := RX4) (T := TX4) (N := 7) ht inX4 (ht _ qT_X4)
  obtain ⟨dX5, fX5, kX5⟩ := u_known (C := RX5) (T := TX5) (N := 2) ht inX5 (ht _ qT_X5)
  obtain ⟨dX6, fX6, kX6⟩ := u_known (C := RX6) (T := TX6) (N := 10) ht inX6 (ht _ qT_X6)
  obtain ⟨dX7, fX7, kX7⟩ := u_known (C := RX7) (T := TX7) (N := 8) ht inX7 (ht _ qT_X7)
  obtain ⟨dX8, fX8, kX8⟩ := u_known (C := RX8) (T := TX8) (N := 8) ht inX8 (ht _ qT_X8)
  obtain ⟨dX9, fX9, kX9⟩ := u_known (C := RX9) (T := TX9) (N := 5) ht inX9 (ht _ qT_X9)
  obtain ⟨dX10, fX10, kX10⟩ := u_known (C := RX10) (T := TX10) (N := 16) ht inX10 (ht _ qT_X10)
  obtain ⟨cI, kI, compI, i1, i2, i3⟩ := Cond.arrayClass_spec (ht _ qA_I)
  obtain ⟨cZ, kZ, compZ, z1, z2, z3⟩ := Cond.arrayClass_spec (ht _ qA_Z)
  obtain ⟨compL, cL, kL, l1, _, l3, l4, l5⟩ := Cond.arrayOver_spec (hts _ qO_X3)
  obtain ⟨compW, cW, kW, w1, _, w3, w4, w5⟩ := Cond.arrayOver_spec (hts _ qO_X8)
  refine ⟨(fun c => [dX0, dX1, dX2, dX3, dX4, dX5, dX6, dX7, dX8, dX9, dX10].getD c dX0, fun c => [fX0, fX1, fX2, fX3, fX4, fX5, fX6, fX7, fX8, fX9, fX10].getD c fX0), cI, cZ, cL, cW, ⟨fun c q hq => ?_, fun k q hq => ?_⟩, ?_⟩
  · match c, hq with
    | 0, hq => cases hq; exact kX0
    | 1, hq => cases hq; exact kX1
    | 2, hq => cases hq; exact kX2
    | 3, hq => cases hq; exact kX3
    | 4, hq => cases hq; exact kX4
    | 5, hq => cases hq; exact kX5
    | 6, hq => cases hq; exact kX6
    | 7, hq => cases hq; exact kX7
    | 8, hq => cases hq; exact kX8
    | 9, hq => cases hq; exact kX9
    | 10, hq => cases hq; exact kX10
    | c + 11, hq => simp at hq
  · match k, hq with
    | 0, hq => cases hq; exact ⟨fun n z => ⟨fun k h => (by cases h), kI, i2, compI, i3⟩, i1⟩
    | 1, hq => cases hq; exact ⟨fun n z => ⟨fun k h => (by cases h), kZ, z2, compZ, z3⟩, z1⟩
    | 2, hq => cases hq; exact ⟨fun n z => ⟨fun k h => (by cases h), kL, l3, compL, l4⟩, kL, compL, l3, l4, l1, l5⟩
    | 3, hq => cases hq; exact ⟨fun n z => ⟨fun k h => (by cases h), kW, w3, compW, w4⟩, kW, compW, w3, w4, w1, w5⟩
    | k + 4, hq => simp at hq
  · exact List.forall_mem_cons.mpr ⟨⟨hts _ qN_X8_11, Or.inl ⟨_, _, _, _, rfl⟩⟩, List.forall_mem_cons.mpr ⟨⟨hts _ qN_X6_11, Or.inl ⟨_, _, _, _, rfl⟩⟩, List.forall_mem_cons.mpr ⟨⟨hts _ qN_X6_20, Or.inl ⟨_, _, _, _, rfl⟩⟩, List.forall_mem_cons.mpr ⟨⟨hts _ qN_X6_30, Or.inl ⟨_, _, _, _, rfl⟩⟩, List.forall_mem_cons.mpr ⟨⟨hts _ qN_X8_26, Or.inl ⟨_, _, _, _, rfl⟩⟩, List.forall_mem_cons.mpr ⟨⟨hts _ qN_X8_33, Or.inl ⟨_, _, _, _, rfl⟩⟩, List.forall_mem_cons.mpr ⟨⟨hts _ qN_X8_38, Or.inl ⟨_, _, _, _, rfl⟩⟩, List.forall_mem_cons.mpr ⟨⟨hts _ qN_X9_25, Or.inl ⟨_, _, _, _, rfl⟩⟩, List.forall_mem_cons.mpr ⟨⟨hts _ qN_X0_11, Or.inl ⟨_, _, _, _, rfl⟩⟩, List.forall_mem_cons.mpr ⟨⟨hts _ qN_X6_181, Or.inl ⟨_, _, _, _, rfl⟩⟩, List.forall_mem_cons.mpr ⟨⟨hts _ qN_X6_185, Or.inl ⟨_, _, _, _, rfl⟩⟩, List.forall_mem_cons.mpr ⟨⟨hts _ qN_X8_151, Or.inl ⟨_, _, _, _, rfl⟩⟩, List.forall_mem_cons.mpr ⟨⟨hts _ qO_X3, Or.inr ⟨_, rfl⟩⟩, List.forall_mem_cons.mpr ⟨⟨hts _ qO_X8, Or.inr ⟨_, rfl⟩⟩, fun _ h => absurd h List.not_mem_nil⟩⟩⟩⟩⟩⟩⟩⟩⟩⟩⟩⟩⟩⟩
theorem m_beg0 {F : Nat} (hF : 1000 ≤ F) : ∃ w, X10_begins F 40 100 (fun _ => 0) 0 = some w ∧ w 1 = 40 ∧ w 6 = 100 ∧ ∀ q, q ≠ 1 → q ≠ 6 → w q = 0 := by
  have key : ∀ (n i : Nat) (w : Nat → Int32), i ≤ 848 → 848 - i < n → (∀ q, w q = 0) → Tot (X10_begins_L2 F n 40 100 (nI i) w 0) (fun w' => ∀ q, w' q = 0) := by
    intro n
    induction n with
    | zero => intro i w _ h; omega
    | succ n ih =>
      intro i w hi hn h
      rw [X10_begins_L2]
      by_cases c1 : 848 ≤ i
      · rw [if_pos (show (848 : Int32) ≤ nI i from (nI_leI (a := 848) (by omega) (by omega)).2 c1)]
        exact tot_s h
      · have e : (0 + nI i : Int32) = nI i := Int32.zero_add _
        have e0 : (0 : Int32).toInt = 0 := by decide
        have g1 : ¬ ((nI i : Int32) < 0 ∨ 3392 ≤ (nI i).toNatClampNeg) := by
          rw [kcl (by omega)]
          intro hx
          rcases hx with hx | hx
          · rw [i32_lt, nI_toInt (by omega)] at hx; omega
          · omega
        rw [if_neg (show ¬ (848 : Int32) ≤ nI i from fun hx => c1 ((nI_leI (a := 848) (by omega) (by omega)).1 hx)), e, if_neg g1, kcl (by omega), nI_1]
        refine ih (i + 1) _ (by omega) (by omega) (fun q => ?_)
        by_cases cq : q = i
        · subst cq; rw [upd_s]
        · rw [upd_n cq]; exact h q
  obtain ⟨w', hw', h0⟩ := key F 0 (fun _ => 0) (by omega) (by omega) (fun _ => rfl)
  refine ⟨upd (upd w' 1 40) 6 100, ?_, by rw [upd_n (by decide), upd_s], by rw [upd_s], fun q q1 q2 => by rw [upd_n q2, upd_n q1]; exact h0 q⟩
  rw [X10_begins, show X10_begins_L2 F F 40 100 0 (fun _ => 0) 0 = _ from hw', Option.bind_some, if_neg (by decide), if_neg (by decide)]; rfl
def V00 : WV := (0, fun _ _ => 0, ([], [], [], upd (upd (fun _ => 0) 1 40) 6 100), [], [])
theorem inv_0 {w : Nat → Int32} (h1 : w 1 = 40) (h6 : w 6 = 100) (hz : ∀ q, q ≠ 1 → q ≠ 6 → w q = 0) {dv : Nat → Int32} : Inv 0 ((0, 0, 0, 0), ((fun _ => 0), 0, 40, 0, 0, 0), ((fun _ => 0), (fun _ => 0), (fun _ => 0), (fun _ => 0), (fun _ => 0), (fun _ => 0), (fun _ => 0), 0, 0, 0, 0, 100, 0), ((fun _ => 0), 0), ((fun _ => 0), 0), ((fun _ => 0), dv, (fun _ => 0), (fun _ => 0), (fun _ => 0), (fun _ => 0), (fun _ => 0), (fun _ => 0), (fun _ => 0)), ((fun _ => 0), (fun _ => 0), (fun _ => 0), (fun _ => 0), (fun _ => 0), 0, 0), ((fun _ => 0), 0)) none none w (fun _ => 0) 0 := by
  have s0 : ∀ q, q ≠ 1 → q ≠ 6 → V00.2.2.1.2.2.2 q = 0 := fun q q1 q2 => by show upd (upd (fun _ => 0) 1 40) 6 100 q = 0; rw [upd_n q2, upd_n q1]
  have s1 : V00.2.2.1.2.2.2 1 = 40 := by show upd (upd (fun _ => 0) 1 40) 6 100 1 = 40; rw [upd_n (by decide), upd_s]
  have s6 : V00.2.2.1.2.2.2 6 = 100 := by show upd (upd (fun _ => 0) 1 40) 6 100 6 = 100; rw [upd_s]
  refine ⟨⟨V00, ⟨⟨⟨[], List.Perm.refl _, rfl, by simp, fun i hi => by simp at hi⟩, rfl, rfl, ⟨rfl, by simp [V00], fun j hj => by simp [V00] at hj⟩, ⟨rfl, by simp [V00], fun j hj => by simp [V00] at hj⟩, ?_⟩, ⟨by simp [V00], fun i hi => by simp [V00] at hi, fun i _ _ => Or.inl rfl⟩, ⟨0, rfl, by omega, rfl, by simp [V00], fun _ => rfl, fun k hk => by simp [V00] at hk⟩, ⟨rfl, by simp [V00], fun j hj => by simp [V00] at hj⟩, ?_⟩, ⟨⟨⟨[], List.Perm.refl _, ?_, by simp, by omega, fun i hi => by simp at hi⟩, ⟨by omega, by omega, ?_, by simp [V00], fun i hi => by simp [V00] at hi⟩, ⟨by omega, by omega, ?_, by simp [V00], fun i hi => by simp [V00] at hi⟩, fun q q1 q2 => ?_⟩, ⟨by simp [V00], ?_, fun i j hi => by simp [V00] at hi⟩, ⟨?_, by simp [V00], fun k hk => by simp [V00] at hk⟩, ⟨?_, by simp [V00], fun i hi => by simp [V00] at hi⟩⟩, ?_⟩, rfl, rfl, 0, rfl, by omega⟩
  · refine ⟨?_, ?_, ?_, ?_, ?_, ?_, ?_, ?_, ?_, ?_, ?_, ?_⟩
    · rw [s0 9 (by decide) (by decide)]
    · rw [s0 10 (by decide) (by decide)]
    · rw [s0 11 (by decide) (by decide)]
    · rw [s0 12 (by decide) (by decide)]
    · rw [s0 8 (by decide) (by decide)]
    · rw [s1]
    · rw [s0 2 (by decide) (by decide)]
    · rw [s0 3 (by decide) (by decide)]
    · rw [s0 16 (by decide) (by decide)]
    · rw [s0 4 (by decide) (by decide)]
    · rw [s6]
    · rw [s0 15 (by decide) (by decide)]
  · rw [s0 5 (by decide) (by decide), s0 13 (by decide) (by decide), s0 17 (by decide) (by decide)]; rfl
  · exact hz 0 (by decide) (by decide)
  · exact hz 19 (by decide) (by decide)
  · exact hz 20 (by decide) (by decide)
  · rw [Nat.zero_add]
    by_cases d1 : q = 1
    · subst d1; rw [h1, s1]
    · by_cases d6 : q = 6
      · subst d6; rw [h6, s6]
      · rw [hz q d1 d6, s0 q d1 d6]
  · exact hz 7 (by decide) (by decide)
  · exact hz 18 (by decide) (by decide)
  · exact hz 14 (by decide) (by decide)
  · refine ⟨by simp [V00], ⟨⟨⟨List.nodup_nil, List.nodup_nil, by simp [V00], fun e he => by cases he⟩, List.nodup_nil, List.nodup_nil, ?_⟩, ?_, ?_⟩, fun i hi => by simp [V00] at hi, fun k hk => by simp [V00] at hk, ?_, ?_⟩
    · rw [OkN, s1, s6, s0 2 (by decide) (by decide), s0 3 (by decide) (by decide), s0 4 (by decide) (by decide), s0 16 (by decide) (by decide)]
      exact ⟨by decide, by decide, Or.inl (Or.inl rfl), by decide, by decide, by decide, by decide, by decide, by decide, by decide⟩
    · rw [s0 2 (by decide) (by decide)]; exact Or.inl rfl
    · rw [s1]; show sumBy eW [] ≤ 40; decide
    · rw [s0 5 (by decide) (by decide)]; decide
    · rw [s0 5 (by decide) (by decide)]; decide
theorem pm_0 (s1 s2 s3 s4 s5 s6 T : va_W) : (((s1 ++ (s2 ++ (s3 ++ (s4 ++ s5)))) ++ T) ++ s6).Perm (lwW s1 s2 s3 s4 s5 s6 T) := by
  rw [lwW]
  simp only [List.append_assoc]
  exact List.Perm.append_left s1 (List.Perm.append_left s2 (List.Perm.append_left s3 (List.Perm.append_left s4 (List.Perm.append_left s5 List.perm_append_comm))))
set_option maxHeartbeats 40000000 in
set_option maxRecDepth 100000 in
theorem whole_start {p : Program} {e : Env} {s : State} {m : MethodId} {below : List Frame} {meth : Method} {c : Code} (l : Launch) (hflags : l.flags = flags0) {b L : Nat} {xs : Nat → Int32} (hL : L ≤ 3584) (C0 : lw_At p s m meth c b L xs) : W p l e room_1 s m #[Value.ref b] below meth c s.heap [] 0 0 (lw_Z below #[Value.ref b] s) (entryFrame m ([Value.ref b] : List Value).toArray 4) := by
  obtain ⟨hx, hb, hr, hml, hown, hts, hX, hbl, hlk, _⟩ := C0
  obtain ⟨D, cI, cZ, cL, cW, hE⟩ := ek_0 hts
  have ht : ∀ w ∈ TB, w.before #[Value.ref b] s = true := fun w hw => hts w (List.mem_filter.1 hw).1
  have C : CallFix p m c cL_law 4 s #[Value.ref b] TB RL := ⟨hx, hb, hml, hown, ht⟩
  obtain ⟨w0, hbeg, h1, h6, hz⟩ := m_beg0 (F := 100000) (by omega)
  have hA : ∀ q : Nat, s.heap.size ≤ q → (fun q : Nat => s.heap.size ≤ q) q := fun _ h => h
  have hP : va_P D vwCl [] s.heap := va_P_nil
  have hD : va_D (fun q : Nat => s.heap.size ≤ q) [] := ⟨fun i j p q hp => by simp at hp, fun k q hq => by simp at hq⟩
  have hS : va_S (fun q : Nat => s.heap.size ≤ q) s.heap s.heap [] := va_S.rf
  rw [lg_entry_eq]
  have hl := lv_entry [Value.ref b] (n := 4) (show 1 ≤ 4 by decide)
  generalize ((lg_sl [Value.ref b] ++ List.replicate (4 - (lg_sl [Value.ref b]).length) Slot.unset).toArray) = ls at hl ⊢
  have hl : lv_has ls 4 [(0, .ref b)] := hl
  refine va_new (C := RX9) (T := TX9) (N := 5) (ci := 9) (fs := [.null, .null, .null, .null, .null]) hx hb ht inX9 tyX9 tyX9_ok hown (ht _ qC_L_7) (ht _ qT_X9) (ht _ qI_X9) hE.1 hP hD hS hA rfl (fun j hj => by match j, hj with | 0, _ => rfl | 1, _ => rfl | 2, _ => rfl | 3, _ => rfl | 4, _ => rfl) (Nat.le_of_ble_eq_true rfl) (Nat.le_of_ble_eq_true rfl) dL_law_0 (fun q9 H hP hD hS => ?_)
  refine lv_dup hx hb dL_law_3 rfl ?_
  refine iv_NL (u := []) C hE hP hD hS hA (c_X9_init l D cI cZ cL cW q9) oki_X9_init qM_L_9 rfl rfl ⟨(Nat.le_of_ble_eq_true rfl), (Nat.le_of_ble_eq_true rfl)⟩ hl.1 (Nat.le_of_ble_eq_true rfl) ⟨(Nat.le_of_ble_eq_true rfl), (Nat.le_of_ble_eq_true rfl)⟩ dL_law_4 (fun z9 H locs hP hD hS => ?_)
  refine lv_astore_n hx hb dL_law_7 rfl hl (by decide) rfl (fun ls hl => ?_)
  refine va_new (C := RX10) (T := TX10) (N := 16) (ci := 10) (fs := [.int 0, .null, .int 0, .null, .null, .int 0, .null, .int 0, .int 0, .int 0, .long 0, .null, .int 0, .int 0, .int 0, .null]) hx hb ht inX10 tyX10 tyX10_ok hown (ht _ qC_L_10) (ht _ qT_X10) (ht _ qI_X10) hE.1 hP hD hS hA rfl (fun j hj => by match j, hj with | 0, _ => rfl | 1, _ => rfl | 2, _ => rfl | 3, _ => rfl | 4, _ => rfl | 5, _ => rfl | 6, _ => rfl | 7, _ => rfl | 8, _ => rfl | 9, _ => rfl | 10, _ => rfl | 11, _ => rfl | 12, _ => rfl | 13, _ => rfl | 14, _ => rfl | 15, _ => rfl | q + 16, h => exact absurd h (by omega)) (Nat.le_of_ble_eq_true rfl) (Nat.le_of_ble_eq_true rfl) dL_law_8 (fun q10 H hP hD hS => ?_)
  refine lv_dup hx hb dL_law_11 rfl ?_
  refine iv_NL C hE hP hD hS hA (c_X10_init l D cI cZ cL cW 100000 w0 hbeg q10) oki_X10_init qM_L_12 rfl rfl ⟨(Nat.le_of_ble_eq_true rfl), (Nat.le_of_ble_eq_true rfl)⟩ hl.1 (Nat.le_of_ble_eq_true rfl) ⟨(Nat.le_of_ble_eq_true rfl), (Nat.le_of_ble_eq_true rfl)⟩ dL_law_12 (fun z10 H locs hP hD hS => ?_)
  refine lv_astore_n hx hb dL_law_15 rfl hl (by decide) rfl (fun ls hl => ?_)
  refine lv_iconst (v := 0) hx hb dL_law_16 (by decide) ?_
  refine lv_istore_n hx hb dL_law_17 rfl hl (by decide) rfl (fun ls hl => ?_)
  have hP : va_P D vwCl (lwW [(q9, .inr (9, [.ref (z9 0 1), .ref (z9 0 2), .ref (z9 0 5), .ref (z9 0 3), .ref (z9 0 4)]))] (MX8 cI cZ cL cW (z9 0 1) (z9 1 1) (z9 1 2) (z9 1 3) (z9 1 4) (z9 1 5) (z9 1 6) (z9 1 7) (z9 1 8) (z9 1 9) (z9 1 10) (z9 1 11) (z9 1 12) (z9 1 13) (z9 1 14) (z9 1 15) (z9 1 16) (z9 1 17) (z9 1 18) (z9 1 19) (z9 1 20) (z9 1 21) (z9 1 30) (z9 1 31) (z9 1 32) (z9 1 33) (z9 1 34) (z9 1 35) (z9 1 36) (z9 1 37) (fun jj => z9 1 (22 + jj)) 0 0 0 0 (fun _ => 0) 0 40 0 0 0 (fun _ => 0) (fun _ => 0) (fun _ => 0) (fun _ => 0) (fun _ => 0) (fun _ => 0) (fun _ => 0) 0 0 0 0 100 0 (fun _ => 0) 0 (fun _ => 0) 0 (fun _ => 0) (fun _ => 0) (fun _ => 0) (fun _ => 0) (fun _ => 0) 0 0 0 (fun _ => 0) (fun _ => 1) (fun _ => 0) (fun _ => 0) (fun _ => 0) (fun _ => 0) (fun _ => 0) (fun _ => 0) (fun _ => 0) (fun _ => 0) (fun _ => 0) (fun _ => 0) (fun _ => 0) (fun _ => 0) 0 0 (fun _ => 0) 0) (MX8 cI cZ cL cW (z9 0 2) (z9 2 1) (z9 2 2) (z9 2 3) (z9 2 4) (z9 2 5) (z9 2 6) (z9 2 7) (z9 2 8) (z9 2 9) (z9 2 10) (z9 2 11) (z9 2 12) (z9 2 13) (z9 2 14) (z9 2 15) (z9 2 16) (z9 2 17) (z9 2 18) (z9 2 19) (z9 2 20) (z9 2 21) (z9 2 30) (z9 2 31) (z9 2 32) (z9 2 33) (z9 2 34) (z9 2 35) (z9 2 36) (z9 2 37) (fun jj => z9 2 (22 + jj)) 0 0 0 0 (fun _ => 0) 0 40 0 0 0 (fun _ => 0) (fun _ => 0) (fun _ => 0) (fun _ => 0) (fun _ => 0) (fun _ => 0) (fun _ => 0) 0 0 0 0 100 0 (fun _ => 0) 0 (fun _ => 0) 0 (fun _ => 0) (fun _ => 0) (fun _ => 0) (fun _ => 0) (fun _ => 0) 0 0 0 (fun _ => 0) (fun _ => 1) (fun _ => 0) (fun _ => 0) (fun _ => 0) (fun _ => 0) (fun _ => 0) (fun _ => 0) (fun _ => 0) (fun _ => 0) (fun _ => 0) (fun _ => 0) (fun _ => 0) (fun _ => 0) 0 0 (fun _ => 0) 0) (MX0 cI cZ cL cW (z9 0 3) (z9 3 1) (z9 3 2) (z9 3 3) (z9 3 4) (z9 3 5) (z9 3 6) (z9 3 7) (z9 3 8) (z9 3 9) (z9 3 10) (z9 3 11) (z9 3 12) (z9 3 13) (z9 3 14) (z9 3 15) (z9 3 16) (z9 3 17) (z9 3 18) (z9 3 19) (z9 3 20) (z9 3 21) (z9 3 22) (z9 3 23) (z9 3 24) (z9 3 25) (fun _ => 0) (fun _ => 0) (fun _ => 0) (fun _ => 0) (fun _ => 0) 0 0 0 (fun _ => 0) 0 40 0 0 0 (fun _ => 0) (fun _ => 0) (fun _ => 0) (fun _ => 0) (fun _ => 0) (fun _ => 0) (fun _ => 0) 0 0 0 0 100 0 (fun _ => 0) 0 (fun _ => 0) 0 (fun _ => 0) (fun _ => 0) (fun _ => 0) (fun _ => 0) (fun _ => 0) 0 0 0) [((z9 0 4), .inl (cI, 5001, .inl (fun _ => 0)))] (MX10 cI cZ cL cW q10 (z10 1) (z10 2) (z10 3) (z10 4) (z10 5) (z10 6) 0 w0 0 (fun _ => 0) (fun _ => 0) 0 (fun _ => 0) 0 0 0 0 (fun _ => 0) 0 0 0 (fun _ => 0)) [((z9 0 5), .inl (cW, 2, .inr (.inr (.inr (.inr (fun _ => none))))))]) H := va_P_pm (pm_0 _ _ _ _ _ _ _) hP
  have hD : va_D (fun q : Nat => s.heap.size ≤ q) (lwW [(q9, .inr (9, [.ref (z9 0 1), .ref (z9 0 2), .ref (z9 0 5), .ref (z9 0 3), .ref (z9 0 4)]))] (MX8 cI cZ cL cW (z9 0 1) (z9 1 1) (z9 1 2) (z9 1 3) (z9 1 4) (z9 1 5) (z9 1 6) (z9 1 7) (z9 1 8) (z9 1 9) (z9 1 10) (z9 1 11) (z9 1 12) (z9 1 13) (z9 1 14) (z9 1 15) (z9 1 16) (z9 1 17) (z9 1 18) (z9 1 19) (z9 1 20) (z9 1 21) (z9 1 30) (z9 1 31) (z9 1 32) (z9 1 33) (z9 1 34) (z9 1 35) (z9 1 36) (z9 1 37) (fun jj => z9 1 (22 + jj)) 0 0 0 0 (fun _ => 0) 0 40 0 0 0 (fun _ => 0) (fun _ => 0) (fun _ => 0) (fun _ => 0) (fun _ => 0) (fun _ => 0) (fun _ => 0) 0 0 0 0 100 0 (fun _ => 0) 0 (fun _ => 0) 0 (fun _ => 0) (fun _ => 0) (fun _ => 0) (fun _ => 0) (fun _ => 0) 0 0 0 (fun _ => 0) (fun _ => 1) (fun _ => 0) (fun _ => 0) (fun _ => 0) (fun _ => 0) (fun _ => 0) (fun _ => 0) (fun _ => 0) (fun _ => 0) (fun _ => 0) (fun _ => 0) (fun _ => 0) (fun _ => 0) 0 0 (fun _ => 0) 0) (MX8 cI cZ cL cW (z9 0 2) (z9 2 1) (z9 2 2) (z9 2 3) (z9 2 4) (z9 2 5) (z9 2 6) (z9 2 7) (z9 2 8) (z9 2 9) (z9 2 10) (z9 2 11) (z9 2 12) (z9 2 13) (z9 2 14) (z9 2 15) (z9 2 16) (z9 2 17) (z9 2 18) (z9 2 19) (z9 2 20) (z9 2 21) (z9 2 30) (z9 2 31) (z9 2 32) (z9 2 33) (z9 2 34) (z9 2 35) (z9 2 36) (z9 2 37) (fun jj => z9 2 (22 + jj)) 0 0 0 0 (fun _ => 0) 0 40 0 0 0 (fun _ => 0) (fun _ => 0) (fun _ => 0) (fun _ => 0) (fun _ => 0) (fun _ => 0) (fun _ => 0) 0 0 0 0 100 0 (fun _ => 0) 0 (fun _ => 0) 0 (fun _ => 0) (fun _ => 0) (fun _ => 0) (fun _ => 0) (fun _ => 0) 0 0 0 (fun _ => 0) (fun _ => 1) (fun _ => 0) (fun _ => 0) (fun _ => 0) (fun _ => 0) (fun _ => 0) (fun _ => 0) (fun _ => 0) (fun _ => 0) (fun _ => 0) (fun _ => 0) (fun _ => 0) (fun _ => 0) 0 0 (fun _ => 0) 0) (MX0 cI cZ cL cW (z9 0 3) (z9 3 1) (z9 3 2) (z9 3 3) (z9 3 4) (z9 3 5) (z9 3 6) (z9 3 7) (z9 3 8) (z9 3 9) (z9 3 10) (z9 3 11) (z9 3 12) (z9 3 13) (z9 3 14) (z9 3 15) (z9 3 16) (z9 3 17) (z9 3 18) (z9 3 19) (z9 3 20) (z9 3 21) (z9 3 22) (z9 3 23) (z9 3 24) (z9 3 25) (fun _ => 0) (fun _ => 0) (fun _ => 0) (fun _ => 0) (fun _ => 0) 0 0 0 (fun _ => 0) 0 40 0 0 0 (fun _ => 0) (fun _ => 0) (fun _ => 0) (fun _ => 0) (fun _ => 0) (fun _ => 0) (fun _ => 0) 0 0 0 0 100 0 (fun _ => 0) 0 (fun _ => 0) 0 (fun _ => 0) (fun _ => 0) (fun _ => 0) (fun _ => 0) (fun _ => 0) 0 0 0) [((z9 0 4), .inl (cI, 5001, .inl (fun _ => 0)))] (MX10 cI cZ cL cW q10 (z10 1) (z10 2) (z10 3) (z10 4) (z10 5) (z10 6) 0 w0 0 (fun _ => 0) (fun _ => 0) 0 (fun _ => 0) 0 0 0 0 (fun _ => 0) 0 0 0 (fun _ => 0)) [((z9 0 5), .inl (cW, 2, .inr (.inr (.inr (.inr (fun _ => none))))))]) := va_D_pm (pm_0 _ _ _ _ _ _ _) hD
  exact lw_loop 100000 (by omega) C hr hlk hE hX hbl hL q9 q10 (z9 0 1) (z9 1 1) (z9 1 2) (z9 1 3) (z9 1 4) (z9 1 5) (z9 1 6) (z9 1 7) (z9 1 8) (z9 1 9) (z9 1 10) (z9 1 11) (z9 1 12) (z9 1 13) (z9 1 14) (z9 1 15) (z9 1 16) (z9 1 17) (z9 1 18) (z9 1 19) (z9 1 20) (z9 1 21) (z9 1 30) (z9 1 31) (z9 1 32) (z9 1 33) (z9 1 34) (z9 1 35) (z9 1 36) (z9 1 37) (z9 0 2) (z9 2 1) (z9 2 2) (z9 2 3) (z9 2 4) (z9 2 5) (z9 2 6) (z9 2 7) (z9 2 8) (z9 2 9) (z9 2 10) (z9 2 11) (z9 2 12) (z9 2 13) (z9 2 14) (z9 2 15) (z9 2 16) (z9 2 17) (z9 2 18) (z9 2 19) (z9 2 20) (z9 2 21) (z9 2 30) (z9 2 31) (z9 2 32) (z9 2 33) (z9 2 34) (z9 2 35) (z9 2 36) (z9 2 37) (z9 0 3) (z9 3 1) (z9 3 2) (z9 3 3) (z9 3 4) (z9 3 5) (z9 3 6) (z9 3 7) (z9 3 8) (z9 3 9) (z9 3 10) (z9 3 11) (z9 3 12) (z9 3 13) (z9 3 14) (z9 3 15) (z9 3 16) (z9 3 17) (z9 3 18) (z9 3 19) (z9 3 20) (z9 3 21) (z9 3 22) (z9 3 23) (z9 3 24) (z9 3 25) (z9 0 4) (fun jj => z9 1 (22 + jj)) (fun jj => z9 2 (22 + jj)) (z9 0 5) (z10 1) (z10 2) (z10 3) (z10 4) (z10 5) (z10 6) 513 0 _ _ H locs ls (fun _ => 0) 0 0 0 0 (fun _ => 0) 0 40 0 0 0 (fun _ => 0) (fun _ => 0) (fun _ => 0) (fun _ => 0) (fun _ => 0) (fun _ => 0) (fun _ => 0) 0 0 0 0 100 0 (fun _ => 0) 0 (fun _ => 0) 0 (fun _ => 0) (fun _ => 0) (fun _ => 0) (fun _ => 0) (fun _ => 0) 0 0 0 (fun _ => 0) (fun _ => 1) (fun _ => 0) (fun _ => 0) (fun _ => 0) (fun _ => 0) (fun _ => 0) (fun _ => 0) (fun _ => 0) (fun _ => 0) (fun _ => 0) (fun _ => 0) (fun _ => 0) (fun _ => 0) 0 0 (fun _ => 0) 0 0 0 0 0 (fun _ => 0) 0 40 0 0 0 (fun _ => 0) (fun _ => 0) (fun _ => 0) (fun _ => 0) (fun _ => 0) (fun _ => 0) (fun _ => 0) 0 0 0 0 100 0 (fun _ => 0) 0 (fun _ => 0) 0 (fun _ => 0) (fun _ => 0) (fun _ => 0) (fun _ => 0) (fun _ => 0) 0 0 0 (fun _ => 0) (fun _ => 1) (fun _ => 0) (fun _ => 0) (fun _ => 0) (fun _ => 0) (fun _ => 0) (fun _ => 0) (fun _ => 0) (fun _ => 0) (fun _ => 0) (fun _ => 0) (fun _ => 0) (fun _ => 0) 0 0 (fun _ => 0) 0 (fun _ => 0) (fun _ => 0) (fun _ => 0) (fun _ => 0) (fun _ => 0) 0 0 0 (fun _ => 0) 0 40 0 0 0 (fun _ => 0) (fun _ => 0) (fun _ => 0) (fun _ => 0) (fun _ => 0) (fun _ => 0) (fun _ => 0) 0 0 0 0 100 0 (fun _ => 0) 0 (fun _ => 0) 0 (fun _ => 0) (fun _ => 0) (fun _ => 0) (fun _ => 0) (fun _ => 0) 0 0 0 0 w0 0 (fun _ => 0) (fun _ => 0) 0 (fun _ => 0) 0 0 0 0 (fun _ => 0) 0 0 0 (fun _ => 0) (fun _ => none) none none [((z9 0 5), .inl (cW, 2, .inr (.inr (.inr (.inr (fun _ => none))))))] (by omega) (by omega) (lv_sub hl [3, 2, 1, 0] rfl) ⟨⟨[], [], rfl, ⟨rfl, rfl⟩, ⟨rfl, rfl⟩⟩, ⟨(Nat.le_of_ble_eq_true rfl), (Nat.le_of_ble_eq_true rfl)⟩, hP, hD, inv_0 h1 h6 hz, rfl, rfl⟩ hS
