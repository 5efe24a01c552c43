def X10_isAhead (F : Nat) (p1 : Int32) (p2 : Int32) (p3 : Int32) (k_w : (Nat → Int32)) (k_o : Int32) : Option (Int32) := if (p1 : Int32) = 1 then ((X10_of F p2 3 k_w k_o).bind fun r6 => ((X10_of F p3 3 k_w k_o).bind fun r8 => (if (r6 : Int32) = r8 then ((X10_of F p2 4 k_w k_o).bind fun r10 => ((X10_of F p3 4 k_w k_o).bind fun r12 => (if (r12 : Int32) ≤ r10 then (some 0) else (some 1)))) else ((X10_of F p2 3 k_w k_o).bind fun r15 => ((X10_of F p3 3 k_w k_o).bind fun r17 => (if (r17 : Int32) ≤ r15 then (some 0) else (some 1))))))) else ((X10_of F p2 4 k_w k_o).bind fun r1 => ((X10_of F p3 4 k_w k_o).bind fun r3 => (if (r3 : Int32) ≤ r1 then (some 0) else (some 1))))
abbrev rm_X10_isAhead : Room := { frames := 1, cells := 0, slots := 0, locals := 22 }
theorem ok_X10_isAhead : OKV RX10 yX10_isAhead cX10_isAhead 4 (some .boolean) 3 := ⟨by decide +kernel, qV_X10_isAhead, qL_X10_isAhead, qI_X10, qD_X10_isAhead⟩
set_option maxHeartbeats 4000000 in
set_option maxRecDepth 100000 in
theorem c_X10_isAhead (l : Launch) (D : va_G) (cI cZ cL cW : ClassId) (F : Nat) (a0 : Nat) (a1 : Nat) (a2 : Nat) (a3 : Nat) (a4 : Nat) (a5 : Nat) (a6 : Nat) (k_thrown : Int32) (k_w : (Nat → Int32)) (k_o : Int32) (k_isKept : (Nat → Int32)) (k_went : (Nat → Int32)) (k_wentMany : Int32) (k_waiting : (Nat → Int32)) (k_came : Int32) (k_depth : Int32) (k_isSilent : Int32) (k_x : Int64) (k_packed : (Nat → Int32)) (k_hits : Int32) (k_rues : Int32) (k_soonest : Int32) (k_inAll : (Nat → Int32)) (p1 : Int32) (p2 : Int32) (p3 : Int32) (r : Int32) (hf : X10_isAhead F p1 p2 p3 k_w k_o = some r) : CtrR l D (tyL cI cZ cL cW) nestW yX10_isAhead cX10_isAhead 4 (some .boolean) rm_X10_isAhead [.ref a0, .int p1, .int p2, .int p3] (MX10 cI cZ cL cW a0 a1 a2 a3 a4 a5 a6 k_thrown k_w k_o k_isKept k_went k_wentMany k_waiting k_came k_depth k_isSilent k_x k_packed k_hits k_rues k_soonest k_inAll) (some (.int r)) := by
  refine ofR RX10 (by decide) rfl (Nat.le_of_ble_eq_true rfl) ?_
  intro p e s m below meth c ls C hr hlk hE hP hl
  generalize (List.toArray ([.ref a0, .int p1, .int p2, .int p3] : List Value)) = args at C ⊢
  obtain ⟨hx, hb, hml, hown, ht⟩ := id C
  have hl : lv_has ls 4 [(0, .ref a0), (1, .int p1), (2, .int p2), (3, .int p3)] := hl
  refine lv_iload_n hx hb dX10_isAhead_0 rfl (lv_at hl 1 rfl) ?_
  refine lv_iconst (v := 1) hx hb dX10_isAhead_1 (by decide) ?_
  refine lv_icmp_ne (tgt := 41) hx hb dX10_isAhead_2 (by decide) (fun c21 => ?_) (fun c21 => ?_)
  · have hf := it_n hf c21
    refine lv_aload_n hx hb dX10_isAhead_41 rfl (lv_at hl 0 rfl) ?_
    refine lv_iload_n hx hb dX10_isAhead_42 rfl (lv_at hl 2 rfl) ?_
    refine lv_iconst (v := 4) hx hb dX10_isAhead_43 (by decide) ?_
    obtain ⟨r1, h2, hf⟩ := bd_s hf
    refine iv_R (rest := []) (st1 := [.int r1]) C hE hP (c_X10_of l D cI cZ cL cW F a0 a1 a2 a3 a4 a5 a6 k_thrown k_w k_o k_isKept k_went k_wentMany k_waiting k_came k_depth k_isSilent k_x k_packed k_hits k_rues k_soonest k_inAll p2 4 r1  h2) ok_X10_of qM_X10_44 rfl rfl ⟨(Nat.le_of_ble_eq_true rfl), (Nat.le_of_ble_eq_true rfl)⟩ rfl rfl hl.1 (Nat.le_of_ble_eq_true rfl) ⟨Nat.zero_le _, Nat.zero_le _⟩ dX10_isAhead_44 rfl rfl ?_
    refine lv_aload_n hx hb dX10_isAhead_47 rfl (lv_at hl 0 rfl) ?_
    refine lv_iload_n hx hb dX10_isAhead_48 rfl (lv_at hl 3 rfl) ?_
    refine lv_iconst (v := 4) hx hb dX10_isAhead_49 (by decide) ?_
    obtain ⟨r3, h4, hf⟩ := bd_s hf
    refine iv_R (rest := [.int r1]) (st1 := [.int r3, .int r1]) C hE hP (c_X10_of l D cI cZ cL cW F a0 a1 a2 a3 a4 a5 a6 k_thrown k_w k_o k_isKept k_went k_wentMany k_waiting k_came k_depth k_isSilent k_x k_packed k_hits k_rues k_soonest k_inAll p3 4 r3  h4) ok_X10_of qM_X10_44 rfl rfl ⟨(Nat.le_of_ble_eq_true rfl), (Nat.le_of_ble_eq_true rfl)⟩ rfl rfl hl.1 (Nat.le_of_ble_eq_true rfl) ⟨Nat.zero_le _, Nat.zero_le _⟩ dX10_isAhead_50 rfl rfl ?_
    refine lv_icmp_ge (tgt := 60) hx hb dX10_isAhead_53 (by decide) (fun c5 => ?_) (fun c5 => ?_)
    · have hf := it_p hf c5
      refine lv_iconst (v := 0) hx hb dX10_isAhead_60 (by decide) ?_
      exact rt_z C hr hlk (by decide) dX10_isAhead_61 (congrArg (fun o => o.map Value.int) hf)
    · have hf := it_n hf c5
      refine lv_iconst (v := 1) hx hb dX10_isAhead_56 (by decide) ?_
      refine lv_goto (tgt := 61) hx hb dX10_isAhead_57 (by decide) ?_
      exact rt_z C hr hlk (by decide) dX10_isAhead_61 (congrArg (fun o => o.map Value.int) hf)
  · have hf := it_p hf c21
    refine lv_aload_n hx hb dX10_isAhead_5 rfl (lv_at hl 0 rfl) ?_
    refine lv_iload_n hx hb dX10_isAhead_6 rfl (lv_at hl 2 rfl) ?_
    refine lv_iconst (v := 3) hx hb dX10_isAhead_7 (by decide) ?_
    obtain ⟨r6, h7, hf⟩ := bd_s hf
    refine iv_R (rest := []) (st1 := [.int r6]) C hE hP (c_X10_of l D cI cZ cL cW F a0 a1 a2 a3 a4 a5 a6 k_thrown k_w k_o k_isKept k_went k_wentMany k_waiting k_came k_depth k_isSilent k_x k_packed k_hits k_rues k_soonest k_inAll p2 3 r6  h7) ok_X10_of qM_X10_44 rfl rfl ⟨(Nat.le_of_ble_eq_true rfl), (Nat.le_of_ble_eq_true rfl)⟩ rfl rfl hl.1 (Nat.le_of_ble_eq_true rfl) ⟨Nat.zero_le _, Nat.zero_le _⟩ dX10_isAhead_8 rfl rfl ?_
    refine lv_aload_n hx hb dX10_isAhead_11 rfl (lv_at hl 0 rfl) ?_
    refine lv_iload_n hx hb dX10_isAhead_12 rfl (lv_at hl 3 rfl) ?_
    refine lv_iconst (v := 3) hx hb dX10_isAhead_13 (by decide) ?_
    obtain ⟨r8, h9, hf⟩ := bd_s hf
    refine iv_R (rest := [.int r6]) (st1 := [.int r8, .int r6]) C hE hP (c_X10_of l D cI cZ cL cW F a0 a1 a2 a3 a4 a5 a6 k_thrown k_w k_o k_isKept k_went k_wentMany k_waiting k_came k_depth k_isSilent k_x k_packed k_hits k_rues k_soonest k_inAll p3 3 r8  h9) ok_X10_of qM_X10_44 rfl rfl ⟨(Nat.le_of_ble_eq_true rfl), (Nat.le_of_ble_eq_true rfl)⟩ rfl rfl hl.1 (Nat.le_of_ble_eq_true rfl) ⟨Nat.zero_le _, Nat.zero_le _⟩ dX10_isAhead_14 rfl rfl ?_
    refine lv_icmp_eq (tgt := 41) hx hb dX10_isAhead_17 (by decide) (fun c20 => ?_) (fun c20 => ?_)
    · have hf := it_p hf c20
      refine lv_aload_n hx hb dX10_isAhead_41 rfl (lv_at hl 0 rfl) ?_
      refine lv_iload_n hx hb dX10_isAhead_42 rfl (lv_at hl 2 rfl) ?_
      refine lv_iconst (v := 4) hx hb dX10_isAhead_43 (by decide) ?_
      obtain ⟨r10, h11, hf⟩ := bd_s hf
      refine iv_R (rest := []) (st1 := [.int r10]) C hE hP (c_X10_of l D cI cZ cL cW F a0 a1 a2 a3 a4 a5 a6 k_thrown k_w k_o k_isKept k_went k_wentMany k_waiting k_came k_depth k_isSilent k_x k_packed k_hits k_rues k_soonest k_inAll p2 4 r10  h11) ok_X10_of qM_X10_44 rfl rfl ⟨(Nat.le_of_ble_eq_true rfl), (Nat.le_of_ble_eq_true rfl)⟩ rfl rfl hl.1 (Nat.le_of_ble_eq_true rfl) ⟨Nat.zero_le _, Nat.zero_le _⟩ dX10_isAhead_44 rfl rfl ?_
      refine lv_aload_n hx hb dX10_isAhead_47 rfl (lv_at hl 0 rfl) ?_
      refine lv_iload_n hx hb dX10_isAhead_48 rfl (lv_at hl 3 rfl) ?_
      refine lv_iconst (v := 4) hx hb dX10_isAhead_49 (by decide) ?_
      obtain ⟨r12, h13, hf⟩ := bd_s hf
      refine iv_R (rest := [.int r10]) (st1 := [.int r12, .int r10]) C hE hP (c_X10_of l D cI cZ cL cW F a0 a1 a2 a3 a4 a5 a6 k_thrown k_w k_o k_isKept k_went k_wentMany k_waiting k_came k_depth k_isSilent k_x k_packed k_hits k_rues k_soonest k_inAll p3 4 r12  h13) ok_X10_of qM_X10_44 rfl rfl ⟨(Nat.le_of_ble_eq_true rfl), (Nat.le_of_ble_eq_true rfl)⟩ rfl rfl hl.1 (Nat.le_of_ble_eq_true rfl) ⟨Nat.zero_le _, Nat.zero_le _⟩ dX10_isAhead_50 rfl rfl ?_
      refine lv_icmp_ge (tgt := 60) hx hb dX10_isAhead_53 (by decide) (fun c14 => ?_) (fun c14 => ?_)
      · have hf := it_p hf c14
        refine lv_iconst (v := 0) hx hb dX10_isAhead_60 (by decide) ?_
        exact rt_z C hr hlk (by decide) dX10_isAhead_61 (congrArg (fun o => o.map Value.int) hf)
      · have hf := it_n hf c14
        refine lv_iconst (v := 1) hx hb dX10_isAhead_56 (by decide) ?_
        refine lv_goto (tgt := 61) hx hb dX10_isAhead_57 (by decide) ?_
        exact rt_z C hr hlk (by decide) dX10_isAhead_61 (congrArg (fun o => o.map Value.int) hf)
    · have hf := it_n hf c20
      refine lv_aload_n hx hb dX10_isAhead_20 rfl (lv_at hl 0 rfl) ?_
      refine lv_iload_n hx hb dX10_isAhead_21 rfl (lv_at hl 2 rfl) ?_
      refine lv_iconst (v := 3) hx hb dX10_isAhead_22 (by decide) ?_
      obtain ⟨r15, h16, hf⟩ := bd_s hf
      refine iv_R (rest := []) (st1 := [.int r15]) C hE hP (c_X10_of l D cI cZ cL cW F a0 a1 a2 a3 a4 a5 a6 k_thrown k_w k_o k_isKept k_went k_wentMany k_waiting k_came k_depth k_isSilent k_x k_packed k_hits k_rues k_soonest k_inAll p2 3 r15  h16) ok_X10_of qM_X10_44 rfl rfl ⟨(Nat.le_of_ble_eq_true rfl), (Nat.le_of_ble_eq_true rfl)⟩ rfl rfl hl.1 (Nat.le_of_ble_eq_true rfl) ⟨Nat.zero_le _, Nat.zero_le _⟩ dX10_isAhead_23 rfl rfl ?_
      refine lv_aload_n hx hb dX10_isAhead_26 rfl (lv_at hl 0 rfl) ?_
      refine lv_iload_n hx hb dX10_isAhead_27 rfl (lv_at hl 3 rfl) ?_
      refine lv_iconst (v := 3) hx hb dX10_isAhead_28 (by decide) ?_
      obtain ⟨r17, h18, hf⟩ := bd_s hf
      refine iv_R (rest := [.int r15]) (st1 := [.int r17, .int r15]) C hE hP (c_X10_of l D cI cZ cL cW F a0 a1 a2 a3 a4 a5 a6 k_thrown k_w k_o k_isKept k_went k_wentMany k_waiting k_came k_depth k_isSilent k_x k_packed k_hits k_rues k_soonest k_inAll p3 3 r17  h18) ok_X10_of qM_X10_44 rfl rfl ⟨(Nat.le_of_ble_eq_true rfl), (Nat.le_of_ble_eq_true rfl)⟩ rfl rfl hl.1 (Nat.le_of_ble_eq_true rfl) ⟨Nat.zero_le _, Nat.zero_le _⟩ dX10_isAhead_29 rfl rfl ?_
      refine lv_icmp_ge (tgt := 39) hx hb dX10_isAhead_32 (by decide) (fun c19 => ?_) (fun c19 => ?_)
      · have hf := it_p hf c19
        refine lv_iconst (v := 0) hx hb dX10_isAhead_39 (by decide) ?_
        exact rt_z C hr hlk (by decide) dX10_isAhead_40 (congrArg (fun o => o.map Value.int) hf)
      · have hf := it_n hf c19
        refine lv_iconst (v := 1) hx hb dX10_isAhead_35 (by decide) ?_
        refine lv_goto (tgt := 40) hx hb dX10_isAhead_36 (by decide) ?_
        exact rt_z C hr hlk (by decide) dX10_isAhead_40 (congrArg (fun o => o.map Value.int) hf)
def X10_placeOf_L5 (F : Nat) : Nat → Int32 → Int32 → Int32 → Int32 → (Nat → Int32) → Int32 → Option (Int32)
  | 0, _, _, _, _, _, _ => none
  | n + 1, v1, v2, v3, v4, k_w, k_o => if ((k_o + 0) : Int32) < 0 ∨ 3392 ≤ (Int32.toNatClampNeg (k_o + 0)) then none else (if ((k_w (Int32.toNatClampNeg (k_o + 0))) : Int32) ≤ v4 then (some v3) else ((X10_isAhead F v1 v4 v2 k_w k_o).bind fun r1 => ((X10_flag F r1).bind fun r3 => (X10_placeOf_L5 F n v1 v2 (v3 + r3) (v4 + 1) k_w k_o))))
def X10_placeOf (F : Nat) (p1 : Int32) (p2 : Int32) (k_w : (Nat → Int32)) (k_o : Int32) : Option (Int32) := (X10_placeOf_L5 F F p1 p2 0 0 k_w k_o).bind fun x7 => (some x7)
abbrev rm_X10_placeOf : Room := { frames := 2, cells := 0, slots := 0, locals := 45 }
theorem ok_X10_placeOf : OKV RX10 yX10_placeOf cX10_placeOf 5 (some .int) 2 := ⟨by decide +kernel, qV_X10_placeOf, qL_X10_placeOf, qI_X10, qD_X10_placeOf⟩
set_option maxHeartbeats 4000000 in
set_option maxRecDepth 100000 in
theorem c_X10_placeOf (l : Launch) (D : va_G) (cI cZ cL cW : ClassId) (F : Nat) (a0 : Nat) (a1 : Nat) (a2 : Nat) (a3 : Nat) (a4 : Nat) (a5 : Nat) (a6 : Nat) (k_thrown : Int32) (k_w : (Nat → Int32)) (k_o : Int32) (k_isKept : (Nat → Int32)) (k_went : (Nat → Int32)) (k_wentMany : Int32) (k_waiting : (Nat → Int32)) (k_came : Int32) (k_depth : Int32) (k_isSilent : Int32) (k_x : Int64) (k_packed : (Nat → Int32)) (k_hits : Int32) (k_rues : Int32) (k_soonest : Int32) (k_inAll : (Nat → Int32)) (p1 : Int32) (p2 : Int32) (r : Int32) (hf : X10_placeOf F p1 p2 k_w k_o = some r) : CtrR l D (tyL cI cZ cL cW) nestW yX10_placeOf cX10_placeOf 5 (some .int) rm_X10_placeOf [.ref a0, .int p1, .int p2] (MX10 cI cZ cL cW a0 a1 a2 a3 a4 a5 a6 k_thrown k_w k_o k_isKept k_went k_wentMany k_waiting k_came k_depth k_isSilent k_x k_packed k_hits k_rues k_soonest k_inAll) (some (.int r)) := by
  refine ofR RX10 (by decide) rfl (Nat.le_of_ble_eq_true rfl) ?_
  intro p e s m below meth c ls C hr hlk hE hP hl
  generalize (List.toArray ([.ref a0, .int p1, .int p2] : List Value)) = args at C ⊢
  obtain ⟨hx, hb, hml, hown, ht⟩ := id C
  have hl : lv_has ls 5 [(0, .ref a0), (1, .int p1), (2, .int p2)] := hl
  have L5 : ∀ (Q : State → Prop) (n : Nat) (v1 : Int32) (v2 : Int32) (v3 : Int32) (v4 : Int32) (x3 : Int32) (ls : Array Slot), X10_placeOf_L5 F n v1 v2 v3 v4 k_w k_o = some x3 → lv_has ls 5 [(0, .ref a0), (1, .int v1), (2, .int v2), (3, .int v3), (4, .int v4)] → (∀ ls : Array Slot, lv_has ls 5 [(3, .int x3)] → W p l e rm_X10_placeOf s m args below meth c s.heap [] 0 0 Q (F0 m 41 ls [])) → W p l e rm_X10_placeOf s m args below meth c s.heap [] 0 0 Q (F0 m 5 ls []) := by
    intro Q n
    induction n with
    | zero => intro v1 v2 v3 v4 x3 ls hf hl hk; exact nn_s hf
    | succ n ih =>
      intro v1 v2 v3 v4 x3 ls hf hl hk
      refine lv_iload hx hb dX10_placeOf_5 (lv_at hl 4 rfl) ?_
      refine lv_aload_n hx hb dX10_placeOf_7 rfl (lv_at hl 0 rfl) ?_
      refine gf_X10 (v := .ref a1) C hE hP 0 1 rfl (by decide) qF_X10_17 rfl dX10_placeOf_8 ?_
      refine lv_aload_n hx hb dX10_placeOf_11 rfl (lv_at hl 0 rfl) ?_
      refine gf_X10 (v := .int k_o) C hE hP 0 2 rfl (by decide) qF_X10_41 rfl dX10_placeOf_12 ?_
      refine lv_iconst (v := 0) hx hb dX10_placeOf_15 (by decide) ?_
      refine lv_iadd hx hb dX10_placeOf_16 ?_
      obtain ⟨g6, hf⟩ := it_g hf
      refine va_iald hx hb hE.1 hP 1 0 rfl rfl g6 dX10_placeOf_17 ?_
      refine lv_icmp_ge (tgt := 41) hx hb dX10_placeOf_18 (by decide) (fun c5 => ?_) (fun c5 => ?_)
      · have hf := it_p hf c5
        cases hf
        exact hk ls (lv_sub hl [3] rfl)
      · have hf := it_n hf c5
        refine lv_iload_n hx hb dX10_placeOf_21 rfl (lv_at hl 3 rfl) ?_
        refine lv_aload_n hx hb dX10_placeOf_22 rfl (lv_at hl 0 rfl) ?_
        refine lv_iload_n hx hb dX10_placeOf_23 rfl (lv_at hl 1 rfl) ?_
        refine lv_iload hx hb dX10_placeOf_24 (lv_at hl 4 rfl) ?_
        refine lv_iload_n hx hb dX10_placeOf_26 rfl (lv_at hl 2 rfl) ?_
        obtain ⟨r1, h2, hf⟩ := bd_s hf
        refine iv_R (rest := [.int v3]) (st1 := [.int r1, .int v3]) C hE hP (c_X10_isAhead l D cI cZ cL cW F a0 a1 a2 a3 a4 a5 a6 k_thrown k_w k_o k_isKept k_went k_wentMany k_waiting k_came k_depth k_isSilent k_x k_packed k_hits k_rues k_soonest k_inAll v1 v4 v2 r1  h2) ok_X10_isAhead qM_X10_53 rfl rfl ⟨(Nat.le_of_ble_eq_true rfl), (Nat.le_of_ble_eq_true rfl)⟩ rfl rfl hl.1 (Nat.le_of_ble_eq_true rfl) ⟨Nat.zero_le _, Nat.zero_le _⟩ dX10_placeOf_27 rfl rfl ?_
        obtain ⟨r3, h4, hf⟩ := bd_s hf
        refine is_R (rest := [.int v3]) (st1 := [.int r3, .int v3]) C hE va_P_nil (c_X10_flag l D cI cZ cL cW F   r1 r3  h4) ok_X10_flag qM_X10_57 rfl rfl ⟨(Nat.le_of_ble_eq_true rfl), (Nat.le_of_ble_eq_true rfl)⟩ hl.1 (Nat.le_of_ble_eq_true rfl) ⟨Nat.zero_le _, Nat.zero_le _⟩ dX10_placeOf_30 rfl rfl ?_
        refine lv_iadd hx hb dX10_placeOf_33 ?_
        refine lv_istore_n (lv' := [(3, .int (v3 + r3)), (0, .ref a0), (1, .int v1), (2, .int v2), (4, .int v4)]) hx hb dX10_placeOf_34 rfl hl (by decide) rfl (fun ls hl => ?_)
        refine lv_iinc (v := (v4 + 1)) (lv' := [(4, .int (v4 + 1)), (3, .int (v3 + r3)), (0, .ref a0), (1, .int v1), (2, .int v2)]) hx hb dX10_placeOf_35 hl (k := 4) rfl rfl (by decide) rfl (fun ls hl => ?_)
        refine lv_goto (tgt := 5) hx hb dX10_placeOf_38 (by decide) ?_
        exact ih v1 v2 (v3 + r3) (v4 + 1) _ ls hf (lv_sub hl [2, 3, 4, 1, 0] rfl) hk
  refine lv_iconst (v := 0) hx hb dX10_placeOf_0 (by decide) ?_
  refine lv_istore_n (lv' := [(3, .int 0), (0, .ref a0), (1, .int p1), (2, .int p2)]) hx hb dX10_placeOf_1 rfl hl (by decide) rfl (fun ls hl => ?_)
  refine lv_iconst (v := 0) hx hb dX10_placeOf_2 (by decide) ?_
  refine lv_istore (lv' := [(4, .int 0), (3, .int 0), (0, .ref a0), (1, .int p1), (2, .int p2)]) hx hb dX10_placeOf_3 hl (by decide) rfl (fun ls hl => ?_)
  obtain ⟨x7, h8, hf⟩ := bd_s hf
  refine L5 _ F p1 p2 0 0 x7 ls h8 (lv_sub hl [2, 3, 4, 1, 0] rfl) (fun ls hl => ?_)
  refine lv_iload_n hx hb dX10_placeOf_41 rfl (lv_at hl 0 rfl) ?_
  exact rt_i C hr hlk dX10_placeOf_42 (congrArg (fun o => o.map Value.int) hf)
def X10_keyAt_L2 (F : Nat) : Nat → Int32 → Int32 → Int32 → (Nat → Int32) → Int32 → Option (Int32)
  | 0, _, _, _, _, _ => none
  | n + 1, v1, v2, v3, k_w, k_o => if ((k_o + 0) : Int32) < 0 ∨ 3392 ≤ (Int32.toNatClampNeg (k_o + 0)) then none else (if ((k_w (Int32.toNatClampNeg (k_o + 0))) : Int32) ≤ v3 then (some (-1)) else ((X10_placeOf F v1 v3 k_w k_o).bind fun r1 => (if (r1 : Int32) = v2 then ((X10_of F v3 0 k_w k_o).bind fun r3 => (some r3)) else (X10_keyAt_L2 F n v1 v2 (v3 + 1) k_w k_o))))
def X10_keyAt (F : Nat) (p1 : Int32) (p2 : Int32) (k_w : (Nat → Int32)) (k_o : Int32) : Option (Int32) := X10_keyAt_L2 F F p1 p2 0 k_w k_o
abbrev rm_X10_keyAt : Room := { frames := 3, cells := 0, slots := 0, locals := 69 }
theorem ok_X10_keyAt : OKV RX10 yX10_keyAt cX10_keyAt 4 (some .int) 2 := ⟨by decide +kernel, qV_X10_keyAt, qL_X10_keyAt, qI_X10, qD_X10_keyAt⟩
set_option maxHeartbeats 4000000 in
set_option maxRecDepth 100000 in
theorem c_X10_keyAt (l : Launch) (D : va_G) (cI cZ cL cW : ClassId) (F : Nat) (a0 : Nat) (a1 : Nat) (a2 : Nat) (a3 : Nat) (a4 : Nat) (a5 : Nat) (a6 : Nat) (k_thrown : Int32) (k_w : (Nat → Int32)) (k_o : Int32) (k_isKept : (Nat → Int32)) (k_went : (Nat → Int32)) (k_wentMany : Int32) (k_waiting : (Nat → Int32)) (k_came : Int32) (k_depth : Int32) (k_isSilent : Int32) (k_x : Int64) (k_packed : (Nat → Int32)) (k_hits : Int32) (k_rues : Int32) (k_soonest : Int32) (k_inAll : (Nat → Int32)) (p1 : Int32) (p2 : Int32) (r : Int32) (hf : X10_keyAt F p1 p2 k_w k_o = some r) : CtrR l D (tyL cI cZ cL cW) nestW yX10_keyAt cX10_keyAt 4 (some .int) rm_X10_keyAt [.ref a0, .int p1, .int p2] (MX10 cI cZ cL cW a0 a1 a2 a3 a4 a5 a6 k_thrown k_w k_o k_isKept k_went k_wentMany k_waiting k_came k_depth k_isSilent k_x k_packed k_hits k_rues k_soonest k_inAll) (some (.int r)) := by
  refine ofR RX10 (by decide) rfl (Nat.le_of_ble_eq_true rfl) ?_
  intro p e s m below meth c ls C hr hlk hE hP hl
  generalize (List.toArray ([.ref a0, .int p1, .int p2] : List Value)) = args at C ⊢
  obtain ⟨hx, hb, hml, hown, ht⟩ := id C
  have hl : lv_has ls 4 [(0, .ref a0), (1, .int p1), (2, .int p2)] := hl
  have L2 : ∀ (n : Nat) (v1 : Int32) (v2 : Int32) (v3 : Int32) (ls : Array Slot), X10_keyAt_L2 F n v1 v2 v3 k_w k_o = some r → lv_has ls 4 [(0, .ref a0), (1, .int v1), (2, .int v2), (3, .int v3)] → W p l e rm_X10_keyAt s m args below meth c s.heap [] 0 0 (MQ below (QR (some (.int r))) args s 0 0 (fun _ => False)) (F0 m 2 ls []) := by
    intro n
    induction n with
    | zero => intro v1 v2 v3 ls hf hl; exact nn_s hf
    | succ n ih =>
      intro v1 v2 v3 ls hf hl
      refine lv_iload_n hx hb dX10_keyAt_2 rfl (lv_at hl 3 rfl) ?_
      refine lv_aload_n hx hb dX10_keyAt_3 rfl (lv_at hl 0 rfl) ?_
      refine gf_X10 (v := .ref a1) C hE hP 0 1 rfl (by decide) qF_X10_17 rfl dX10_keyAt_4 ?_
      refine lv_aload_n hx hb dX10_keyAt_7 rfl (lv_at hl 0 rfl) ?_
      refine gf_X10 (v := .int k_o) C hE hP 0 2 rfl (by decide) qF_X10_41 rfl dX10_keyAt_8 ?_
      refine lv_iconst (v := 0) hx hb dX10_keyAt_11 (by decide) ?_
      refine lv_iadd hx hb dX10_keyAt_12 ?_
      obtain ⟨g7, hf⟩ := it_g hf
      refine va_iald hx hb hE.1 hP 1 0 rfl rfl g7 dX10_keyAt_13 ?_
      refine lv_icmp_ge (tgt := 40) hx hb dX10_keyAt_14 (by decide) (fun c6 => ?_) (fun c6 => ?_)
      · have hf := it_p hf c6
        refine lv_iconst (v := (-1)) hx hb dX10_keyAt_40 (by decide) ?_
        exact rt_i C hr hlk dX10_keyAt_41 (congrArg (fun o => o.map Value.int) hf)
      · have hf := it_n hf c6
        refine lv_aload_n hx hb dX10_keyAt_17 rfl (lv_at hl 0 rfl) ?_
        refine lv_iload_n hx hb dX10_keyAt_18 rfl (lv_at hl 1 rfl) ?_
        refine lv_iload_n hx hb dX10_keyAt_19 rfl (lv_at hl 3 rfl) ?_
        obtain ⟨r1, h2, hf⟩ := bd_s hf
        refine iv_R (rest := []) (st1 := [.int r1]) C hE hP (c_X10_placeOf l D cI cZ cL cW F a0 a1 a2 a3 a4 a5 a6 k_thrown k_w k_o k_isKept k_went k_wentMany k_waiting k_came k_depth k_isSilent k_x k_packed k_hits k_rues k_soonest k_inAll v1 v3 r1  h2) ok_X10_placeOf qM_X10_61 rfl rfl ⟨(Nat.le_of_ble_eq_true rfl), (Nat.le_of_ble_eq_true rfl)⟩ rfl rfl hl.1 (Nat.le_of_ble_eq_true rfl) ⟨Nat.zero_le _, Nat.zero_le _⟩ dX10_keyAt_20 rfl rfl ?_
        refine lv_iload_n hx hb dX10_keyAt_23 rfl (lv_at hl 2 rfl) ?_
        refine lv_icmp_ne (tgt := 34) hx hb dX10_keyAt_24 (by decide) (fun c5 => ?_) (fun c5 => ?_)
        · have hf := it_n hf c5
          refine lv_iinc (v := (v3 + 1)) (lv' := [(3, .int (v3 + 1)), (0, .ref a0), (1, .int v1), (2, .int v2)]) hx hb dX10_keyAt_34 hl (k := 3) rfl rfl (by decide) rfl (fun ls hl => ?_)
          refine lv_goto (tgt := 2) hx hb dX10_keyAt_37 (by decide) ?_
          exact ih v1 v2 (v3 + 1) ls hf (lv_sub hl [1, 2, 3, 0] rfl)
        · have hf := it_p hf c5
          refine lv_aload_n hx hb dX10_keyAt_27 rfl (lv_at hl 0 rfl) ?_
          refine lv_iload_n hx hb dX10_keyAt_28 rfl (lv_at hl 3 rfl) ?_
          refine lv_iconst (v := 0) hx hb dX10_keyAt_29 (by decide) ?_
          obtain ⟨r3, h4, hf⟩ := bd_s hf
          refine iv_R (rest := []) (st1 := [.int r3]) C hE hP (c_X10_of l D cI cZ cL cW F a0 a1 a2 a3 a4 a5 a6 k_thrown k_w k_o k_isKept k_went k_wentMany k_waiting k_came k_depth k_isSilent k_x k_packed k_hits k_rues k_soonest k_inAll v3 0 r3  h4) ok_X10_of qM_X10_44 rfl rfl ⟨(Nat.le_of_ble_eq_true rfl), (Nat.le_of_ble_eq_true rfl)⟩ rfl rfl hl.1 (Nat.le_of_ble_eq_true rfl) ⟨Nat.zero_le _, Nat.zero_le _⟩ dX10_keyAt_30 rfl rfl ?_
          exact rt_i C hr hlk dX10_keyAt_33 (congrArg (fun o => o.map Value.int) hf)
  refine lv_iconst (v := 0) hx hb dX10_keyAt_0 (by decide) ?_
  refine lv_istore_n (lv' := [(3, .int 0), (0, .ref a0), (1, .int p1), (2, .int p2)]) hx hb dX10_keyAt_1 rfl hl (by decide) rfl (fun ls hl => ?_)
  exact L2 F p1 p2 0 ls hf (lv_sub hl [1, 2, 3, 0] rfl)
def X10_canGo (F : Nat) (p1 : Int32) (p2 : Int32) (k_w : (Nat → Int32)) (k_o : Int32) : Option (Int32) := (X10_of F p1 6 k_w k_o).bind fun r1 => (if (r1 : Int32) = 0 then ((X10_of F p1 0 k_w k_o).bind fun r3 => (if (r3 : Int32) = p2 then (some 0) else (some 1))) else (some 0))
abbrev rm_X10_canGo : Room := { frames := 1, cells := 0, slots := 0, locals := 22 }
theorem ok_X10_canGo : OKV RX10 yX10_canGo cX10_canGo 3 (some .boolean) 2 := ⟨by decide +kernel, qV_X10_canGo, qL_X10_canGo, qI_X10, qD_X10_canGo⟩
set_option maxHeartbeats 4000000 in
set_option maxRecDepth 100000 in
theorem c_X10_canGo (l : Launch) (D : va_G) (cI cZ cL cW : ClassId) (F : Nat) (a0 : Nat) (a1 : Nat) (a2 : Nat) (a3 : Nat) (a4 : Nat) (a5 : Nat) (a6 : Nat) (k_thrown : Int32) (k_w : (Nat → Int32)) (k_o : Int32) (k_isKept : (Nat → Int32)) (k_went : (Nat → Int32)) (k_wentMany : Int32) (k_waiting : (Nat → Int32)) (k_came : Int32) (k_depth : Int32) (k_isSilent : Int32) (k_x : Int64) (k_packed : (Nat → Int32)) (k_hits : Int32) (k_rues : Int32) (k_soonest : Int32) (k_inAll : (Nat → Int32)) (p1 : Int32) (p2 : Int32) (r : Int32) (hf : X10_canGo F p1 p2 k_w k_o = some r) : CtrR l D (tyL cI cZ cL cW) nestW yX10_canGo cX10_canGo 3 (some .boolean) rm_X10_canGo [.ref a0, .int p1, .int p2] (MX10 cI cZ cL cW a0 a1 a2 a3 a4 a5 a6 k_thrown k_w k_o k_isKept k_went k_wentMany k_waiting k_came k_depth k_isSilent k_x k_packed k_hits k_rues k_soonest k_inAll) (some (.int r)) := by
  refine ofR RX10 (by decide) rfl (Nat.le_of_ble_eq_true rfl) ?_
  intro p e s m below meth c ls C hr hlk hE hP hl
  generalize (List.toArray ([.ref a0, .int p1, .int p2] : List Value)) = args at C ⊢
  obtain ⟨hx, hb, hml, hown, ht⟩ := id C
  have hl : lv_has ls 3 [(0, .ref a0), (1, .int p1), (2, .int p2)] := hl
  refine lv_aload_n hx hb dX10_canGo_0 rfl (lv_at hl 0 rfl) ?_
  refine lv_iload_n hx hb dX10_canGo_1 rfl (lv_at hl 1 rfl) ?_
  refine lv_bipush (v := 6) hx hb dX10_canGo_2 (by decide) ?_
  obtain ⟨r1, h2, hf⟩ := bd_s hf
  refine iv_R (rest := []) (st1 := [.int r1]) C hE hP (c_X10_of l D cI cZ cL cW F a0 a1 a2 a3 a4 a5 a6 k_thrown k_w k_o k_isKept k_went k_wentMany k_waiting k_came k_depth k_isSilent k_x k_packed k_hits k_rues k_soonest k_inAll p1 6 r1  h2) ok_X10_of qM_X10_44 rfl rfl ⟨(Nat.le_of_ble_eq_true rfl), (Nat.le_of_ble_eq_true rfl)⟩ rfl rfl hl.1 (Nat.le_of_ble_eq_true rfl) ⟨Nat.zero_le _, Nat.zero_le _⟩ dX10_canGo_4 rfl rfl ?_
  refine lv_if_ne (tgt := 24) hx hb dX10_canGo_7 (by decide) (fun c6 => ?_) (fun c6 => ?_)
  · have hf := it_n hf c6
    refine lv_iconst (v := 0) hx hb dX10_canGo_24 (by decide) ?_
    exact rt_z C hr hlk (by decide) dX10_canGo_25 (congrArg (fun o => o.map Value.int) hf)
  · have hf := it_p hf c6
    refine lv_aload_n hx hb dX10_canGo_10 rfl (lv_at hl 0 rfl) ?_
    refine lv_iload_n hx hb dX10_canGo_11 rfl (lv_at hl 1 rfl) ?_
    refine lv_iconst (v := 0) hx hb dX10_canGo_12 (by decide) ?_
    obtain ⟨r3, h4, hf⟩ := bd_s hf
    refine iv_R (rest := []) (st1 := [.int r3]) C hE hP (c_X10_of l D cI cZ cL cW F a0 a1 a2 a3 a4 a5 a6 k_thrown k_w k_o k_isKept k_went k_wentMany k_waiting k_came k_depth k_isSilent k_x k_packed k_hits k_rues k_soonest k_inAll p1 0 r3  h4) ok_X10_of qM_X10_44 rfl rfl ⟨(Nat.le_of_ble_eq_true rfl), (Nat.le_of_ble_eq_true rfl)⟩ rfl rfl hl.1 (Nat.le_of_ble_eq_true rfl) ⟨Nat.zero_le _, Nat.zero_le _⟩ dX10_canGo_13 rfl rfl ?_
    refine lv_iload_n hx hb dX10_canGo_16 rfl (lv_at hl 2 rfl) ?_
    refine lv_icmp_eq (tgt := 24) hx hb dX10_canGo_17 (by decide) (fun c5 => ?_) (fun c5 => ?_)
    · have hf := it_p hf c5
      refine lv_iconst (v := 0) hx hb dX10_canGo_24 (by decide) ?_
      exact rt_z C hr hlk (by decide) dX10_canGo_25 (congrArg (fun o => o.map Value.int) hf)
    · have hf := it_n hf c5
      refine lv_iconst (v := 1) hx hb dX10_canGo_20 (by decide) ?_
      refine lv_goto (tgt := 25) hx hb dX10_canGo_21 (by decide) ?_
      exact rt_z C hr hlk (by decide) dX10_canGo_25 (congrArg (fun o => o.map Value.int) hf)
def X10_firstOf_L6 (F : Nat) : Nat → Int32 → Int32 → Int32 → Int32 → Int32 → (Nat → Int32) → Int32 → Option (Int32)
  | 0, _, _, _, _, _, _, _ => none
  | n + 1, v1, v2, v3, v4, v5, k_w, k_o => if ((k_o + 0) : Int32) < 0 ∨ 3392 ≤ (Int32.toNatClampNeg (k_o + 0)) then none else (if ((k_w (Int32.toNatClampNeg (k_o + 0))) : Int32) ≤ v5 then (some v4) else ((X10_canGo F v5 v3 k_w k_o).bind fun r1 => (if (r1 : Int32) = 0 then (X10_firstOf_L6 F n v1 v2 v3 v4 (v5 + 1) k_w k_o) else (if (v2 : Int32) = (-1) then (if (v4 : Int32) = (-1) then (X10_firstOf_L6 F n v1 v2 v3 v5 (v5 + 1) k_w k_o) else ((X10_isAhead F v1 v5 v4 k_w k_o).bind fun r3 => (if (r3 : Int32) = 0 then (X10_firstOf_L6 F n v1 v2 v3 v4 (v5 + 1) k_w k_o) else (X10_firstOf_L6 F n v1 v2 v3 v5 (v5 + 1) k_w k_o)))) else ((X10_of F v5 3 k_w k_o).bind fun r7 => (if (r7 : Int32) ≤ 1 then ((X10_flag F 0).bind fun r9 => (if (r9 : Int32) = v2 then (if (v4 : Int32) = (-1) then (X10_firstOf_L6 F n v1 v2 v3 v5 (v5 + 1) k_w k_o) else ((X10_isAhead F v1 v5 v4 k_w k_o).bind fun r11 => (if (r11 : Int32) = 0 then (X10_firstOf_L6 F n v1 v2 v3 v4 (v5 + 1) k_w k_o) else (X10_firstOf_L6 F n v1 v2 v3 v5 (v5 + 1) k_w k_o)))) else (X10_firstOf_L6 F n v1 v2 v3 v4 (v5 + 1) k_w k_o))) else ((X10_flag F 1).bind fun r16 => (if (r16 : Int32) = v2 then (if (v4 : Int32) = (-1) then (X10_firstOf_L6 F n v1 v2 v3 v5 (v5 + 1) k_w k_o) else ((X10_isAhead F v1 v5 v4 k_w k_o).bind fun r18 => (if (r18 : Int32) = 0 then (X10_firstOf_L6 F n v1 v2 v3 v4 (v5 + 1) k_w k_o) else (X10_firstOf_L6 F n v1 v2 v3 v5 (v5 + 1) k_w k_o)))) else (X10_firstOf_L6 F n v1 v2 v3 v4 (v5 + 1) k_w k_o)))))))))
def X10_firstOf (F : Nat) (p1 : Int32) (p2 : Int32) (p3 : Int32) (k_w : (Nat → Int32)) (k_o : Int32) : Option (Int32) := (X10_firstOf_L6 F F p1 p2 p3 (-1) 0 k_w k_o).bind fun x28 => (some x28)
abbrev rm_X10_firstOf : Room := { frames := 2, cells := 0, slots := 0, locals := 45 }
theorem ok_X10_firstOf : OKV RX10 yX10_firstOf cX10_firstOf 6 (some .int) 3 := ⟨by decide +kernel, qV_X10_firstOf, qL_X10_firstOf, qI_X10, qD_X10_firstOf⟩
set_option maxHeartbeats 4000000 in
set_option maxRecDepth 100000 in
theorem c_X10_firstOf (l : Launch) (D : va_G) (cI cZ cL cW : ClassId) (F : Nat) (a0 : Nat) (a1 : Nat) (a2 : Nat) (a3 : Nat) (a4 : Nat) (a5 : Nat) (a6 : Nat) (k_thrown : Int32) (k_w : (Nat → Int32)) (k_o : Int32) (k_isKept : (Nat → Int32)) (k_went : (Nat → Int32)) (k_wentMany : Int32) (k_waiting : (Nat → Int32)) (k_came : Int32) (k_depth : Int32) (k_isSilent : Int32) (k_x : Int64) (k_packed : (Nat → Int32)) (k_hits : Int32) (k_rues : Int32) (k_soonest : Int32) (k_inAll : (Nat → Int32)) (p1 : Int32) (p2 : Int32) (p3 : Int32) (r : Int32) (hf : X10_firstOf F p1 p2 p3 k_w k_o = some r) : CtrR l D (tyL cI cZ cL cW) nestW yX10_firstOf cX10_firstOf 6 (some .int) rm_X10_firstOf [.ref a0, .int p1, .int p2, .int p3] (MX10 cI cZ cL cW a0 a1 a2 a3 a4 a5 a6 k_thrown k_w k_o k_isKept k_went k_wentMany k_waiting k_came k_depth k_isSilent k_x k_packed k_hits k_rues k_soonest k_inAll) (some (.int r)) := by
  refine ofR RX10 (by decide) rfl (Nat.le_of_ble_eq_true rfl) ?_
  intro p e s m below meth c ls C hr hlk hE hP hl
  generalize (List.toArray ([.ref a0, .int p1, .int p2, .int p3] : List Value)) = args at C ⊢
  obtain ⟨hx, hb, hml, hown, ht⟩ := id C
  have hl : lv_has ls 6 [(0, .ref a0), (1, .int p1), (2, .int p2), (3, .int p3)] := hl
  have L6 : ∀ (Q : State → Prop) (n : Nat) (v1 : Int32) (v2 : Int32) (v3 : Int32) (v4 : Int32) (v5 : Int32) (x4 : Int32) (ls : Array Slot), X10_firstOf_L6 F n v1 v2 v3 v4 v5 k_w k_o = some x4 → lv_has ls 6 [(0, .ref a0), (1, .int v1), (2, .int v2), (3, .int v3), (4, .int v4), (5, .int v5)] → (∀ ls : Array Slot, lv_has ls 6 [(4, .int x4)] → W p l e rm_X10_firstOf s m args below meth c s.heap [] 0 0 Q (F0 m 91 ls [])) → W p l e rm_X10_firstOf s m args below meth c s.heap [] 0 0 Q (F0 m 6 ls []) := by
    intro Q n
    induction n with
    | zero => intro v1 v2 v3 v4 v5 x4 ls hf hl hk; exact nn_s hf
    | succ n ih =>
      intro v1 v2 v3 v4 v5 x4 ls hf hl hk
      refine lv_iload hx hb dX10_firstOf_6 (lv_at hl 5 rfl) ?_
      refine lv_aload_n hx hb dX10_firstOf_8 rfl (lv_at hl 0 rfl) ?_
      refine gf_X10 (v := .ref a1) C hE hP 0 1 rfl (by decide) qF_X10_17 rfl dX10_firstOf_9 ?_
      refine lv_aload_n hx hb dX10_firstOf_12 rfl (lv_at hl 0 rfl) ?_
      refine gf_X10 (v := .int k_o) C hE hP 0 2 rfl (by decide) qF_X10_41 rfl dX10_firstOf_13 ?_
      refine lv_iconst (v := 0) hx hb dX10_firstOf_16 (by decide) ?_
      refine lv_iadd hx hb dX10_firstOf_17 ?_
      obtain ⟨g27, hf⟩ := it_g hf
      refine va_iald hx hb hE.1 hP 1 0 rfl rfl g27 dX10_firstOf_18 ?_
      refine lv_icmp_ge (tgt := 91) hx hb dX10_firstOf_19 (by decide) (fun c26 => ?_) (fun c26 => ?_)
      · have hf := it_p hf c26
        cases hf
        exact hk ls (lv_sub hl [4] rfl)
      · have hf := it_n hf c26
        refine lv_aload_n hx hb dX10_firstOf_22 rfl (lv_at hl 0 rfl) ?_
        refine lv_iload hx hb dX10_firstOf_23 (lv_at hl 5 rfl) ?_
        refine lv_iload_n hx hb dX10_firstOf_25 rfl (lv_at hl 3 rfl) ?_
        obtain ⟨r1, h2, hf⟩ := bd_s hf
        refine iv_R (rest := []) (st1 := [.int r1]) C hE hP (c_X10_canGo l D cI cZ cL cW F a0 a1 a2 a3 a4 a5 a6 k_thrown k_w k_o k_isKept k_went k_wentMany k_waiting k_came k_depth k_isSilent k_x k_packed k_hits k_rues k_soonest k_inAll v5 v3 r1  h2) ok_X10_canGo qM_X10_64 rfl rfl ⟨(Nat.le_of_ble_eq_true rfl), (Nat.le_of_ble_eq_true rfl)⟩ rfl rfl hl.1 (Nat.le_of_ble_eq_true rfl) ⟨Nat.zero_le _, Nat.zero_le _⟩ dX10_firstOf_26 rfl rfl ?_
        refine lv_if_eq (tgt := 85) hx hb dX10_firstOf_29 (by decide) (fun c25 => ?_) (fun c25 => ?_)
        · have hf := it_p hf c25
          refine lv_iinc (v := (v5 + 1)) (lv' := [(5, .int (v5 + 1)), (0, .ref a0), (1, .int v1), (2, .int v2), (3, .int v3), (4, .int v4)]) hx hb dX10_firstOf_85 hl (k := 5) rfl rfl (by decide) rfl (fun ls hl => ?_)
          refine lv_goto (tgt := 6) hx hb dX10_firstOf_88 (by decide) ?_
          exact ih v1 v2 v3 v4 (v5 + 1) _ ls hf (lv_sub hl [1, 2, 3, 4, 5, 0] rfl) hk
        · have hf := it_n hf c25
          refine lv_iload_n hx hb dX10_firstOf_32 rfl (lv_at hl 2 rfl) ?_
          refine lv_iconst (v := (-1)) hx hb dX10_firstOf_33 (by decide) ?_
          refine lv_icmp_eq (tgt := 63) hx hb dX10_firstOf_34 (by decide) (fun c24 => ?_) (fun c24 => ?_)
          · have hf := it_p hf c24
            refine lv_iload hx hb dX10_firstOf_63 (lv_at hl 4 rfl) ?_
            refine lv_iconst (v := (-1)) hx hb dX10_firstOf_65 (by decide) ?_
            refine lv_icmp_eq (tgt := 81) hx hb dX10_firstOf_66 (by decide) (fun c6 => ?_) (fun c6 => ?_)
            · have hf := it_p hf c6
              refine lv_iload hx hb dX10_firstOf_81 (lv_at hl 5 rfl) ?_
              refine lv_istore (lv' := [(4, .int v5), (0, .ref a0), (1, .int v1), (2, .int v2), (3, .int v3), (5, .int v5)]) hx hb dX10_firstOf_83 hl (by decide) rfl (fun ls hl => ?_)
              refine lv_iinc (v := (v5 + 1)) (lv' := [(5, .int (v5 + 1)), (4, .int v5), (0, .ref a0), (1, .int v1), (2, .int v2), (3, .int v3)]) hx hb dX10_firstOf_85 hl (k := 5) rfl rfl (by decide) rfl (fun ls hl => ?_)
              refine lv_goto (tgt := 6) hx hb dX10_firstOf_88 (by decide) ?_
              exact ih v1 v2 v3 v5 (v5 + 1) _ ls hf (lv_sub hl [2, 3, 4, 5, 1, 0] rfl) hk
            · have hf := it_n hf c6
              refine lv_aload_n hx hb dX10_firstOf_69 rfl (lv_at hl 0 rfl) ?_
              refine lv_iload_n hx hb dX10_firstOf_70 rfl (lv_at hl 1 rfl) ?_
              refine lv_iload hx hb dX10_firstOf_71 (lv_at hl 5 rfl) ?_
              refine lv_iload hx hb dX10_firstOf_73 (lv_at hl 4 rfl) ?_
              obtain ⟨r3, h4, hf⟩ := bd_s hf
              refine iv_R (rest := []) (st1 := [.int r3]) C hE hP (c_X10_isAhead l D cI cZ cL cW F a0 a1 a2 a3 a4 a5 a6 k_thrown k_w k_o k_isKept k_went k_wentMany k_waiting k_came k_depth k_isSilent k_x k_packed k_hits k_rues k_soonest k_inAll v1 v5 v4 r3  h4) ok_X10_isAhead qM_X10_53 rfl rfl ⟨(Nat.le_of_ble_eq_true rfl), (Nat.le_of_ble_eq_true rfl)⟩ rfl rfl hl.1 (Nat.le_of_ble_eq_true rfl) ⟨Nat.zero_le _, Nat.zero_le _⟩ dX10_firstOf_75 rfl rfl ?_
              refine lv_if_eq (tgt := 85) hx hb dX10_firstOf_78 (by decide) (fun c5 => ?_) (fun c5 => ?_)
              · have hf := it_p hf c5
                refine lv_iinc (v := (v5 + 1)) (lv' := [(5, .int (v5 + 1)), (0, .ref a0), (1, .int v1), (2, .int v2), (3, .int v3), (4, .int v4)]) hx hb dX10_firstOf_85 hl (k := 5) rfl rfl (by decide) rfl (fun ls hl => ?_)
                refine lv_goto (tgt := 6) hx hb dX10_firstOf_88 (by decide) ?_
                exact ih v1 v2 v3 v4 (v5 + 1) _ ls hf (lv_sub hl [1, 2, 3, 4, 5, 0] rfl) hk
              · have hf := it_n hf c5
                refine lv_iload hx hb dX10_firstOf_81 (lv_at hl 5 rfl) ?_
                refine lv_istore (lv' := [(4, .int v5), (0, .ref a0), (1, .int v1), (2, .int v2), (3, .int v3), (5, .int v5)]) hx hb dX10_firstOf_83 hl (by decide) rfl (fun ls hl => ?_)
                refine lv_iinc (v := (v5 + 1)) (lv' := [(5, .int (v5 + 1)), (4, .int v5), (0, .ref a0), (1, .int v1), (2, .int v2), (3, .int v3)]) hx hb dX10_firstOf_85 hl (k := 5) rfl rfl (by decide) rfl (fun ls hl => ?_)
                refine lv_goto (tgt := 6) hx hb dX10_firstOf_88 (by decide) ?_
                exact ih v1 v2 v3 v5 (v5 + 1) _ ls hf (lv_sub hl [2, 3, 4, 5, 1, 0] rfl) hk
          · have hf := it_n hf c24
            refine lv_aload_n hx hb dX10_firstOf_37 rfl (lv_at hl 0 rfl) ?_
            refine lv_iload hx hb dX10_firstOf_38 (lv_at hl 5 rfl) ?_
            refine lv_iconst (v := 3) hx hb dX10_firstOf_40 (by decide) ?_
            obtain ⟨r7, h8, hf⟩ := bd_s hf
            refine iv_R (rest := []) (st1 := [.int r7]) C hE hP (c_X10_of l D cI cZ cL cW F a0 a1 a2 a3 a4 a5 a6 k_thrown k_w k_o k_isKept k_went k_wentMany k_waiting k_came k_depth k_isSilent k_x k_packed k_hits k_rues k_soonest k_inAll v5 3 r7  h8) ok_X10_of qM_X10_44 rfl rfl ⟨(Nat.le_of_ble_eq_true rfl), (Nat.le_of_ble_eq_true rfl)⟩ rfl rfl hl.1 (Nat.le_of_ble_eq_true rfl) ⟨Nat.zero_le _, Nat.zero_le _⟩ dX10_firstOf_41 rfl rfl ?_
            refine lv_iconst (v := 1) hx hb dX10_firstOf_44 (by decide) ?_
            refine lv_icmp_le (tgt := 52) hx hb dX10_firstOf_45 (by decide) (fun c23 => ?_) (fun c23 => ?_)
            · have hf := it_p hf c23
              refine lv_iconst (v := 0) hx hb dX10_firstOf_52 (by decide) ?_
              obtain ⟨r9, h10, hf⟩ := bd_s hf
              refine is_R (rest := []) (st1 := [.int r9]) C hE va_P_nil (c_X10_flag l D cI cZ cL cW F   0 r9  h10) ok_X10_flag qM_X10_57 rfl rfl ⟨(Nat.le_of_ble_eq_true rfl), (Nat.le_of_ble_eq_true rfl)⟩ hl.1 (Nat.le_of_ble_eq_true rfl) ⟨Nat.zero_le _, Nat.zero_le _⟩ dX10_firstOf_53 rfl rfl ?_
              refine lv_iload_n hx hb dX10_firstOf_56 rfl (lv_at hl 2 rfl) ?_
              refine lv_icmp_eq (tgt := 63) hx hb dX10_firstOf_57 (by decide) (fun c15 => ?_) (fun c15 => ?_)
              · have hf := it_p hf c15
                refine lv_iload hx hb dX10_firstOf_63 (lv_at hl 4 rfl) ?_
                refine lv_iconst (v := (-1)) hx hb dX10_firstOf_65 (by decide) ?_
                refine lv_icmp_eq (tgt := 81) hx hb dX10_firstOf_66 (by decide) (fun c14 => ?_) (fun c14 => ?_)
                · have hf := it_p hf c14
                  refine lv_iload hx hb dX10_firstOf_81 (lv_at hl 5 rfl) ?_
                  refine lv_istore (lv' := [(4, .int v5), (0, .ref a0), (1, .int v1), (2, .int v2), (3, .int v3), (5, .int v5)]) hx hb dX10_firstOf_83 hl (by decide) rfl (fun ls hl => ?_)
                  refine lv_iinc (v := (v5 + 1)) (lv' := [(5, .int (v5 + 1)), (4, .int v5), (0, .ref a0), (1, .int v1), (2, .int v2), (3, .int v3)]) hx hb dX10_firstOf_85 hl (k := 5) rfl rfl (by decide) rfl (fun ls hl => ?_)
                  refine lv_goto (tgt := 6) hx hb dX10_firstOf_88 (by decide) ?_
                  exact ih v1 v2 v3 v5 (v5 + 1) _ ls hf (lv_sub hl [2, 3, 4, 5, 1, 0] rfl) hk
                · have hf := it_n hf c14
                  refine lv_aload_n hx hb dX10_firstOf_69 rfl (lv_at hl 0 rfl) ?_
                  refine lv_iload_n hx hb dX10_firstOf_70 rfl (lv_at hl 1 rfl) ?_
                  refine lv_iload hx hb dX10_firstOf_71 (lv_at hl 5 rfl) ?_
                  refine lv_iload hx hb dX10_firstOf_73 (lv_at hl 4 rfl) ?_
                  obtain ⟨r11, h12, hf⟩ := bd_s hf
                  refine iv_R (rest := []) (st1 := [.int r11]) C hE hP (c_X10_isAhead l D cI cZ cL cW F a0 a1 a2 a3 a4 a5 a6 k_thrown k_w k_o k_isKept k_went k_wentMany k_waiting k_came k_depth k_isSilent k_x k_packed k_hits k_rues k_soonest k_inAll v1 v5 v4 r11  h12) ok_X10_isAhead qM_X10_53 rfl rfl ⟨(Nat.le_of_ble_eq_true rfl), (Nat.le_of_ble_eq_true rfl)⟩ rfl rfl hl.1 (Nat.le_of_ble_eq_true rfl) ⟨Nat.zero_le _, Nat.zero_le _⟩ dX10_firstOf_75 rfl rfl ?_
                  refine lv_if_eq (tgt := 85) hx hb dX10_firstOf_78 (by decide) (fun c13 => ?_) (fun c13 => ?_)
                  · have hf := it_p hf c13
                    refine lv_iinc (v := (v5 + 1)) (lv' := [(5, .int (v5 + 1)), (0, .ref a0), (1, .int v1), (2, .int v2), (3, .int v3), (4, .int v4)]) hx hb dX10_firstOf_85 hl (k := 5) rfl rfl (by decide) rfl (fun ls hl => ?_)
                    refine lv_goto (tgt := 6) hx hb dX10_firstOf_88 (by decide) ?_
                    exact ih v1 v2 v3 v4 (v5 + 1) _ ls hf (lv_sub hl [1, 2, 3, 4, 5, 0] rfl) hk
                  · have hf := it_n hf c13
                    refine lv_iload hx hb dX10_firstOf_81 (lv_at hl 5 rfl) ?_
                    refine lv_istore (lv' := [(4, .int v5), (0, .ref a0), (1, .int v1), (2, .int v2), (3, .int v3), (5, .int v5)]) hx hb dX10_firstOf_83 hl (by decide) rfl (fun ls hl => ?_)
                    refine lv_iinc (v := (v5 + 1)) (lv' := [(5, .int (v5 + 1)), (4, .int v5), (0, .ref a0), (1, .int v1), (2, .int v2), (3, .int v3)]) hx hb dX10_firstOf_85 hl (k := 5) rfl rfl (by decide) rfl (fun ls hl => ?_)
                    refine lv_goto (tgt := 6) hx hb dX10_firstOf_88 (by decide) ?_
                    exact ih v1 v2 v3 v5 (v5 + 1) _ ls hf (lv_sub hl [2, 3, 4, 5, 1, 0] rfl) hk
              · have hf := it_n hf c15
                refine lv_goto (tgt := 85) hx hb dX10_firstOf_60 (by decide) ?_
                refine lv_iinc (v := (v5 + 1)) (lv' := [(5, .int (v5 + 1)), (0, .ref a0), (1, .int v1), (2, .int v2), (3, .int v3), (4, .int v4)]) hx hb dX10_firstOf_85 hl (k := 5) rfl rfl (by decide) rfl (fun ls hl => ?_)
                refine lv_goto (tgt := 6) hx hb dX10_firstOf_88 (by decide) ?_
                exact ih v1 v2 v3 v4 (v5 + 1) _ ls hf (lv_sub hl [1, 2, 3, 4, 5, 0] rfl) hk
            · have hf := it_n hf c23
              refine lv_iconst (v := 1) hx hb dX10_firstOf_48 (by decide) ?_
              refine lv_goto (tgt := 53) hx hb dX10_firstOf_49 (by decide) ?_
              obtain ⟨r16, h17, hf⟩ := bd_s hf
              refine is_R (rest := []) (st1 := [.int r16]) C hE va_P_nil (c_X10_flag l D cI cZ cL cW F   1 r16  h17) ok_X10_flag qM_X10_57 rfl rfl ⟨(Nat.le_of_ble_eq_true rfl), (Nat.le_of_ble_eq_true rfl)⟩ hl.1 (Nat.le_of_ble_eq_true rfl) ⟨Nat.zero_le _, Nat.zero_le _⟩ dX10_firstOf_53 rfl rfl ?_
              refine lv_iload_n hx hb dX10_firstOf_56 rfl (lv_at hl 2 rfl) ?_
              refine lv_icmp_eq (tgt := 63) hx hb dX10_firstOf_57 (by decide) (fun c22 => ?_) (fun c22 => ?_)
              · have hf := it_p hf c22
                refine lv_iload hx hb dX10_firstOf_63 (lv_at hl 4 rfl) ?_
                refine lv_iconst (v := (-1)) hx hb dX10_firstOf_65 (by decide) ?_
                refine lv_icmp_eq (tgt := 81) hx hb dX10_firstOf_66 (by decide) (fun c21 => ?_) (fun c21 => ?_)
                · have hf := it_p hf c21
                  refine lv_iload hx hb dX10_firstOf_81 (lv_at hl 5 rfl) ?_
                  refine lv_istore (lv' := [(4, .int v5), (0, .ref a0), (1, .int v1), (2, .int v2), (3, .int v3), (5, .int v5)]) hx hb dX10_firstOf_83 hl (by decide) rfl (fun ls hl => ?_)
                  refine lv_iinc (v := (v5 + 1)) (lv' := [(5, .int (v5 + 1)), (4, .int v5), (0, .ref a0), (1, .int v1), (2, .int v2), (3, .int v3)]) hx hb dX10_firstOf_85 hl (k := 5) rfl rfl (by decide) rfl (fun ls hl => ?_)
                  refine lv_goto (tgt := 6) hx hb dX10_firstOf_88 (by decide) ?_
                  exact ih v1 v2 v3 v5 (v5 + 1) _ ls hf (lv_sub hl [2, 3, 4, 5, 1, 0] rfl) hk
                · have hf := it_n hf c21
                  refine lv_aload_n hx hb dX10_firstOf_69 rfl (lv_at hl 0 rfl) ?_
                  refine lv_iload_n hx hb dX10_firstOf_70 rfl (lv_at hl 1 rfl) ?_
                  refine lv_iload hx hb dX10_firstOf_71 (lv_at hl 5 rfl) ?_
                  refine lv_iload hx hb dX10_firstOf_73 (lv_at hl 4 rfl) ?_
                  obtain ⟨r18, h19, hf⟩ := bd_s hf
                  refine iv_R (rest := []) (st1 := [.int r18]) C hE hP (c_X10_isAhead l D cI cZ cL cW F a0 a1 a2 a3 a4 a5 a6 k_thrown k_w k_o k_isKept k_went k_wentMany k_waiting k_came k_depth k_isSilent k_x k_packed k_hits k_rues k_soonest k_inAll v1 v5 v4 r18  h19) ok_X10_isAhead qM_X10_53 rfl rfl ⟨(Nat.le_of_ble_eq_true rfl), (Nat.le_of_ble_eq_true rfl)⟩ rfl rfl hl.1 (Nat.le_of_ble_eq_true rfl) ⟨Nat.zero_le _, Nat.zero_le _⟩ dX10_firstOf_75 rfl rfl ?_
                  refine lv_if_eq (tgt := 85) hx hb dX10_firstOf_78 (by decide) (fun c20 => ?_) (fun c20 => ?_)
                  · have hf := it_p hf c20
                    refine lv_iinc (v := (v5 + 1)) (lv' := [(5, .int (v5 + 1)), (0, .ref a0), (1, .int v1), (2, .int v2), (3, .int v3), (4, .int v4)]) hx hb dX10_firstOf_85 hl (k := 5) rfl rfl (by decide) rfl (fun ls hl => ?_)
                    refine lv_goto (tgt := 6) hx hb dX10_firstOf_88 (by decide) ?_
                    exact ih v1 v2 v3 v4 (v5 + 1) _ ls hf (lv_sub hl [1, 2, 3, 4, 5, 0] rfl) hk
                  · have hf := it_n hf c20
                    refine lv_iload hx hb dX10_firstOf_81 (lv_at hl 5 rfl) ?_
                    refine lv_istore (lv' := [(4, .int v5), (0, .ref a0), (1, .int v1), (2, .int v2), (3, .int v3), (5, .int v5)]) hx hb dX10_firstOf_83 hl (by decide) rfl (fun ls hl => ?_)
                    refine lv_iinc (v := (v5 + 1)) (lv' := [(5, .int (v5 + 1)), (4, .int v5), (0, .ref a0), (1, .int v1), (2, .int v2), (3, .int v3)]) hx hb dX10_firstOf_85 hl (k := 5) rfl rfl (by decide) rfl (fun ls hl => ?_)
                    refine lv_goto (tgt := 6) hx hb dX10_firstOf_88 (by decide) ?_
                    exact ih v1 v2 v3 v5 (v5 + 1) _ ls hf (lv_sub hl [2, 3, 4, 5, 1, 0] rfl) hk
              · have hf := it_n hf c22
                refine lv_goto (tgt := 85) hx hb dX10_firstOf_60 (by decide) ?_
                refine lv_iinc (v := (v5 + 1)) (lv' := [(5, .int (v5 + 1)), (0, .ref a0), (1, .int v1), (2, .int v2), (3, .int v3), (4, .int v4)]) hx hb dX10_firstOf_85 hl (k := 5) rfl rfl (by decide) rfl (fun ls hl => ?_)
                refine lv_goto (tgt := 6) hx hb dX10_firstOf_88 (by decide) ?_
                exact ih v1 v2 v3 v4 (v5 + 1) _ ls hf (lv_sub hl [1, 2, 3, 4, 5, 0] rfl) hk
  refine lv_iconst (v := (-1)) hx hb dX10_firstOf_0 (by decide) ?_
  refine lv_istore (lv' := [(4, .int (-1)), (0, .ref a0), (1, .int p1), (2, .int p2), (3, .int p3)]) hx hb dX10_firstOf_1 hl (by decide) rfl (fun ls hl => ?_)
  refine lv_iconst (v := 0) hx hb dX10_firstOf_3 (by decide) ?_
  refine lv_istore (lv' := [(5, .int 0), (4, .int (-1)), (0, .ref a0), (1, .int p1), (2, .int p2), (3, .int p3)]) hx hb dX10_firstOf_4 hl (by decide) rfl (fun ls hl => ?_)
  obtain ⟨x28, h29, hf⟩ := bd_s hf
  refine L6 _ F p1 p2 p3 (-1) 0 x28 ls h29 (lv_sub hl [2, 3, 4, 5, 1, 0] rfl) (fun ls hl => ?_)
  refine lv_iload hx hb dX10_firstOf_91 (lv_at hl 0 rfl) ?_
  exact rt_i C hr hlk dX10_firstOf_93 (congrArg (fun o => o.map Value.int) hf)
def X10_heaviest_L4 (F : Nat) : Nat → Int32 → Int32 → Int32 → (Nat → Int32) → Int32 → Option (Int32)
  | 0, _, _, _, _, _ => none
  | n + 1, v1, v2, v3, k_w, k_o => if ((k_o + 0) : Int32) < 0 ∨ 3392 ≤ (Int32.toNatClampNeg (k_o + 0)) then none else (if ((k_w (Int32.toNatClampNeg (k_o + 0))) : Int32) ≤ v3 then (some v2) else ((X10_canGo F v3 v1 k_w k_o).bind fun r1 => (if (r1 : Int32) = 0 then (X10_heaviest_L4 F n v1 v2 (v3 + 1) k_w k_o) else (if (v2 : Int32) = (-1) then (X10_heaviest_L4 F n v1 v3 (v3 + 1) k_w k_o) else ((X10_of F v3 2 k_w k_o).bind fun r3 => ((X10_of F v2 2 k_w k_o).bind fun r5 => (if (r5 : Int32) < r3 then (X10_heaviest_L4 F n v1 v3 (v3 + 1) k_w k_o) else ((X10_of F v3 2 k_w k_o).bind fun r7 => ((X10_of F v2 2 k_w k_o).bind fun r9 => (if (r7 : Int32) = r9 then ((X10_isAhead F 0 v3 v2 k_w k_o).bind fun r11 => (if (r11 : Int32) = 0 then (X10_heaviest_L4 F n v1 v2 (v3 + 1) k_w k_o) else (X10_heaviest_L4 F n v1 v3 (v3 + 1) k_w k_o))) else (X10_heaviest_L4 F n v1 v2 (v3 + 1) k_w k_o)))))))))))
def X10_heaviest (F : Nat) (p1 : Int32) (k_w : (Nat → Int32)) (k_o : Int32) : Option (Int32) := (X10_heaviest_L4 F F p1 (-1) 0 k_w k_o).bind fun x20 => (some x20)
abbrev rm_X10_heaviest : Room := { frames := 2, cells := 0, slots := 0, locals := 45 }
theorem ok_X10_heaviest : OKV RX10 yX10_heaviest cX10_heaviest 4 (some .int) 1 := ⟨by decide +kernel, qV_X10_heaviest, qL_X10_heaviest, qI_X10, qD_X10_heaviest⟩
set_option maxHeartbeats 4000000 in
set_option maxRecDepth 100000 in
theorem c_X10_heaviest (l : Launch) (D : va_G) (cI cZ cL cW : ClassId) (F : Nat) (a0 : Nat) (a1 : Nat) (a2 : Nat) (a3 : Nat) (a4 : Nat) (a5 : Nat) (a6 : Nat) (k_thrown : Int32) (k_w : (Nat → Int32)) (k_o : Int32) (k_isKept : (Nat → Int32)) (k_went : (Nat → Int32)) (k_wentMany : Int32) (k_waiting : (Nat → Int32)) (k_came : Int32) (k_depth : Int32) (k_isSilent : Int32) (k_x : Int64) (k_packed : (Nat → Int32)) (k_hits : Int32) (k_rues : Int32) (k_soonest : Int32) (k_inAll : (Nat → Int32)) (p1 : Int32) (r : Int32) (hf : X10_heaviest F p1 k_w k_o = some r) : CtrR l D (tyL cI cZ cL cW) nestW yX10_heaviest cX10_heaviest 4 (some .int) rm_X10_heaviest [.ref a0, .int p1] (MX10 cI cZ cL cW a0 a1 a2 a3 a4 a5 a6 k_thrown k_w k_o k_isKept k_went k_wentMany k_waiting k_came k_depth k_isSilent k_x k_packed k_hits k_rues k_soonest k_inAll) (some (.int r)) := by
  refine ofR RX10 (by decide) rfl (Nat.le_of_ble_eq_true rfl) ?_
  intro p e s m below meth c ls C hr hlk hE hP hl
  generalize (List.toArray ([.ref a0, .int p1] : List Value)) = args at C ⊢
  obtain ⟨hx, hb, hml, hown, ht⟩ := id C
  have hl : lv_has ls 4 [(0, .ref a0), (1, .int p1)] := hl
  have L4 : ∀ (Q : State → Prop) (n : Nat) (v1 : Int32) (v2 : Int32) (v3 : Int32) (x2 : Int32) (ls : Array Slot), X10_heaviest_L4 F n v1 v2 v3 k_w k_o = some x2 → lv_has ls 4 [(0, .ref a0), (1, .int v1), (2, .int v2), (3, .int v3)] → (∀ ls : Array Slot, lv_has ls 4 [(2, .int x2)] → W p l e rm_X10_heaviest s m args below meth c s.heap [] 0 0 Q (F0 m 84 ls [])) → W p l e rm_X10_heaviest s m args below meth c s.heap [] 0 0 Q (F0 m 4 ls []) := by
    intro Q n
    induction n with
    | zero => intro v1 v2 v3 x2 ls hf hl hk; exact nn_s hf
    | succ n ih =>
      intro v1 v2 v3 x2 ls hf hl hk
      refine lv_iload_n hx hb dX10_heaviest_4 rfl (lv_at hl 3 rfl) ?_
      refine lv_aload_n hx hb dX10_heaviest_5 rfl (lv_at hl 0 rfl) ?_
      refine gf_X10 (v := .ref a1) C hE hP 0 1 rfl (by decide) qF_X10_17 rfl dX10_heaviest_6 ?_
      refine lv_aload_n hx hb dX10_heaviest_9 rfl (lv_at hl 0 rfl) ?_
      refine gf_X10 (v := .int k_o) C hE hP 0 2 rfl (by decide) qF_X10_41 rfl dX10_heaviest_10 ?_
      refine lv_iconst (v := 0) hx hb dX10_heaviest_13 (by decide) ?_
      refine lv_iadd hx hb dX10_heaviest_14 ?_
      obtain ⟨g19, hf⟩ := it_g hf
      refine va_iald hx hb hE.1 hP 1 0 rfl rfl g19 dX10_heaviest_15 ?_
      refine lv_icmp_ge (tgt := 84) hx hb dX10_heaviest_16 (by decide) (fun c18 => ?_) (fun c18 => ?_)
      · have hf := it_p hf c18
        cases hf
        exact hk ls (lv_sub hl [2] rfl)
      · have hf := it_n hf c18
        refine lv_aload_n hx hb dX10_heaviest_19 rfl (lv_at hl 0 rfl) ?_
        refine lv_iload_n hx hb dX10_heaviest_20 rfl (lv_at hl 3 rfl) ?_
        refine lv_iload_n hx hb dX10_heaviest_21 rfl (lv_at hl 1 rfl) ?_
        obtain ⟨r1, h2, hf⟩ := bd_s hf
        refine iv_R (rest := []) (st1 := [.int r1]) C hE hP (c_X10_canGo l D cI cZ cL cW F a0 a1 a2 a3 a4 a5 a6 k_thrown k_w k_o k_isKept k_went k_wentMany k_waiting k_came k_depth k_isSilent k_x k_packed k_hits k_rues k_soonest k_inAll v3 v1 r1  h2) ok_X10_canGo qM_X10_64 rfl rfl ⟨(Nat.le_of_ble_eq_true rfl), (Nat.le_of_ble_eq_true rfl)⟩ rfl rfl hl.1 (Nat.le_of_ble_eq_true rfl) ⟨Nat.zero_le _, Nat.zero_le _⟩ dX10_heaviest_22 rfl rfl ?_
        refine lv_if_ne (tgt := 31) hx hb dX10_heaviest_25 (by decide) (fun c17 => ?_) (fun c17 => ?_)
        · have hf := it_n hf c17
          refine lv_iload_n hx hb dX10_heaviest_31 rfl (lv_at hl 2 rfl) ?_
          refine lv_iconst (v := (-1)) hx hb dX10_heaviest_32 (by decide) ?_
          refine lv_icmp_eq (tgt := 76) hx hb dX10_heaviest_33 (by decide) (fun c16 => ?_) (fun c16 => ?_)
          · have hf := it_p hf c16
            refine lv_iload_n hx hb dX10_heaviest_76 rfl (lv_at hl 3 rfl) ?_
            refine lv_istore_n (lv' := [(2, .int v3), (0, .ref a0), (1, .int v1), (3, .int v3)]) hx hb dX10_heaviest_77 rfl hl (by decide) rfl (fun ls hl => ?_)
            refine lv_iinc (v := (v3 + 1)) (lv' := [(3, .int (v3 + 1)), (2, .int v3), (0, .ref a0), (1, .int v1)]) hx hb dX10_heaviest_78 hl (k := 3) rfl rfl (by decide) rfl (fun ls hl => ?_)
            refine lv_goto (tgt := 4) hx hb dX10_heaviest_81 (by decide) ?_
            exact ih v1 v3 (v3 + 1) _ ls hf (lv_sub hl [2, 3, 1, 0] rfl) hk
          · have hf := it_n hf c16
            refine lv_aload_n hx hb dX10_heaviest_36 rfl (lv_at hl 0 rfl) ?_
            refine lv_iload_n hx hb dX10_heaviest_37 rfl (lv_at hl 3 rfl) ?_
            refine lv_iconst (v := 2) hx hb dX10_heaviest_38 (by decide) ?_
            obtain ⟨r3, h4, hf⟩ := bd_s hf
            refine iv_R (rest := []) (st1 := [.int r3]) C hE hP (c_X10_of l D cI cZ cL cW F a0 a1 a2 a3 a4 a5 a6 k_thrown k_w k_o k_isKept k_went k_wentMany k_waiting k_came k_depth k_isSilent k_x k_packed k_hits k_rues k_soonest k_inAll v3 2 r3  h4) ok_X10_of qM_X10_44 rfl rfl ⟨(Nat.le_of_ble_eq_true rfl), (Nat.le_of_ble_eq_true rfl)⟩ rfl rfl hl.1 (Nat.le_of_ble_eq_true rfl) ⟨Nat.zero_le _, Nat.zero_le _⟩ dX10_heaviest_39 rfl rfl ?_
            refine lv_aload_n hx hb dX10_heaviest_42 rfl (lv_at hl 0 rfl) ?_
            refine lv_iload_n hx hb dX10_heaviest_43 rfl (lv_at hl 2 rfl) ?_
            refine lv_iconst (v := 2) hx hb dX10_heaviest_44 (by decide) ?_
            obtain ⟨r5, h6, hf⟩ := bd_s hf
            refine iv_R (rest := [.int r3]) (st1 := [.int r5, .int r3]) C hE hP (c_X10_of l D cI cZ cL cW F a0 a1 a2 a3 a4 a5 a6 k_thrown k_w k_o k_isKept k_went k_wentMany k_waiting k_came k_depth k_isSilent k_x k_packed k_hits k_rues k_soonest k_inAll v2 2 r5  h6) ok_X10_of qM_X10_44 rfl rfl ⟨(Nat.le_of_ble_eq_true rfl), (Nat.le_of_ble_eq_true rfl)⟩ rfl rfl hl.1 (Nat.le_of_ble_eq_true rfl) ⟨Nat.zero_le _, Nat.zero_le _⟩ dX10_heaviest_45 rfl rfl ?_
            refine lv_icmp_gt (tgt := 76) hx hb dX10_heaviest_48 (by decide) (fun c15 => ?_) (fun c15 => ?_)
            · have hf := it_p hf c15
              refine lv_iload_n hx hb dX10_heaviest_76 rfl (lv_at hl 3 rfl) ?_
              refine lv_istore_n (lv' := [(2, .int v3), (0, .ref a0), (1, .int v1), (3, .int v3)]) hx hb dX10_heaviest_77 rfl hl (by decide) rfl (fun ls hl => ?_)
              refine lv_iinc (v := (v3 + 1)) (lv' := [(3, .int (v3 + 1)), (2, .int v3), (0, .ref a0), (1, .int v1)]) hx hb dX10_heaviest_78 hl (k := 3) rfl rfl (by decide) rfl (fun ls hl => ?_)
              refine lv_goto (tgt := 4) hx hb dX10_heaviest_81 (by decide) ?_
              exact ih v1 v3 (v3 + 1) _ ls hf (lv_sub hl [2, 3, 1, 0] rfl) hk
            · have hf := it_n hf c15
              refine lv_aload_n hx hb dX10_heaviest_51 rfl (lv_at hl 0 rfl) ?_
              refine lv_iload_n hx hb dX10_heaviest_52 rfl (lv_at hl 3 rfl) ?_
              refine lv_iconst (v := 2) hx hb dX10_heaviest_53 (by decide) ?_
              obtain ⟨r7, h8, hf⟩ := bd_s hf
              refine iv_R (rest := []) (st1 := [.int r7]) C hE hP (c_X10_of l D cI cZ cL cW F a0 a1 a2 a3 a4 a5 a6 k_thrown k_w k_o k_isKept k_went k_wentMany k_waiting k_came k_depth k_isSilent k_x k_packed k_hits k_rues k_soonest k_inAll v3 2 r7  h8) ok_X10_of qM_X10_44 rfl rfl ⟨(Nat.le_of_ble_eq_true rfl), (Nat.le_of_ble_eq_true rfl)⟩ rfl rfl hl.1 (Nat.le_of_ble_eq_true rfl) ⟨Nat.zero_le _, Nat.zero_le _⟩ dX10_heaviest_54 rfl rfl ?_
              refine lv_aload_n hx hb dX10_heaviest_57 rfl (lv_at hl 0 rfl) ?_
              refine lv_iload_n hx hb dX10_heaviest_58 rfl (lv_at hl 2 rfl) ?_
              refine lv_iconst (v := 2) hx hb dX10_heaviest_59 (by decide) ?_
              obtain ⟨r9, h10, hf⟩ := bd_s hf
              refine iv_R (rest := [.int r7]) (st1 := [.int r9, .int r7]) C hE hP (c_X10_of l D cI cZ cL cW F a0 a1 a2 a3 a4 a5 a6 k_thrown k_w k_o k_isKept k_went k_wentMany k_waiting k_came k_depth k_isSilent k_x k_packed k_hits k_rues k_soonest k_inAll v2 2 r9  h10) ok_X10_of qM_X10_44 rfl rfl ⟨(Nat.le_of_ble_eq_true rfl), (Nat.le_of_ble_eq_true rfl)⟩ rfl rfl hl.1 (Nat.le_of_ble_eq_true rfl) ⟨Nat.zero_le _, Nat.zero_le _⟩ dX10_heaviest_60 rfl rfl ?_
              refine lv_icmp_ne (tgt := 78) hx hb dX10_heaviest_63 (by decide) (fun c14 => ?_) (fun c14 => ?_)
              · have hf := it_n hf c14
                refine lv_iinc (v := (v3 + 1)) (lv' := [(3, .int (v3 + 1)), (0, .ref a0), (1, .int v1), (2, .int v2)]) hx hb dX10_heaviest_78 hl (k := 3) rfl rfl (by decide) rfl (fun ls hl => ?_)
                refine lv_goto (tgt := 4) hx hb dX10_heaviest_81 (by decide) ?_
                exact ih v1 v2 (v3 + 1) _ ls hf (lv_sub hl [1, 2, 3, 0] rfl) hk
              · have hf := it_p hf c14
                refine lv_aload_n hx hb dX10_heaviest_66 rfl (lv_at hl 0 rfl) ?_
                refine lv_iconst (v := 0) hx hb dX10_heaviest_67 (by decide) ?_
                refine lv_iload_n hx hb dX10_heaviest_68 rfl (lv_at hl 3 rfl) ?_
                refine lv_iload_n hx hb dX10_heaviest_69 rfl (lv_at hl 2 rfl) ?_
                obtain ⟨r11, h12, hf⟩ := bd_s hf
                refine iv_R (rest := []) (st1 := [.int r11]) C hE hP (c_X10_isAhead l D cI cZ cL cW F a0 a1 a2 a3 a4 a5 a6 k_thrown k_w k_o k_isKept k_went k_wentMany k_waiting k_came k_depth k_isSilent k_x k_packed k_hits k_rues k_soonest k_inAll 0 v3 v2 r11  h12) ok_X10_isAhead qM_X10_53 rfl rfl ⟨(Nat.le_of_ble_eq_true rfl), (Nat.le_of_ble_eq_true rfl)⟩ rfl rfl hl.1 (Nat.le_of_ble_eq_true rfl) ⟨Nat.zero_le _, Nat.zero_le _⟩ dX10_heaviest_70 rfl rfl ?_
                refine lv_if_eq (tgt := 78) hx hb dX10_heaviest_73 (by decide) (fun c13 => ?_) (fun c13 => ?_)
                · have hf := it_p hf c13
                  refine lv_iinc (v := (v3 + 1)) (lv' := [(3, .int (v3 + 1)), (0, .ref a0), (1, .int v1), (2, .int v2)]) hx hb dX10_heaviest_78 hl (k := 3) rfl rfl (by decide) rfl (fun ls hl => ?_)
                  refine lv_goto (tgt := 4) hx hb dX10_heaviest_81 (by decide) ?_
                  exact ih v1 v2 (v3 + 1) _ ls hf (lv_sub hl [1, 2, 3, 0] rfl) hk
                · have hf := it_n hf c13
                  refine lv_iload_n hx hb dX10_heaviest_76 rfl (lv_at hl 3 rfl) ?_
                  refine lv_istore_n (lv' := [(2, .int v3), (0, .ref a0), (1, .int v1), (3, .int v3)]) hx hb dX10_heaviest_77 rfl hl (by decide) rfl (fun ls hl => ?_)
                  refine lv_iinc (v := (v3 + 1)) (lv' := [(3, .int (v3 + 1)), (2, .int v3), (0, .ref a0), (1, .int v1)]) hx hb dX10_heaviest_78 hl (k := 3) rfl rfl (by decide) rfl (fun ls hl => ?_)
                  refine lv_goto (tgt := 4) hx hb dX10_heaviest_81 (by decide) ?_
                  exact ih v1 v3 (v3 + 1) _ ls hf (lv_sub hl [2, 3, 1, 0] rfl) hk
        · have hf := it_p hf c17
          refine lv_goto (tgt := 78) hx hb dX10_heaviest_28 (by decide) ?_
          refine lv_iinc (v := (v3 + 1)) (lv' := [(3, .int (v3 + 1)), (0, .ref a0), (1, .int v1), (2, .int v2)]) hx hb dX10_heaviest_78 hl (k := 3) rfl rfl (by decide) rfl (fun ls hl => ?_)
          refine lv_goto (tgt := 4) hx hb dX10_heaviest_81 (by decide) ?_
          exact ih v1 v2 (v3 + 1) _ ls hf (lv_sub hl [1, 2, 3, 0] rfl) hk
  refine lv_iconst (v := (-1)) hx hb dX10_heaviest_0 (by decide) ?_
  refine lv_istore_n (lv' := [(2, .int (-1)), (0, .ref a0), (1, .int p1)]) hx hb dX10_heaviest_1 rfl hl (by decide) rfl (fun ls hl => ?_)
  refine lv_iconst (v := 0) hx hb dX10_heaviest_2 (by decide) ?_
  refine lv_istore_n (lv' := [(3, .int 0), (2, .int (-1)), (0, .ref a0), (1, .int p1)]) hx hb dX10_heaviest_3 rfl hl (by decide) rfl (fun ls hl => ?_)
  obtain ⟨x20, h21, hf⟩ := bd_s hf
  refine L4 _ F p1 (-1) 0 x20 ls h21 (lv_sub hl [2, 3, 1, 0] rfl) (fun ls hl => ?_)
  refine lv_iload_n hx hb dX10_heaviest_84 rfl (lv_at hl 0 rfl) ?_
  exact rt_i C hr hlk dX10_heaviest_85 (congrArg (fun o => o.map Value.int) hf)
def X10_byBalance_L4 (F : Nat) : Nat → Int32 → Int32 → Int32 → (Nat → Int32) → Int32 → Option (Int32)
  | 0, _, _, _, _, _ => none
  | n + 1, v1, v2, v3, k_w, k_o => if ((k_o + 0) : Int32) < 0 ∨ 3392 ≤ (Int32.toNatClampNeg (k_o + 0)) then none else (if ((k_w (Int32.toNatClampNeg (k_o + 0))) : Int32) ≤ v3 then (some v2) else ((X10_of F v3 3 k_w k_o).bind fun r1 => (if (r1 : Int32) = 1 then ((X10_of F v3 2 k_w k_o).bind fun r3 => (X10_byBalance_L4 F n v1 (v2 + r3) (v3 + 1) k_w k_o)) else (X10_byBalance_L4 F n v1 (v2 + 0) (v3 + 1) k_w k_o))))
def X10_byBalance (F : Nat) (p1 : Int32) (k_w : (Nat → Int32)) (k_o : Int32) : Option (Int32) := (X10_byBalance_L4 F F p1 0 0 k_w k_o).bind fun x8 => (if ((k_o + 3) : Int32) < 0 ∨ 3392 ≤ (Int32.toNatClampNeg (k_o + 3)) then none else (if (x8 : Int32) ≤ (k_w (Int32.toNatClampNeg (k_o + 3))) then ((X10_firstOf F 0 1 p1 k_w k_o).bind fun r10 => (if (r10 : Int32) = (-1) then ((X10_firstOf F 0 (1 - 1) p1 k_w k_o).bind fun r12 => (some r12)) else (some r10))) else ((X10_firstOf F 0 0 p1 k_w k_o).bind fun r15 => (if (r15 : Int32) = (-1) then ((X10_firstOf F 0 (1 - 0) p1 k_w k_o).bind fun r17 => (some r17)) else (some r15)))))
abbrev rm_X10_byBalance : Room := { frames := 3, cells := 0, slots := 0, locals := 70 }
theorem ok_X10_byBalance : OKV RX10 yX10_byBalance cX10_byBalance 5 (some .int) 1 := ⟨by decide +kernel, qV_X10_byBalance, qL_X10_byBalance, qI_X10, qD_X10_byBalance⟩
set_option maxHeartbeats 4000000 in
set_option maxRecDepth 100000 in
theorem c_X10_byBalance (l : Launch) (D : va_G) (cI cZ cL cW : ClassId) (F : Nat) (a0 : Nat) (a1 : Nat) (a2 : Nat) (a3 : Nat) (a4 : Nat) (a5 : Nat) (a6 : Nat) (k_thrown : Int32) (k_w : (Nat → Int32)) (k_o : Int32) (k_isKept : (Nat → Int32)) (k_went : (Nat → Int32)) (k_wentMany : Int32) (k_waiting : (Nat → Int32)) (k_came : Int32) (k_depth : Int32) (k_isSilent : Int32) (k_x : Int64) (k_packed : (Nat → Int32)) (k_hits : Int32) (k_rues : Int32) (k_soonest : Int32) (k_inAll : (Nat → Int32)) (p1 : Int32) (r : Int32) (hf : X10_byBalance F p1 k_w k_o = some r) : CtrR l D (tyL cI cZ cL cW) nestW yX10_byBalance cX10_byBalance 5 (some .int) rm_X10_byBalance [.ref a0, .int p1] (MX10 cI cZ cL cW a0 a1 a2 a3 a4 a5 a6 k_thrown k_w k_o k_isKept k_went k_wentMany k_waiting k_came k_depth k_isSilent k_x k_packed k_hits k_rues k_soonest k_inAll) (some (.int r)) := by
  refine ofR RX10 (by decide) rfl (Nat.le_of_ble_eq_true rfl) ?_
  intro p e s m below meth c ls C hr hlk hE hP hl
  generalize (List.toArray ([.ref a0, .int p1] : List Value)) = args at C ⊢
  obtain ⟨hx, hb, hml, hown, ht⟩ := id C
  have hl : lv_has ls 5 [(0, .ref a0), (1, .int p1)] := hl
  have L4 : ∀ (Q : State → Prop) (n : Nat) (v1 : Int32) (v2 : Int32) (v3 : Int32) (x2 : Int32) (ls : Array Slot), X10_byBalance_L4 F n v1 v2 v3 k_w k_o = some x2 → lv_has ls 5 [(0, .ref a0), (1, .int v1), (2, .int v2), (3, .int v3)] → (∀ ls : Array Slot, lv_has ls 5 [(0, .ref a0), (1, .int v1), (2, .int x2)] → W p l e rm_X10_byBalance s m args below meth c s.heap [] 0 0 Q (F0 m 48 ls [])) → W p l e rm_X10_byBalance s m args below meth c s.heap [] 0 0 Q (F0 m 4 ls []) := by
    intro Q n
    induction n with
    | zero => intro v1 v2 v3 x2 ls hf hl hk; exact nn_s hf
    | succ n ih =>
      intro v1 v2 v3 x2 ls hf hl hk
      refine lv_iload_n hx hb dX10_byBalance_4 rfl (lv_at hl 3 rfl) ?_
      refine lv_aload_n hx hb dX10_byBalance_5 rfl (lv_at hl 0 rfl) ?_
      refine gf_X10 (v := .ref a1) C hE hP 0 1 rfl (by decide) qF_X10_17 rfl dX10_byBalance_6 ?_
      refine lv_aload_n hx hb dX10_byBalance_9 rfl (lv_at hl 0 rfl) ?_
      refine gf_X10 (v := .int k_o) C hE hP 0 2 rfl (by decide) qF_X10_41 rfl dX10_byBalance_10 ?_
      refine lv_iconst (v := 0) hx hb dX10_byBalance_13 (by decide) ?_
      refine lv_iadd hx hb dX10_byBalance_14 ?_
      obtain ⟨g7, hf⟩ := it_g hf
      refine va_iald hx hb hE.1 hP 1 0 rfl rfl g7 dX10_byBalance_15 ?_
      refine lv_icmp_ge (tgt := 48) hx hb dX10_byBalance_16 (by decide) (fun c6 => ?_) (fun c6 => ?_)
      · have hf := it_p hf c6
        cases hf
        exact hk ls (lv_sub hl [0, 1, 2] rfl)
      · have hf := it_n hf c6
        refine lv_iload_n hx hb dX10_byBalance_19 rfl (lv_at hl 2 rfl) ?_
        refine lv_aload_n hx hb dX10_byBalance_20 rfl (lv_at hl 0 rfl) ?_
        refine lv_iload_n hx hb dX10_byBalance_21 rfl (lv_at hl 3 rfl) ?_
        refine lv_iconst (v := 3) hx hb dX10_byBalance_22 (by decide) ?_
        obtain ⟨r1, h2, hf⟩ := bd_s hf
        refine iv_R (rest := [.int v2]) (st1 := [.int r1, .int v2]) C hE hP (c_X10_of l D cI cZ cL cW F a0 a1 a2 a3 a4 a5 a6 k_thrown k_w k_o k_isKept k_went k_wentMany k_waiting k_came k_depth k_isSilent k_x k_packed k_hits k_rues k_soonest k_inAll v3 3 r1  h2) ok_X10_of qM_X10_44 rfl rfl ⟨(Nat.le_of_ble_eq_true rfl), (Nat.le_of_ble_eq_true rfl)⟩ rfl rfl hl.1 (Nat.le_of_ble_eq_true rfl) ⟨Nat.zero_le _, Nat.zero_le _⟩ dX10_byBalance_23 rfl rfl ?_
        refine lv_iconst (v := 1) hx hb dX10_byBalance_26 (by decide) ?_
        refine lv_icmp_ne (tgt := 39) hx hb dX10_byBalance_27 (by decide) (fun c5 => ?_) (fun c5 => ?_)
        · have hf := it_n hf c5
          refine lv_iconst (v := 0) hx hb dX10_byBalance_39 (by decide) ?_
          refine lv_iadd hx hb dX10_byBalance_40 ?_
          refine lv_istore_n (lv' := [(2, .int (v2 + 0)), (0, .ref a0), (1, .int v1), (3, .int v3)]) hx hb dX10_byBalance_41 rfl hl (by decide) rfl (fun ls hl => ?_)
          refine lv_iinc (v := (v3 + 1)) (lv' := [(3, .int (v3 + 1)), (2, .int (v2 + 0)), (0, .ref a0), (1, .int v1)]) hx hb dX10_byBalance_42 hl (k := 3) rfl rfl (by decide) rfl (fun ls hl => ?_)
          refine lv_goto (tgt := 4) hx hb dX10_byBalance_45 (by decide) ?_
          exact ih v1 (v2 + 0) (v3 + 1) _ ls hf (lv_sub hl [2, 3, 1, 0] rfl) hk
        · have hf := it_p hf c5
          refine lv_aload_n hx hb dX10_byBalance_30 rfl (lv_at hl 0 rfl) ?_
          refine lv_iload_n hx hb dX10_byBalance_31 rfl (lv_at hl 3 rfl) ?_
          refine lv_iconst (v := 2) hx hb dX10_byBalance_32 (by decide) ?_
          obtain ⟨r3, h4, hf⟩ := bd_s hf
          refine iv_R (rest := [.int v2]) (st1 := [.int r3, .int v2]) C hE hP (c_X10_of l D cI cZ cL cW F a0 a1 a2 a3 a4 a5 a6 k_thrown k_w k_o k_isKept k_went k_wentMany k_waiting k_came k_depth k_isSilent k_x k_packed k_hits k_rues k_soonest k_inAll v3 2 r3  h4) ok_X10_of qM_X10_44 rfl rfl ⟨(Nat.le_of_ble_eq_true rfl), (Nat.le_of_ble_eq_true rfl)⟩ rfl rfl hl.1 (Nat.le_of_ble_eq_true rfl) ⟨Nat.zero_le _, Nat.zero_le _⟩ dX10_byBalance_33 rfl rfl ?_
          refine lv_goto (tgt := 40) hx hb dX10_byBalance_36 (by decide) ?_
          refine lv_iadd hx hb dX10_byBalance_40 ?_
          refine lv_istore_n (lv' := [(2, .int (v2 + r3)), (0, .ref a0), (1, .int v1), (3, .int v3)]) hx hb dX10_byBalance_41 rfl hl (by decide) rfl (fun ls hl => ?_)
          refine lv_iinc (v := (v3 + 1)) (lv' := [(3, .int (v3 + 1)), (2, .int (v2 + r3)), (0, .ref a0), (1, .int v1)]) hx hb dX10_byBalance_42 hl (k := 3) rfl rfl (by decide) rfl (fun ls hl => ?_)
          refine lv_goto (tgt := 4) hx hb dX10_byBalance_45 (by decide) ?_
          exact ih v1 (v2 + r3) (v3 + 1) _ ls hf (lv_sub hl [2, 3, 1, 0] rfl) hk
  refine lv_iconst (v := 0) hx hb dX10_byBalance_0 (by decide) ?_
  refine lv_istore_n (lv' := [(2, .int 0), (0, .ref a0), (1, .int p1)]) hx hb dX10_byBalance_1 rfl hl (by decide) rfl (fun ls hl => ?_)
  refine lv_iconst (v := 0) hx hb dX10_byBalance_2 (by decide) ?_
  refine lv_istore_n (lv' := [(3, .int 0), (2, .int 0), (0, .ref a0), (1, .int p1)]) hx hb dX10_byBalance_3 rfl hl (by decide) rfl (fun ls hl => ?_)
  obtain ⟨x8, h9, hf⟩ := bd_s hf
  refine L4 _ F p1 0 0 x8 ls h9 (lv_sub hl [2, 3, 1, 0] rfl) (fun ls hl => ?_)
  refine lv_iload_n hx hb dX10_byBalance_48 rfl (lv_at hl 2 rfl) ?_
  refine lv_aload_n hx hb dX10_byBalance_49 rfl (lv_at hl 0 rfl) ?_
  refine gf_X10 (v := .ref a1) C hE hP 0 1 rfl (by decide) qF_X10_17 rfl dX10_byBalance_50 ?_
  refine lv_aload_n hx hb dX10_byBalance_53 rfl (lv_at hl 0 rfl) ?_
  refine gf_X10 (v := .int k_o) C hE hP 0 2 rfl (by decide) qF_X10_41 rfl dX10_byBalance_54 ?_
  refine lv_iconst (v := 3) hx hb dX10_byBalance_57 (by decide) ?_
  refine lv_iadd hx hb dX10_byBalance_58 ?_
  obtain ⟨g21, hf⟩ := it_g hf
  refine va_iald hx hb hE.1 hP 1 0 rfl rfl g21 dX10_byBalance_59 ?_
  refine lv_icmp_le (tgt := 67) hx hb dX10_byBalance_60 (by decide) (fun c20 => ?_) (fun c20 => ?_)
  · have hf := it_p hf c20
    refine lv_iconst (v := 1) hx hb dX10_byBalance_67 (by decide) ?_
    refine lv_istore_n (lv' := [(3, .int 1), (0, .ref a0), (1, .int p1), (2, .int x8)]) hx hb dX10_byBalance_68 rfl hl (by decide) rfl (fun ls hl => ?_)
    refine lv_aload_n hx hb dX10_byBalance_69 rfl (lv_at hl 1 rfl) ?_
    refine lv_iconst (v := 0) hx hb dX10_byBalance_70 (by decide) ?_
    refine lv_iload_n hx hb dX10_byBalance_71 rfl (lv_at hl 0 rfl) ?_
    refine lv_iload_n hx hb dX10_byBalance_72 rfl (lv_at hl 2 rfl) ?_
    obtain ⟨r10, h11, hf⟩ := bd_s hf
    refine iv_R (rest := []) (st1 := [.int r10]) C hE hP (c_X10_firstOf l D cI cZ cL cW F a0 a1 a2 a3 a4 a5 a6 k_thrown k_w k_o k_isKept k_went k_wentMany k_waiting k_came k_depth k_isSilent k_x k_packed k_hits k_rues k_soonest k_inAll 0 1 p1 r10  h11) ok_X10_firstOf qM_X10_68 rfl rfl ⟨(Nat.le_of_ble_eq_true rfl), (Nat.le_of_ble_eq_true rfl)⟩ rfl rfl hl.1 (Nat.le_of_ble_eq_true rfl) ⟨Nat.zero_le _, Nat.zero_le _⟩ dX10_byBalance_73 rfl rfl ?_
    refine lv_istore (lv' := [(4, .int r10), (3, .int 1), (0, .ref a0), (1, .int p1), (2, .int x8)]) hx hb dX10_byBalance_76 hl (by decide) rfl (fun ls hl => ?_)
    refine lv_iload hx hb dX10_byBalance_78 (lv_at hl 0 rfl) ?_
    refine lv_iconst (v := (-1)) hx hb dX10_byBalance_80 (by decide) ?_
    refine lv_icmp_eq (tgt := 89) hx hb dX10_byBalance_81 (by decide) (fun c14 => ?_) (fun c14 => ?_)
    · have hf := it_p hf c14
      refine lv_aload_n hx hb dX10_byBalance_89 rfl (lv_at hl 2 rfl) ?_
      refine lv_iconst (v := 0) hx hb dX10_byBalance_90 (by decide) ?_
      refine lv_iconst (v := 1) hx hb dX10_byBalance_91 (by decide) ?_
      refine lv_iload_n hx hb dX10_byBalance_92 rfl (lv_at hl 1 rfl) ?_
      refine lv_isub hx hb dX10_byBalance_93 ?_
      refine lv_iload_n hx hb dX10_byBalance_94 rfl (lv_at hl 3 rfl) ?_
      obtain ⟨r12, h13, hf⟩ := bd_s hf
      refine iv_R (rest := []) (st1 := [.int r12]) C hE hP (c_X10_firstOf l D cI cZ cL cW F a0 a1 a2 a3 a4 a5 a6 k_thrown k_w k_o k_isKept k_went k_wentMany k_waiting k_came k_depth k_isSilent k_x k_packed k_hits k_rues k_soonest k_inAll 0 (1 - 1) p1 r12  h13) ok_X10_firstOf qM_X10_68 rfl rfl ⟨(Nat.le_of_ble_eq_true rfl), (Nat.le_of_ble_eq_true rfl)⟩ rfl rfl hl.1 (Nat.le_of_ble_eq_true rfl) ⟨Nat.zero_le _, Nat.zero_le _⟩ dX10_byBalance_95 rfl rfl ?_
      exact rt_i C hr hlk dX10_byBalance_98 (congrArg (fun o => o.map Value.int) hf)
    · have hf := it_n hf c14
      refine lv_iload hx hb dX10_byBalance_84 (lv_at hl 0 rfl) ?_
      refine lv_goto (tgt := 98) hx hb dX10_byBalance_86 (by decide) ?_
      exact rt_i C hr hlk dX10_byBalance_98 (congrArg (fun o => o.map Value.int) hf)
  · have hf := it_n hf c20
    refine lv_iconst (v := 0) hx hb dX10_byBalance_63 (by decide) ?_
    refine lv_goto (tgt := 68) hx hb dX10_byBalance_64 (by decide) ?_
    refine lv_istore_n (lv' := [(3, .int 0), (0, .ref a0), (1, .int p1), (2, .int x8)]) hx hb dX10_byBalance_68 rfl hl (by decide) rfl (fun ls hl => ?_)
    refine lv_aload_n hx hb dX10_byBalance_69 rfl (lv_at hl 1 rfl) ?_
    refine lv_iconst (v := 0) hx hb dX10_byBalance_70 (by decide) ?_
    refine lv_iload_n hx hb dX10_byBalance_71 rfl (lv_at hl 0 rfl) ?_
    refine lv_iload_n hx hb dX10_byBalance_72 rfl (lv_at hl 2 rfl) ?_
    obtain ⟨r15, h16, hf⟩ := bd_s hf
    refine iv_R (rest := []) (st1 := [.int r15]) C hE hP (c_X10_firstOf l D cI cZ cL cW F a0 a1 a2 a3 a4 a5 a6 k_thrown k_w k_o k_isKept k_went k_wentMany k_waiting k_came k_depth k_isSilent k_x k_packed k_hits k_rues k_soonest k_inAll 0 0 p1 r15  h16) ok_X10_firstOf qM_X10_68 rfl rfl ⟨(Nat.le_of_ble_eq_true rfl), (Nat.le_of_ble_eq_true rfl)⟩ rfl rfl hl.1 (Nat.le_of_ble_eq_true rfl) ⟨Nat.zero_le _, Nat.zero_le _⟩ dX10_byBalance_73 rfl rfl ?_
    refine lv_istore (lv' := [(4, .int r15), (3, .int 0), (0, .ref a0), (1, .int p1), (2, .int x8)]) hx hb dX10_byBalance_76 hl (by decide) rfl (fun ls hl => ?_)
    refine lv_iload hx hb dX10_byBalance_78 (lv_at hl 0 rfl) ?_
    refine lv_iconst (v := (-1)) hx hb dX10_byBalance_80 (by decide) ?_
    refine lv_icmp_eq (tgt := 89) hx hb dX10_byBalance_81 (by decide) (fun c19 => ?_) (fun c19 => ?_)
    · have hf := it_p hf c19
      refine lv_aload_n hx hb dX10_byBalance_89 rfl (lv_at hl 2 rfl) ?_
      refine lv_iconst (v := 0) hx hb dX10_byBalance_90 (by decide) ?_
      refine lv_iconst (v := 1) hx hb dX10_byBalance_91 (by decide) ?_
      refine lv_iload_n hx hb dX10_byBalance_92 rfl (lv_at hl 1 rfl) ?_
      refine lv_isub hx hb dX10_byBalance_93 ?_
      refine lv_iload_n hx hb dX10_byBalance_94 rfl (lv_at hl 3 rfl) ?_
      obtain ⟨r17, h18, hf⟩ := bd_s hf
      refine iv_R (rest := []) (st1 := [.int r17]) C hE hP (c_X10_firstOf l D cI cZ cL cW F a0 a1 a2 a3 a4 a5 a6 k_thrown k_w k_o k_isKept k_went k_wentMany k_waiting k_came k_depth k_isSilent k_x k_packed k_hits k_rues k_soonest k_inAll 0 (1 - 0) p1 r17  h18) ok_X10_firstOf qM_X10_68 rfl rfl ⟨(Nat.le_of_ble_eq_true rfl), (Nat.le_of_ble_eq_true rfl)⟩ rfl rfl hl.1 (Nat.le_of_ble_eq_true rfl) ⟨Nat.zero_le _, Nat.zero_le _⟩ dX10_byBalance_95 rfl rfl ?_
      exact rt_i C hr hlk dX10_byBalance_98 (congrArg (fun o => o.map Value.int) hf)
    · have hf := it_n hf c19
      refine lv_iload hx hb dX10_byBalance_84 (lv_at hl 0 rfl) ?_
      refine lv_goto (tgt := 98) hx hb dX10_byBalance_86 (by decide) ?_
      exact rt_i C hr hlk dX10_byBalance_98 (congrArg (fun o => o.map Value.int) hf)
def X10_chosen (F : Nat) (p1 : Int32) (p2 : Int32) (k_w : (Nat → Int32)) (k_o : Int32) : Option (Int32) := if p1 = 0 then ((X10_firstOf F 0 (-1) p2 k_w k_o).bind fun r2 => (some r2)) else (if p1 = 1 then ((X10_firstOf F 1 (-1) p2 k_w k_o).bind fun r5 => (some r5)) else (if p1 = 2 then (if ((k_o + 16) : Int32) < 0 ∨ 3392 ≤ (Int32.toNatClampNeg (k_o + 16)) then none else ((X10_firstOf F ((k_w (Int32.toNatClampNeg (k_o + 16))) - (k_w (Int32.toNatClampNeg (k_o + 16))) / 2 * 2) (-1) p2 k_w k_o).bind fun r8 => (some r8))) else (if p1 = 3 then ((X10_heaviest F p2 k_w k_o).bind fun r12 => (some r12)) else ((X10_byBalance F p2 k_w k_o).bind fun r14 => (some r14)))))
abbrev rm_X10_chosen : Room := { frames := 4, cells := 0, slots := 0, locals := 94 }
theorem ok_X10_chosen : OKV RX10 yX10_chosen cX10_chosen 3 (some .int) 2 := ⟨by decide +kernel, qV_X10_chosen, qL_X10_chosen, qI_X10, qD_X10_chosen⟩
set_option maxHeartbeats 4000000 in
set_option maxRecDepth 100000 in
theorem c_X10_chosen (l : Launch) (D : va_G) (cI cZ cL cW : ClassId) (F : Nat) (a0 : Nat) (a1 : Nat) (a2 : Nat) (a3 : Nat) (a4 : Nat) (a5 : Nat) (a6 : Nat) (k_thrown : Int32) (k_w : (Nat → Int32)) (k_o : Int32) (k_isKept : (Nat → Int32)) (k_went : (Nat → Int32)) (k_wentMany : Int32) (k_waiting : (Nat → Int32)) (k_came : Int32) (k_depth : Int32) (k_isSilent : Int32) (k_x : Int64) (k_packed : (Nat → Int32)) (k_hits : Int32) (k_rues : Int32) (k_soonest : Int32) (k_inAll : (Nat → Int32)) (p1 : Int32) (p2 : Int32) (r : Int32) (hf : X10_chosen F p1 p2 k_w k_o = some r) : CtrR l D (tyL cI cZ cL cW) nestW yX10_chosen cX10_chosen 3 (some .int) rm_X10_chosen [.ref a0, .int p1, .int p2] (MX10 cI cZ cL cW a0 a1 a2 a3 a4 a5 a6 k_thrown k_w k_o k_isKept k_went k_wentMany k_waiting k_came k_depth k_isSilent k_x k_packed k_hits k_rues k_soonest k_inAll) (some (.int r)) := by
  refine ofR RX10 (by decide) rfl (Nat.le_of_ble_eq_true rfl) ?_
  intro p e s m below meth c ls C hr hlk hE hP hl
  generalize (List.toArray ([.ref a0, .int p1, .int p2] : List Value)) = args at C ⊢
  obtain ⟨hx, hb, hml, hown, ht⟩ := id C
  have hl : lv_has ls 3 [(0, .ref a0), (1, .int p1), (2, .int p2)] := hl
  refine lv_iload_n hx hb dX10_chosen_0 rfl (lv_at hl 1 rfl) ?_
  by_cases e1 : p1 = 0
  · have hf := it_p hf e1
    refine lv_tableIn (off := 31) (tgt := 32) hx hb dX10_chosen_1 (by rw [e1]; decide) (by rw [e1]; decide) (by rw [e1]; decide) (by decide) ?_
    refine lv_aload_n hx hb dX10_chosen_32 rfl (lv_at hl 0 rfl) ?_
    refine lv_iconst (v := 0) hx hb dX10_chosen_33 (by decide) ?_
    refine lv_iconst (v := (-1)) hx hb dX10_chosen_34 (by decide) ?_
    refine lv_iload_n hx hb dX10_chosen_35 rfl (lv_at hl 2 rfl) ?_
    obtain ⟨r2, h3, hf⟩ := bd_s hf
    refine iv_R (rest := []) (st1 := [.int r2]) C hE hP (c_X10_firstOf l D cI cZ cL cW F a0 a1 a2 a3 a4 a5 a6 k_thrown k_w k_o k_isKept k_went k_wentMany k_waiting k_came k_depth k_isSilent k_x k_packed k_hits k_rues k_soonest k_inAll 0 (-1) p2 r2  h3) ok_X10_firstOf qM_X10_68 rfl rfl ⟨(Nat.le_of_ble_eq_true rfl), (Nat.le_of_ble_eq_true rfl)⟩ rfl rfl hl.1 (Nat.le_of_ble_eq_true rfl) ⟨Nat.zero_le _, Nat.zero_le _⟩ dX10_chosen_36 rfl rfl ?_
    exact rt_i C hr hlk dX10_chosen_39 (congrArg (fun o => o.map Value.int) hf)
  have hf := it_n hf e1
  by_cases e4 : p1 = 1
  · have hf := it_p hf e4
    refine lv_tableIn (off := 39) (tgt := 40) hx hb dX10_chosen_1 (by rw [e4]; decide) (by rw [e4]; decide) (by rw [e4]; decide) (by decide) ?_
    refine lv_aload_n hx hb dX10_chosen_40 rfl (lv_at hl 0 rfl) ?_
    refine lv_iconst (v := 1) hx hb dX10_chosen_41 (by decide) ?_
    refine lv_iconst (v := (-1)) hx hb dX10_chosen_42 (by decide) ?_
    refine lv_iload_n hx hb dX10_chosen_43 rfl (lv_at hl 2 rfl) ?_
    obtain ⟨r5, h6, hf⟩ := bd_s hf
    refine iv_R (rest := []) (st1 := [.int r5]) C hE hP (c_X10_firstOf l D cI cZ cL cW F a0 a1 a2 a3 a4 a5 a6 k_thrown k_w k_o k_isKept k_went k_wentMany k_waiting k_came k_depth k_isSilent k_x k_packed k_hits k_rues k_soonest k_inAll 1 (-1) p2 r5  h6) ok_X10_firstOf qM_X10_68 rfl rfl ⟨(Nat.le_of_ble_eq_true rfl), (Nat.le_of_ble_eq_true rfl)⟩ rfl rfl hl.1 (Nat.le_of_ble_eq_true rfl) ⟨Nat.zero_le _, Nat.zero_le _⟩ dX10_chosen_44 rfl rfl ?_
    exact rt_i C hr hlk dX10_chosen_47 (congrArg (fun o => o.map Value.int) hf)
  have hf := it_n hf e4
  by_cases e7 : p1 = 2
  · have hf := it_p hf e7
    refine lv_tableIn (off := 47) (tgt := 48) hx hb dX10_chosen_1 (by rw [e7]; decide) (by rw [e7]; decide) (by rw [e7]; decide) (by decide) ?_
    refine lv_aload_n hx hb dX10_chosen_48 rfl (lv_at hl 0 rfl) ?_
    refine lv_aload_n hx hb dX10_chosen_49 rfl (lv_at hl 0 rfl) ?_
    refine gf_X10 (v := .ref a1) C hE hP 0 1 rfl (by decide) qF_X10_17 rfl dX10_chosen_50 ?_
    refine lv_aload_n hx hb dX10_chosen_53 rfl (lv_at hl 0 rfl) ?_
    refine gf_X10 (v := .int k_o) C hE hP 0 2 rfl (by decide) qF_X10_41 rfl dX10_chosen_54 ?_
    refine lv_bipush (v := 16) hx hb dX10_chosen_57 (by decide) ?_
    refine lv_iadd hx hb dX10_chosen_59 ?_
    obtain ⟨g10, hf⟩ := it_g hf
    refine va_iald hx hb hE.1 hP 1 0 rfl rfl g10 dX10_chosen_60 ?_
    refine lv_iconst (v := 2) hx hb dX10_chosen_61 (by decide) ?_
    refine lv_irem hx hb dX10_chosen_62 (by decide) ?_
    refine lv_iconst (v := (-1)) hx hb dX10_chosen_63 (by decide) ?_
    refine lv_iload_n hx hb dX10_chosen_64 rfl (lv_at hl 2 rfl) ?_
    obtain ⟨r8, h9, hf⟩ := bd_s hf
    refine iv_R (rest := []) (st1 := [.int r8]) C hE hP (c_X10_firstOf l D cI cZ cL cW F a0 a1 a2 a3 a4 a5 a6 k_thrown k_w k_o k_isKept k_went k_wentMany k_waiting k_came k_depth k_isSilent k_x k_packed k_hits k_rues k_soonest k_inAll ((k_w (Int32.toNatClampNeg (k_o + 16))) - (k_w (Int32.toNatClampNeg (k_o + 16))) / 2 * 2) (-1) p2 r8  h9) ok_X10_firstOf qM_X10_68 rfl rfl ⟨(Nat.le_of_ble_eq_true rfl), (Nat.le_of_ble_eq_true rfl)⟩ rfl rfl hl.1 (Nat.le_of_ble_eq_true rfl) ⟨Nat.zero_le _, Nat.zero_le _⟩ dX10_chosen_65 rfl rfl ?_
    exact rt_i C hr hlk dX10_chosen_68 (congrArg (fun o => o.map Value.int) hf)
  have hf := it_n hf e7
  by_cases e11 : p1 = 3
  · have hf := it_p hf e11
    refine lv_tableIn (off := 68) (tgt := 69) hx hb dX10_chosen_1 (by rw [e11]; decide) (by rw [e11]; decide) (by rw [e11]; decide) (by decide) ?_
    refine lv_aload_n hx hb dX10_chosen_69 rfl (lv_at hl 0 rfl) ?_
    refine lv_iload_n hx hb dX10_chosen_70 rfl (lv_at hl 2 rfl) ?_
    obtain ⟨r12, h13, hf⟩ := bd_s hf
    refine iv_R (rest := []) (st1 := [.int r12]) C hE hP (c_X10_heaviest l D cI cZ cL cW F a0 a1 a2 a3 a4 a5 a6 k_thrown k_w k_o k_isKept k_went k_wentMany k_waiting k_came k_depth k_isSilent k_x k_packed k_hits k_rues k_soonest k_inAll p2 r12  h13) ok_X10_heaviest qM_X10_72 rfl rfl ⟨(Nat.le_of_ble_eq_true rfl), (Nat.le_of_ble_eq_true rfl)⟩ rfl rfl hl.1 (Nat.le_of_ble_eq_true rfl) ⟨Nat.zero_le _, Nat.zero_le _⟩ dX10_chosen_71 rfl rfl ?_
    exact rt_i C hr hlk dX10_chosen_74 (congrArg (fun o => o.map Value.int) hf)
  have hf := it_n hf e11
  refine lv_tableOut (tgt := 75) hx hb dX10_chosen_1 (tw_e (tw_s (tw_s (tw_s (tw_s (tw_0 _ 0) e1) e4) e7) e11)) (by decide) ?_
  refine lv_aload_n hx hb dX10_chosen_75 rfl (lv_at hl 0 rfl) ?_
  refine lv_iload_n hx hb dX10_chosen_76 rfl (lv_at hl 2 rfl) ?_
  obtain ⟨r14, h15, hf⟩ := bd_s hf
  refine iv_R (rest := []) (st1 := [.int r14]) C hE hP (c_X10_byBalance l D cI cZ cL cW F a0 a1 a2 a3 a4 a5 a6 k_thrown k_w k_o k_isKept k_went k_wentMany k_waiting k_came k_depth k_isSilent k_x k_packed k_hits k_rues k_soonest k_inAll p2 r14  h15) ok_X10_byBalance qM_X10_76 rfl rfl ⟨(Nat.le_of_ble_eq_true rfl), (Nat.le_of_ble_eq_true rfl)⟩ rfl rfl hl.1 (Nat.le_of_ble_eq_true rfl) ⟨Nat.zero_le _, Nat.zero_le _⟩ dX10_chosen_77 rfl rfl ?_
  exact rt_i C hr hlk dX10_chosen_80 (congrArg (fun o => o.map Value.int) hf)
def X10_ghostAt (F : Nat) (p1 : Int32) (p2 : Int32) (k_o : Int32) : Option (Int32) := some (((k_o + 444) + (16 * p1)) + p2)
abbrev rm_X10_ghostAt : Room := { frames := 0, cells := 0, slots := 0, locals := 0 }
theorem ok_X10_ghostAt : OKV RX10 yX10_ghostAt cX10_ghostAt 3 (some .int) 2 := ⟨by decide +kernel, qV_X10_ghostAt, qL_X10_ghostAt, qI_X10, qD_X10_ghostAt⟩
set_option maxHeartbeats 4000000 in
set_option maxRecDepth 100000 in
theorem c_X10_ghostAt (l : Launch) (D : va_G) (cI cZ cL cW : ClassId) (F : Nat) (a0 : Nat) (a1 : Nat) (a2 : Nat) (a3 : Nat) (a4 : Nat) (a5 : Nat) (a6 : Nat) (k_thrown : Int32) (k_w : (Nat → Int32)) (k_o : Int32) (k_isKept : (Nat → Int32)) (k_went : (Nat → Int32)) (k_wentMany : Int32) (k_waiting : (Nat → Int32)) (k_came : Int32) (k_depth : Int32) (k_isSilent : Int32) (k_x : Int64) (k_packed : (Nat → Int32)) (k_hits : Int32) (k_rues : Int32) (k_soonest : Int32) (k_inAll : (Nat → Int32)) (p1 : Int32) (p2 : Int32) (r : Int32) (hf : X10_ghostAt F p1 p2 k_o = some r) : CtrR l D (tyL cI cZ cL cW) nestW yX10_ghostAt cX10_ghostAt 3 (some .int) rm_X10_ghostAt [.ref a0, .int p1, .int p2] (MX10 cI cZ cL cW a0 a1 a2 a3 a4 a5 a6 k_thrown k_w k_o k_isKept k_went k_wentMany k_waiting k_came k_depth k_isSilent k_x k_packed k_hits k_rues k_soonest k_inAll) (some (.int r)) := by
  refine ofR RX10 (by decide) rfl (Nat.le_of_ble_eq_true rfl) ?_
  intro p e s m below meth c ls C hr hlk hE hP hl
  generalize (List.toArray ([.ref a0, .int p1, .int p2] : List Value)) = args at C ⊢
  obtain ⟨hx, hb, hml, hown, ht⟩ := id C
  have hl : lv_has ls 3 [(0, .ref a0), (1, .int p1), (2, .int p2)] := hl
  refine lv_aload_n hx hb dX10_ghostAt_0 rfl (lv_at hl 0 rfl) ?_
  refine gf_X10 (v := .int k_o) C hE hP 0 2 rfl (by decide) qF_X10_41 rfl dX10_ghostAt_1 ?_
  refine lv_sipush (v := 444) hx hb dX10_ghostAt_4 (by decide) ?_
  refine lv_iadd hx hb dX10_ghostAt_7 ?_
  refine lv_bipush (v := 16) hx hb dX10_ghostAt_8 (by decide) ?_
  refine lv_iload_n hx hb dX10_ghostAt_10 rfl (lv_at hl 1 rfl) ?_
  refine lv_imul hx hb dX10_ghostAt_11 ?_
  refine lv_iadd hx hb dX10_ghostAt_12 ?_
  refine lv_iload_n hx hb dX10_ghostAt_13 rfl (lv_at hl 2 rfl) ?_
  refine lv_iadd hx hb dX10_ghostAt_14 ?_
  exact rt_i C hr hlk dX10_ghostAt_15 (congrArg (fun o => o.map Value.int) hf)
def X10_ghostOf_L2 (F : Nat) : Nat → Int32 → Int32 → Int32 → (Nat → Int32) → Int32 → Option (Int32)
  | 0, _, _, _, _, _ => none
  | n + 1, v1, v2, v3, k_w, k_o => if (((k_o + 19) + v1) : Int32) < 0 ∨ 3392 ≤ (Int32.toNatClampNeg ((k_o + 19) + v1)) then none else (if ((k_w (Int32.toNatClampNeg ((k_o + 19) + v1))) : Int32) ≤ v3 then (some (-1)) else ((X10_ghostAt F v1 v3 k_o).bind fun r1 => (if (r1 : Int32) < 0 ∨ 3392 ≤ (Int32.toNatClampNeg r1) then none else (if ((k_w (Int32.toNatClampNeg r1)) : Int32) = v2 then (some v3) else (X10_ghostOf_L2 F n v1 v2 (v3 + 1) k_w k_o)))))
def X10_ghostOf (F : Nat) (p1 : Int32) (p2 : Int32) (k_w : (Nat → Int32)) (k_o : Int32) : Option (Int32) := X10_ghostOf_L2 F F p1 p2 0 k_w k_o
abbrev rm_X10_ghostOf : Room := { frames := 1, cells := 0, slots := 0, locals := 22 }
theorem ok_X10_ghostOf : OKV RX10 yX10_ghostOf cX10_ghostOf 4 (some .int) 2 := ⟨by decide +kernel, qV_X10_ghostOf, qL_X10_ghostOf, qI_X10, qD_X10_ghostOf⟩
set_option maxHeartbeats 4000000 in
set_option maxRecDepth 100000 in
theorem c_X10_ghostOf (l : Launch) (D : va_G) (cI cZ cL cW : ClassId) (F : Nat) (a0 : Nat) (a1 : Nat) (a2 : Nat) (a3 : Nat) (a4 : Nat) (a5 : Nat) (a6 : Nat) (k_thrown : Int32) (k_w : (Nat → Int32)) (k_o : Int32) (k_isKept : (Nat → Int32)) (k_went : (Nat → Int32)) (k_wentMany : Int32) (k_waiting : (Nat → Int32)) (k_came : Int32) (k_depth : Int32) (k_isSilent : Int32) (k_x : Int64) (k_packed : (Nat → Int32)) (k_hits : Int32) (k_rues : Int32) (k_soonest : Int32) (k_inAll : (Nat → Int32)) (p1 : Int32) (p2 : Int32) (r : Int32) (hf : X10_ghostOf F p1 p2 k_w k_o = some r) : CtrR l D (tyL cI cZ cL cW) nestW yX10_ghostOf cX10_ghostOf 4 (some .int) rm_X10_ghostOf [.ref a0, .int p1, .int p2] (MX10 cI cZ cL cW a0 a1 a2 a3 a4 a5 a6 k_thrown k_w k_o k_isKept k_went k_wentMany k_waiting k_came k_depth k_isSilent k_x k_packed k_hits k_rues k_soonest k_inAll) (some (.int r)) := by
  refine ofR RX10 (by decide) rfl (Nat.le_of_ble_eq_true rfl) ?_
  intro p e s m below meth c ls C hr hlk hE hP hl
  generalize (List.toArray ([.ref a0, .int p1, .int p2] : List Value)) = args at C ⊢
  obtain ⟨hx, hb, hml, hown, ht⟩ := id C
  have hl : lv_has ls 4 [(0, .ref a0), (1, .int p1), (2, .int p2)] := hl
  have L2 : ∀ (n : Nat) (v1 : Int32) (v2 : Int32) (v3 : Int32) (ls : Array Slot), X10_ghostOf_L2 F n v1 v2 v3 k_w k_o = some r → lv_has ls 4 [(0, .ref a0), (1, .int v1), (2, .int v2), (3, .int v3)] → W p l e rm_X10_ghostOf s m args below meth c s.heap [] 0 0 (MQ below (QR (some (.int r))) args s 0 0 (fun _ => False)) (F0 m 2 ls []) := by
    intro n
    induction n with
    | zero => intro v1 v2 v3 ls hf hl; exact nn_s hf
    | succ n ih =>
      intro v1 v2 v3 ls hf hl
      refine lv_iload_n hx hb dX10_ghostOf_2 rfl (lv_at hl 3 rfl) ?_
      refine lv_aload_n hx hb dX10_ghostOf_3 rfl (lv_at hl 0 rfl) ?_
      refine gf_X10 (v := .ref a1) C hE hP 0 1 rfl (by decide) qF_X10_17 rfl dX10_ghostOf_4 ?_
      refine lv_aload_n hx hb dX10_ghostOf_7 rfl (lv_at hl 0 rfl) ?_
      refine gf_X10 (v := .int k_o) C hE hP 0 2 rfl (by decide) qF_X10_41 rfl dX10_ghostOf_8 ?_
      refine lv_bipush (v := 19) hx hb dX10_ghostOf_11 (by decide) ?_
      refine lv_iadd hx hb dX10_ghostOf_13 ?_
      refine lv_iload_n hx hb dX10_ghostOf_14 rfl (lv_at hl 1 rfl) ?_
      refine lv_iadd hx hb dX10_ghostOf_15 ?_
      obtain ⟨g6, hf⟩ := it_g hf
      refine va_iald hx hb hE.1 hP 1 0 rfl rfl g6 dX10_ghostOf_16 ?_
      refine lv_icmp_ge (tgt := 43) hx hb dX10_ghostOf_17 (by decide) (fun c5 => ?_) (fun c5 => ?_)
      · have hf := it_p hf c5
        refine lv_iconst (v := (-1)) hx hb dX10_ghostOf_43 (by decide) ?_
        exact rt_i C hr hlk dX10_ghostOf_44 (congrArg (fun o => o.map Value.int) hf)
      · have hf := it_n hf c5
        refine lv_aload_n hx hb dX10_ghostOf_20 rfl (lv_at hl 0 rfl) ?_
        refine gf_X10 (v := .ref a1) C hE hP 0 1 rfl (by decide) qF_X10_17 rfl dX10_ghostOf_21 ?_
        refine lv_aload_n hx hb dX10_ghostOf_24 rfl (lv_at hl 0 rfl) ?_
        refine lv_iload_n hx hb dX10_ghostOf_25 rfl (lv_at hl 1 rfl) ?_
        refine lv_iload_n hx hb dX10_ghostOf_26 rfl (lv_at hl 3 rfl) ?_
        obtain ⟨r1, h2, hf⟩ := bd_s hf
        refine iv_R (rest := [.ref a1]) (st1 := [.int r1, .ref a1]) C hE hP (c_X10_ghostAt l D cI cZ cL cW F a0 a1 a2 a3 a4 a5 a6 k_thrown k_w k_o k_isKept k_went k_wentMany k_waiting k_came k_depth k_isSilent k_x k_packed k_hits k_rues k_soonest k_inAll v1 v3 r1  h2) ok_X10_ghostAt qM_X10_79 rfl rfl ⟨(Nat.le_of_ble_eq_true rfl), (Nat.le_of_ble_eq_true rfl)⟩ rfl rfl hl.1 (Nat.le_of_ble_eq_true rfl) ⟨Nat.zero_le _, Nat.zero_le _⟩ dX10_ghostOf_27 rfl rfl ?_
        obtain ⟨g4, hf⟩ := it_g hf
        refine va_iald hx hb hE.1 hP 1 0 rfl rfl g4 dX10_ghostOf_30 ?_
        refine lv_iload_n hx hb dX10_ghostOf_31 rfl (lv_at hl 2 rfl) ?_
        refine lv_icmp_ne (tgt := 37) hx hb dX10_ghostOf_32 (by decide) (fun c3 => ?_) (fun c3 => ?_)
        · have hf := it_n hf c3
          refine lv_iinc (v := (v3 + 1)) (lv' := [(3, .int (v3 + 1)), (0, .ref a0), (1, .int v1), (2, .int v2)]) hx hb dX10_ghostOf_37 hl (k := 3) rfl rfl (by decide) rfl (fun ls hl => ?_)
          refine lv_goto (tgt := 2) hx hb dX10_ghostOf_40 (by decide) ?_
          exact ih v1 v2 (v3 + 1) ls hf (lv_sub hl [1, 2, 3, 0] rfl)
        · have hf := it_p hf c3
          refine lv_iload_n hx hb dX10_ghostOf_35 rfl (lv_at hl 3 rfl) ?_
          exact rt_i C hr hlk dX10_ghostOf_36 (congrArg (fun o => o.map Value.int) hf)
  refine lv_iconst (v := 0) hx hb dX10_ghostOf_0 (by decide) ?_
  refine lv_istore_n (lv' := [(3, .int 0), (0, .ref a0), (1, .int p1), (2, .int p2)]) hx hb dX10_ghostOf_1 rfl hl (by decide) rfl (fun ls hl => ?_)
  exact L2 F p1 p2 0 ls hf (lv_sub hl [1, 2, 3, 0] rfl)
def X10_noGhost_L34 (F : Nat) : Nat → Int32 → Int32 → (Nat → Int32) → Int32 → Option ((Nat → Int32))
  | 0, _, _, _, _ => none
  | n + 1, v1, v4, k_w, k_o => if (((k_o + 19) + v1) : Int32) < 0 ∨ 3392 ≤ (Int32.toNatClampNeg ((k_o + 19) + v1)) then none else (if ((k_w (Int32.toNatClampNeg ((k_o + 19) + v1))) : Int32) ≤ v4 then (some k_w) else ((X10_ghostAt F v1 v4 k_o).bind fun r3 => ((X10_ghostAt F v1 (v4 + 1) k_o).bind fun r5 => (if (r5 : Int32) < 0 ∨ 3392 ≤ (Int32.toNatClampNeg r5) then none else (if (r3 : Int32) < 0 ∨ 3392 ≤ (Int32.toNatClampNeg r3) then none else (X10_noGhost_L34 F n v1 (v4 + 1) (upd k_w (Int32.toNatClampNeg r3) (k_w (Int32.toNatClampNeg r5))) k_o))))))
def X10_noGhost (F : Nat) (p1 : Int32) (p2 : Int32) (k_w : (Nat → Int32)) (k_o : Int32) : Option ((Nat → Int32)) := (X10_ghostOf F p1 p2 k_w k_o).bind fun r1 => (if (r1 : Int32) = (-1) then (some k_w) else (if (((k_o + 19) + p1) : Int32) < 0 ∨ 3392 ≤ (Int32.toNatClampNeg ((k_o + 19) + p1)) then none else (if (((k_o + 19) + p1) : Int32) < 0 ∨ 3392 ≤ (Int32.toNatClampNeg ((k_o + 19) + p1)) then none else ((X10_noGhost_L34 F F p1 r1 (upd k_w (Int32.toNatClampNeg ((k_o + 19) + p1)) ((k_w (Int32.toNatClampNeg ((k_o + 19) + p1))) - 1)) k_o).bind fun k11 => (some k11)))))
abbrev rm_X10_noGhost : Room := { frames := 2, cells := 0, slots := 0, locals := 45 }
theorem ok_X10_noGhost : OKV RX10 yX10_noGhost cX10_noGhost 5 none 2 := ⟨by decide +kernel, qV_X10_noGhost, qL_X10_noGhost, qI_X10, qD_X10_noGhost⟩
set_option maxHeartbeats 4000000 in
set_option maxRecDepth 100000 in
theorem c_X10_noGhost (l : Launch) (D : va_G) (cI cZ cL cW : ClassId) (F : Nat) (a0 : Nat) (a1 : Nat) (a2 : Nat) (a3 : Nat) (a4 : Nat) (a5 : Nat) (a6 : Nat) (k_thrown : Int32) (k_w : (Nat → Int32)) (k_o : Int32) (k_isKept : (Nat → Int32)) (k_went : (Nat → Int32)) (k_wentMany : Int32) (k_waiting : (Nat → Int32)) (k_came : Int32) (k_depth : Int32) (k_isSilent : Int32) (k_x : Int64) (k_packed : (Nat → Int32)) (k_hits : Int32) (k_rues : Int32) (k_soonest : Int32) (k_inAll : (Nat → Int32)) (p1 : Int32) (p2 : Int32) (k_w' : (Nat → Int32)) (hf : X10_noGhost F p1 p2 k_w k_o = some (k_w')) : CtrW l D (tyL cI cZ cL cW) nestW yX10_noGhost cX10_noGhost 5 none rm_X10_noGhost [.ref a0, .int p1, .int p2] (MX10 cI cZ cL cW a0 a1 a2 a3 a4 a5 a6 k_thrown k_w k_o k_isKept k_went k_wentMany k_waiting k_came k_depth k_isSilent k_x k_packed k_hits k_rues k_soonest k_inAll) (MX10 cI cZ cL cW a0 a1 a2 a3 a4 a5 a6 k_thrown (k_w') k_o k_isKept k_went k_wentMany k_waiting k_came k_depth k_isSilent k_x k_packed k_hits k_rues k_soonest k_inAll) none := by
  refine ofA RX10 (by decide) rfl (Nat.le_of_ble_eq_true rfl) ?_
  intro p e s m below meth c ls A C hr hlk hE hA hP hD hS hl
  generalize (List.toArray ([.ref a0, .int p1, .int p2] : List Value)) = args at C ⊢
  obtain ⟨hx, hb, hml, hown, ht⟩ := id C
  have hl : lv_has ls 5 [(0, .ref a0), (1, .int p1), (2, .int p2)] := hl
  have L34 : ∀ (Q : State → Prop) (n : Nat) (v1 : Int32) (v4 : Int32) (k_thrown : Int32) (k_w : (Nat → Int32)) (k_o : Int32) (k_isKept : (Nat → Int32)) (k_went : (Nat → Int32)) (k_wentMany : Int32) (k_waiting : (Nat → Int32)) (k_came : Int32) (k_depth : Int32) (k_isSilent : Int32) (k_x : Int64) (k_packed : (Nat → Int32)) (k_hits : Int32) (k_rues : Int32) (k_soonest : Int32) (k_inAll : (Nat → Int32)) (k_w' : (Nat → Int32)) (H : Heap) (locs : List Loc) (ls : Array Slot), X10_noGhost_L34 F n v1 v4 k_w k_o = some (k_w') → va_P D vwCl (MX10 cI cZ cL cW a0 a1 a2 a3 a4 a5 a6 k_thrown k_w k_o k_isKept k_went k_wentMany k_waiting k_came k_depth k_isSilent k_x k_packed k_hits k_rues k_soonest k_inAll) H → va_D A (MX10 cI cZ cL cW a0 a1 a2 a3 a4 a5 a6 k_thrown k_w k_o k_isKept k_went k_wentMany k_waiting k_came k_depth k_isSilent k_x k_packed k_hits k_rues k_soonest k_inAll) → va_S A s.heap H locs → lv_has ls 5 [(0, .ref a0), (1, .int v1), (4, .int v4)] → (∀ (H : Heap) (locs : List Loc) (ls : Array Slot), va_P D vwCl (MX10 cI cZ cL cW a0 a1 a2 a3 a4 a5 a6 k_thrown (k_w') k_o k_isKept k_went k_wentMany k_waiting k_came k_depth k_isSilent k_x k_packed k_hits k_rues k_soonest k_inAll) H → va_D A (MX10 cI cZ cL cW a0 a1 a2 a3 a4 a5 a6 k_thrown (k_w') k_o k_isKept k_went k_wentMany k_waiting k_came k_depth k_isSilent k_x k_packed k_hits k_rues k_soonest k_inAll) → va_S A s.heap H locs → lv_has ls 5 [] → W p l e rm_X10_noGhost s m args below meth c H locs 0 0 Q (F0 m 85 ls [])) → W p l e rm_X10_noGhost s m args below meth c H locs 0 0 Q (F0 m 34 ls []) := by
    intro Q n
    induction n with
    | zero => intro v1 v4 k_thrown k_w k_o k_isKept k_went k_wentMany k_waiting k_came k_depth k_isSilent k_x k_packed k_hits k_rues k_soonest k_inAll k_w' H locs ls hf hP hD hS hl hk; exact nn_s hf
    | succ n ih =>
      intro v1 v4 k_thrown k_w k_o k_isKept k_went k_wentMany k_waiting k_came k_depth k_isSilent k_x k_packed k_hits k_rues k_soonest k_inAll k_w' H locs ls hf hP hD hS hl hk
      refine lv_iload hx hb dX10_noGhost_34 (lv_at hl 2 rfl) ?_
      refine lv_aload_n hx hb dX10_noGhost_36 rfl (lv_at hl 0 rfl) ?_
      refine gf_X10 (v := .ref a1) C hE hP 0 1 rfl (by decide) qF_X10_17 rfl dX10_noGhost_37 ?_
      refine lv_aload_n hx hb dX10_noGhost_40 rfl (lv_at hl 0 rfl) ?_
      refine gf_X10 (v := .int k_o) C hE hP 0 2 rfl (by decide) qF_X10_41 rfl dX10_noGhost_41 ?_
      refine lv_bipush (v := 19) hx hb dX10_noGhost_44 (by decide) ?_
      refine lv_iadd hx hb dX10_noGhost_46 ?_
      refine lv_iload_n hx hb dX10_noGhost_47 rfl (lv_at hl 1 rfl) ?_
      refine lv_iadd hx hb dX10_noGhost_48 ?_
      obtain ⟨g10, hf⟩ := it_g hf
      refine va_iald hx hb hE.1 hP 1 0 rfl rfl g10 dX10_noGhost_49 ?_
      refine lv_icmp_ge (tgt := 85) hx hb dX10_noGhost_50 (by decide) (fun c9 => ?_) (fun c9 => ?_)
      · have hf := it_p hf c9
        cases hf
        exact hk _ _ ls hP hD hS (lv_sub hl [] rfl)
      · have hf := it_n hf c9
        refine lv_aload_n hx hb dX10_noGhost_53 rfl (lv_at hl 0 rfl) ?_
        refine gf_X10 (v := .ref a1) C hE hP 0 1 rfl (by decide) qF_X10_17 rfl dX10_noGhost_54 ?_
        refine lv_aload_n hx hb dX10_noGhost_57 rfl (lv_at hl 0 rfl) ?_
        refine lv_iload_n hx hb dX10_noGhost_58 rfl (lv_at hl 1 rfl) ?_
        refine lv_iload hx hb dX10_noGhost_59 (lv_at hl 2 rfl) ?_
        obtain ⟨r3, h4, hf⟩ := bd_s hf
        refine iv_R (rest := [.ref a1]) (st1 := [.int r3, .ref a1]) C hE hP (c_X10_ghostAt l D cI cZ cL cW F a0 a1 a2 a3 a4 a5 a6 k_thrown k_w k_o k_isKept k_went k_wentMany k_waiting k_came k_depth k_isSilent k_x k_packed k_hits k_rues k_soonest k_inAll v1 v4 r3  h4) ok_X10_ghostAt qM_X10_79 rfl rfl ⟨(Nat.le_of_ble_eq_true rfl), (Nat.le_of_ble_eq_true rfl)⟩ rfl rfl hl.1 (Nat.le_of_ble_eq_true rfl) ⟨Nat.zero_le _, Nat.zero_le _⟩ dX10_noGhost_61 rfl rfl ?_
        refine lv_aload_n hx hb dX10_noGhost_64 rfl (lv_at hl 0 rfl) ?_
        refine gf_X10 (v := .ref a1) C hE hP 0 1 rfl (by decide) qF_X10_17 rfl dX10_noGhost_65 ?_
        refine lv_aload_n hx hb dX10_noGhost_68 rfl (lv_at hl 0 rfl) ?_
        refine lv_iload_n hx hb dX10_noGhost_69 rfl (lv_at hl 1 rfl) ?_
        refine lv_iload hx hb dX10_noGhost_70 (lv_at hl 2 rfl) ?_
        refine lv_iconst (v := 1) hx hb dX10_noGhost_72 (by decide) ?_
        refine lv_iadd hx hb dX10_noGhost_73 ?_
        obtain ⟨r5, h6, hf⟩ := bd_s hf
        refine iv_R (rest := [.ref a1, .int r3, .ref a1]) (st1 := [.int r5, .ref a1, .int r3, .ref a1]) C hE hP (c_X10_ghostAt l D cI cZ cL cW F a0 a1 a2 a3 a4 a5 a6 k_thrown k_w k_o k_isKept k_went k_wentMany k_waiting k_came k_depth k_isSilent k_x k_packed k_hits k_rues k_soonest k_inAll v1 (v4 + 1) r5  h6) ok_X10_ghostAt qM_X10_79 rfl rfl ⟨(Nat.le_of_ble_eq_true rfl), (Nat.le_of_ble_eq_true rfl)⟩ rfl rfl hl.1 (Nat.le_of_ble_eq_true rfl) ⟨Nat.zero_le _, Nat.zero_le _⟩ dX10_noGhost_74 rfl rfl ?_
        obtain ⟨g8, hf⟩ := it_g hf
        refine va_iald hx hb hE.1 hP 1 0 rfl rfl g8 dX10_noGhost_77 ?_
        obtain ⟨g7, hf⟩ := it_g hf
        refine va_iast hx hb hE.1 hP hD hS 1 0 rfl rfl g7 dX10_noGhost_78 (fun H locs (hP : va_P D vwCl (MX10 cI cZ cL cW a0 a1 a2 a3 a4 a5 a6 k_thrown (upd k_w (Int32.toNatClampNeg r3) (k_w (Int32.toNatClampNeg r5))) k_o k_isKept k_went k_wentMany k_waiting k_came k_depth k_isSilent k_x k_packed k_hits k_rues k_soonest k_inAll) H) (hD : va_D A (MX10 cI cZ cL cW a0 a1 a2 a3 a4 a5 a6 k_thrown (upd k_w (Int32.toNatClampNeg r3) (k_w (Int32.toNatClampNeg r5))) k_o k_isKept k_went k_wentMany k_waiting k_came k_depth k_isSilent k_x k_packed k_hits k_rues k_soonest k_inAll)) hS => ?_)
        refine lv_iinc (v := (v4 + 1)) (lv' := [(4, .int (v4 + 1)), (0, .ref a0), (1, .int v1)]) hx hb dX10_noGhost_79 hl (k := 2) rfl rfl (by decide) rfl (fun ls hl => ?_)
        refine lv_goto (tgt := 34) hx hb dX10_noGhost_82 (by decide) ?_
        exact ih v1 (v4 + 1) k_thrown (upd k_w (Int32.toNatClampNeg r3) (k_w (Int32.toNatClampNeg r5))) k_o k_isKept k_went k_wentMany k_waiting k_came k_depth k_isSilent k_x k_packed k_hits k_rues k_soonest k_inAll _ _ _ ls hf hP hD hS (lv_sub hl [1, 2, 0] rfl) hk
  refine lv_aload_n hx hb dX10_noGhost_0 rfl (lv_at hl 0 rfl) ?_
  refine lv_iload_n hx hb dX10_noGhost_1 rfl (lv_at hl 1 rfl) ?_
  refine lv_iload_n hx hb dX10_noGhost_2 rfl (lv_at hl 2 rfl) ?_
  obtain ⟨r1, h2, hf⟩ := bd_s hf
  refine iv_R (rest := []) (st1 := [.int r1]) C hE hP (c_X10_ghostOf l D cI cZ cL cW F a0 a1 a2 a3 a4 a5 a6 k_thrown k_w k_o k_isKept k_went k_wentMany k_waiting k_came k_depth k_isSilent k_x k_packed k_hits k_rues k_soonest k_inAll p1 p2 r1  h2) ok_X10_ghostOf qM_X10_82 rfl rfl ⟨(Nat.le_of_ble_eq_true rfl), (Nat.le_of_ble_eq_true rfl)⟩ rfl rfl hl.1 (Nat.le_of_ble_eq_true rfl) ⟨Nat.zero_le _, Nat.zero_le _⟩ dX10_noGhost_3 rfl rfl ?_
  refine lv_istore_n (lv' := [(3, .int r1), (0, .ref a0), (1, .int p1), (2, .int p2)]) hx hb dX10_noGhost_6 rfl hl (by decide) rfl (fun ls hl => ?_)
  refine lv_iload_n hx hb dX10_noGhost_7 rfl (lv_at hl 0 rfl) ?_
  refine lv_iconst (v := (-1)) hx hb dX10_noGhost_8 (by decide) ?_
  refine lv_icmp_ne (tgt := 13) hx hb dX10_noGhost_9 (by decide) (fun c15 => ?_) (fun c15 => ?_)
  · have hf := it_n hf c15
    refine lv_aload_n hx hb dX10_noGhost_13 rfl (lv_at hl 1 rfl) ?_
    refine gf_X10 (v := .ref a1) C hE hP 0 1 rfl (by decide) qF_X10_17 rfl dX10_noGhost_14 ?_
    refine lv_aload_n hx hb dX10_noGhost_17 rfl (lv_at hl 1 rfl) ?_
    refine gf_X10 (v := .int k_o) C hE hP 0 2 rfl (by decide) qF_X10_41 rfl dX10_noGhost_18 ?_
    refine lv_bipush (v := 19) hx hb dX10_noGhost_21 (by decide) ?_
    refine lv_iadd hx hb dX10_noGhost_23 ?_
    refine lv_iload_n hx hb dX10_noGhost_24 rfl (lv_at hl 2 rfl) ?_
    refine lv_iadd hx hb dX10_noGhost_25 ?_
    refine lv_dup2_11 hx hb dX10_noGhost_26 rfl rfl ?_
    obtain ⟨g14, hf⟩ := it_g hf
    refine va_iald hx hb hE.1 hP 1 0 rfl rfl g14 dX10_noGhost_27 ?_
    refine lv_iconst (v := 1) hx hb dX10_noGhost_28 (by decide) ?_
    refine lv_isub hx hb dX10_noGhost_29 ?_
    obtain ⟨g13, hf⟩ := it_g hf
    refine va_iast hx hb hE.1 hP hD hS 1 0 rfl rfl g13 dX10_noGhost_30 (fun H locs (hP : va_P D vwCl (MX10 cI cZ cL cW a0 a1 a2 a3 a4 a5 a6 k_thrown (upd k_w (Int32.toNatClampNeg ((k_o + 19) + p1)) ((k_w (Int32.toNatClampNeg ((k_o + 19) + p1))) - 1)) k_o k_isKept k_went k_wentMany k_waiting k_came k_depth k_isSilent k_x k_packed k_hits k_rues k_soonest k_inAll) H) (hD : va_D A (MX10 cI cZ cL cW a0 a1 a2 a3 a4 a5 a6 k_thrown (upd k_w (Int32.toNatClampNeg ((k_o + 19) + p1)) ((k_w (Int32.toNatClampNeg ((k_o + 19) + p1))) - 1)) k_o k_isKept k_went k_wentMany k_waiting k_came k_depth k_isSilent k_x k_packed k_hits k_rues k_soonest k_inAll)) hS => ?_)
    refine lv_iload_n hx hb dX10_noGhost_31 rfl (lv_at hl 0 rfl) ?_
    refine lv_istore (lv' := [(4, .int r1), (3, .int r1), (0, .ref a0), (1, .int p1), (2, .int p2)]) hx hb dX10_noGhost_32 hl (by decide) rfl (fun ls hl => ?_)
    obtain ⟨k11, h12, hf⟩ := bd_s hf
    refine L34 _ F p1 r1 k_thrown (upd k_w (Int32.toNatClampNeg ((k_o + 19) + p1)) ((k_w (Int32.toNatClampNeg ((k_o + 19) + p1))) - 1)) k_o k_isKept k_went k_wentMany k_waiting k_came k_depth k_isSilent k_x k_packed k_hits k_rues k_soonest k_inAll k11 _ _ ls h12 hP hD hS (lv_sub hl [2, 3, 0] rfl) (fun H locs ls hP hD hS hl => ?_)
    cases hf
    exact rw_v C hr hlk hP hD hS dX10_noGhost_85
  · have hf := it_p hf c15
    cases hf
    exact rw_v C hr hlk hP hD hS dX10_noGhost_12
def X10_isGhost_L64 (F : Nat) : Nat → Int32 → Int32 → Int32 → (Nat → Int32) → Int32 → Option ((Nat → Int32))
  | 0, _, _, _, _, _ => none
  | n + 1, v1, v2, v3, k_w, k_o => if (v3 : Int32) ≤ 0 then (some k_w) else ((X10_ghostAt F v1 v3 k_o).bind fun r7 => ((X10_ghostAt F v1 (v3 - 1) k_o).bind fun r9 => (if (r9 : Int32) < 0 ∨ 3392 ≤ (Int32.toNatClampNeg r9) then none else (if (r7 : Int32) < 0 ∨ 3392 ≤ (Int32.toNatClampNeg r7) then none else (X10_isGhost_L64 F n v1 v2 (v3 + (-1)) (upd k_w (Int32.toNatClampNeg r7) (k_w (Int32.toNatClampNeg r9))) k_o)))))
def X10_isGhost (F : Nat) (p1 : Int32) (p2 : Int32) (k_w : (Nat → Int32)) (k_o : Int32) : Option ((Nat → Int32)) := (X10_noGhost F 0 p2 k_w k_o).bind fun k_w_1 => ((X10_noGhost F 1 p2 k_w_1 k_o).bind fun k_w_3 => (if (((k_o + 19) + p1) : Int32) < 0 ∨ 3392 ≤ (Int32.toNatClampNeg ((k_o + 19) + p1)) then none else ((X10_lesser F 16 ((k_w_3 (Int32.toNatClampNeg ((k_o + 19) + p1))) + 1)).bind fun r5 => (if (((k_o + 19) + p1) : Int32) < 0 ∨ 3392 ≤ (Int32.toNatClampNeg ((k_o + 19) + p1)) then none else (if (((k_o + 19) + p1) : Int32) < 0 ∨ 3392 ≤ (Int32.toNatClampNeg ((k_o + 19) + p1)) then none else ((X10_isGhost_L64 F F p1 p2 (((upd k_w_3 (Int32.toNatClampNeg ((k_o + 19) + p1)) r5) (Int32.toNatClampNeg ((k_o + 19) + p1))) - 1) (upd k_w_3 (Int32.toNatClampNeg ((k_o + 19) + p1)) r5) k_o).bind fun k14 => ((X10_ghostAt F p1 0 k_o).bind fun r16 => (if (r16 : Int32) < 0 ∨ 3392 ≤ (Int32.toNatClampNeg r16) then none else (some (upd k14 (Int32.toNatClampNeg r16) p2))))))))))
abbrev rm_X10_isGhost : Room := { frames := 3, cells := 0, slots := 0, locals := 69 }
theorem ok_X10_isGhost : OKV RX10 yX10_isGhost cX10_isGhost 4 none 2 := ⟨by decide +kernel, qV_X10_isGhost, qL_X10_isGhost, qI_X10, qD_X10_isGhost⟩
set_option maxHeartbeats 4000000 in
set_option maxRecDepth 100000 in
theorem c_X10_isGhost (l : Launch) (D : va_G) (cI cZ cL cW : ClassId) (F : Nat) (a0 : Nat) (a1 : Nat) (a2 : Nat) (a3 : Nat) (a4 : Nat) (a5 : Nat) (a6 : Nat) (k_thrown : Int32) (k_w : (Nat → Int32)) (k_o : Int32) (k_isKept : (Nat → Int32)) (k_went : (Nat → Int32)) (k_wentMany : Int32) (k_waiting : (Nat → Int32)) (k_came : Int32) (k_depth : Int32) (k_isSilent : Int32) (k_x : Int64) (k_packed : (Nat → Int32)) (k_hits : Int32) (k_rues : Int32) (k_soonest : Int32) (k_inAll : (Nat → Int32)) (p1 : Int32) (p2 : Int32) (k_w' : (Nat → Int32)) (hf : X10_isGhost F p1 p2 k_w k_o = some (k_w')) : CtrW l D (tyL cI cZ cL cW) nestW yX10_isGhost cX10_isGhost 4 none rm_X10_isGhost [.ref a0, .int p1, .int p2] (MX10 cI cZ cL cW a0 a1 a2 a3 a4 a5 a6 k_thrown k_w k_o k_isKept k_went k_wentMany k_waiting k_came k_depth k_isSilent k_x k_packed k_hits k_rues k_soonest k_inAll) (MX10 cI cZ cL cW a0 a1 a2 a3 a4 a5 a6 k_thrown (k_w') k_o k_isKept k_went k_wentMany k_waiting k_came k_depth k_isSilent k_x k_packed k_hits k_rues k_soonest k_inAll) none := by
  refine ofA RX10 (by decide) rfl (Nat.le_of_ble_eq_true rfl) ?_
  intro p e s m below meth c ls A C hr hlk hE hA hP hD hS hl
  generalize (List.toArray ([.ref a0, .int p1, .int p2] : List Value)) = args at C ⊢
  obtain ⟨hx, hb, hml, hown, ht⟩ := id C
  have hl : lv_has ls 4 [(0, .ref a0), (1, .int p1), (2, .int p2)] := hl
  have L64 : ∀ (Q : State → Prop) (n : Nat) (v1 : Int32) (v2 : Int32) (v3 : Int32) (k_thrown : Int32) (k_w : (Nat → Int32)) (k_o : Int32) (k_isKept : (Nat → Int32)) (k_went : (Nat → Int32)) (k_wentMany : Int32) (k_waiting : (Nat → Int32)) (k_came : Int32) (k_depth : Int32) (k_isSilent : Int32) (k_x : Int64) (k_packed : (Nat → Int32)) (k_hits : Int32) (k_rues : Int32) (k_soonest : Int32) (k_inAll : (Nat → Int32)) (k_w' : (Nat → Int32)) (H : Heap) (locs : List Loc) (ls : Array Slot), X10_isGhost_L64 F n v1 v2 v3 k_w k_o = some (k_w') → va_P D vwCl (MX10 cI cZ cL cW a0 a1 a2 a3 a4 a5 a6 k_thrown k_w k_o k_isKept k_went k_wentMany k_waiting k_came k_depth k_isSilent k_x k_packed k_hits k_rues k_soonest k_inAll) H → va_D A (MX10 cI cZ cL cW a0 a1 a2 a3 a4 a5 a6 k_thrown k_w k_o k_isKept k_went k_wentMany k_waiting k_came k_depth k_isSilent k_x k_packed k_hits k_rues k_soonest k_inAll) → va_S A s.heap H locs → lv_has ls 4 [(0, .ref a0), (1, .int v1), (2, .int v2), (3, .int v3)] → (∀ (H : Heap) (locs : List Loc) (ls : Array Slot), va_P D vwCl (MX10 cI cZ cL cW a0 a1 a2 a3 a4 a5 a6 k_thrown (k_w') k_o k_isKept k_went k_wentMany k_waiting k_came k_depth k_isSilent k_x k_packed k_hits k_rues k_soonest k_inAll) H → va_D A (MX10 cI cZ cL cW a0 a1 a2 a3 a4 a5 a6 k_thrown (k_w') k_o k_isKept k_went k_wentMany k_waiting k_came k_depth k_isSilent k_x k_packed k_hits k_rues k_soonest k_inAll) → va_S A s.heap H locs → lv_has ls 4 [(0, .ref a0), (1, .int v1), (2, .int v2)] → W p l e rm_X10_isGhost s m args below meth c H locs 0 0 Q (F0 m 98 ls [])) → W p l e rm_X10_isGhost s m args below meth c H locs 0 0 Q (F0 m 64 ls []) := by
    intro Q n
    induction n with
    | zero => intro v1 v2 v3 k_thrown k_w k_o k_isKept k_went k_wentMany k_waiting k_came k_depth k_isSilent k_x k_packed k_hits k_rues k_soonest k_inAll k_w' H locs ls hf hP hD hS hl hk; exact nn_s hf
    | succ n ih =>
      intro v1 v2 v3 k_thrown k_w k_o k_isKept k_went k_wentMany k_waiting k_came k_depth k_isSilent k_x k_packed k_hits k_rues k_soonest k_inAll k_w' H locs ls hf hP hD hS hl hk
      refine lv_iload_n hx hb dX10_isGhost_64 rfl (lv_at hl 3 rfl) ?_
      refine lv_if_le (tgt := 98) hx hb dX10_isGhost_65 (by decide) (fun c13 => ?_) (fun c13 => ?_)
      · have hf := it_p hf c13
        cases hf
        exact hk _ _ ls hP hD hS (lv_sub hl [0, 1, 2] rfl)
      · have hf := it_n hf c13
        refine lv_aload_n hx hb dX10_isGhost_68 rfl (lv_at hl 0 rfl) ?_
        refine gf_X10 (v := .ref a1) C hE hP 0 1 rfl (by decide) qF_X10_17 rfl dX10_isGhost_69 ?_
        refine lv_aload_n hx hb dX10_isGhost_72 rfl (lv_at hl 0 rfl) ?_
        refine lv_iload_n hx hb dX10_isGhost_73 rfl (lv_at hl 1 rfl) ?_
        refine lv_iload_n hx hb dX10_isGhost_74 rfl (lv_at hl 3 rfl) ?_
        obtain ⟨r7, h8, hf⟩ := bd_s hf
        refine iv_R (rest := [.ref a1]) (st1 := [.int r7, .ref a1]) C hE hP (c_X10_ghostAt l D cI cZ cL cW F a0 a1 a2 a3 a4 a5 a6 k_thrown k_w k_o k_isKept k_went k_wentMany k_waiting k_came k_depth k_isSilent k_x k_packed k_hits k_rues k_soonest k_inAll v1 v3 r7  h8) ok_X10_ghostAt qM_X10_79 rfl rfl ⟨(Nat.le_of_ble_eq_true rfl), (Nat.le_of_ble_eq_true rfl)⟩ rfl rfl hl.1 (Nat.le_of_ble_eq_true rfl) ⟨Nat.zero_le _, Nat.zero_le _⟩ dX10_isGhost_75 rfl rfl ?_
        refine lv_aload_n hx hb dX10_isGhost_78 rfl (lv_at hl 0 rfl) ?_
        refine gf_X10 (v := .ref a1) C hE hP 0 1 rfl (by decide) qF_X10_17 rfl dX10_isGhost_79 ?_
        refine lv_aload_n hx hb dX10_isGhost_82 rfl (lv_at hl 0 rfl) ?_
        refine lv_iload_n hx hb dX10_isGhost_83 rfl (lv_at hl 1 rfl) ?_
        refine lv_iload_n hx hb dX10_isGhost_84 rfl (lv_at hl 3 rfl) ?_
        refine lv_iconst (v := 1) hx hb dX10_isGhost_85 (by decide) ?_
        refine lv_isub hx hb dX10_isGhost_86 ?_
        obtain ⟨r9, h10, hf⟩ := bd_s hf
        refine iv_R (rest := [.ref a1, .int r7, .ref a1]) (st1 := [.int r9, .ref a1, .int r7, .ref a1]) C hE hP (c_X10_ghostAt l D cI cZ cL cW F a0 a1 a2 a3 a4 a5 a6 k_thrown k_w k_o k_isKept k_went k_wentMany k_waiting k_came k_depth k_isSilent k_x k_packed k_hits k_rues k_soonest k_inAll v1 (v3 - 1) r9  h10) ok_X10_ghostAt qM_X10_79 rfl rfl ⟨(Nat.le_of_ble_eq_true rfl), (Nat.le_of_ble_eq_true rfl)⟩ rfl rfl hl.1 (Nat.le_of_ble_eq_true rfl) ⟨Nat.zero_le _, Nat.zero_le _⟩ dX10_isGhost_87 rfl rfl ?_
        obtain ⟨g12, hf⟩ := it_g hf
        refine va_iald hx hb hE.1 hP 1 0 rfl rfl g12 dX10_isGhost_90 ?_
        obtain ⟨g11, hf⟩ := it_g hf
        refine va_iast hx hb hE.1 hP hD hS 1 0 rfl rfl g11 dX10_isGhost_91 (fun H locs (hP : va_P D vwCl (MX10 cI cZ cL cW a0 a1 a2 a3 a4 a5 a6 k_thrown (upd k_w (Int32.toNatClampNeg r7) (k_w (Int32.toNatClampNeg r9))) k_o k_isKept k_went k_wentMany k_waiting k_came k_depth k_isSilent k_x k_packed k_hits k_rues k_soonest k_inAll) H) (hD : va_D A (MX10 cI cZ cL cW a0 a1 a2 a3 a4 a5 a6 k_thrown (upd k_w (Int32.toNatClampNeg r7) (k_w (Int32.toNatClampNeg r9))) k_o k_isKept k_went k_wentMany k_waiting k_came k_depth k_isSilent k_x k_packed k_hits k_rues k_soonest k_inAll)) hS => ?_)
        refine lv_iinc (v := (v3 + (-1))) (lv' := [(3, .int (v3 + (-1))), (0, .ref a0), (1, .int v1), (2, .int v2)]) hx hb dX10_isGhost_92 hl (k := 3) rfl rfl (by decide) rfl (fun ls hl => ?_)
        refine lv_goto (tgt := 64) hx hb dX10_isGhost_95 (by decide) ?_
        exact ih v1 v2 (v3 + (-1)) k_thrown (upd k_w (Int32.toNatClampNeg r7) (k_w (Int32.toNatClampNeg r9))) k_o k_isKept k_went k_wentMany k_waiting k_came k_depth k_isSilent k_x k_packed k_hits k_rues k_soonest k_inAll _ _ _ ls hf hP hD hS (lv_sub hl [1, 2, 3, 0] rfl) hk
  refine lv_aload_n hx hb dX10_isGhost_0 rfl (lv_at hl 0 rfl) ?_
  refine lv_iconst (v := 0) hx hb dX10_isGhost_1 (by decide) ?_
  refine lv_iload_n hx hb dX10_isGhost_2 rfl (lv_at hl 2 rfl) ?_
  obtain ⟨k_w_1, h2, hf⟩ := bd_s hf
  refine iv_A (rest := []) (st1 := []) C hE hP hD hS hA (c_X10_noGhost l D cI cZ cL cW F a0 a1 a2 a3 a4 a5 a6 k_thrown k_w k_o k_isKept k_went k_wentMany k_waiting k_came k_depth k_isSilent k_x k_packed k_hits k_rues k_soonest k_inAll 0 p2  k_w_1 h2) ok_X10_noGhost qM_X10_85 rfl rfl ⟨(Nat.le_of_ble_eq_true rfl), (Nat.le_of_ble_eq_true rfl)⟩ rfl rfl hl.1 (Nat.le_of_ble_eq_true rfl) ⟨Nat.zero_le _, Nat.zero_le _⟩ dX10_isGhost_3 rfl rfl (fun H locs (hP : va_P D vwCl (MX10 cI cZ cL cW a0 a1 a2 a3 a4 a5 a6 k_thrown k_w_1 k_o k_isKept k_went k_wentMany k_waiting k_came k_depth k_isSilent k_x k_packed k_hits k_rues k_soonest k_inAll) H) (hD : va_D A (MX10 cI cZ cL cW a0 a1 a2 a3 a4 a5 a6 k_thrown k_w_1 k_o k_isKept k_went k_wentMany k_waiting k_came k_depth k_isSilent k_x k_packed k_hits k_rues k_soonest k_inAll)) hS => ?_)
  refine lv_aload_n hx hb dX10_isGhost_6 rfl (lv_at hl 0 rfl) ?_
  refine lv_iconst (v := 1) hx hb dX10_isGhost_7 (by decide) ?_
  refine lv_iload_n hx hb dX10_isGhost_8 rfl (lv_at hl 2 rfl) ?_
  obtain ⟨k_w_3, h4, hf⟩ := bd_s hf
  refine iv_A (rest := []) (st1 := []) C hE hP hD hS hA (c_X10_noGhost l D cI cZ cL cW F a0 a1 a2 a3 a4 a5 a6 k_thrown k_w_1 k_o k_isKept k_went k_wentMany k_waiting k_came k_depth k_isSilent k_x k_packed k_hits k_rues k_soonest k_inAll 1 p2  k_w_3 h4) ok_X10_noGhost qM_X10_85 rfl rfl ⟨(Nat.le_of_ble_eq_true rfl), (Nat.le_of_ble_eq_true rfl)⟩ rfl rfl hl.1 (Nat.le_of_ble_eq_true rfl) ⟨Nat.zero_le _, Nat.zero_le _⟩ dX10_isGhost_9 rfl rfl (fun H locs (hP : va_P D vwCl (MX10 cI cZ cL cW a0 a1 a2 a3 a4 a5 a6 k_thrown k_w_3 k_o k_isKept k_went k_wentMany k_waiting k_came k_depth k_isSilent k_x k_packed k_hits k_rues k_soonest k_inAll) H) (hD : va_D A (MX10 cI cZ cL cW a0 a1 a2 a3 a4 a5 a6 k_thrown k_w_3 k_o k_isKept k_went k_wentMany k_waiting k_came k_depth k_isSilent k_x k_packed k_hits k_rues k_soonest k_inAll)) hS => ?_)
  refine lv_aload_n hx hb dX10_isGhost_12 rfl (lv_at hl 0 rfl) ?_
  refine gf_X10 (v := .ref a1) C hE hP 0 1 rfl (by decide) qF_X10_17 rfl dX10_isGhost_13 ?_
  refine lv_aload_n hx hb dX10_isGhost_16 rfl (lv_at hl 0 rfl) ?_
  refine gf_X10 (v := .int k_o) C hE hP 0 2 rfl (by decide) qF_X10_41 rfl dX10_isGhost_17 ?_
  refine lv_bipush (v := 19) hx hb dX10_isGhost_20 (by decide) ?_
  refine lv_iadd hx hb dX10_isGhost_22 ?_
  refine lv_iload_n hx hb dX10_isGhost_23 rfl (lv_at hl 1 rfl) ?_
  refine lv_iadd hx hb dX10_isGhost_24 ?_
  refine lv_bipush (v := 16) hx hb dX10_isGhost_25 (by decide) ?_
  refine lv_aload_n hx hb dX10_isGhost_27 rfl (lv_at hl 0 rfl) ?_
  refine gf_X10 (v := .ref a1) C hE hP 0 1 rfl (by decide) qF_X10_17 rfl dX10_isGhost_28 ?_
  refine lv_aload_n hx hb dX10_isGhost_31 rfl (lv_at hl 0 rfl) ?_
  refine gf_X10 (v := .int k_o) C hE hP 0 2 rfl (by decide) qF_X10_41 rfl dX10_isGhost_32 ?_
  refine lv_bipush (v := 19) hx hb dX10_isGhost_35 (by decide) ?_
  refine lv_iadd hx hb dX10_isGhost_37 ?_
  refine lv_iload_n hx hb dX10_isGhost_38 rfl (lv_at hl 1 rfl) ?_
  refine lv_iadd hx hb dX10_isGhost_39 ?_
  obtain ⟨g21, hf⟩ := it_g hf
  refine va_iald hx hb hE.1 hP 1 0 rfl rfl g21 dX10_isGhost_40 ?_
  refine lv_iconst (v := 1) hx hb dX10_isGhost_41 (by decide) ?_
  refine lv_iadd hx hb dX10_isGhost_42 ?_
  obtain ⟨r5, h6, hf⟩ := bd_s hf
  refine is_R (rest := [.int ((k_o + 19) + p1), .ref a1]) (st1 := [.int r5, .int ((k_o + 19) + p1), .ref a1]) C hE va_P_nil (c_X10_lesser l D cI cZ cL cW F   16 ((k_w_3 (Int32.toNatClampNeg ((k_o + 19) + p1))) + 1) r5  h6) ok_X10_lesser qM_X10_7 rfl rfl ⟨(Nat.le_of_ble_eq_true rfl), (Nat.le_of_ble_eq_true rfl)⟩ hl.1 (Nat.le_of_ble_eq_true rfl) ⟨Nat.zero_le _, Nat.zero_le _⟩ dX10_isGhost_43 rfl rfl ?_
  obtain ⟨g20, hf⟩ := it_g hf
  refine va_iast hx hb hE.1 hP hD hS 1 0 rfl rfl g20 dX10_isGhost_46 (fun H locs (hP : va_P D vwCl (MX10 cI cZ cL cW a0 a1 a2 a3 a4 a5 a6 k_thrown (upd k_w_3 (Int32.toNatClampNeg ((k_o + 19) + p1)) r5) k_o k_isKept k_went k_wentMany k_waiting k_came k_depth k_isSilent k_x k_packed k_hits k_rues k_soonest k_inAll) H) (hD : va_D A (MX10 cI cZ cL cW a0 a1 a2 a3 a4 a5 a6 k_thrown (upd k_w_3 (Int32.toNatClampNeg ((k_o + 19) + p1)) r5) k_o k_isKept k_went k_wentMany k_waiting k_came k_depth k_isSilent k_x k_packed k_hits k_rues k_soonest k_inAll)) hS => ?_)
  refine lv_aload_n hx hb dX10_isGhost_47 rfl (lv_at hl 0 rfl) ?_
  refine gf_X10 (v := .ref a1) C hE hP 0 1 rfl (by decide) qF_X10_17 rfl dX10_isGhost_48 ?_
  refine lv_aload_n hx hb dX10_isGhost_51 rfl (lv_at hl 0 rfl) ?_
  refine gf_X10 (v := .int k_o) C hE hP 0 2 rfl (by decide) qF_X10_41 rfl dX10_isGhost_52 ?_
  refine lv_bipush (v := 19) hx hb dX10_isGhost_55 (by decide) ?_
  refine lv_iadd hx hb dX10_isGhost_57 ?_
  refine lv_iload_n hx hb dX10_isGhost_58 rfl (lv_at hl 1 rfl) ?_
  refine lv_iadd hx hb dX10_isGhost_59 ?_
  obtain ⟨g19, hf⟩ := it_g hf
  refine va_iald hx hb hE.1 hP 1 0 rfl rfl g19 dX10_isGhost_60 ?_
  refine lv_iconst (v := 1) hx hb dX10_isGhost_61 (by decide) ?_
  refine lv_isub hx hb dX10_isGhost_62 ?_
  refine lv_istore_n (lv' := [(3, .int (((upd k_w_3 (Int32.toNatClampNeg ((k_o + 19) + p1)) r5) (Int32.toNatClampNeg ((k_o + 19) + p1))) - 1)), (0, .ref a0), (1, .int p1), (2, .int p2)]) hx hb dX10_isGhost_63 rfl hl (by decide) rfl (fun ls hl => ?_)
  obtain ⟨k14, h15, hf⟩ := bd_s hf
  refine L64 _ F p1 p2 (((upd k_w_3 (Int32.toNatClampNeg ((k_o + 19) + p1)) r5) (Int32.toNatClampNeg ((k_o + 19) + p1))) - 1) k_thrown (upd k_w_3 (Int32.toNatClampNeg ((k_o + 19) + p1)) r5) k_o k_isKept k_went k_wentMany k_waiting k_came k_depth k_isSilent k_x k_packed k_hits k_rues k_soonest k_inAll k14 _ _ ls h15 hP hD hS (lv_sub hl [1, 2, 3, 0] rfl) (fun H locs ls hP hD hS hl => ?_)
  refine lv_aload_n hx hb dX10_isGhost_98 rfl (lv_at hl 0 rfl) ?_
  refine gf_X10 (v := .ref a1) C hE hP 0 1 rfl (by decide) qF_X10_17 rfl dX10_isGhost_99 ?_
  refine lv_aload_n hx hb dX10_isGhost_102 rfl (lv_at hl 0 rfl) ?_
  refine lv_iload_n hx hb dX10_isGhost_103 rfl (lv_at hl 1 rfl) ?_
  refine lv_iconst (v := 0) hx hb dX10_isGhost_104 (by decide) ?_
  obtain ⟨r16, h17, hf⟩ := bd_s hf
  refine iv_R (rest := [.ref a1]) (st1 := [.int r16, .ref a1]) C hE hP (c_X10_ghostAt l D cI cZ cL cW F a0 a1 a2 a3 a4 a5 a6 k_thrown k14 k_o k_isKept k_went k_wentMany k_waiting k_came k_depth k_isSilent k_x k_packed k_hits k_rues k_soonest k_inAll p1 0 r16  h17) ok_X10_ghostAt qM_X10_79 rfl rfl ⟨(Nat.le_of_ble_eq_true rfl), (Nat.le_of_ble_eq_true rfl)⟩ rfl rfl hl.1 (Nat.le_of_ble_eq_true rfl) ⟨Nat.zero_le _, Nat.zero_le _⟩ dX10_isGhost_105 rfl rfl ?_
  refine lv_iload_n hx hb dX10_isGhost_108 rfl (lv_at hl 2 rfl) ?_
  obtain ⟨g18, hf⟩ := it_g hf
  refine va_iast hx hb hE.1 hP hD hS 1 0 rfl rfl g18 dX10_isGhost_109 (fun H locs (hP : va_P D vwCl (MX10 cI cZ cL cW a0 a1 a2 a3 a4 a5 a6 k_thrown (upd k14 (Int32.toNatClampNeg r16) p2) k_o k_isKept k_went k_wentMany k_waiting k_came k_depth k_isSilent k_x k_packed k_hits k_rues k_soonest k_inAll) H) (hD : va_D A (MX10 cI cZ cL cW a0 a1 a2 a3 a4 a5 a6 k_thrown (upd k14 (Int32.toNatClampNeg r16) p2) k_o k_isKept k_went k_wentMany k_waiting k_came k_depth k_isSilent k_x k_packed k_hits k_rues k_soonest k_inAll)) hS => ?_)
  cases hf
  exact rw_v C hr hlk hP hD hS dX10_isGhost_110
def X10_tells (F : Nat) (p1 : Int32) (p2 : Int32) (p3 : Int32) (p4 : Int32) (k_waiting : (Nat → Int32)) (k_came : Int32) (k_depth : Int32) (k_isSilent : Int32) : Option ((Nat → Int32) × Int32) := if (k_isSilent : Int32) = 0 then (if (100 : Int32) ≤ k_came then (some (k_waiting, (k_came + 1))) else (if ((5 * k_came) : Int32) < 0 ∨ 500 ≤ (Int32.toNatClampNeg (5 * k_came)) then none else (if (((5 * k_came) + 1) : Int32) < 0 ∨ 500 ≤ (Int32.toNatClampNeg ((5 * k_came) + 1)) then none else (if (((5 * k_came) + 2) : Int32) < 0 ∨ 500 ≤ (Int32.toNatClampNeg ((5 * k_came) + 2)) then none else (if (((5 * k_came) + 3) : Int32) < 0 ∨ 500 ≤ (Int32.toNatClampNeg ((5 * k_came) + 3)) then none else (if (((5 * k_came) + 4) : Int32) < 0 ∨ 500 ≤ (Int32.toNatClampNeg ((5 * k_came) + 4)) then none else (some ((upd (upd (upd (upd (upd k_waiting (Int32.toNatClampNeg (5 * k_came)) p1) (Int32.toNatClampNeg ((5 * k_came) + 1)) p2) (Int32.toNatClampNeg ((5 * k_came) + 2)) p3) (Int32.toNatClampNeg ((5 * k_came) + 3)) p4) (Int32.toNatClampNeg ((5 * k_came) + 4)) k_depth), (k_came + 1))))))))) else (some (k_waiting, k_came))
abbrev rm_X10_tells : Room := { frames := 0, cells := 0, slots := 0, locals := 0 }
theorem ok_X10_tells : OKV RX10 yX10_tells cX10_tells 5 none 4 := ⟨by decide +kernel, qV_X10_tells, qL_X10_tells, qI_X10, qD_X10_tells⟩
set_option maxHeartbeats 4000000 in
set_option maxRecDepth 100000 in
theorem c_X10_tells (l : Launch) (D : va_G) (cI cZ cL cW : ClassId) (F : Nat) (a0 : Nat) (a1 : Nat) (a2 : Nat) (a3 : Nat) (a4 : Nat) (a5 : Nat) (a6 : Nat) (k_thrown : Int32) (k_w : (Nat → Int32)) (k_o : Int32) (k_isKept : (Nat → Int32)) (k_went : (Nat → Int32)) (k_wentMany : Int32) (k_waiting : (Nat → Int32)) (k_came : Int32) (k_depth : Int32) (k_isSilent : Int32) (k_x : Int64) (k_packed : (Nat → Int32)) (k_hits : Int32) (k_rues : Int32) (k_soonest : Int32) (k_inAll : (Nat → Int32)) (p1 : Int32) (p2 : Int32) (p3 : Int32) (p4 : Int32) (k_waiting' : (Nat → Int32)) (k_came' : Int32) (hf : X10_tells F p1 p2 p3 p4 k_waiting k_came k_depth k_isSilent = some (k_waiting', k_came')) : CtrW l D (tyL cI cZ cL cW) nestW yX10_tells cX10_tells 5 none rm_X10_tells [.ref a0, .int p1, .int p2, .int p3, .int p4] (MX10 cI cZ cL cW a0 a1 a2 a3 a4 a5 a6 k_thrown k_w k_o k_isKept k_went k_wentMany k_waiting k_came k_depth k_isSilent k_x k_packed k_hits k_rues k_soonest k_inAll) (MX10 cI cZ cL cW a0 a1 a2 a3 a4 a5 a6 k_thrown k_w k_o k_isKept k_went k_wentMany (k_waiting') (k_came') k_depth k_isSilent k_x k_packed k_hits k_rues k_soonest k_inAll) none := by
  refine ofA RX10 (by decide) rfl (Nat.le_of_ble_eq_true rfl) ?_
  intro p e s m below meth c ls A C hr hlk hE hA hP hD hS hl
  generalize (List.toArray ([.ref a0, .int p1, .int p2, .int p3, .int p4] : List Value)) = args at C ⊢
  obtain ⟨hx, hb, hml, hown, ht⟩ := id C
  have hl : lv_has ls 5 [(0, .ref a0), (1, .int p1), (2, .int p2), (3, .int p3), (4, .int p4)] := hl
  refine lv_aload_n hx hb dX10_tells_0 rfl (lv_at hl 0 rfl) ?_
  refine gf_X10 (v := .int k_isSilent) C hE hP 0 9 rfl (by decide) qF_X10_105 rfl dX10_tells_1 ?_
  refine lv_if_eq (tgt := 8) hx hb dX10_tells_4 (by decide) (fun c7 => ?_) (fun c7 => ?_)
  · have hf := it_p hf c7
    refine lv_aload_n hx hb dX10_tells_8 rfl (lv_at hl 0 rfl) ?_
    refine gf_X10 (v := .int k_came) C hE hP 0 7 rfl (by decide) qF_X10_109 rfl dX10_tells_9 ?_
    refine lv_bipush (v := 100) hx hb dX10_tells_12 (by decide) ?_
    refine lv_icmp_ge (tgt := 89) hx hb dX10_tells_14 (by decide) (fun c6 => ?_) (fun c6 => ?_)
    · have hf := it_p hf c6
      refine lv_aload_n hx hb dX10_tells_89 rfl (lv_at hl 0 rfl) ?_
      refine lv_dup hx hb dX10_tells_90 rfl ?_
      refine gf_X10 (v := .int k_came) C hE hP 0 7 rfl (by decide) qF_X10_109 rfl dX10_tells_91 ?_
      refine lv_iconst (v := 1) hx hb dX10_tells_94 (by decide) ?_
      refine lv_iadd hx hb dX10_tells_95 ?_
      refine pf_X10 (v := .int (k_came + 1)) C hE hP hD hS 0 7 rfl (by decide) qF_X10_109 rfl rfl rfl (Nat.le_of_ble_eq_true rfl) dX10_tells_96 (fun H locs (hP : va_P D vwCl (MX10 cI cZ cL cW a0 a1 a2 a3 a4 a5 a6 k_thrown k_w k_o k_isKept k_went k_wentMany k_waiting (k_came + 1) k_depth k_isSilent k_x k_packed k_hits k_rues k_soonest k_inAll) H) (hD : va_D A (MX10 cI cZ cL cW a0 a1 a2 a3 a4 a5 a6 k_thrown k_w k_o k_isKept k_went k_wentMany k_waiting (k_came + 1) k_depth k_isSilent k_x k_packed k_hits k_rues k_soonest k_inAll)) hS => ?_)
      cases hf
      exact rw_v C hr hlk hP hD hS dX10_tells_99
    · have hf := it_n hf c6
      refine lv_aload_n hx hb dX10_tells_17 rfl (lv_at hl 0 rfl) ?_
      refine gf_X10 (v := .ref a4) C hE hP 0 6 rfl (by decide) qF_X10_28 rfl dX10_tells_18 ?_
      refine lv_iconst (v := 5) hx hb dX10_tells_21 (by decide) ?_
      refine lv_aload_n hx hb dX10_tells_22 rfl (lv_at hl 0 rfl) ?_
      refine gf_X10 (v := .int k_came) C hE hP 0 7 rfl (by decide) qF_X10_109 rfl dX10_tells_23 ?_
      refine lv_imul hx hb dX10_tells_26 ?_
      refine lv_iload_n hx hb dX10_tells_27 rfl (lv_at hl 1 rfl) ?_
      obtain ⟨g5, hf⟩ := it_g hf
      refine va_iast hx hb hE.1 hP hD hS 4 0 rfl rfl g5 dX10_tells_28 (fun H locs (hP : va_P D vwCl (MX10 cI cZ cL cW a0 a1 a2 a3 a4 a5 a6 k_thrown k_w k_o k_isKept k_went k_wentMany (upd k_waiting (Int32.toNatClampNeg (5 * k_came)) p1) k_came k_depth k_isSilent k_x k_packed k_hits k_rues k_soonest k_inAll) H) (hD : va_D A (MX10 cI cZ cL cW a0 a1 a2 a3 a4 a5 a6 k_thrown k_w k_o k_isKept k_went k_wentMany (upd k_waiting (Int32.toNatClampNeg (5 * k_came)) p1) k_came k_depth k_isSilent k_x k_packed k_hits k_rues k_soonest k_inAll)) hS => ?_)
      refine lv_aload_n hx hb dX10_tells_29 rfl (lv_at hl 0 rfl) ?_
      refine gf_X10 (v := .ref a4) C hE hP 0 6 rfl (by decide) qF_X10_28 rfl dX10_tells_30 ?_
      refine lv_iconst (v := 5) hx hb dX10_tells_33 (by decide) ?_
      refine lv_aload_n hx hb dX10_tells_34 rfl (lv_at hl 0 rfl) ?_
      refine gf_X10 (v := .int k_came) C hE hP 0 7 rfl (by decide) qF_X10_109 rfl dX10_tells_35 ?_
      refine lv_imul hx hb dX10_tells_38 ?_
      refine lv_iconst (v := 1) hx hb dX10_tells_39 (by decide) ?_
      refine lv_iadd hx hb dX10_tells_40 ?_
      refine lv_iload_n hx hb dX10_tells_41 rfl (lv_at hl 2 rfl) ?_
      obtain ⟨g4, hf⟩ := it_g hf
      refine va_iast hx hb hE.1 hP hD hS 4 0 rfl rfl g4 dX10_tells_42 (fun H locs (hP : va_P D vwCl (MX10 cI cZ cL cW a0 a1 a2 a3 a4 a5 a6 k_thrown k_w k_o k_isKept k_went k_wentMany (upd (upd k_waiting (Int32.toNatClampNeg (5 * k_came)) p1) (Int32.toNatClampNeg ((5 * k_came) + 1)) p2) k_came k_depth k_isSilent k_x k_packed k_hits k_rues k_soonest k_inAll) H) (hD : va_D A (MX10 cI cZ cL cW a0 a1 a2 a3 a4 a5 a6 k_thrown k_w k_o k_isKept k_went k_wentMany (upd (upd k_waiting (Int32.toNatClampNeg (5 * k_came)) p1) (Int32.toNatClampNeg ((5 * k_came) + 1)) p2) k_came k_depth k_isSilent k_x k_packed k_hits k_rues k_soonest k_inAll)) hS => ?_)
      refine lv_aload_n hx hb dX10_tells_43 rfl (lv_at hl 0 rfl) ?_
      refine gf_X10 (v := .ref a4) C hE hP 0 6 rfl (by decide) qF_X10_28 rfl dX10_tells_44 ?_
      refine lv_iconst (v := 5) hx hb dX10_tells_47 (by decide) ?_
      refine lv_aload_n hx hb dX10_tells_48 rfl (lv_at hl 0 rfl) ?_
      refine gf_X10 (v := .int k_came) C hE hP 0 7 rfl (by decide) qF_X10_109 rfl dX10_tells_49 ?_
      refine lv_imul hx hb dX10_tells_52 ?_
      refine lv_iconst (v := 2) hx hb dX10_tells_53 (by decide) ?_
      refine lv_iadd hx hb dX10_tells_54 ?_
      refine lv_iload_n hx hb dX10_tells_55 rfl (lv_at hl 3 rfl) ?_
      obtain ⟨g3, hf⟩ := it_g hf
      refine va_iast hx hb hE.1 hP hD hS 4 0 rfl rfl g3 dX10_tells_56 (fun H locs (hP : va_P D vwCl (MX10 cI cZ cL cW a0 a1 a2 a3 a4 a5 a6 k_thrown k_w k_o k_isKept k_went k_wentMany (upd (upd (upd k_waiting (Int32.toNatClampNeg (5 * k_came)) p1) (Int32.toNatClampNeg ((5 * k_came) + 1)) p2) (Int32.toNatClampNeg ((5 * k_came) + 2)) p3) k_came k_depth k_isSilent k_x k_packed k_hits k_rues k_soonest k_inAll) H) (hD : va_D A (MX10 cI cZ cL cW a0 a1 a2 a3 a4 a5 a6 k_thrown k_w k_o k_isKept k_went k_wentMany (upd (upd (upd k_waiting (Int32.toNatClampNeg (5 * k_came)) p1) (Int32.toNatClampNeg ((5 * k_came) + 1)) p2) (Int32.toNatClampNeg ((5 * k_came) + 2)) p3) k_came k_depth k_isSilent k_x k_packed k_hits k_rues k_soonest k_inAll)) hS => ?_)
      refine lv_aload_n hx hb dX10_tells_57 rfl (lv_at hl 0 rfl) ?_
      refine gf_X10 (v := .ref a4) C hE hP 0 6 rfl (by decide) qF_X10_28 rfl dX10_tells_58 ?_
      refine lv_iconst (v := 5) hx hb dX10_tells_61 (by decide) ?_
      refine lv_aload_n hx hb dX10_tells_62 rfl (lv_at hl 0 rfl) ?_
      refine gf_X10 (v := .int k_came) C hE hP 0 7 rfl (by decide) qF_X10_109 rfl dX10_tells_63 ?_
      refine lv_imul hx hb dX10_tells_66 ?_
      refine lv_iconst (v := 3) hx hb dX10_tells_67 (by decide) ?_
      refine lv_iadd hx hb dX10_tells_68 ?_
      refine lv_iload hx hb dX10_tells_69 (lv_at hl 4 rfl) ?_
      obtain ⟨g2, hf⟩ := it_g hf
      refine va_iast hx hb hE.1 hP hD hS 4 0 rfl rfl g2 dX10_tells_71 (fun H locs (hP : va_P D vwCl (MX10 cI cZ cL cW a0 a1 a2 a3 a4 a5 a6 k_thrown k_w k_o k_isKept k_went k_wentMany (upd (upd (upd (upd k_waiting (Int32.toNatClampNeg (5 * k_came)) p1) (Int32.toNatClampNeg ((5 * k_came) + 1)) p2) (Int32.toNatClampNeg ((5 * k_came) + 2)) p3) (Int32.toNatClampNeg ((5 * k_came) + 3)) p4) k_came k_depth k_isSilent k_x k_packed k_hits k_rues k_soonest k_inAll) H) (hD : va_D A (MX10 cI cZ cL cW a0 a1 a2 a3 a4 a5 a6 k_thrown k_w k_o k_isKept k_went k_wentMany (upd (upd (upd (upd k_waiting (Int32.toNatClampNeg (5 * k_came)) p1) (Int32.toNatClampNeg ((5 * k_came) + 1)) p2) (Int32.toNatClampNeg ((5 * k_came) + 2)) p3) (Int32.toNatClampNeg ((5 * k_came) + 3)) p4) k_came k_depth k_isSilent k_x k_packed k_hits k_rues k_soonest k_inAll)) hS => ?_)
      refine lv_aload_n hx hb dX10_tells_72 rfl (lv_at hl 0 rfl) ?_
      refine gf_X10 (v := .ref a4) C hE hP 0 6 rfl (by decide) qF_X10_28 rfl dX10_tells_73 ?_
      refine lv_iconst (v := 5) hx hb dX10_tells_76 (by decide) ?_
      refine lv_aload_n hx hb dX10_tells_77 rfl (lv_at hl 0 rfl) ?_
      refine gf_X10 (v := .int k_came) C hE hP 0 7 rfl (by decide) qF_X10_109 rfl dX10_tells_78 ?_
      refine lv_imul hx hb dX10_tells_81 ?_
      refine lv_iconst (v := 4) hx hb dX10_tells_82 (by decide) ?_
      refine lv_iadd hx hb dX10_tells_83 ?_
      refine lv_aload_n hx hb dX10_tells_84 rfl (lv_at hl 0 rfl) ?_
      refine gf_X10 (v := .int k_depth) C hE hP 0 8 rfl (by decide) qF_X10_112 rfl dX10_tells_85 ?_
      obtain ⟨g1, hf⟩ := it_g hf
      refine va_iast hx hb hE.1 hP hD hS 4 0 rfl rfl g1 dX10_tells_88 (fun H locs (hP : va_P D vwCl (MX10 cI cZ cL cW a0 a1 a2 a3 a4 a5 a6 k_thrown k_w k_o k_isKept k_went k_wentMany (upd (upd (upd (upd (upd k_waiting (Int32.toNatClampNeg (5 * k_came)) p1) (Int32.toNatClampNeg ((5 * k_came) + 1)) p2) (Int32.toNatClampNeg ((5 * k_came) + 2)) p3) (Int32.toNatClampNeg ((5 * k_came) + 3)) p4) (Int32.toNatClampNeg ((5 * k_came) + 4)) k_depth) k_came k_depth k_isSilent k_x k_packed k_hits k_rues k_soonest k_inAll) H) (hD : va_D A (MX10 cI cZ cL cW a0 a1 a2 a3 a4 a5 a6 k_thrown k_w k_o k_isKept k_went k_wentMany (upd (upd (upd (upd (upd k_waiting (Int32.toNatClampNeg (5 * k_came)) p1) (Int32.toNatClampNeg ((5 * k_came) + 1)) p2) (Int32.toNatClampNeg ((5 * k_came) + 2)) p3) (Int32.toNatClampNeg ((5 * k_came) + 3)) p4) (Int32.toNatClampNeg ((5 * k_came) + 4)) k_depth) k_came k_depth k_isSilent k_x k_packed k_hits k_rues k_soonest k_inAll)) hS => ?_)
      refine lv_aload_n hx hb dX10_tells_89 rfl (lv_at hl 0 rfl) ?_
      refine lv_dup hx hb dX10_tells_90 rfl ?_
      refine gf_X10 (v := .int k_came) C hE hP 0 7 rfl (by decide) qF_X10_109 rfl dX10_tells_91 ?_
      refine lv_iconst (v := 1) hx hb dX10_tells_94 (by decide) ?_
      refine lv_iadd hx hb dX10_tells_95 ?_
      refine pf_X10 (v := .int (k_came + 1)) C hE hP hD hS 0 7 rfl (by decide) qF_X10_109 rfl rfl rfl (Nat.le_of_ble_eq_true rfl) dX10_tells_96 (fun H locs (hP : va_P D vwCl (MX10 cI cZ cL cW a0 a1 a2 a3 a4 a5 a6 k_thrown k_w k_o k_isKept k_went k_wentMany (upd (upd (upd (upd (upd k_waiting (Int32.toNatClampNeg (5 * k_came)) p1) (Int32.toNatClampNeg ((5 * k_came) + 1)) p2) (Int32.toNatClampNeg ((5 * k_came) + 2)) p3) (Int32.toNatClampNeg ((5 * k_came) + 3)) p4) (Int32.toNatClampNeg ((5 * k_came) + 4)) k_depth) (k_came + 1) k_depth k_isSilent k_x k_packed k_hits k_rues k_soonest k_inAll) H) (hD : va_D A (MX10 cI cZ cL cW a0 a1 a2 a3 a4 a5 a6 k_thrown k_w k_o k_isKept k_went k_wentMany (upd (upd (upd (upd (upd k_waiting (Int32.toNatClampNeg (5 * k_came)) p1) (Int32.toNatClampNeg ((5 * k_came) + 1)) p2) (Int32.toNatClampNeg ((5 * k_came) + 2)) p3) (Int32.toNatClampNeg ((5 * k_came) + 3)) p4) (Int32.toNatClampNeg ((5 * k_came) + 4)) k_depth) (k_came + 1) k_depth k_isSilent k_x k_packed k_hits k_rues k_soonest k_inAll)) hS => ?_)
      cases hf
      exact rw_v C hr hlk hP hD hS dX10_tells_99
  · have hf := it_n hf c7
    cases hf
    exact rw_v C hr hlk hP hD hS dX10_tells_7
def X10_evicts (F : Nat) (p1 : Int32) (k_w : (Nat → Int32)) (k_o : Int32) (k_went : (Nat → Int32)) (k_wentMany : Int32) (k_waiting : (Nat → Int32)) (k_came : Int32) (k_depth : Int32) (k_isSilent : Int32) : Option (Int32 × (Nat → Int32) × (Nat → Int32) × Int32 × (Nat → Int32) × Int32) := if ((k_o + 2) : Int32) < 0 ∨ 3392 ≤ (Int32.toNatClampNeg (k_o + 2)) then none else ((X10_chosen F (k_w (Int32.toNatClampNeg (k_o + 2))) p1 k_w k_o).bind fun r1 => (if (r1 : Int32) = (-1) then (some (0, k_w, k_went, k_wentMany, k_waiting, k_came)) else ((X10_of F r1 0 k_w k_o).bind fun r3 => ((X10_of F r1 1 k_w k_o).bind fun r5 => ((X10_of F r1 2 k_w k_o).bind fun r7 => ((X10_tells F 2 r3 r5 r7 k_waiting k_came k_depth k_isSilent).bind fun (k_waiting_9, k_came_10) => ((X10_of F r1 0 k_w k_o).bind fun r12 => (if ((k_wentMany - k_wentMany / 128 * 128) : Int32) < 0 ∨ 128 ≤ (Int32.toNatClampNeg (k_wentMany - k_wentMany / 128 * 128)) then none else (if ((k_o + 10) : Int32) < 0 ∨ 3392 ≤ (Int32.toNatClampNeg (k_o + 10)) then none else (if ((k_o + 10) : Int32) < 0 ∨ 3392 ≤ (Int32.toNatClampNeg (k_o + 10)) then none else (if ((k_o + 16) : Int32) < 0 ∨ 3392 ≤ (Int32.toNatClampNeg (k_o + 16)) then none else (if ((k_w (Int32.toNatClampNeg (k_o + 2))) : Int32) = 2 then ((X10_flag F 1).bind fun r36 => (if ((k_o + 16) : Int32) < 0 ∨ 3392 ≤ (Int32.toNatClampNeg (k_o + 16)) then none else ((X10_of F r1 3 (upd (upd k_w (Int32.toNatClampNeg (k_o + 10)) ((k_w (Int32.toNatClampNeg (k_o + 10))) + 1)) (Int32.toNatClampNeg (k_o + 16)) (((upd k_w (Int32.toNatClampNeg (k_o + 10)) ((k_w (Int32.toNatClampNeg (k_o + 10))) + 1)) (Int32.toNatClampNeg (k_o + 16))) + r36)) k_o).bind fun r38 => (if (r38 : Int32) ≤ 1 then ((X10_flag F 0).bind fun r40 => ((X10_of F r1 0 (upd (upd k_w (Int32.toNatClampNeg (k_o + 10)) ((k_w (Int32.toNatClampNeg (k_o + 10))) + 1)) (Int32.toNatClampNeg (k_o + 16)) (((upd k_w (Int32.toNatClampNeg (k_o + 10)) ((k_w (Int32.toNatClampNeg (k_o + 10))) + 1)) (Int32.toNatClampNeg (k_o + 16))) + r36)) k_o).bind fun r42 => ((X10_isGhost F r40 r42 (upd (upd k_w (Int32.toNatClampNeg (k_o + 10)) ((k_w (Int32.toNatClampNeg (k_o + 10))) + 1)) (Int32.toNatClampNeg (k_o + 16)) (((upd k_w (Int32.toNatClampNeg (k_o + 10)) ((k_w (Int32.toNatClampNeg (k_o + 10))) + 1)) (Int32.toNatClampNeg (k_o + 16))) + r36)) k_o).bind fun k_w_44 => ((X10_goes F r1 k_w_44 k_o).bind fun k_w_46 => (some (1, k_w_46, (upd k_went (Int32.toNatClampNeg (k_wentMany - k_wentMany / 128 * 128)) r12), (k_wentMany + 1), k_waiting_9, k_came_10)))))) else ((X10_flag F 1).bind fun r48 => ((X10_of F r1 0 (upd (upd k_w (Int32.toNatClampNeg (k_o + 10)) ((k_w (Int32.toNatClampNeg (k_o + 10))) + 1)) (Int32.toNatClampNeg (k_o + 16)) (((upd k_w (Int32.toNatClampNeg (k_o + 10)) ((k_w (Int32.toNatClampNeg (k_o + 10))) + 1)) (Int32.toNatClampNeg (k_o + 16))) + r36)) k_o).bind fun r50 => ((X10_isGhost F r48 r50 (upd (upd k_w (Int32.toNatClampNeg (k_o + 10)) ((k_w (Int32.toNatClampNeg (k_o + 10))) + 1)) (Int32.toNatClampNeg (k_o + 16)) (((upd k_w (Int32.toNatClampNeg (k_o + 10)) ((k_w (Int32.toNatClampNeg (k_o + 10))) + 1)) (Int32.toNatClampNeg (k_o + 16))) + r36)) k_o).bind fun k_w_52 => ((X10_goes F r1 k_w_52 k_o).bind fun k_w_54 => (some (1, k_w_54, (upd k_went (Int32.toNatClampNeg (k_wentMany - k_wentMany / 128 * 128)) r12), (k_wentMany + 1), k_waiting_9, k_came_10)))))))))) else ((X10_flag F 0).bind fun r14 => (if ((k_o + 16) : Int32) < 0 ∨ 3392 ≤ (Int32.toNatClampNeg (k_o + 16)) then none else ((X10_of F r1 3 (upd (upd k_w (Int32.toNatClampNeg (k_o + 10)) ((k_w (Int32.toNatClampNeg (k_o + 10))) + 1)) (Int32.toNatClampNeg (k_o + 16)) (((upd k_w (Int32.toNatClampNeg (k_o + 10)) ((k_w (Int32.toNatClampNeg (k_o + 10))) + 1)) (Int32.toNatClampNeg (k_o + 16))) + r14)) k_o).bind fun r16 => (if (r16 : Int32) ≤ 1 then ((X10_flag F 0).bind fun r18 => ((X10_of F r1 0 (upd (upd k_w (Int32.toNatClampNeg (k_o + 10)) ((k_w (Int32.toNatClampNeg (k_o + 10))) + 1)) (Int32.toNatClampNeg (k_o + 16)) (((upd k_w (Int32.toNatClampNeg (k_o + 10)) ((k_w (Int32.toNatClampNeg (k_o + 10))) + 1)) (Int32.toNatClampNeg (k_o + 16))) + r14)) k_o).bind fun r20 => ((X10_isGhost F r18 r20 (upd (upd k_w (Int32.toNatClampNeg (k_o + 10)) ((k_w (Int32.toNatClampNeg (k_o + 10))) + 1)) (Int32.toNatClampNeg (k_o + 16)) (((upd k_w (Int32.toNatClampNeg (k_o + 10)) ((k_w (Int32.toNatClampNeg (k_o + 10))) + 1)) (Int32.toNatClampNeg (k_o + 16))) + r14)) k_o).bind fun k_w_22 => ((X10_goes F r1 k_w_22 k_o).bind fun k_w_24 => (some (1, k_w_24, (upd k_went (Int32.toNatClampNeg (k_wentMany - k_wentMany / 128 * 128)) r12), (k_wentMany + 1), k_waiting_9, k_came_10)))))) else ((X10_flag F 1).bind fun r26 => ((X10_of F r1 0 (upd (upd k_w (Int32.toNatClampNeg (k_o + 10)) ((k_w (Int32.toNatClampNeg (k_o + 10))) + 1)) (Int32.toNatClampNeg (k_o + 16)) (((upd k_w (Int32.toNatClampNeg (k_o + 10)) ((k_w (Int32.toNatClampNeg (k_o + 10))) + 1)) (Int32.toNatClampNeg (k_o + 16))) + r14)) k_o).bind fun r28 => ((X10_isGhost F r26 r28 (upd (upd k_w (Int32.toNatClampNeg (k_o + 10)) ((k_w (Int32.toNatClampNeg (k_o + 10))) + 1)) (Int32.toNatClampNeg (k_o + 16)) (((upd k_w (Int32.toNatClampNeg (k_o + 10)) ((k_w (Int32.toNatClampNeg (k_o + 10))) + 1)) (Int32.toNatClampNeg (k_o + 16))) + r14)) k_o).bind fun k_w_30 => ((X10_goes F r1 k_w_30 k_o).bind fun k_w_32 => (some (1, k_w_32, (upd k_went (Int32.toNatClampNeg (k_wentMany - k_wentMany / 128 * 128)) r12), (k_wentMany + 1), k_waiting_9, k_came_10))))))))))))))))))))))
abbrev rm_X10_evicts : Room := { frames := 5, cells := 0, slots := 0, locals := 116 }
theorem ok_X10_evicts : OKV RX10 yX10_evicts cX10_evicts 4 (some .boolean) 1 := ⟨by decide +kernel, qV_X10_evicts, qL_X10_evicts, qI_X10, qD_X10_evicts⟩
set_option maxHeartbeats 4000000 in
set_option maxRecDepth 100000 in
theorem c_X10_evicts (l : Launch) (D : va_G) (cI cZ cL cW : ClassId) (F : Nat) (a0 : Nat) (a1 : Nat) (a2 : Nat) (a3 : Nat) (a4 : Nat) (a5 : Nat) (a6 : Nat) (k_thrown : Int32) (k_w : (Nat → Int32)) (k_o : Int32) (k_isKept : (Nat → Int32)) (k_went : (Nat → Int32)) (k_wentMany : Int32) (k_waiting : (Nat → Int32)) (k_came : Int32) (k_depth : Int32) (k_isSilent : Int32) (k_x : Int64) (k_packed : (Nat → Int32)) (k_hits : Int32) (k_rues : Int32) (k_soonest : Int32) (k_inAll : (Nat → Int32)) (p1 : Int32) (r : Int32) (k_w' : (Nat → Int32)) (k_went' : (Nat → Int32)) (k_wentMany' : Int32) (k_waiting' : (Nat → Int32)) (k_came' : Int32) (hf : X10_evicts F p1 k_w k_o k_went k_wentMany k_waiting k_came k_depth k_isSilent = some (r, k_w', k_went', k_wentMany', k_waiting', k_came')) : CtrW l D (tyL cI cZ cL cW) nestW yX10_evicts cX10_evicts 4 (some .boolean) rm_X10_evicts [.ref a0, .int p1] (MX10 cI cZ cL cW a0 a1 a2 a3 a4 a5 a6 k_thrown k_w k_o k_isKept k_went k_wentMany k_waiting k_came k_depth k_isSilent k_x k_packed k_hits k_rues k_soonest k_inAll) (MX10 cI cZ cL cW a0 a1 a2 a3 a4 a5 a6 k_thrown (k_w') k_o k_isKept (k_went') (k_wentMany') (k_waiting') (k_came') k_depth k_isSilent k_x k_packed k_hits k_rues k_soonest k_inAll) (some (.int r)) := by
  refine ofA RX10 (by decide) rfl (Nat.le_of_ble_eq_true rfl) ?_
  intro p e s m below meth c ls A C hr hlk hE hA hP hD hS hl
  generalize (List.toArray ([.ref a0, .int p1] : List Value)) = args at C ⊢
  obtain ⟨hx, hb, hml, hown, ht⟩ := id C
  have hl : lv_has ls 4 [(0, .ref a0), (1, .int p1)] := hl
  refine lv_aload_n hx hb dX10_evicts_0 rfl (lv_at hl 0 rfl) ?_
  refine gf_X10 (v := .ref a1) C hE hP 0 1 rfl (by decide) qF_X10_17 rfl dX10_evicts_1 ?_
  refine lv_aload_n hx hb dX10_evicts_4 rfl (lv_at hl 0 rfl) ?_
  refine gf_X10 (v := .int k_o) C hE hP 0 2 rfl (by decide) qF_X10_41 rfl dX10_evicts_5 ?_
  refine lv_iconst (v := 2) hx hb dX10_evicts_8 (by decide) ?_
  refine lv_iadd hx hb dX10_evicts_9 ?_
  obtain ⟨g64, hf⟩ := it_g hf
  refine va_iald hx hb hE.1 hP 1 0 rfl rfl g64 dX10_evicts_10 ?_
  refine lv_istore_n (lv' := [(2, .int (k_w (Int32.toNatClampNeg (k_o + 2)))), (0, .ref a0), (1, .int p1)]) hx hb dX10_evicts_11 rfl hl (by decide) rfl (fun ls hl => ?_)
  refine lv_aload_n hx hb dX10_evicts_12 rfl (lv_at hl 1 rfl) ?_
  refine lv_iload_n hx hb dX10_evicts_13 rfl (lv_at hl 0 rfl) ?_
  refine lv_iload_n hx hb dX10_evicts_14 rfl (lv_at hl 2 rfl) ?_
  obtain ⟨r1, h2, hf⟩ := bd_s hf
  refine iv_R (rest := []) (st1 := [.int r1]) C hE hP (c_X10_chosen l D cI cZ cL cW F a0 a1 a2 a3 a4 a5 a6 k_thrown k_w k_o k_isKept k_went k_wentMany k_waiting k_came k_depth k_isSilent k_x k_packed k_hits k_rues k_soonest k_inAll (k_w (Int32.toNatClampNeg (k_o + 2))) p1 r1  h2) ok_X10_chosen qM_X10_88 rfl rfl ⟨(Nat.le_of_ble_eq_true rfl), (Nat.le_of_ble_eq_true rfl)⟩ rfl rfl hl.1 (Nat.le_of_ble_eq_true rfl) ⟨Nat.zero_le _, Nat.zero_le _⟩ dX10_evicts_15 rfl rfl ?_
  refine lv_istore_n (lv' := [(3, .int r1), (2, .int (k_w (Int32.toNatClampNeg (k_o + 2)))), (0, .ref a0), (1, .int p1)]) hx hb dX10_evicts_18 rfl hl (by decide) rfl (fun ls hl => ?_)
  refine lv_iload_n hx hb dX10_evicts_19 rfl (lv_at hl 0 rfl) ?_
  refine lv_iconst (v := (-1)) hx hb dX10_evicts_20 (by decide) ?_
  refine lv_icmp_ne (tgt := 26) hx hb dX10_evicts_21 (by decide) (fun c63 => ?_) (fun c63 => ?_)
  · have hf := it_n hf c63
    refine lv_aload_n hx hb dX10_evicts_26 rfl (lv_at hl 2 rfl) ?_
    refine lv_iconst (v := 2) hx hb dX10_evicts_27 (by decide) ?_
    refine lv_aload_n hx hb dX10_evicts_28 rfl (lv_at hl 2 rfl) ?_
    refine lv_iload_n hx hb dX10_evicts_29 rfl (lv_at hl 0 rfl) ?_
    refine lv_iconst (v := 0) hx hb dX10_evicts_30 (by decide) ?_
    obtain ⟨r3, h4, hf⟩ := bd_s hf
    refine iv_R (rest := [.int 2, .ref a0]) (st1 := [.int r3, .int 2, .ref a0]) C hE hP (c_X10_of l D cI cZ cL cW F a0 a1 a2 a3 a4 a5 a6 k_thrown k_w k_o k_isKept k_went k_wentMany k_waiting k_came k_depth k_isSilent k_x k_packed k_hits k_rues k_soonest k_inAll r1 0 r3  h4) ok_X10_of qM_X10_44 rfl rfl ⟨(Nat.le_of_ble_eq_true rfl), (Nat.le_of_ble_eq_true rfl)⟩ rfl rfl hl.1 (Nat.le_of_ble_eq_true rfl) ⟨Nat.zero_le _, Nat.zero_le _⟩ dX10_evicts_31 rfl rfl ?_
    refine lv_aload_n hx hb dX10_evicts_34 rfl (lv_at hl 2 rfl) ?_
    refine lv_iload_n hx hb dX10_evicts_35 rfl (lv_at hl 0 rfl) ?_
    refine lv_iconst (v := 1) hx hb dX10_evicts_36 (by decide) ?_
    obtain ⟨r5, h6, hf⟩ := bd_s hf
    refine iv_R (rest := [.int r3, .int 2, .ref a0]) (st1 := [.int r5, .int r3, .int 2, .ref a0]) C hE hP (c_X10_of l D cI cZ cL cW F a0 a1 a2 a3 a4 a5 a6 k_thrown k_w k_o k_isKept k_went k_wentMany k_waiting k_came k_depth k_isSilent k_x k_packed k_hits k_rues k_soonest k_inAll r1 1 r5  h6) ok_X10_of qM_X10_44 rfl rfl ⟨(Nat.le_of_ble_eq_true rfl), (Nat.le_of_ble_eq_true rfl)⟩ rfl rfl hl.1 (Nat.le_of_ble_eq_true rfl) ⟨Nat.zero_le _, Nat.zero_le _⟩ dX10_evicts_37 rfl rfl ?_
    refine lv_aload_n hx hb dX10_evicts_40 rfl (lv_at hl 2 rfl) ?_
    refine lv_iload_n hx hb dX10_evicts_41 rfl (lv_at hl 0 rfl) ?_
    refine lv_iconst (v := 2) hx hb dX10_evicts_42 (by decide) ?_
    obtain ⟨r7, h8, hf⟩ := bd_s hf
    refine iv_R (rest := [.int r5, .int r3, .int 2, .ref a0]) (st1 := [.int r7, .int r5, .int r3, .int 2, .ref a0]) C hE hP (c_X10_of l D cI cZ cL cW F a0 a1 a2 a3 a4 a5 a6 k_thrown k_w k_o k_isKept k_went k_wentMany k_waiting k_came k_depth k_isSilent k_x k_packed k_hits k_rues k_soonest k_inAll r1 2 r7  h8) ok_X10_of qM_X10_44 rfl rfl ⟨(Nat.le_of_ble_eq_true rfl), (Nat.le_of_ble_eq_true rfl)⟩ rfl rfl hl.1 (Nat.le_of_ble_eq_true rfl) ⟨Nat.zero_le _, Nat.zero_le _⟩ dX10_evicts_43 rfl rfl ?_
    obtain ⟨⟨k_waiting_9, k_came_10⟩, h11, hf⟩ := bd_s hf
    refine iv_A (rest := []) (st1 := []) C hE hP hD hS hA (c_X10_tells l D cI cZ cL cW F a0 a1 a2 a3 a4 a5 a6 k_thrown k_w k_o k_isKept k_went k_wentMany k_waiting k_came k_depth k_isSilent k_x k_packed k_hits k_rues k_soonest k_inAll 2 r3 r5 r7  k_waiting_9 k_came_10 h11) ok_X10_tells qM_X10_91 rfl rfl ⟨(Nat.le_of_ble_eq_true rfl), (Nat.le_of_ble_eq_true rfl)⟩ rfl rfl hl.1 (Nat.le_of_ble_eq_true rfl) ⟨Nat.zero_le _, Nat.zero_le _⟩ dX10_evicts_46 rfl rfl (fun H locs (hP : va_P D vwCl (MX10 cI cZ cL cW a0 a1 a2 a3 a4 a5 a6 k_thrown k_w k_o k_isKept k_went k_wentMany k_waiting_9 k_came_10 k_depth k_isSilent k_x k_packed k_hits k_rues k_soonest k_inAll) H) (hD : va_D A (MX10 cI cZ cL cW a0 a1 a2 a3 a4 a5 a6 k_thrown k_w k_o k_isKept k_went k_wentMany k_waiting_9 k_came_10 k_depth k_isSilent k_x k_packed k_hits k_rues k_soonest k_inAll)) hS => ?_)
    refine lv_aload_n hx hb dX10_evicts_49 rfl (lv_at hl 2 rfl) ?_
    refine gf_X10 (v := .ref a3) C hE hP 0 4 rfl (by decide) qF_X10_25 rfl dX10_evicts_50 ?_
    refine lv_aload_n hx hb dX10_evicts_53 rfl (lv_at hl 2 rfl) ?_
    refine gf_X10 (v := .int k_wentMany) C hE hP 0 5 rfl (by decide) qF_X10_95 rfl dX10_evicts_54 ?_
    refine lv_sipush (v := 128) hx hb dX10_evicts_57 (by decide) ?_
    refine lv_irem hx hb dX10_evicts_60 (by decide) ?_
    refine lv_aload_n hx hb dX10_evicts_61 rfl (lv_at hl 2 rfl) ?_
    refine lv_iload_n hx hb dX10_evicts_62 rfl (lv_at hl 0 rfl) ?_
    refine lv_iconst (v := 0) hx hb dX10_evicts_63 (by decide) ?_
    obtain ⟨r12, h13, hf⟩ := bd_s hf
    refine iv_R (rest := [.int (k_wentMany - k_wentMany / 128 * 128), .ref a3]) (st1 := [.int r12, .int (k_wentMany - k_wentMany / 128 * 128), .ref a3]) C hE hP (c_X10_of l D cI cZ cL cW F a0 a1 a2 a3 a4 a5 a6 k_thrown k_w k_o k_isKept k_went k_wentMany k_waiting_9 k_came_10 k_depth k_isSilent k_x k_packed k_hits k_rues k_soonest k_inAll r1 0 r12  h13) ok_X10_of qM_X10_44 rfl rfl ⟨(Nat.le_of_ble_eq_true rfl), (Nat.le_of_ble_eq_true rfl)⟩ rfl rfl hl.1 (Nat.le_of_ble_eq_true rfl) ⟨Nat.zero_le _, Nat.zero_le _⟩ dX10_evicts_64 rfl rfl ?_
    obtain ⟨g62, hf⟩ := it_g hf
    refine va_iast hx hb hE.1 hP hD hS 3 0 rfl rfl g62 dX10_evicts_67 (fun H locs (hP : va_P D vwCl (MX10 cI cZ cL cW a0 a1 a2 a3 a4 a5 a6 k_thrown k_w k_o k_isKept (upd k_went (Int32.toNatClampNeg (k_wentMany - k_wentMany / 128 * 128)) r12) k_wentMany k_waiting_9 k_came_10 k_depth k_isSilent k_x k_packed k_hits k_rues k_soonest k_inAll) H) (hD : va_D A (MX10 cI cZ cL cW a0 a1 a2 a3 a4 a5 a6 k_thrown k_w k_o k_isKept (upd k_went (Int32.toNatClampNeg (k_wentMany - k_wentMany / 128 * 128)) r12) k_wentMany k_waiting_9 k_came_10 k_depth k_isSilent k_x k_packed k_hits k_rues k_soonest k_inAll)) hS => ?_)
    refine lv_aload_n hx hb dX10_evicts_68 rfl (lv_at hl 2 rfl) ?_
    refine lv_dup hx hb dX10_evicts_69 rfl ?_
    refine gf_X10 (v := .int k_wentMany) C hE hP 0 5 rfl (by decide) qF_X10_95 rfl dX10_evicts_70 ?_
    refine lv_iconst (v := 1) hx hb dX10_evicts_73 (by decide) ?_
    refine lv_iadd hx hb dX10_evicts_74 ?_
    refine pf_X10 (v := .int (k_wentMany + 1)) C hE hP hD hS 0 5 rfl (by decide) qF_X10_95 rfl rfl rfl (Nat.le_of_ble_eq_true rfl) dX10_evicts_75 (fun H locs (hP : va_P D vwCl (MX10 cI cZ cL cW a0 a1 a2 a3 a4 a5 a6 k_thrown k_w k_o k_isKept (upd k_went (Int32.toNatClampNeg (k_wentMany - k_wentMany / 128 * 128)) r12) (k_wentMany + 1) k_waiting_9 k_came_10 k_depth k_isSilent k_x k_packed k_hits k_rues k_soonest k_inAll) H) (hD : va_D A (MX10 cI cZ cL cW a0 a1 a2 a3 a4 a5 a6 k_thrown k_w k_o k_isKept (upd k_went (Int32.toNatClampNeg (k_wentMany - k_wentMany / 128 * 128)) r12) (k_wentMany + 1) k_waiting_9 k_came_10 k_depth k_isSilent k_x k_packed k_hits k_rues k_soonest k_inAll)) hS => ?_)
    refine lv_aload_n hx hb dX10_evicts_78 rfl (lv_at hl 2 rfl) ?_
    refine gf_X10 (v := .ref a1) C hE hP 0 1 rfl (by decide) qF_X10_17 rfl dX10_evicts_79 ?_
    refine lv_aload_n hx hb dX10_evicts_82 rfl (lv_at hl 2 rfl) ?_
    refine gf_X10 (v := .int k_o) C hE hP 0 2 rfl (by decide) qF_X10_41 rfl dX10_evicts_83 ?_
    refine lv_bipush (v := 10) hx hb dX10_evicts_86 (by decide) ?_
    refine lv_iadd hx hb dX10_evicts_88 ?_
    refine lv_dup2_11 hx hb dX10_evicts_89 rfl rfl ?_
    obtain ⟨g61, hf⟩ := it_g hf
    refine va_iald hx hb hE.1 hP 1 0 rfl rfl g61 dX10_evicts_90 ?_
    refine lv_iconst (v := 1) hx hb dX10_evicts_91 (by decide) ?_
    refine lv_iadd hx hb dX10_evicts_92 ?_
    obtain ⟨g60, hf⟩ := it_g hf
    refine va_iast hx hb hE.1 hP hD hS 1 0 rfl rfl g60 dX10_evicts_93 (fun H locs (hP : va_P D vwCl (MX10 cI cZ cL cW a0 a1 a2 a3 a4 a5 a6 k_thrown (upd k_w (Int32.toNatClampNeg (k_o + 10)) ((k_w (Int32.toNatClampNeg (k_o + 10))) + 1)) k_o k_isKept (upd k_went (Int32.toNatClampNeg (k_wentMany - k_wentMany / 128 * 128)) r12) (k_wentMany + 1) k_waiting_9 k_came_10 k_depth k_isSilent k_x k_packed k_hits k_rues k_soonest k_inAll) H) (hD : va_D A (MX10 cI cZ cL cW a0 a1 a2 a3 a4 a5 a6 k_thrown (upd k_w (Int32.toNatClampNeg (k_o + 10)) ((k_w (Int32.toNatClampNeg (k_o + 10))) + 1)) k_o k_isKept (upd k_went (Int32.toNatClampNeg (k_wentMany - k_wentMany / 128 * 128)) r12) (k_wentMany + 1) k_waiting_9 k_came_10 k_depth k_isSilent k_x k_packed k_hits k_rues k_soonest k_inAll)) hS => ?_)
    refine lv_aload_n hx hb dX10_evicts_94 rfl (lv_at hl 2 rfl) ?_
    refine gf_X10 (v := .ref a1) C hE hP 0 1 rfl (by decide) qF_X10_17 rfl dX10_evicts_95 ?_
    refine lv_aload_n hx hb dX10_evicts_98 rfl (lv_at hl 2 rfl) ?_
    refine gf_X10 (v := .int k_o) C hE hP 0 2 rfl (by decide) qF_X10_41 rfl dX10_evicts_99 ?_
    refine lv_bipush (v := 16) hx hb dX10_evicts_102 (by decide) ?_
    refine lv_iadd hx hb dX10_evicts_104 ?_
    refine lv_dup2_11 hx hb dX10_evicts_105 rfl rfl ?_
    obtain ⟨g59, hf⟩ := it_g hf
    refine va_iald hx hb hE.1 hP 1 0 rfl rfl g59 dX10_evicts_106 ?_
    refine lv_iload_n hx hb dX10_evicts_107 rfl (lv_at hl 1 rfl) ?_
    refine lv_iconst (v := 2) hx hb dX10_evicts_108 (by decide) ?_
    refine lv_icmp_ne (tgt := 116) hx hb dX10_evicts_109 (by decide) (fun c58 => ?_) (fun c58 => ?_)
    · have hf := it_n hf c58
      refine lv_iconst (v := 0) hx hb dX10_evicts_116 (by decide) ?_
      obtain ⟨r14, h15, hf⟩ := bd_s hf
      refine is_R (rest := [.int ((upd k_w (Int32.toNatClampNeg (k_o + 10)) ((k_w (Int32.toNatClampNeg (k_o + 10))) + 1)) (Int32.toNatClampNeg (k_o + 16))), .int (k_o + 16), .ref a1]) (st1 := [.int r14, .int ((upd k_w (Int32.toNatClampNeg (k_o + 10)) ((k_w (Int32.toNatClampNeg (k_o + 10))) + 1)) (Int32.toNatClampNeg (k_o + 16))), .int (k_o + 16), .ref a1]) C hE va_P_nil (c_X10_flag l D cI cZ cL cW F   0 r14  h15) ok_X10_flag qM_X10_57 rfl rfl ⟨(Nat.le_of_ble_eq_true rfl), (Nat.le_of_ble_eq_true rfl)⟩ hl.1 (Nat.le_of_ble_eq_true rfl) ⟨Nat.zero_le _, Nat.zero_le _⟩ dX10_evicts_117 rfl rfl ?_
      refine lv_iadd hx hb dX10_evicts_120 ?_
      obtain ⟨g35, hf⟩ := it_g hf
      refine va_iast hx hb hE.1 hP hD hS 1 0 rfl rfl g35 dX10_evicts_121 (fun H locs (hP : va_P D vwCl (MX10 cI cZ cL cW a0 a1 a2 a3 a4 a5 a6 k_thrown (upd (upd k_w (Int32.toNatClampNeg (k_o + 10)) ((k_w (Int32.toNatClampNeg (k_o + 10))) + 1)) (Int32.toNatClampNeg (k_o + 16)) (((upd k_w (Int32.toNatClampNeg (k_o + 10)) ((k_w (Int32.toNatClampNeg (k_o + 10))) + 1)) (Int32.toNatClampNeg (k_o + 16))) + r14)) k_o k_isKept (upd k_went (Int32.toNatClampNeg (k_wentMany - k_wentMany / 128 * 128)) r12) (k_wentMany + 1) k_waiting_9 k_came_10 k_depth k_isSilent k_x k_packed k_hits k_rues k_soonest k_inAll) H) (hD : va_D A (MX10 cI cZ cL cW a0 a1 a2 a3 a4 a5 a6 k_thrown (upd (upd k_w (Int32.toNatClampNeg (k_o + 10)) ((k_w (Int32.toNatClampNeg (k_o + 10))) + 1)) (Int32.toNatClampNeg (k_o + 16)) (((upd k_w (Int32.toNatClampNeg (k_o + 10)) ((k_w (Int32.toNatClampNeg (k_o + 10))) + 1)) (Int32.toNatClampNeg (k_o + 16))) + r14)) k_o k_isKept (upd k_went (Int32.toNatClampNeg (k_wentMany - k_wentMany / 128 * 128)) r12) (k_wentMany + 1) k_waiting_9 k_came_10 k_depth k_isSilent k_x k_packed k_hits k_rues k_soonest k_inAll)) hS => ?_)
      refine lv_aload_n hx hb dX10_evicts_122 rfl (lv_at hl 2 rfl) ?_
      refine lv_aload_n hx hb dX10_evicts_123 rfl (lv_at hl 2 rfl) ?_
      refine lv_iload_n hx hb dX10_evicts_124 rfl (lv_at hl 0 rfl) ?_
      refine lv_iconst (v := 3) hx hb dX10_evicts_125 (by decide) ?_
      obtain ⟨r16, h17, hf⟩ := bd_s hf
      refine iv_R (rest := [.ref a0]) (st1 := [.int r16, .ref a0]) C hE hP (c_X10_of l D cI cZ cL cW F a0 a1 a2 a3 a4 a5 a6 k_thrown (upd (upd k_w (Int32.toNatClampNeg (k_o + 10)) ((k_w (Int32.toNatClampNeg (k_o + 10))) + 1)) (Int32.toNatClampNeg (k_o + 16)) (((upd k_w (Int32.toNatClampNeg (k_o + 10)) ((k_w (Int32.toNatClampNeg (k_o + 10))) + 1)) (Int32.toNatClampNeg (k_o + 16))) + r14)) k_o k_isKept (upd k_went (Int32.toNatClampNeg (k_wentMany - k_wentMany / 128 * 128)) r12) (k_wentMany + 1) k_waiting_9 k_came_10 k_depth k_isSilent k_x k_packed k_hits k_rues k_soonest k_inAll r1 3 r16  h17) ok_X10_of qM_X10_44 rfl rfl ⟨(Nat.le_of_ble_eq_true rfl), (Nat.le_of_ble_eq_true rfl)⟩ rfl rfl hl.1 (Nat.le_of_ble_eq_true rfl) ⟨Nat.zero_le _, Nat.zero_le _⟩ dX10_evicts_126 rfl rfl ?_
      refine lv_iconst (v := 1) hx hb dX10_evicts_129 (by decide) ?_
      refine lv_icmp_le (tgt := 137) hx hb dX10_evicts_130 (by decide) (fun c34 => ?_) (fun c34 => ?_)
      · have hf := it_p hf c34
        refine lv_iconst (v := 0) hx hb dX10_evicts_137 (by decide) ?_
        obtain ⟨r18, h19, hf⟩ := bd_s hf
        refine is_R (rest := [.ref a0]) (st1 := [.int r18, .ref a0]) C hE va_P_nil (c_X10_flag l D cI cZ cL cW F   0 r18  h19) ok_X10_flag qM_X10_57 rfl rfl ⟨(Nat.le_of_ble_eq_true rfl), (Nat.le_of_ble_eq_true rfl)⟩ hl.1 (Nat.le_of_ble_eq_true rfl) ⟨Nat.zero_le _, Nat.zero_le _⟩ dX10_evicts_138 rfl rfl ?_
        refine lv_aload_n hx hb dX10_evicts_141 rfl (lv_at hl 2 rfl) ?_
        refine lv_iload_n hx hb dX10_evicts_142 rfl (lv_at hl 0 rfl) ?_
        refine lv_iconst (v := 0) hx hb dX10_evicts_143 (by decide) ?_
        obtain ⟨r20, h21, hf⟩ := bd_s hf
        refine iv_R (rest := [.int r18, .ref a0]) (st1 := [.int r20, .int r18, .ref a0]) C hE hP (c_X10_of l D cI cZ cL cW F a0 a1 a2 a3 a4 a5 a6 k_thrown (upd (upd k_w (Int32.toNatClampNeg (k_o + 10)) ((k_w (Int32.toNatClampNeg (k_o + 10))) + 1)) (Int32.toNatClampNeg (k_o + 16)) (((upd k_w (Int32.toNatClampNeg (k_o + 10)) ((k_w (Int32.toNatClampNeg (k_o + 10))) + 1)) (Int32.toNatClampNeg (k_o + 16))) + r14)) k_o k_isKept (upd k_went (Int32.toNatClampNeg (k_wentMany - k_wentMany / 128 * 128)) r12) (k_wentMany + 1) k_waiting_9 k_came_10 k_depth k_isSilent k_x k_packed k_hits k_rues k_soonest k_inAll r1 0 r20  h21) ok_X10_of qM_X10_44 rfl rfl ⟨(Nat.le_of_ble_eq_true rfl), (Nat.le_of_ble_eq_true rfl)⟩ rfl rfl hl.1 (Nat.le_of_ble_eq_true rfl) ⟨Nat.zero_le _, Nat.zero_le _⟩ dX10_evicts_144 rfl rfl ?_
        obtain ⟨k_w_22, h23, hf⟩ := bd_s hf
        refine iv_A (rest := []) (st1 := []) C hE hP hD hS hA (c_X10_isGhost l D cI cZ cL cW F a0 a1 a2 a3 a4 a5 a6 k_thrown (upd (upd k_w (Int32.toNatClampNeg (k_o + 10)) ((k_w (Int32.toNatClampNeg (k_o + 10))) + 1)) (Int32.toNatClampNeg (k_o + 16)) (((upd k_w (Int32.toNatClampNeg (k_o + 10)) ((k_w (Int32.toNatClampNeg (k_o + 10))) + 1)) (Int32.toNatClampNeg (k_o + 16))) + r14)) k_o k_isKept (upd k_went (Int32.toNatClampNeg (k_wentMany - k_wentMany / 128 * 128)) r12) (k_wentMany + 1) k_waiting_9 k_came_10 k_depth k_isSilent k_x k_packed k_hits k_rues k_soonest k_inAll r18 r20  k_w_22 h23) ok_X10_isGhost qM_X10_98 rfl rfl ⟨(Nat.le_of_ble_eq_true rfl), (Nat.le_of_ble_eq_true rfl)⟩ rfl rfl hl.1 (Nat.le_of_ble_eq_true rfl) ⟨Nat.zero_le _, Nat.zero_le _⟩ dX10_evicts_147 rfl rfl (fun H locs (hP : va_P D vwCl (MX10 cI cZ cL cW a0 a1 a2 a3 a4 a5 a6 k_thrown k_w_22 k_o k_isKept (upd k_went (Int32.toNatClampNeg (k_wentMany - k_wentMany / 128 * 128)) r12) (k_wentMany + 1) k_waiting_9 k_came_10 k_depth k_isSilent k_x k_packed k_hits k_rues k_soonest k_inAll) H) (hD : va_D A (MX10 cI cZ cL cW a0 a1 a2 a3 a4 a5 a6 k_thrown k_w_22 k_o k_isKept (upd k_went (Int32.toNatClampNeg (k_wentMany - k_wentMany / 128 * 128)) r12) (k_wentMany + 1) k_waiting_9 k_came_10 k_depth k_isSilent k_x k_packed k_hits k_rues k_soonest k_inAll)) hS => ?_)
        refine lv_aload_n hx hb dX10_evicts_150 rfl (lv_at hl 2 rfl) ?_
        refine lv_iload_n hx hb dX10_evicts_151 rfl (lv_at hl 0 rfl) ?_
        obtain ⟨k_w_24, h25, hf⟩ := bd_s hf
        refine iv_A (rest := []) (st1 := []) C hE hP hD hS hA (c_X10_goes l D cI cZ cL cW F a0 a1 a2 a3 a4 a5 a6 k_thrown k_w_22 k_o k_isKept (upd k_went (Int32.toNatClampNeg (k_wentMany - k_wentMany / 128 * 128)) r12) (k_wentMany + 1) k_waiting_9 k_came_10 k_depth k_isSilent k_x k_packed k_hits k_rues k_soonest k_inAll r1  k_w_24 h25) ok_X10_goes qM_X10_101 rfl rfl ⟨(Nat.le_of_ble_eq_true rfl), (Nat.le_of_ble_eq_true rfl)⟩ rfl rfl hl.1 (Nat.le_of_ble_eq_true rfl) ⟨Nat.zero_le _, Nat.zero_le _⟩ dX10_evicts_152 rfl rfl (fun H locs (hP : va_P D vwCl (MX10 cI cZ cL cW a0 a1 a2 a3 a4 a5 a6 k_thrown k_w_24 k_o k_isKept (upd k_went (Int32.toNatClampNeg (k_wentMany - k_wentMany / 128 * 128)) r12) (k_wentMany + 1) k_waiting_9 k_came_10 k_depth k_isSilent k_x k_packed k_hits k_rues k_soonest k_inAll) H) (hD : va_D A (MX10 cI cZ cL cW a0 a1 a2 a3 a4 a5 a6 k_thrown k_w_24 k_o k_isKept (upd k_went (Int32.toNatClampNeg (k_wentMany - k_wentMany / 128 * 128)) r12) (k_wentMany + 1) k_waiting_9 k_came_10 k_depth k_isSilent k_x k_packed k_hits k_rues k_soonest k_inAll)) hS => ?_)
        refine lv_iconst (v := 1) hx hb dX10_evicts_155 (by decide) ?_
        cases hf
        exact rw_z C hr hlk (by decide) hP hD hS dX10_evicts_156 rfl
      · have hf := it_n hf c34
        refine lv_iconst (v := 1) hx hb dX10_evicts_133 (by decide) ?_
        refine lv_goto (tgt := 138) hx hb dX10_evicts_134 (by decide) ?_
        obtain ⟨r26, h27, hf⟩ := bd_s hf
        refine is_R (rest := [.ref a0]) (st1 := [.int r26, .ref a0]) C hE va_P_nil (c_X10_flag l D cI cZ cL cW F   1 r26  h27) ok_X10_flag qM_X10_57 rfl rfl ⟨(Nat.le_of_ble_eq_true rfl), (Nat.le_of_ble_eq_true rfl)⟩ hl.1 (Nat.le_of_ble_eq_true rfl) ⟨Nat.zero_le _, Nat.zero_le _⟩ dX10_evicts_138 rfl rfl ?_
        refine lv_aload_n hx hb dX10_evicts_141 rfl (lv_at hl 2 rfl) ?_
        refine lv_iload_n hx hb dX10_evicts_142 rfl (lv_at hl 0 rfl) ?_
        refine lv_iconst (v := 0) hx hb dX10_evicts_143 (by decide) ?_
        obtain ⟨r28, h29, hf⟩ := bd_s hf
        refine iv_R (rest := [.int r26, .ref a0]) (st1 := [.int r28, .int r26, .ref a0]) C hE hP (c_X10_of l D cI cZ cL cW F a0 a1 a2 a3 a4 a5 a6 k_thrown (upd (upd k_w (Int32.toNatClampNeg (k_o + 10)) ((k_w (Int32.toNatClampNeg (k_o + 10))) + 1)) (Int32.toNatClampNeg (k_o + 16)) (((upd k_w (Int32.toNatClampNeg (k_o + 10)) ((k_w (Int32.toNatClampNeg (k_o + 10))) + 1)) (Int32.toNatClampNeg (k_o + 16))) + r14)) k_o k_isKept (upd k_went (Int32.toNatClampNeg (k_wentMany - k_wentMany / 128 * 128)) r12) (k_wentMany + 1) k_waiting_9 k_came_10 k_depth k_isSilent k_x k_packed k_hits k_rues k_soonest k_inAll r1 0 r28  h29) ok_X10_of qM_X10_44 rfl rfl ⟨(Nat.le_of_ble_eq_true rfl), (Nat.le_of_ble_eq_true rfl)⟩ rfl rfl hl.1 (Nat.le_of_ble_eq_true rfl) ⟨Nat.zero_le _, Nat.zero_le _⟩ dX10_evicts_144 rfl rfl ?_
        obtain ⟨k_w_30, h31, hf⟩ := bd_s hf
        refine iv_A (rest := []) (st1 := []) C hE hP hD hS hA (c_X10_isGhost l D cI cZ cL cW F a0 a1 a2 a3 a4 a5 a6 k_thrown (upd (upd k_w (Int32.toNatClampNeg (k_o + 10)) ((k_w (Int32.toNatClampNeg (k_o + 10))) + 1)) (Int32.toNatClampNeg (k_o + 16)) (((upd k_w (Int32.toNatClampNeg (k_o + 10)) ((k_w (Int32.toNatClampNeg (k_o + 10))) + 1)) (Int32.toNatClampNeg (k_o + 16))) + r14)) k_o k_isKept (upd k_went (Int32.toNatClampNeg (k_wentMany - k_wentMany / 128 * 128)) r12) (k_wentMany + 1) k_waiting_9 k_came_10 k_depth k_isSilent k_x k_packed k_hits k_rues k_soonest k_inAll r26 r28  k_w_30 h31) ok_X10_isGhost qM_X10_98 rfl rfl ⟨(Nat.le_of_ble_eq_true rfl), (Nat.le_of_ble_eq_true rfl)⟩ rfl rfl hl.1 (Nat.le_of_ble_eq_true rfl) ⟨Nat.zero_le _, Nat.zero_le _⟩ dX10_evicts_147 rfl rfl (fun H locs (hP : va_P D vwCl (MX10 cI cZ cL cW a0 a1 a2 a3 a4 a5 a6 k_thrown k_w_30 k_o k_isKept (upd k_went (Int32.toNatClampNeg (k_wentMany - k_wentMany / 128 * 128)) r12) (k_wentMany + 1) k_waiting_9 k_came_10 k_depth k_isSilent k_x k_packed k_hits k_rues k_soonest k_inAll) H) (hD : va_D A (MX10 cI cZ cL cW a0 a1 a2 a3 a4 a5 a6 k_thrown k_w_30 k_o k_isKept (upd k_went (Int32.toNatClampNeg (k_wentMany - k_wentMany / 128 * 128)) r12) (k_wentMany + 1) k_waiting_9 k_came_10 k_depth k_isSilent k_x k_packed k_hits k_rues k_soonest k_inAll)) hS => ?_)
        refine lv_aload_n hx hb dX10_evicts_150 rfl (lv_at hl 2 rfl) ?_
        refine lv_iload_n hx hb dX10_evicts_151 rfl (lv_at hl 0 rfl) ?_
        obtain ⟨k_w_32, h33, hf⟩ := bd_s hf
        refine iv_A (rest := []) (st1 := []) C hE hP hD hS hA (c_X10_goes l D cI cZ cL cW F a0 a1 a2 a3 a4 a5 a6 k_thrown k_w_30 k_o k_isKept (upd k_went (Int32.toNatClampNeg (k_wentMany - k_wentMany / 128 * 128)) r12) (k_wentMany + 1) k_waiting_9 k_came_10 k_depth k_isSilent k_x k_packed k_hits k_rues k_soonest k_inAll r1  k_w_32 h33) ok_X10_goes qM_X10_101 rfl rfl ⟨(Nat.le_of_ble_eq_true rfl), (Nat.le_of_ble_eq_true rfl)⟩ rfl rfl hl.1 (Nat.le_of_ble_eq_true rfl) ⟨Nat.zero_le _, Nat.zero_le _⟩ dX10_evicts_152 rfl rfl (fun H locs (hP : va_P D vwCl (MX10 cI cZ cL cW a0 a1 a2 a3 a4 a5 a6 k_thrown k_w_32 k_o k_isKept (upd k_went (Int32.toNatClampNeg (k_wentMany - k_wentMany / 128 * 128)) r12) (k_wentMany + 1) k_waiting_9 k_came_10 k_depth k_isSilent k_x k_packed k_hits k_rues k_soonest k_inAll) H) (hD : va_D A (MX10 cI cZ cL cW a0 a1 a2 a3 a4 a5 a6 k_thrown k_w_32 k_o k_isKept (upd k_went (Int32.toNatClampNeg (k_wentMany - k_wentMany / 128 * 128)) r12) (k_wentMany + 1) k_waiting_9 k_came_10 k_depth k_isSilent k_x k_packed k_hits k_rues k_soonest k_inAll)) hS => ?_)
        refine lv_iconst (v := 1) hx hb dX10_evicts_155 (by decide) ?_
        cases hf
        exact rw_z C hr hlk (by decide) hP hD hS dX10_evicts_156 rfl
    · have hf := it_p hf c58
      refine lv_iconst (v := 1) hx hb dX10_evicts_112 (by decide) ?_
      refine lv_goto (tgt := 117) hx hb dX10_evicts_113 (by decide) ?_
      obtain ⟨r36, h37, hf⟩ := bd_s hf
      refine is_R (rest := [.int ((upd k_w (Int32.toNatClampNeg (k_o + 10)) ((k_w (Int32.toNatClampNeg (k_o + 10))) + 1)) (Int32.toNatClampNeg (k_o + 16))), .int (k_o + 16), .ref a1]) (st1 := [.int r36, .int ((upd k_w (Int32.toNatClampNeg (k_o + 10)) ((k_w (Int32.toNatClampNeg (k_o + 10))) + 1)) (Int32.toNatClampNeg (k_o + 16))), .int (k_o + 16), .ref a1]) C hE va_P_nil (c_X10_flag l D cI cZ cL cW F   1 r36  h37) ok_X10_flag qM_X10_57 rfl rfl ⟨(Nat.le_of_ble_eq_true rfl), (Nat.le_of_ble_eq_true rfl)⟩ hl.1 (Nat.le_of_ble_eq_true rfl) ⟨Nat.zero_le _, Nat.zero_le _⟩ dX10_evicts_117 rfl rfl ?_
      refine lv_iadd hx hb dX10_evicts_120 ?_
      obtain ⟨g57, hf⟩ := it_g hf
      refine va_iast hx hb hE.1 hP hD hS 1 0 rfl rfl g57 dX10_evicts_121 (fun H locs (hP : va_P D vwCl (MX10 cI cZ cL cW a0 a1 a2 a3 a4 a5 a6 k_thrown (upd (upd k_w (Int32.toNatClampNeg (k_o + 10)) ((k_w (Int32.toNatClampNeg (k_o + 10))) + 1)) (Int32.toNatClampNeg (k_o + 16)) (((upd k_w (Int32.toNatClampNeg (k_o + 10)) ((k_w (Int32.toNatClampNeg (k_o + 10))) + 1)) (Int32.toNatClampNeg (k_o + 16))) + r36)) k_o k_isKept (upd k_went (Int32.toNatClampNeg (k_wentMany - k_wentMany / 128 * 128)) r12) (k_wentMany + 1) k_waiting_9 k_came_10 k_depth k_isSilent k_x k_packed k_hits k_rues k_soonest k_inAll) H) (hD : va_D A (MX10 cI cZ cL cW a0 a1 a2 a3 a4 a5 a6 k_thrown (upd (upd k_w (Int32.toNatClampNeg (k_o + 10)) ((k_w (Int32.toNatClampNeg (k_o + 10))) + 1)) (Int32.toNatClampNeg (k_o + 16)) (((upd k_w (Int32.toNatClampNeg (k_o + 10)) ((k_w (Int32.toNatClampNeg (k_o + 10))) + 1)) (Int32.toNatClampNeg (k_o + 16))) + r36)) k_o k_isKept (upd k_went (Int32.toNatClampNeg (k_wentMany - k_wentMany / 128 * 128)) r12) (k_wentMany + 1) k_waiting_9 k_came_10 k_depth k_isSilent k_x k_packed k_hits k_rues k_soonest k_inAll)) hS => ?_)
      refine lv_aload_n hx hb dX10_evicts_122 rfl (lv_at hl 2 rfl) ?_
      refine lv_aload_n hx hb dX10_evicts_123 rfl (lv_at hl 2 rfl) ?_
      refine lv_iload_n hx hb dX10_evicts_124 rfl (lv_at hl 0 rfl) ?_
      refine lv_iconst (v := 3) hx hb dX10_evicts_125 (by decide) ?_
      obtain ⟨r38, h39, hf⟩ := bd_s hf
      refine iv_R (rest := [.ref a0]) (st1 := [.int r38, .ref a0]) C hE hP (c_X10_of l D cI cZ cL cW F a0 a1 a2 a3 a4 a5 a6 k_thrown (upd (upd k_w (Int32.toNatClampNeg (k_o + 10)) ((k_w (Int32.toNatClampNeg (k_o + 10))) + 1)) (Int32.toNatClampNeg (k_o + 16)) (((upd k_w (Int32.toNatClampNeg (k_o + 10)) ((k_w (Int32.toNatClampNeg (k_o + 10))) + 1)) (Int32.toNatClampNeg (k_o + 16))) + r36)) k_o k_isKept (upd k_went (Int32.toNatClampNeg (k_wentMany - k_wentMany / 128 * 128)) r12) (k_wentMany + 1) k_waiting_9 k_came_10 k_depth k_isSilent k_x k_packed k_hits k_rues k_soonest k_inAll r1 3 r38  h39) ok_X10_of qM_X10_44 rfl rfl ⟨(Nat.le_of_ble_eq_true rfl), (Nat.le_of_ble_eq_true rfl)⟩ rfl rfl hl.1 (Nat.le_of_ble_eq_true rfl) ⟨Nat.zero_le _, Nat.zero_le _⟩ dX10_evicts_126 rfl rfl ?_
      refine lv_iconst (v := 1) hx hb dX10_evicts_129 (by decide) ?_
      refine lv_icmp_le (tgt := 137) hx hb dX10_evicts_130 (by decide) (fun c56 => ?_) (fun c56 => ?_)
      · have hf := it_p hf c56
        refine lv_iconst (v := 0) hx hb dX10_evicts_137 (by decide) ?_
        obtain ⟨r40, h41, hf⟩ := bd_s hf
        refine is_R (rest := [.ref a0]) (st1 := [.int r40, .ref a0]) C hE va_P_nil (c_X10_flag l D cI cZ cL cW F   0 r40  h41) ok_X10_flag qM_X10_57 rfl rfl ⟨(Nat.le_of_ble_eq_true rfl), (Nat.le_of_ble_eq_true rfl)⟩ hl.1 (Nat.le_of_ble_eq_true rfl) ⟨Nat.zero_le _, Nat.zero_le _⟩ dX10_evicts_138 rfl rfl ?_
        refine lv_aload_n hx hb dX10_evicts_141 rfl (lv_at hl 2 rfl) ?_
        refine lv_iload_n hx hb dX10_evicts_142 rfl (lv_at hl 0 rfl) ?_
        refine lv_iconst (v := 0) hx hb dX10_evicts_143 (by decide) ?_
        obtain ⟨r42, h43, hf⟩ := bd_s hf
        refine iv_R (rest := [.int r40, .ref a0]) (st1 := [.int r42, .int r40, .ref a0]) C hE hP (c_X10_of l D cI cZ cL cW F a0 a1 a2 a3 a4 a5 a6 k_thrown (upd (upd k_w (Int32.toNatClampNeg (k_o + 10)) ((k_w (Int32.toNatClampNeg (k_o + 10))) + 1)) (Int32.toNatClampNeg (k_o + 16)) (((upd k_w (Int32.toNatClampNeg (k_o + 10)) ((k_w (Int32.toNatClampNeg (k_o + 10))) + 1)) (Int32.toNatClampNeg (k_o + 16))) + r36)) k_o k_isKept (upd k_went (Int32.toNatClampNeg (k_wentMany - k_wentMany / 128 * 128)) r12) (k_wentMany + 1) k_waiting_9 k_came_10 k_depth k_isSilent k_x k_packed k_hits k_rues k_soonest k_inAll r1 0 r42  h43) ok_X10_of qM_X10_44 rfl rfl ⟨(Nat.le_of_ble_eq_true rfl), (Nat.le_of_ble_eq_true rfl)⟩ rfl rfl hl.1 (Nat.le_of_ble_eq_true rfl) ⟨Nat.zero_le _, Nat.zero_le _⟩ dX10_evicts_144 rfl rfl ?_
        obtain ⟨k_w_44, h45, hf⟩ := bd_s hf
        refine iv_A (rest := []) (st1 := []) C hE hP hD hS hA (c_X10_isGhost l D cI cZ cL cW F a0 a1 a2 a3 a4 a5 a6 k_thrown (upd (upd k_w (Int32.toNatClampNeg (k_o + 10)) ((k_w (Int32.toNatClampNeg (k_o + 10))) + 1)) (Int32.toNatClampNeg (k_o + 16)) (((upd k_w (Int32.toNatClampNeg (k_o + 10)) ((k_w (Int32.toNatClampNeg (k_o + 10))) + 1)) (Int32.toNatClampNeg (k_o + 16))) + r36)) k_o k_isKept (upd k_went (Int32.toNatClampNeg (k_wentMany - k_wentMany / 128 * 128)) r12) (k_wentMany + 1) k_waiting_9 k_came_10 k_depth k_isSilent k_x k_packed k_hits k_rues k_soonest k_inAll r40 r42  k_w_44 h45) ok_X10_isGhost qM_X10_98 rfl rfl ⟨(Nat.le_of_ble_eq_true rfl), (Nat.le_of_ble_eq_true rfl)⟩ rfl rfl hl.1 (Nat.le_of_ble_eq_true rfl) ⟨Nat.zero_le _, Nat.zero_le _⟩ dX10_evicts_147 rfl rfl (fun H locs (hP : va_P D vwCl (MX10 cI cZ cL cW a0 a1 a2 a3 a4 a5 a6 k_thrown k_w_44 k_o k_isKept (upd k_went (Int32.toNatClampNeg (k_wentMany - k_wentMany / 128 * 128)) r12) (k_wentMany + 1) k_waiting_9 k_came_10 k_depth k_isSilent k_x k_packed k_hits k_rues k_soonest k_inAll) H) (hD : va_D A (MX10 cI cZ cL cW a0 a1 a2 a3 a4 a5 a6 k_thrown k_w_44 k_o k_isKept (upd k_went (Int32.toNatClampNeg (k_wentMany - k_wentMany / 128 * 128)) r12) (k_wentMany + 1) k_waiting_9 k_came_10 k_depth k_isSilent k_x k_packed k_hits k_rues k_soonest k_inAll)) hS => ?_)
        refine lv_aload_n hx hb dX10_evicts_150 rfl (lv_at hl 2 rfl) ?_
        refine lv_iload_n hx hb dX10_evicts_151 rfl (lv_at hl 0 rfl) ?_
        obtain ⟨k_w_46, h47, hf⟩ := bd_s hf
        refine iv_A (rest := []) (st1 := []) C hE hP hD hS hA (c_X10_goes l D cI cZ cL cW F a0 a1 a2 a3 a4 a5 a6 k_thrown k_w_44 k_o k_isKept (upd k_went (Int32.toNatClampNeg (k_wentMany - k_wentMany / 128 * 128)) r12) (k_wentMany + 1) k_waiting_9 k_came_10 k_depth k_isSilent k_x k_packed k_hits k_rues k_soonest k_inAll r1  k_w_46 h47) ok_X10_goes qM_X10_101 rfl rfl ⟨(Nat.le_of_ble_eq_true rfl), (Nat.le_of_ble_eq_true rfl)⟩ rfl rfl hl.1 (Nat.le_of_ble_eq_true rfl) ⟨Nat.zero_le _, Nat.zero_le _⟩ dX10_evicts_152 rfl rfl (fun H locs (hP : va_P D vwCl (MX10 cI cZ cL cW a0 a1 a2 a3 a4 a5 a6 k_thrown k_w_46 k_o k_isKept (upd k_went (Int32.toNatClampNeg (k_wentMany - k_wentMany / 128 * 128)) r12) (k_wentMany + 1) k_waiting_9 k_came_10 k_depth k_isSilent k_x k_packed k_hits k_rues k_soonest k_inAll) H) (hD : va_D A (MX10 cI cZ cL cW a0 a1 a2 a3 a4 a5 a6 k_thrown k_w_46 k_o k_isKept (upd k_went (Int32.toNatClampNeg (k_wentMany - k_wentMany / 128 * 128)) r12) (k_wentMany + 1) k_waiting_9 k_came_10 k_depth k_isSilent k_x k_packed k_hits k_rues k_soonest k_inAll)) hS => ?_)
        refine lv_iconst (v := 1) hx hb dX10_evicts_155 (by decide) ?_
        cases hf
        exact rw_z C hr hlk (by decide) hP hD hS dX10_evicts_156 rfl
      · have hf := it_n hf c56
        refine lv_iconst (v := 1) hx hb dX10_evicts_133 (by decide) ?_
        refine lv_goto (tgt := 138) hx hb dX10_evicts_134 (by decide) ?_
        obtain ⟨r48, h49, hf⟩ := bd_s hf
        refine is_R (rest := [.ref a0]) (st1 := [.int r48, .ref a0]) C hE va_P_nil (c_X10_flag l D cI cZ cL cW F   1 r48  h49) ok_X10_flag qM_X10_57 rfl rfl ⟨(Nat.le_of_ble_eq_true rfl), (Nat.le_of_ble_eq_true rfl)⟩ hl.1 (Nat.le_of_ble_eq_true rfl) ⟨Nat.zero_le _, Nat.zero_le _⟩ dX10_evicts_138 rfl rfl ?_
        refine lv_aload_n hx hb dX10_evicts_141 rfl (lv_at hl 2 rfl) ?_
        refine lv_iload_n hx hb dX10_evicts_142 rfl (lv_at hl 0 rfl) ?_
        refine lv_iconst (v := 0) hx hb dX10_evicts_143 (by decide) ?_
        obtain ⟨r50, h51, hf⟩ := bd_s hf
        refine iv_R (rest := [.int r48, .ref a0]) (st1 := [.int r50, .int r48, .ref a0]) C hE hP (c_X10_of l D cI cZ cL cW F a0 a1 a2 a3 a4 a5 a6 k_thrown (upd (upd k_w (Int32.toNatClampNeg (k_o + 10)) ((k_w (Int32.toNatClampNeg (k_o + 10))) + 1)) (Int32.toNatClampNeg (k_o + 16)) (((upd k_w (Int32.toNatClampNeg (k_o + 10)) ((k_w (Int32.toNatClampNeg (k_o + 10))) + 1)) (Int32.toNatClampNeg (k_o + 16))) + r36)) k_o k_isKept (upd k_went (Int32.toNatClampNeg (k_wentMany - k_wentMany / 128 * 128)) r12) (k_wentMany + 1) k_waiting_9 k_came_10 k_depth k_isSilent k_x k_packed k_hits k_rues k_soonest k_inAll r1 0 r50  h51) ok_X10_of qM_X10_44 rfl rfl ⟨(Nat.le_of_ble_eq_true rfl), (Nat.le_of_ble_eq_true rfl)⟩ rfl rfl hl.1 (Nat.le_of_ble_eq_true rfl) ⟨Nat.zero_le _, Nat.zero_le _⟩ dX10_evicts_144 rfl rfl ?_
        obtain ⟨k_w_52, h53, hf⟩ := bd_s hf
        refine iv_A (rest := []) (st1 := []) C hE hP hD hS hA (c_X10_isGhost l D cI cZ cL cW F a0 a1 a2 a3 a4 a5 a6 k_thrown (upd (upd k_w (Int32.toNatClampNeg (k_o + 10)) ((k_w (Int32.toNatClampNeg (k_o + 10))) + 1)) (Int32.toNatClampNeg (k_o + 16)) (((upd k_w (Int32.toNatClampNeg (k_o + 10)) ((k_w (Int32.toNatClampNeg (k_o + 10))) + 1)) (Int32.toNatClampNeg (k_o + 16))) + r36)) k_o k_isKept (upd k_went (Int32.toNatClampNeg (k_wentMany - k_wentMany / 128 * 128)) r12) (k_wentMany + 1) k_waiting_9 k_came_10 k_depth k_isSilent k_x k_packed k_hits k_rues k_soonest k_inAll r48 r50  k_w_52 h53) ok_X10_isGhost qM_X10_98 rfl rfl ⟨(Nat.le_of_ble_eq_true rfl), (Nat.le_of_ble_eq_true rfl)⟩ rfl rfl hl.1 (Nat.le_of_ble_eq_true rfl) ⟨Nat.zero_le _, Nat.zero_le _⟩ dX10_evicts_147 rfl rfl (fun H locs (hP : va_P D vwCl (MX10 cI cZ cL cW a0 a1 a2 a3 a4 a5 a6 k_thrown k_w_52 k_o k_isKept (upd k_went (Int32.toNatClampNeg (k_wentMany - k_wentMany / 128 * 128)) r12) (k_wentMany + 1) k_waiting_9 k_came_10 k_depth k_isSilent k_x k_packed k_hits k_rues k_soonest k_inAll) H) (hD : va_D A (MX10 cI cZ cL cW a0 a1 a2 a3 a4 a5 a6 k_thrown k_w_52 k_o k_isKept (upd k_went (Int32.toNatClampNeg (k_wentMany - k_wentMany / 128 * 128)) r12) (k_wentMany + 1) k_waiting_9 k_came_10 k_depth k_isSilent k_x k_packed k_hits k_rues k_soonest k_inAll)) hS => ?_)
        refine lv_aload_n hx hb dX10_evicts_150 rfl (lv_at hl 2 rfl) ?_
        refine lv_iload_n hx hb dX10_evicts_151 rfl (lv_at hl 0 rfl) ?_
        obtain ⟨k_w_54, h55, hf⟩ := bd_s hf
        refine iv_A (rest := []) (st1 := []) C hE hP hD hS hA (c_X10_goes l D cI cZ cL cW F a0 a1 a2 a3 a4 a5 a6 k_thrown k_w_52 k_o k_isKept (upd k_went (Int32.toNatClampNeg (k_wentMany - k_wentMany / 128 * 128)) r12) (k_wentMany + 1) k_waiting_9 k_came_10 k_depth k_isSilent k_x k_packed k_hits k_rues k_soonest k_inAll r1  k_w_54 h55) ok_X10_goes qM_X10_101 rfl rfl ⟨(Nat.le_of_ble_eq_true rfl), (Nat.le_of_ble_eq_true rfl)⟩ rfl rfl hl.1 (Nat.le_of_ble_eq_true rfl) ⟨Nat.zero_le _, Nat.zero_le _⟩ dX10_evicts_152 rfl rfl (fun H locs (hP : va_P D vwCl (MX10 cI cZ cL cW a0 a1 a2 a3 a4 a5 a6 k_thrown k_w_54 k_o k_isKept (upd k_went (Int32.toNatClampNeg (k_wentMany - k_wentMany / 128 * 128)) r12) (k_wentMany + 1) k_waiting_9 k_came_10 k_depth k_isSilent k_x k_packed k_hits k_rues k_soonest k_inAll) H) (hD : va_D A (MX10 cI cZ cL cW a0 a1 a2 a3 a4 a5 a6 k_thrown k_w_54 k_o k_isKept (upd k_went (Int32.toNatClampNeg (k_wentMany - k_wentMany / 128 * 128)) r12) (k_wentMany + 1) k_waiting_9 k_came_10 k_depth k_isSilent k_x k_packed k_hits k_rues k_soonest k_inAll)) hS => ?_)
        refine lv_iconst (v := 1) hx hb dX10_evicts_155 (by decide) ?_
        cases hf
        exact rw_z C hr hlk (by decide) hP hD hS dX10_evicts_156 rfl
  · have hf := it_p hf c63
    refine lv_iconst (v := 0) hx hb dX10_evicts_24 (by decide) ?_
    cases hf
    exact rw_z C hr hlk (by decide) hP hD hS dX10_evicts_25 rfl
