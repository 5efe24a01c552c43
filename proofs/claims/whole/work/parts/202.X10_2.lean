def X10_call (F : Nat) (k_thrown : Int32) (k_came : Int32) (k_depth : Int32) : Option (Int32 × Int32 × Int32) := some (0, 0, 0)
abbrev rm_X10_call : Room := { frames := 0, cells := 0, slots := 0, locals := 0 }
theorem ok_X10_call : OKV RX10 yX10_call cX10_call 1 none 0 := ⟨by decide +kernel, qV_X10_call, qL_X10_call, qI_X10, qD_X10_call⟩
set_option maxHeartbeats 4000000 in
set_option maxRecDepth 100000 in
theorem c_X10_call (l : Launch) (D : va_G) (cI cZ cL cW : ClassId) (F : Nat) (a0 : Nat) (a1 : Nat) (a2 : Nat) (a3 : Nat) (a4 : Nat) (a5 : Nat) (a6 : Nat) (k_thrown : Int32) (k_w : (Nat → Int32)) (k_o : Int32) (k_isKept : (Nat → Int32)) (k_went : (Nat → Int32)) (k_wentMany : Int32) (k_waiting : (Nat → Int32)) (k_came : Int32) (k_depth : Int32) (k_isSilent : Int32) (k_x : Int64) (k_packed : (Nat → Int32)) (k_hits : Int32) (k_rues : Int32) (k_soonest : Int32) (k_inAll : (Nat → Int32)) (k_thrown' : Int32) (k_came' : Int32) (k_depth' : Int32) (hf : X10_call F k_thrown k_came k_depth = some (k_thrown', k_came', k_depth')) : CtrW l D (tyL cI cZ cL cW) nestW yX10_call cX10_call 1 none rm_X10_call [.ref a0] (MX10 cI cZ cL cW a0 a1 a2 a3 a4 a5 a6 k_thrown k_w k_o k_isKept k_went k_wentMany k_waiting k_came k_depth k_isSilent k_x k_packed k_hits k_rues k_soonest k_inAll) (MX10 cI cZ cL cW a0 a1 a2 a3 a4 a5 a6 (k_thrown') k_w k_o k_isKept k_went k_wentMany k_waiting (k_came') (k_depth') k_isSilent k_x k_packed k_hits k_rues k_soonest k_inAll) none := by
  refine ofA RX10 (by decide) rfl (Nat.le_of_ble_eq_true rfl) ?_
  intro p e s m below meth c ls A C hr hlk hE hA hP hD hS hl
  generalize (List.toArray ([.ref a0] : List Value)) = args at C ⊢
  obtain ⟨hx, hb, hml, hown, ht⟩ := id C
  have hl : lv_has ls 1 [(0, .ref a0)] := hl
  refine lv_aload_n hx hb dX10_call_0 rfl (lv_at hl 0 rfl) ?_
  refine lv_iconst (v := 0) hx hb dX10_call_1 (by decide) ?_
  refine pf_X10 (v := .int 0) C hE hP hD hS 0 0 rfl (by decide) qF_X10_1 rfl rfl rfl (Nat.le_of_ble_eq_true rfl) dX10_call_2 (fun H locs (hP : va_P D vwCl (MX10 cI cZ cL cW a0 a1 a2 a3 a4 a5 a6 0 k_w k_o k_isKept k_went k_wentMany k_waiting k_came k_depth k_isSilent k_x k_packed k_hits k_rues k_soonest k_inAll) H) (hD : va_D A (MX10 cI cZ cL cW a0 a1 a2 a3 a4 a5 a6 0 k_w k_o k_isKept k_went k_wentMany k_waiting k_came k_depth k_isSilent k_x k_packed k_hits k_rues k_soonest k_inAll)) hS => ?_)
  refine lv_aload_n hx hb dX10_call_5 rfl (lv_at hl 0 rfl) ?_
  refine lv_iconst (v := 0) hx hb dX10_call_6 (by decide) ?_
  refine pf_X10 (v := .int 0) C hE hP hD hS 0 7 rfl (by decide) qF_X10_109 rfl rfl rfl (Nat.le_of_ble_eq_true rfl) dX10_call_7 (fun H locs (hP : va_P D vwCl (MX10 cI cZ cL cW a0 a1 a2 a3 a4 a5 a6 0 k_w k_o k_isKept k_went k_wentMany k_waiting 0 k_depth k_isSilent k_x k_packed k_hits k_rues k_soonest k_inAll) H) (hD : va_D A (MX10 cI cZ cL cW a0 a1 a2 a3 a4 a5 a6 0 k_w k_o k_isKept k_went k_wentMany k_waiting 0 k_depth k_isSilent k_x k_packed k_hits k_rues k_soonest k_inAll)) hS => ?_)
  refine lv_aload_n hx hb dX10_call_10 rfl (lv_at hl 0 rfl) ?_
  refine lv_iconst (v := 0) hx hb dX10_call_11 (by decide) ?_
  refine pf_X10 (v := .int 0) C hE hP hD hS 0 8 rfl (by decide) qF_X10_112 rfl rfl rfl (Nat.le_of_ble_eq_true rfl) dX10_call_12 (fun H locs (hP : va_P D vwCl (MX10 cI cZ cL cW a0 a1 a2 a3 a4 a5 a6 0 k_w k_o k_isKept k_went k_wentMany k_waiting 0 0 k_isSilent k_x k_packed k_hits k_rues k_soonest k_inAll) H) (hD : va_D A (MX10 cI cZ cL cW a0 a1 a2 a3 a4 a5 a6 0 k_w k_o k_isKept k_went k_wentMany k_waiting 0 0 k_isSilent k_x k_packed k_hits k_rues k_soonest k_inAll)) hS => ?_)
  cases hf
  exact rw_v C hr hlk hP hD hS dX10_call_15
def X10_hearerAt (F : Nat) (p1 : Int32) (k_o : Int32) : Option (Int32) := some ((k_o + 476) + (9 * p1))
abbrev rm_X10_hearerAt : Room := { frames := 0, cells := 0, slots := 0, locals := 0 }
theorem ok_X10_hearerAt : OKV RX10 yX10_hearerAt cX10_hearerAt 2 (some .int) 1 := ⟨by decide +kernel, qV_X10_hearerAt, qL_X10_hearerAt, qI_X10, qD_X10_hearerAt⟩
set_option maxHeartbeats 4000000 in
set_option maxRecDepth 100000 in
theorem c_X10_hearerAt (l : Launch) (D : va_G) (cI cZ cL cW : ClassId) (F : Nat) (a0 : Nat) (a1 : Nat) (a2 : Nat) (a3 : Nat) (a4 : Nat) (a5 : Nat) (a6 : Nat) (k_thrown : Int32) (k_w : (Nat → Int32)) (k_o : Int32) (k_isKept : (Nat → Int32)) (k_went : (Nat → Int32)) (k_wentMany : Int32) (k_waiting : (Nat → Int32)) (k_came : Int32) (k_depth : Int32) (k_isSilent : Int32) (k_x : Int64) (k_packed : (Nat → Int32)) (k_hits : Int32) (k_rues : Int32) (k_soonest : Int32) (k_inAll : (Nat → Int32)) (p1 : Int32) (r : Int32) (hf : X10_hearerAt F p1 k_o = some r) : CtrR l D (tyL cI cZ cL cW) nestW yX10_hearerAt cX10_hearerAt 2 (some .int) rm_X10_hearerAt [.ref a0, .int p1] (MX10 cI cZ cL cW a0 a1 a2 a3 a4 a5 a6 k_thrown k_w k_o k_isKept k_went k_wentMany k_waiting k_came k_depth k_isSilent k_x k_packed k_hits k_rues k_soonest k_inAll) (some (.int r)) := by
  refine ofR RX10 (by decide) rfl (Nat.le_of_ble_eq_true rfl) ?_
  intro p e s m below meth c ls C hr hlk hE hP hl
  generalize (List.toArray ([.ref a0, .int p1] : List Value)) = args at C ⊢
  obtain ⟨hx, hb, hml, hown, ht⟩ := id C
  have hl : lv_has ls 2 [(0, .ref a0), (1, .int p1)] := hl
  refine lv_aload_n hx hb dX10_hearerAt_0 rfl (lv_at hl 0 rfl) ?_
  refine gf_X10 (v := .int k_o) C hE hP 0 2 rfl (by decide) qF_X10_41 rfl dX10_hearerAt_1 ?_
  refine lv_sipush (v := 476) hx hb dX10_hearerAt_4 (by decide) ?_
  refine lv_iadd hx hb dX10_hearerAt_7 ?_
  refine lv_bipush (v := 9) hx hb dX10_hearerAt_8 (by decide) ?_
  refine lv_iload_n hx hb dX10_hearerAt_10 rfl (lv_at hl 1 rfl) ?_
  refine lv_imul hx hb dX10_hearerAt_11 ?_
  refine lv_iadd hx hb dX10_hearerAt_12 ?_
  exact rt_i C hr hlk dX10_hearerAt_13 (congrArg (fun o => o.map Value.int) hf)
def X10_isHeardBy (F : Nat) (p1 : Int32) (p2 : Int32) (p3 : Int32) (k_w : (Nat → Int32)) (k_o : Int32) : Option (Int32) := (X10_hearerAt F p1 k_o).bind fun r1 => (if ((r1 + 6) : Int32) < 0 ∨ 3392 ≤ (Int32.toNatClampNeg (r1 + 6)) then none else (if ((k_w (Int32.toNatClampNeg (r1 + 6))) : Int32) = 1 then (if ((r1 + 0) : Int32) < 0 ∨ 3392 ≤ (Int32.toNatClampNeg (r1 + 0)) then none else (if ((k_w (Int32.toNatClampNeg (r1 + 0))) : Int32) = (-1) then (if ((r1 + 1) : Int32) < 0 ∨ 3392 ≤ (Int32.toNatClampNeg (r1 + 1)) then none else (if (k_w (Int32.toNatClampNeg (r1 + 1))) = 0 then none else (if ((r1 + 2) : Int32) < 0 ∨ 3392 ≤ (Int32.toNatClampNeg (r1 + 2)) then none else (if ((p3 - p3 / (k_w (Int32.toNatClampNeg (r1 + 1))) * (k_w (Int32.toNatClampNeg (r1 + 1)))) : Int32) = (k_w (Int32.toNatClampNeg (r1 + 2))) then (some 1) else (some 0))))) else (if ((r1 + 0) : Int32) < 0 ∨ 3392 ≤ (Int32.toNatClampNeg (r1 + 0)) then none else (if ((k_w (Int32.toNatClampNeg (r1 + 0))) : Int32) = p2 then (if ((r1 + 1) : Int32) < 0 ∨ 3392 ≤ (Int32.toNatClampNeg (r1 + 1)) then none else (if (k_w (Int32.toNatClampNeg (r1 + 1))) = 0 then none else (if ((r1 + 2) : Int32) < 0 ∨ 3392 ≤ (Int32.toNatClampNeg (r1 + 2)) then none else (if ((p3 - p3 / (k_w (Int32.toNatClampNeg (r1 + 1))) * (k_w (Int32.toNatClampNeg (r1 + 1)))) : Int32) = (k_w (Int32.toNatClampNeg (r1 + 2))) then (some 1) else (some 0))))) else (some 0))))) else (some 0)))
abbrev rm_X10_isHeardBy : Room := { frames := 1, cells := 0, slots := 0, locals := 21 }
theorem ok_X10_isHeardBy : OKV RX10 yX10_isHeardBy cX10_isHeardBy 5 (some .boolean) 3 := ⟨by decide +kernel, qV_X10_isHeardBy, qL_X10_isHeardBy, qI_X10, qD_X10_isHeardBy⟩
set_option maxHeartbeats 4000000 in
set_option maxRecDepth 100000 in
theorem c_X10_isHeardBy (l : Launch) (D : va_G) (cI cZ cL cW : ClassId) (F : Nat) (a0 : Nat) (a1 : Nat) (a2 : Nat) (a3 : Nat) (a4 : Nat) (a5 : Nat) (a6 : Nat) (k_thrown : Int32) (k_w : (Nat → Int32)) (k_o : Int32) (k_isKept : (Nat → Int32)) (k_went : (Nat → Int32)) (k_wentMany : Int32) (k_waiting : (Nat → Int32)) (k_came : Int32) (k_depth : Int32) (k_isSilent : Int32) (k_x : Int64) (k_packed : (Nat → Int32)) (k_hits : Int32) (k_rues : Int32) (k_soonest : Int32) (k_inAll : (Nat → Int32)) (p1 : Int32) (p2 : Int32) (p3 : Int32) (r : Int32) (hf : X10_isHeardBy F p1 p2 p3 k_w k_o = some r) : CtrR l D (tyL cI cZ cL cW) nestW yX10_isHeardBy cX10_isHeardBy 5 (some .boolean) rm_X10_isHeardBy [.ref a0, .int p1, .int p2, .int p3] (MX10 cI cZ cL cW a0 a1 a2 a3 a4 a5 a6 k_thrown k_w k_o k_isKept k_went k_wentMany k_waiting k_came k_depth k_isSilent k_x k_packed k_hits k_rues k_soonest k_inAll) (some (.int r)) := by
  refine ofR RX10 (by decide) rfl (Nat.le_of_ble_eq_true rfl) ?_
  intro p e s m below meth c ls C hr hlk hE hP hl
  generalize (List.toArray ([.ref a0, .int p1, .int p2, .int p3] : List Value)) = args at C ⊢
  obtain ⟨hx, hb, hml, hown, ht⟩ := id C
  have hl : lv_has ls 5 [(0, .ref a0), (1, .int p1), (2, .int p2), (3, .int p3)] := hl
  refine lv_aload_n hx hb dX10_isHeardBy_0 rfl (lv_at hl 0 rfl) ?_
  refine lv_iload_n hx hb dX10_isHeardBy_1 rfl (lv_at hl 1 rfl) ?_
  obtain ⟨r1, h2, hf⟩ := bd_s hf
  refine iv_R (rest := []) (st1 := [.int r1]) C hE hP (c_X10_hearerAt l D cI cZ cL cW F a0 a1 a2 a3 a4 a5 a6 k_thrown k_w k_o k_isKept k_went k_wentMany k_waiting k_came k_depth k_isSilent k_x k_packed k_hits k_rues k_soonest k_inAll p1 r1  h2) ok_X10_hearerAt qM_X10_115 rfl rfl ⟨(Nat.le_of_ble_eq_true rfl), (Nat.le_of_ble_eq_true rfl)⟩ rfl rfl hl.1 (Nat.le_of_ble_eq_true rfl) ⟨Nat.zero_le _, Nat.zero_le _⟩ dX10_isHeardBy_2 rfl rfl ?_
  refine lv_istore (lv' := [(4, .int r1), (0, .ref a0), (1, .int p1), (2, .int p2), (3, .int p3)]) hx hb dX10_isHeardBy_5 hl (by decide) rfl (fun ls hl => ?_)
  refine lv_aload_n hx hb dX10_isHeardBy_7 rfl (lv_at hl 1 rfl) ?_
  refine gf_X10 (v := .ref a1) C hE hP 0 1 rfl (by decide) qF_X10_17 rfl dX10_isHeardBy_8 ?_
  refine lv_iload hx hb dX10_isHeardBy_11 (lv_at hl 0 rfl) ?_
  refine lv_bipush (v := 6) hx hb dX10_isHeardBy_13 (by decide) ?_
  refine lv_iadd hx hb dX10_isHeardBy_15 ?_
  obtain ⟨g16, hf⟩ := it_g hf
  refine va_iald hx hb hE.1 hP 1 0 rfl rfl g16 dX10_isHeardBy_16 ?_
  refine lv_iconst (v := 1) hx hb dX10_isHeardBy_17 (by decide) ?_
  refine lv_icmp_ne (tgt := 74) hx hb dX10_isHeardBy_18 (by decide) (fun c15 => ?_) (fun c15 => ?_)
  · have hf := it_n hf c15
    refine lv_iconst (v := 0) hx hb dX10_isHeardBy_74 (by decide) ?_
    exact rt_z C hr hlk (by decide) dX10_isHeardBy_75 (congrArg (fun o => o.map Value.int) hf)
  · have hf := it_p hf c15
    refine lv_aload_n hx hb dX10_isHeardBy_21 rfl (lv_at hl 1 rfl) ?_
    refine gf_X10 (v := .ref a1) C hE hP 0 1 rfl (by decide) qF_X10_17 rfl dX10_isHeardBy_22 ?_
    refine lv_iload hx hb dX10_isHeardBy_25 (lv_at hl 0 rfl) ?_
    refine lv_iconst (v := 0) hx hb dX10_isHeardBy_27 (by decide) ?_
    refine lv_iadd hx hb dX10_isHeardBy_28 ?_
    obtain ⟨g14, hf⟩ := it_g hf
    refine va_iald hx hb hE.1 hP 1 0 rfl rfl g14 dX10_isHeardBy_29 ?_
    refine lv_iconst (v := (-1)) hx hb dX10_isHeardBy_30 (by decide) ?_
    refine lv_icmp_eq (tgt := 47) hx hb dX10_isHeardBy_31 (by decide) (fun c13 => ?_) (fun c13 => ?_)
    · have hf := it_p hf c13
      refine lv_iload_n hx hb dX10_isHeardBy_47 rfl (lv_at hl 4 rfl) ?_
      refine lv_aload_n hx hb dX10_isHeardBy_48 rfl (lv_at hl 1 rfl) ?_
      refine gf_X10 (v := .ref a1) C hE hP 0 1 rfl (by decide) qF_X10_17 rfl dX10_isHeardBy_49 ?_
      refine lv_iload hx hb dX10_isHeardBy_52 (lv_at hl 0 rfl) ?_
      refine lv_iconst (v := 1) hx hb dX10_isHeardBy_54 (by decide) ?_
      refine lv_iadd hx hb dX10_isHeardBy_55 ?_
      obtain ⟨g6, hf⟩ := it_g hf
      refine va_iald hx hb hE.1 hP 1 0 rfl rfl g6 dX10_isHeardBy_56 ?_
      obtain ⟨g3, hf⟩ := it_g hf
      refine lv_irem hx hb dX10_isHeardBy_57 g3 ?_
      refine lv_aload_n hx hb dX10_isHeardBy_58 rfl (lv_at hl 1 rfl) ?_
      refine gf_X10 (v := .ref a1) C hE hP 0 1 rfl (by decide) qF_X10_17 rfl dX10_isHeardBy_59 ?_
      refine lv_iload hx hb dX10_isHeardBy_62 (lv_at hl 0 rfl) ?_
      refine lv_iconst (v := 2) hx hb dX10_isHeardBy_64 (by decide) ?_
      refine lv_iadd hx hb dX10_isHeardBy_65 ?_
      obtain ⟨g5, hf⟩ := it_g hf
      refine va_iald hx hb hE.1 hP 1 0 rfl rfl g5 dX10_isHeardBy_66 ?_
      refine lv_icmp_ne (tgt := 74) hx hb dX10_isHeardBy_67 (by decide) (fun c4 => ?_) (fun c4 => ?_)
      · have hf := it_n hf c4
        refine lv_iconst (v := 0) hx hb dX10_isHeardBy_74 (by decide) ?_
        exact rt_z C hr hlk (by decide) dX10_isHeardBy_75 (congrArg (fun o => o.map Value.int) hf)
      · have hf := it_p hf c4
        refine lv_iconst (v := 1) hx hb dX10_isHeardBy_70 (by decide) ?_
        refine lv_goto (tgt := 75) hx hb dX10_isHeardBy_71 (by decide) ?_
        exact rt_z C hr hlk (by decide) dX10_isHeardBy_75 (congrArg (fun o => o.map Value.int) hf)
    · have hf := it_n hf c13
      refine lv_aload_n hx hb dX10_isHeardBy_34 rfl (lv_at hl 1 rfl) ?_
      refine gf_X10 (v := .ref a1) C hE hP 0 1 rfl (by decide) qF_X10_17 rfl dX10_isHeardBy_35 ?_
      refine lv_iload hx hb dX10_isHeardBy_38 (lv_at hl 0 rfl) ?_
      refine lv_iconst (v := 0) hx hb dX10_isHeardBy_40 (by decide) ?_
      refine lv_iadd hx hb dX10_isHeardBy_41 ?_
      obtain ⟨g12, hf⟩ := it_g hf
      refine va_iald hx hb hE.1 hP 1 0 rfl rfl g12 dX10_isHeardBy_42 ?_
      refine lv_iload_n hx hb dX10_isHeardBy_43 rfl (lv_at hl 3 rfl) ?_
      refine lv_icmp_ne (tgt := 74) hx hb dX10_isHeardBy_44 (by decide) (fun c11 => ?_) (fun c11 => ?_)
      · have hf := it_n hf c11
        refine lv_iconst (v := 0) hx hb dX10_isHeardBy_74 (by decide) ?_
        exact rt_z C hr hlk (by decide) dX10_isHeardBy_75 (congrArg (fun o => o.map Value.int) hf)
      · have hf := it_p hf c11
        refine lv_iload_n hx hb dX10_isHeardBy_47 rfl (lv_at hl 4 rfl) ?_
        refine lv_aload_n hx hb dX10_isHeardBy_48 rfl (lv_at hl 1 rfl) ?_
        refine gf_X10 (v := .ref a1) C hE hP 0 1 rfl (by decide) qF_X10_17 rfl dX10_isHeardBy_49 ?_
        refine lv_iload hx hb dX10_isHeardBy_52 (lv_at hl 0 rfl) ?_
        refine lv_iconst (v := 1) hx hb dX10_isHeardBy_54 (by decide) ?_
        refine lv_iadd hx hb dX10_isHeardBy_55 ?_
        obtain ⟨g10, hf⟩ := it_g hf
        refine va_iald hx hb hE.1 hP 1 0 rfl rfl g10 dX10_isHeardBy_56 ?_
        obtain ⟨g7, hf⟩ := it_g hf
        refine lv_irem hx hb dX10_isHeardBy_57 g7 ?_
        refine lv_aload_n hx hb dX10_isHeardBy_58 rfl (lv_at hl 1 rfl) ?_
        refine gf_X10 (v := .ref a1) C hE hP 0 1 rfl (by decide) qF_X10_17 rfl dX10_isHeardBy_59 ?_
        refine lv_iload hx hb dX10_isHeardBy_62 (lv_at hl 0 rfl) ?_
        refine lv_iconst (v := 2) hx hb dX10_isHeardBy_64 (by decide) ?_
        refine lv_iadd hx hb dX10_isHeardBy_65 ?_
        obtain ⟨g9, hf⟩ := it_g hf
        refine va_iald hx hb hE.1 hP 1 0 rfl rfl g9 dX10_isHeardBy_66 ?_
        refine lv_icmp_ne (tgt := 74) hx hb dX10_isHeardBy_67 (by decide) (fun c8 => ?_) (fun c8 => ?_)
        · have hf := it_n hf c8
          refine lv_iconst (v := 0) hx hb dX10_isHeardBy_74 (by decide) ?_
          exact rt_z C hr hlk (by decide) dX10_isHeardBy_75 (congrArg (fun o => o.map Value.int) hf)
        · have hf := it_p hf c8
          refine lv_iconst (v := 1) hx hb dX10_isHeardBy_70 (by decide) ?_
          refine lv_goto (tgt := 75) hx hb dX10_isHeardBy_71 (by decide) ?_
          exact rt_z C hr hlk (by decide) dX10_isHeardBy_75 (congrArg (fun o => o.map Value.int) hf)
def X10_pins (F : Nat) (p1 : Int32) (p2 : Int32) (k_w : (Nat → Int32)) (k_o : Int32) : Option (Int32 × (Nat → Int32)) := (X10_entryOf F p1 k_w k_o).bind fun r1 => (if (r1 : Int32) = (-1) then (some (0, k_w)) else ((X10_of F r1 6 k_w k_o).bind fun r3 => (if (r3 : Int32) = p2 then (some (0, k_w)) else ((X10_sets F r1 6 p2 k_w k_o).bind fun k_w_5 => (some (1, k_w_5))))))
abbrev rm_X10_pins : Room := { frames := 2, cells := 0, slots := 0, locals := 44 }
theorem ok_X10_pins : OKV RX10 yX10_pins cX10_pins 4 (some .boolean) 2 := ⟨by decide +kernel, qV_X10_pins, qL_X10_pins, qI_X10, qD_X10_pins⟩
set_option maxHeartbeats 4000000 in
set_option maxRecDepth 100000 in
theorem c_X10_pins (l : Launch) (D : va_G) (cI cZ cL cW : ClassId) (F : Nat) (a0 : Nat) (a1 : Nat) (a2 : Nat) (a3 : Nat) (a4 : Nat) (a5 : Nat) (a6 : Nat) (k_thrown : Int32) (k_w : (Nat → Int32)) (k_o : Int32) (k_isKept : (Nat → Int32)) (k_went : (Nat → Int32)) (k_wentMany : Int32) (k_waiting : (Nat → Int32)) (k_came : Int32) (k_depth : Int32) (k_isSilent : Int32) (k_x : Int64) (k_packed : (Nat → Int32)) (k_hits : Int32) (k_rues : Int32) (k_soonest : Int32) (k_inAll : (Nat → Int32)) (p1 : Int32) (p2 : Int32) (r : Int32) (k_w' : (Nat → Int32)) (hf : X10_pins F p1 p2 k_w k_o = some (r, k_w')) : CtrW l D (tyL cI cZ cL cW) nestW yX10_pins cX10_pins 4 (some .boolean) rm_X10_pins [.ref a0, .int p1, .int p2] (MX10 cI cZ cL cW a0 a1 a2 a3 a4 a5 a6 k_thrown k_w k_o k_isKept k_went k_wentMany k_waiting k_came k_depth k_isSilent k_x k_packed k_hits k_rues k_soonest k_inAll) (MX10 cI cZ cL cW a0 a1 a2 a3 a4 a5 a6 k_thrown (k_w') k_o k_isKept k_went k_wentMany k_waiting k_came k_depth k_isSilent k_x k_packed k_hits k_rues k_soonest k_inAll) (some (.int r)) := by
  refine ofA RX10 (by decide) rfl (Nat.le_of_ble_eq_true rfl) ?_
  intro p e s m below meth c ls A C hr hlk hE hA hP hD hS hl
  generalize (List.toArray ([.ref a0, .int p1, .int p2] : List Value)) = args at C ⊢
  obtain ⟨hx, hb, hml, hown, ht⟩ := id C
  have hl : lv_has ls 4 [(0, .ref a0), (1, .int p1), (2, .int p2)] := hl
  refine lv_aload_n hx hb dX10_pins_0 rfl (lv_at hl 0 rfl) ?_
  refine lv_iload_n hx hb dX10_pins_1 rfl (lv_at hl 1 rfl) ?_
  obtain ⟨r1, h2, hf⟩ := bd_s hf
  refine iv_R (rest := []) (st1 := [.int r1]) C hE hP (c_X10_entryOf l D cI cZ cL cW F a0 a1 a2 a3 a4 a5 a6 k_thrown k_w k_o k_isKept k_went k_wentMany k_waiting k_came k_depth k_isSilent k_x k_packed k_hits k_rues k_soonest k_inAll p1 r1  h2) ok_X10_entryOf qM_X10_118 rfl rfl ⟨(Nat.le_of_ble_eq_true rfl), (Nat.le_of_ble_eq_true rfl)⟩ rfl rfl hl.1 (Nat.le_of_ble_eq_true rfl) ⟨Nat.zero_le _, Nat.zero_le _⟩ dX10_pins_2 rfl rfl ?_
  refine lv_istore_n (lv' := [(3, .int r1), (0, .ref a0), (1, .int p1), (2, .int p2)]) hx hb dX10_pins_5 rfl hl (by decide) rfl (fun ls hl => ?_)
  refine lv_iload_n hx hb dX10_pins_6 rfl (lv_at hl 0 rfl) ?_
  refine lv_iconst (v := (-1)) hx hb dX10_pins_7 (by decide) ?_
  refine lv_icmp_eq (tgt := 22) hx hb dX10_pins_8 (by decide) (fun c8 => ?_) (fun c8 => ?_)
  · have hf := it_p hf c8
    refine lv_iconst (v := 0) hx hb dX10_pins_22 (by decide) ?_
    cases hf
    exact rw_z C hr hlk (by decide) hP hD hS dX10_pins_23 rfl
  · have hf := it_n hf c8
    refine lv_aload_n hx hb dX10_pins_11 rfl (lv_at hl 1 rfl) ?_
    refine lv_iload_n hx hb dX10_pins_12 rfl (lv_at hl 0 rfl) ?_
    refine lv_bipush (v := 6) hx hb dX10_pins_13 (by decide) ?_
    obtain ⟨r3, h4, hf⟩ := bd_s hf
    refine iv_R (rest := []) (st1 := [.int r3]) C hE hP (c_X10_of l D cI cZ cL cW F a0 a1 a2 a3 a4 a5 a6 k_thrown k_w k_o k_isKept k_went k_wentMany k_waiting k_came k_depth k_isSilent k_x k_packed k_hits k_rues k_soonest k_inAll r1 6 r3  h4) ok_X10_of qM_X10_44 rfl rfl ⟨(Nat.le_of_ble_eq_true rfl), (Nat.le_of_ble_eq_true rfl)⟩ rfl rfl hl.1 (Nat.le_of_ble_eq_true rfl) ⟨Nat.zero_le _, Nat.zero_le _⟩ dX10_pins_15 rfl rfl ?_
    refine lv_iload_n hx hb dX10_pins_18 rfl (lv_at hl 3 rfl) ?_
    refine lv_icmp_ne (tgt := 24) hx hb dX10_pins_19 (by decide) (fun c7 => ?_) (fun c7 => ?_)
    · have hf := it_n hf c7
      refine lv_aload_n hx hb dX10_pins_24 rfl (lv_at hl 1 rfl) ?_
      refine lv_iload_n hx hb dX10_pins_25 rfl (lv_at hl 0 rfl) ?_
      refine lv_bipush (v := 6) hx hb dX10_pins_26 (by decide) ?_
      refine lv_iload_n hx hb dX10_pins_28 rfl (lv_at hl 3 rfl) ?_
      obtain ⟨k_w_5, h6, hf⟩ := bd_s hf
      refine iv_A (rest := []) (st1 := []) C hE hP hD hS hA (c_X10_sets l D cI cZ cL cW F a0 a1 a2 a3 a4 a5 a6 k_thrown k_w k_o k_isKept k_went k_wentMany k_waiting k_came k_depth k_isSilent k_x k_packed k_hits k_rues k_soonest k_inAll r1 6 p2  k_w_5 h6) ok_X10_sets qM_X10_121 rfl rfl ⟨(Nat.le_of_ble_eq_true rfl), (Nat.le_of_ble_eq_true rfl)⟩ rfl rfl hl.1 (Nat.le_of_ble_eq_true rfl) ⟨Nat.zero_le _, Nat.zero_le _⟩ dX10_pins_29 rfl rfl (fun H locs (hP : va_P D vwCl (MX10 cI cZ cL cW a0 a1 a2 a3 a4 a5 a6 k_thrown k_w_5 k_o k_isKept k_went k_wentMany k_waiting k_came k_depth k_isSilent k_x k_packed k_hits k_rues k_soonest k_inAll) H) (hD : va_D A (MX10 cI cZ cL cW a0 a1 a2 a3 a4 a5 a6 k_thrown k_w_5 k_o k_isKept k_went k_wentMany k_waiting k_came k_depth k_isSilent k_x k_packed k_hits k_rues k_soonest k_inAll)) hS => ?_)
      refine lv_iconst (v := 1) hx hb dX10_pins_32 (by decide) ?_
      cases hf
      exact rw_z C hr hlk (by decide) hP hD hS dX10_pins_33 rfl
    · have hf := it_p hf c7
      refine lv_iconst (v := 0) hx hb dX10_pins_22 (by decide) ?_
      cases hf
      exact rw_z C hr hlk (by decide) hP hD hS dX10_pins_23 rfl
def X10_caps_L40 (F : Nat) : Nat → Int32 → Int32 → (Nat → Int32) → Int32 → (Nat → Int32) → Int32 → (Nat → Int32) → Int32 → Int32 → Int32 → Option (Int32 × (Nat → Int32) × (Nat → Int32) × Int32 × (Nat → Int32) × Int32)
  | 0, _, _, _, _, _, _, _, _, _, _ => none
  | n + 1, v1, v2, k_w, k_o, k_went, k_wentMany, k_waiting, k_came, k_depth, k_isSilent => (X10_load F k_w k_o).bind fun r3 => (if (r3 : Int32) ≤ v1 then (some (v2, k_w, k_went, k_wentMany, k_waiting, k_came)) else ((X10_evicts F (-1) k_w k_o k_went k_wentMany k_waiting k_came k_depth k_isSilent).bind fun (r5, k_w_6, k_went_7, k_wentMany_8, k_waiting_9, k_came_10) => (if (r5 : Int32) = 0 then (some (v2, k_w_6, k_went_7, k_wentMany_8, k_waiting_9, k_came_10)) else (X10_caps_L40 F n v1 (v2 + 1) k_w_6 k_o k_went_7 k_wentMany_8 k_waiting_9 k_came_10 k_depth k_isSilent))))
def X10_caps (F : Nat) (p1 : Int32) (k_w : (Nat → Int32)) (k_o : Int32) (k_went : (Nat → Int32)) (k_wentMany : Int32) (k_waiting : (Nat → Int32)) (k_came : Int32) (k_depth : Int32) (k_isSilent : Int32) : Option (Int32 × (Nat → Int32) × (Nat → Int32) × Int32 × (Nat → Int32) × Int32) := if ((k_o + 1) : Int32) < 0 ∨ 3392 ≤ (Int32.toNatClampNeg (k_o + 1)) then none else (if ((k_o + 3) : Int32) < 0 ∨ 3392 ≤ (Int32.toNatClampNeg (k_o + 3)) then none else ((X10_near F ((upd k_w (Int32.toNatClampNeg (k_o + 1)) p1) (Int32.toNatClampNeg (k_o + 3))) p1).bind fun r1 => (if ((k_o + 3) : Int32) < 0 ∨ 3392 ≤ (Int32.toNatClampNeg (k_o + 3)) then none else ((X10_caps_L40 F F p1 0 (upd (upd k_w (Int32.toNatClampNeg (k_o + 1)) p1) (Int32.toNatClampNeg (k_o + 3)) r1) k_o k_went k_wentMany k_waiting k_came k_depth k_isSilent).bind fun (x14, k15, k16, k17, k18, k19) => (some (x14, k15, k16, k17, k18, k19))))))
abbrev rm_X10_caps : Room := { frames := 6, cells := 0, slots := 0, locals := 139 }
theorem ok_X10_caps : OKV RX10 yX10_caps cX10_caps 3 (some .int) 1 := ⟨by decide +kernel, qV_X10_caps, qL_X10_caps, qI_X10, qD_X10_caps⟩
set_option maxHeartbeats 4000000 in
set_option maxRecDepth 100000 in
theorem c_X10_caps (l : Launch) (D : va_G) (cI cZ cL cW : ClassId) (F : Nat) (a0 : Nat) (a1 : Nat) (a2 : Nat) (a3 : Nat) (a4 : Nat) (a5 : Nat) (a6 : Nat) (k_thrown : Int32) (k_w : (Nat → Int32)) (k_o : Int32) (k_isKept : (Nat → Int32)) (k_went : (Nat → Int32)) (k_wentMany : Int32) (k_waiting : (Nat → Int32)) (k_came : Int32) (k_depth : Int32) (k_isSilent : Int32) (k_x : Int64) (k_packed : (Nat → Int32)) (k_hits : Int32) (k_rues : Int32) (k_soonest : Int32) (k_inAll : (Nat → Int32)) (p1 : Int32) (r : Int32) (k_w' : (Nat → Int32)) (k_went' : (Nat → Int32)) (k_wentMany' : Int32) (k_waiting' : (Nat → Int32)) (k_came' : Int32) (hf : X10_caps F p1 k_w k_o k_went k_wentMany k_waiting k_came k_depth k_isSilent = some (r, k_w', k_went', k_wentMany', k_waiting', k_came')) : CtrW l D (tyL cI cZ cL cW) nestW yX10_caps cX10_caps 3 (some .int) rm_X10_caps [.ref a0, .int p1] (MX10 cI cZ cL cW a0 a1 a2 a3 a4 a5 a6 k_thrown k_w k_o k_isKept k_went k_wentMany k_waiting k_came k_depth k_isSilent k_x k_packed k_hits k_rues k_soonest k_inAll) (MX10 cI cZ cL cW a0 a1 a2 a3 a4 a5 a6 k_thrown (k_w') k_o k_isKept (k_went') (k_wentMany') (k_waiting') (k_came') k_depth k_isSilent k_x k_packed k_hits k_rues k_soonest k_inAll) (some (.int r)) := by
  refine ofA RX10 (by decide) rfl (Nat.le_of_ble_eq_true rfl) ?_
  intro p e s m below meth c ls A C hr hlk hE hA hP hD hS hl
  generalize (List.toArray ([.ref a0, .int p1] : List Value)) = args at C ⊢
  obtain ⟨hx, hb, hml, hown, ht⟩ := id C
  have hl : lv_has ls 3 [(0, .ref a0), (1, .int p1)] := hl
  have L40 : ∀ (Q : State → Prop) (n : Nat) (v1 : Int32) (v2 : Int32) (k_thrown : Int32) (k_w : (Nat → Int32)) (k_o : Int32) (k_isKept : (Nat → Int32)) (k_went : (Nat → Int32)) (k_wentMany : Int32) (k_waiting : (Nat → Int32)) (k_came : Int32) (k_depth : Int32) (k_isSilent : Int32) (k_x : Int64) (k_packed : (Nat → Int32)) (k_hits : Int32) (k_rues : Int32) (k_soonest : Int32) (k_inAll : (Nat → Int32)) (x2 : Int32) (k_w' : (Nat → Int32)) (k_went' : (Nat → Int32)) (k_wentMany' : Int32) (k_waiting' : (Nat → Int32)) (k_came' : Int32) (H : Heap) (locs : List Loc) (ls : Array Slot), X10_caps_L40 F n v1 v2 k_w k_o k_went k_wentMany k_waiting k_came k_depth k_isSilent = some (x2, k_w', k_went', k_wentMany', k_waiting', k_came') → va_P D vwCl (MX10 cI cZ cL cW a0 a1 a2 a3 a4 a5 a6 k_thrown k_w k_o k_isKept k_went k_wentMany k_waiting k_came k_depth k_isSilent k_x k_packed k_hits k_rues k_soonest k_inAll) H → va_D A (MX10 cI cZ cL cW a0 a1 a2 a3 a4 a5 a6 k_thrown k_w k_o k_isKept k_went k_wentMany k_waiting k_came k_depth k_isSilent k_x k_packed k_hits k_rues k_soonest k_inAll) → va_S A s.heap H locs → lv_has ls 3 [(0, .ref a0), (1, .int v1), (2, .int v2)] → (∀ (H : Heap) (locs : List Loc) (ls : Array Slot), va_P D vwCl (MX10 cI cZ cL cW a0 a1 a2 a3 a4 a5 a6 k_thrown (k_w') k_o k_isKept (k_went') (k_wentMany') (k_waiting') (k_came') k_depth k_isSilent k_x k_packed k_hits k_rues k_soonest k_inAll) H → va_D A (MX10 cI cZ cL cW a0 a1 a2 a3 a4 a5 a6 k_thrown (k_w') k_o k_isKept (k_went') (k_wentMany') (k_waiting') (k_came') k_depth k_isSilent k_x k_packed k_hits k_rues k_soonest k_inAll) → va_S A s.heap H locs → lv_has ls 3 [(2, .int x2)] → W p l e rm_X10_caps s m args below meth c H locs 0 0 Q (F0 m 62 ls [])) → W p l e rm_X10_caps s m args below meth c H locs 0 0 Q (F0 m 40 ls []) := by
    intro Q n
    induction n with
    | zero => intro v1 v2 k_thrown k_w k_o k_isKept k_went k_wentMany k_waiting k_came k_depth k_isSilent k_x k_packed k_hits k_rues k_soonest k_inAll x2 k_w' k_went' k_wentMany' k_waiting' k_came' H locs ls hf hP hD hS hl hk; exact nn_s hf
    | succ n ih =>
      intro v1 v2 k_thrown k_w k_o k_isKept k_went k_wentMany k_waiting k_came k_depth k_isSilent k_x k_packed k_hits k_rues k_soonest k_inAll x2 k_w' k_went' k_wentMany' k_waiting' k_came' H locs ls hf hP hD hS hl hk
      refine lv_aload_n hx hb dX10_caps_40 rfl (lv_at hl 0 rfl) ?_
      obtain ⟨r3, h4, hf⟩ := bd_s hf
      refine iv_R (rest := []) (st1 := [.int r3]) C hE hP (c_X10_load l D cI cZ cL cW F a0 a1 a2 a3 a4 a5 a6 k_thrown k_w k_o k_isKept k_went k_wentMany k_waiting k_came k_depth k_isSilent k_x k_packed k_hits k_rues k_soonest k_inAll  r3  h4) ok_X10_load qM_X10_179 rfl rfl ⟨(Nat.le_of_ble_eq_true rfl), (Nat.le_of_ble_eq_true rfl)⟩ rfl rfl hl.1 (Nat.le_of_ble_eq_true rfl) ⟨Nat.zero_le _, Nat.zero_le _⟩ dX10_caps_41 rfl rfl ?_
      refine lv_iload_n hx hb dX10_caps_44 rfl (lv_at hl 1 rfl) ?_
      refine lv_icmp_le (tgt := 62) hx hb dX10_caps_45 (by decide) (fun c13 => ?_) (fun c13 => ?_)
      · have hf := it_p hf c13
        cases hf
        exact hk _ _ ls hP hD hS (lv_sub hl [2] rfl)
      · have hf := it_n hf c13
        refine lv_aload_n hx hb dX10_caps_48 rfl (lv_at hl 0 rfl) ?_
        refine lv_iconst (v := (-1)) hx hb dX10_caps_49 (by decide) ?_
        obtain ⟨⟨r5, k_w_6, k_went_7, k_wentMany_8, k_waiting_9, k_came_10⟩, h11, hf⟩ := bd_s hf
        refine iv_A (rest := []) (st1 := [.int r5]) C hE hP hD hS hA (c_X10_evicts l D cI cZ cL cW F a0 a1 a2 a3 a4 a5 a6 k_thrown k_w k_o k_isKept k_went k_wentMany k_waiting k_came k_depth k_isSilent k_x k_packed k_hits k_rues k_soonest k_inAll (-1) r5 k_w_6 k_went_7 k_wentMany_8 k_waiting_9 k_came_10 h11) ok_X10_evicts qM_X10_173 rfl rfl ⟨(Nat.le_of_ble_eq_true rfl), (Nat.le_of_ble_eq_true rfl)⟩ rfl rfl hl.1 (Nat.le_of_ble_eq_true rfl) ⟨Nat.zero_le _, Nat.zero_le _⟩ dX10_caps_50 rfl rfl (fun H locs (hP : va_P D vwCl (MX10 cI cZ cL cW a0 a1 a2 a3 a4 a5 a6 k_thrown k_w_6 k_o k_isKept k_went_7 k_wentMany_8 k_waiting_9 k_came_10 k_depth k_isSilent k_x k_packed k_hits k_rues k_soonest k_inAll) H) (hD : va_D A (MX10 cI cZ cL cW a0 a1 a2 a3 a4 a5 a6 k_thrown k_w_6 k_o k_isKept k_went_7 k_wentMany_8 k_waiting_9 k_came_10 k_depth k_isSilent k_x k_packed k_hits k_rues k_soonest k_inAll)) hS => ?_)
        refine lv_if_eq (tgt := 62) hx hb dX10_caps_53 (by decide) (fun c12 => ?_) (fun c12 => ?_)
        · have hf := it_p hf c12
          cases hf
          exact hk _ _ ls hP hD hS (lv_sub hl [2] rfl)
        · have hf := it_n hf c12
          refine lv_iinc (v := (v2 + 1)) (lv' := [(2, .int (v2 + 1)), (0, .ref a0), (1, .int v1)]) hx hb dX10_caps_56 hl (k := 2) rfl rfl (by decide) rfl (fun ls hl => ?_)
          refine lv_goto (tgt := 40) hx hb dX10_caps_59 (by decide) ?_
          exact ih v1 (v2 + 1) k_thrown k_w_6 k_o k_isKept k_went_7 k_wentMany_8 k_waiting_9 k_came_10 k_depth k_isSilent k_x k_packed k_hits k_rues k_soonest k_inAll _ _ _ _ _ _ _ _ ls hf hP hD hS (lv_sub hl [1, 2, 0] rfl) hk
  refine lv_aload_n hx hb dX10_caps_0 rfl (lv_at hl 0 rfl) ?_
  refine gf_X10 (v := .ref a1) C hE hP 0 1 rfl (by decide) qF_X10_17 rfl dX10_caps_1 ?_
  refine lv_aload_n hx hb dX10_caps_4 rfl (lv_at hl 0 rfl) ?_
  refine gf_X10 (v := .int k_o) C hE hP 0 2 rfl (by decide) qF_X10_41 rfl dX10_caps_5 ?_
  refine lv_iconst (v := 1) hx hb dX10_caps_8 (by decide) ?_
  refine lv_iadd hx hb dX10_caps_9 ?_
  refine lv_iload_n hx hb dX10_caps_10 rfl (lv_at hl 1 rfl) ?_
  obtain ⟨g23, hf⟩ := it_g hf
  refine va_iast hx hb hE.1 hP hD hS 1 0 rfl rfl g23 dX10_caps_11 (fun H locs (hP : va_P D vwCl (MX10 cI cZ cL cW a0 a1 a2 a3 a4 a5 a6 k_thrown (upd k_w (Int32.toNatClampNeg (k_o + 1)) p1) k_o k_isKept k_went k_wentMany k_waiting k_came k_depth k_isSilent k_x k_packed k_hits k_rues k_soonest k_inAll) H) (hD : va_D A (MX10 cI cZ cL cW a0 a1 a2 a3 a4 a5 a6 k_thrown (upd k_w (Int32.toNatClampNeg (k_o + 1)) p1) k_o k_isKept k_went k_wentMany k_waiting k_came k_depth k_isSilent k_x k_packed k_hits k_rues k_soonest k_inAll)) hS => ?_)
  refine lv_aload_n hx hb dX10_caps_12 rfl (lv_at hl 0 rfl) ?_
  refine gf_X10 (v := .ref a1) C hE hP 0 1 rfl (by decide) qF_X10_17 rfl dX10_caps_13 ?_
  refine lv_aload_n hx hb dX10_caps_16 rfl (lv_at hl 0 rfl) ?_
  refine gf_X10 (v := .int k_o) C hE hP 0 2 rfl (by decide) qF_X10_41 rfl dX10_caps_17 ?_
  refine lv_iconst (v := 3) hx hb dX10_caps_20 (by decide) ?_
  refine lv_iadd hx hb dX10_caps_21 ?_
  refine lv_aload_n hx hb dX10_caps_22 rfl (lv_at hl 0 rfl) ?_
  refine gf_X10 (v := .ref a1) C hE hP 0 1 rfl (by decide) qF_X10_17 rfl dX10_caps_23 ?_
  refine lv_aload_n hx hb dX10_caps_26 rfl (lv_at hl 0 rfl) ?_
  refine gf_X10 (v := .int k_o) C hE hP 0 2 rfl (by decide) qF_X10_41 rfl dX10_caps_27 ?_
  refine lv_iconst (v := 3) hx hb dX10_caps_30 (by decide) ?_
  refine lv_iadd hx hb dX10_caps_31 ?_
  obtain ⟨g22, hf⟩ := it_g hf
  refine va_iald hx hb hE.1 hP 1 0 rfl rfl g22 dX10_caps_32 ?_
  refine lv_iload_n hx hb dX10_caps_33 rfl (lv_at hl 1 rfl) ?_
  obtain ⟨r1, h2, hf⟩ := bd_s hf
  refine is_R (rest := [.int (k_o + 3), .ref a1]) (st1 := [.int r1, .int (k_o + 3), .ref a1]) C hE va_P_nil (c_X10_near l D cI cZ cL cW F   ((upd k_w (Int32.toNatClampNeg (k_o + 1)) p1) (Int32.toNatClampNeg (k_o + 3))) p1 r1  h2) ok_X10_near qM_X10_164 rfl rfl ⟨(Nat.le_of_ble_eq_true rfl), (Nat.le_of_ble_eq_true rfl)⟩ hl.1 (Nat.le_of_ble_eq_true rfl) ⟨Nat.zero_le _, Nat.zero_le _⟩ dX10_caps_34 rfl rfl ?_
  obtain ⟨g21, hf⟩ := it_g hf
  refine va_iast hx hb hE.1 hP hD hS 1 0 rfl rfl g21 dX10_caps_37 (fun H locs (hP : va_P D vwCl (MX10 cI cZ cL cW a0 a1 a2 a3 a4 a5 a6 k_thrown (upd (upd k_w (Int32.toNatClampNeg (k_o + 1)) p1) (Int32.toNatClampNeg (k_o + 3)) r1) k_o k_isKept k_went k_wentMany k_waiting k_came k_depth k_isSilent k_x k_packed k_hits k_rues k_soonest k_inAll) H) (hD : va_D A (MX10 cI cZ cL cW a0 a1 a2 a3 a4 a5 a6 k_thrown (upd (upd k_w (Int32.toNatClampNeg (k_o + 1)) p1) (Int32.toNatClampNeg (k_o + 3)) r1) k_o k_isKept k_went k_wentMany k_waiting k_came k_depth k_isSilent k_x k_packed k_hits k_rues k_soonest k_inAll)) hS => ?_)
  refine lv_iconst (v := 0) hx hb dX10_caps_38 (by decide) ?_
  refine lv_istore_n (lv' := [(2, .int 0), (0, .ref a0), (1, .int p1)]) hx hb dX10_caps_39 rfl hl (by decide) rfl (fun ls hl => ?_)
  obtain ⟨⟨x14, k15, k16, k17, k18, k19⟩, h20, hf⟩ := bd_s hf
  refine L40 _ F p1 0 k_thrown (upd (upd k_w (Int32.toNatClampNeg (k_o + 1)) p1) (Int32.toNatClampNeg (k_o + 3)) r1) k_o k_isKept k_went k_wentMany k_waiting k_came k_depth k_isSilent k_x k_packed k_hits k_rues k_soonest k_inAll x14 k15 k16 k17 k18 k19 _ _ ls h20 hP hD hS (lv_sub hl [1, 2, 0] rfl) (fun H locs ls hP hD hS hl => ?_)
  refine lv_iload_n hx hb dX10_caps_62 rfl (lv_at hl 0 rfl) ?_
  cases hf
  exact rw_i C hr hlk hP hD hS dX10_caps_63 rfl
def X10_capsBy (F : Nat) (p1 : Int32) (k_w : (Nat → Int32)) (k_o : Int32) (k_went : (Nat → Int32)) (k_wentMany : Int32) (k_waiting : (Nat → Int32)) (k_came : Int32) (k_depth : Int32) (k_isSilent : Int32) : Option (Int32 × (Nat → Int32) × (Nat → Int32) × Int32 × (Nat → Int32) × Int32) := if ((k_o + 1) : Int32) < 0 ∨ 3392 ≤ (Int32.toNatClampNeg (k_o + 1)) then none else (if (p1 : Int32) = 0 then (some (0, k_w, k_went, k_wentMany, k_waiting, k_came)) else ((X10_isIn F (((k_w (Int32.toNatClampNeg (k_o + 1))) + p1).toInt64) 0 5000).bind fun r1 => (if (r1 : Int32) = 0 then (some (0, k_w, k_went, k_wentMany, k_waiting, k_came)) else ((X10_pinned F (-1) k_w k_o).bind fun r3 => (if (r3 : Int32) ≤ ((k_w (Int32.toNatClampNeg (k_o + 1))) + p1) then ((X10_caps F ((k_w (Int32.toNatClampNeg (k_o + 1))) + p1) k_w k_o k_went k_wentMany k_waiting k_came k_depth k_isSilent).bind fun (r5, k_w_6, k_went_7, k_wentMany_8, k_waiting_9, k_came_10) => (some (1, k_w_6, k_went_7, k_wentMany_8, k_waiting_9, k_came_10))) else (some (0, k_w, k_went, k_wentMany, k_waiting, k_came)))))))
abbrev rm_X10_capsBy : Room := { frames := 7, cells := 0, slots := 0, locals := 161 }
theorem ok_X10_capsBy : OKV RX10 yX10_capsBy cX10_capsBy 3 (some .boolean) 1 := ⟨by decide +kernel, qV_X10_capsBy, qL_X10_capsBy, qI_X10, qD_X10_capsBy⟩
set_option maxHeartbeats 4000000 in
set_option maxRecDepth 100000 in
theorem c_X10_capsBy (l : Launch) (D : va_G) (cI cZ cL cW : ClassId) (F : Nat) (a0 : Nat) (a1 : Nat) (a2 : Nat) (a3 : Nat) (a4 : Nat) (a5 : Nat) (a6 : Nat) (k_thrown : Int32) (k_w : (Nat → Int32)) (k_o : Int32) (k_isKept : (Nat → Int32)) (k_went : (Nat → Int32)) (k_wentMany : Int32) (k_waiting : (Nat → Int32)) (k_came : Int32) (k_depth : Int32) (k_isSilent : Int32) (k_x : Int64) (k_packed : (Nat → Int32)) (k_hits : Int32) (k_rues : Int32) (k_soonest : Int32) (k_inAll : (Nat → Int32)) (p1 : Int32) (r : Int32) (k_w' : (Nat → Int32)) (k_went' : (Nat → Int32)) (k_wentMany' : Int32) (k_waiting' : (Nat → Int32)) (k_came' : Int32) (hf : X10_capsBy F p1 k_w k_o k_went k_wentMany k_waiting k_came k_depth k_isSilent = some (r, k_w', k_went', k_wentMany', k_waiting', k_came')) : CtrW l D (tyL cI cZ cL cW) nestW yX10_capsBy cX10_capsBy 3 (some .boolean) rm_X10_capsBy [.ref a0, .int p1] (MX10 cI cZ cL cW a0 a1 a2 a3 a4 a5 a6 k_thrown k_w k_o k_isKept k_went k_wentMany k_waiting k_came k_depth k_isSilent k_x k_packed k_hits k_rues k_soonest k_inAll) (MX10 cI cZ cL cW a0 a1 a2 a3 a4 a5 a6 k_thrown (k_w') k_o k_isKept (k_went') (k_wentMany') (k_waiting') (k_came') k_depth k_isSilent k_x k_packed k_hits k_rues k_soonest k_inAll) (some (.int r)) := by
  refine ofA RX10 (by decide) rfl (Nat.le_of_ble_eq_true rfl) ?_
  intro p e s m below meth c ls A C hr hlk hE hA hP hD hS hl
  generalize (List.toArray ([.ref a0, .int p1] : List Value)) = args at C ⊢
  obtain ⟨hx, hb, hml, hown, ht⟩ := id C
  have hl : lv_has ls 3 [(0, .ref a0), (1, .int p1)] := hl
  refine lv_aload_n hx hb dX10_capsBy_0 rfl (lv_at hl 0 rfl) ?_
  refine gf_X10 (v := .ref a1) C hE hP 0 1 rfl (by decide) qF_X10_17 rfl dX10_capsBy_1 ?_
  refine lv_aload_n hx hb dX10_capsBy_4 rfl (lv_at hl 0 rfl) ?_
  refine gf_X10 (v := .int k_o) C hE hP 0 2 rfl (by decide) qF_X10_41 rfl dX10_capsBy_5 ?_
  refine lv_iconst (v := 1) hx hb dX10_capsBy_8 (by decide) ?_
  refine lv_iadd hx hb dX10_capsBy_9 ?_
  obtain ⟨g15, hf⟩ := it_g hf
  refine va_iald hx hb hE.1 hP 1 0 rfl rfl g15 dX10_capsBy_10 ?_
  refine lv_iload_n hx hb dX10_capsBy_11 rfl (lv_at hl 1 rfl) ?_
  refine lv_iadd hx hb dX10_capsBy_12 ?_
  refine lv_istore_n (lv' := [(2, .int ((k_w (Int32.toNatClampNeg (k_o + 1))) + p1)), (0, .ref a0), (1, .int p1)]) hx hb dX10_capsBy_13 rfl hl (by decide) rfl (fun ls hl => ?_)
  refine lv_iload_n hx hb dX10_capsBy_14 rfl (lv_at hl 2 rfl) ?_
  refine lv_if_eq (tgt := 39) hx hb dX10_capsBy_15 (by decide) (fun c14 => ?_) (fun c14 => ?_)
  · have hf := it_p hf c14
    refine lv_iconst (v := 0) hx hb dX10_capsBy_39 (by decide) ?_
    cases hf
    exact rw_z C hr hlk (by decide) hP hD hS dX10_capsBy_40 rfl
  · have hf := it_n hf c14
    refine lv_iload_n hx hb dX10_capsBy_18 rfl (lv_at hl 0 rfl) ?_
    refine lv_i2l hx hb dX10_capsBy_19 rfl ?_
    refine lv_lconst (v := 0) hx hb dX10_capsBy_20 (by decide) ?_
    refine lv_ldc2 (v := 5000) hx hb hown (ht _ qJ_X10_125) dX10_capsBy_21 ?_
    obtain ⟨r1, h2, hf⟩ := bd_s hf
    refine is_R (rest := []) (st1 := [.int r1]) C hE va_P_nil (c_X10_isIn l D cI cZ cL cW F   (((k_w (Int32.toNatClampNeg (k_o + 1))) + p1).toInt64) 0 5000 r1  h2) ok_X10_isIn qM_X10_49 rfl rfl ⟨(Nat.le_of_ble_eq_true rfl), (Nat.le_of_ble_eq_true rfl)⟩ hl.1 (Nat.le_of_ble_eq_true rfl) ⟨Nat.zero_le _, Nat.zero_le _⟩ dX10_capsBy_24 rfl rfl ?_
    refine lv_if_eq (tgt := 39) hx hb dX10_capsBy_27 (by decide) (fun c13 => ?_) (fun c13 => ?_)
    · have hf := it_p hf c13
      refine lv_iconst (v := 0) hx hb dX10_capsBy_39 (by decide) ?_
      cases hf
      exact rw_z C hr hlk (by decide) hP hD hS dX10_capsBy_40 rfl
    · have hf := it_n hf c13
      refine lv_aload_n hx hb dX10_capsBy_30 rfl (lv_at hl 1 rfl) ?_
      refine lv_iconst (v := (-1)) hx hb dX10_capsBy_31 (by decide) ?_
      obtain ⟨r3, h4, hf⟩ := bd_s hf
      refine iv_R (rest := []) (st1 := [.int r3]) C hE hP (c_X10_pinned l D cI cZ cL cW F a0 a1 a2 a3 a4 a5 a6 k_thrown k_w k_o k_isKept k_went k_wentMany k_waiting k_came k_depth k_isSilent k_x k_packed k_hits k_rues k_soonest k_inAll (-1) r3  h4) ok_X10_pinned qM_X10_127 rfl rfl ⟨(Nat.le_of_ble_eq_true rfl), (Nat.le_of_ble_eq_true rfl)⟩ rfl rfl hl.1 (Nat.le_of_ble_eq_true rfl) ⟨Nat.zero_le _, Nat.zero_le _⟩ dX10_capsBy_32 rfl rfl ?_
      refine lv_iload_n hx hb dX10_capsBy_35 rfl (lv_at hl 0 rfl) ?_
      refine lv_icmp_le (tgt := 41) hx hb dX10_capsBy_36 (by decide) (fun c12 => ?_) (fun c12 => ?_)
      · have hf := it_p hf c12
        refine lv_aload_n hx hb dX10_capsBy_41 rfl (lv_at hl 1 rfl) ?_
        refine lv_iload_n hx hb dX10_capsBy_42 rfl (lv_at hl 0 rfl) ?_
        obtain ⟨⟨r5, k_w_6, k_went_7, k_wentMany_8, k_waiting_9, k_came_10⟩, h11, hf⟩ := bd_s hf
        refine iv_A (rest := []) (st1 := [.int r5]) C hE hP hD hS hA (c_X10_caps l D cI cZ cL cW F a0 a1 a2 a3 a4 a5 a6 k_thrown k_w k_o k_isKept k_went k_wentMany k_waiting k_came k_depth k_isSilent k_x k_packed k_hits k_rues k_soonest k_inAll ((k_w (Int32.toNatClampNeg (k_o + 1))) + p1) r5 k_w_6 k_went_7 k_wentMany_8 k_waiting_9 k_came_10 h11) ok_X10_caps qM_X10_130 rfl rfl ⟨(Nat.le_of_ble_eq_true rfl), (Nat.le_of_ble_eq_true rfl)⟩ rfl rfl hl.1 (Nat.le_of_ble_eq_true rfl) ⟨Nat.zero_le _, Nat.zero_le _⟩ dX10_capsBy_43 rfl rfl (fun H locs (hP : va_P D vwCl (MX10 cI cZ cL cW a0 a1 a2 a3 a4 a5 a6 k_thrown k_w_6 k_o k_isKept k_went_7 k_wentMany_8 k_waiting_9 k_came_10 k_depth k_isSilent k_x k_packed k_hits k_rues k_soonest k_inAll) H) (hD : va_D A (MX10 cI cZ cL cW a0 a1 a2 a3 a4 a5 a6 k_thrown k_w_6 k_o k_isKept k_went_7 k_wentMany_8 k_waiting_9 k_came_10 k_depth k_isSilent k_x k_packed k_hits k_rues k_soonest k_inAll)) hS => ?_)
        refine lv_pop hx hb dX10_capsBy_46 rfl ?_
        refine lv_iconst (v := 1) hx hb dX10_capsBy_47 (by decide) ?_
        cases hf
        exact rw_z C hr hlk (by decide) hP hD hS dX10_capsBy_48 rfl
      · have hf := it_n hf c12
        refine lv_iconst (v := 0) hx hb dX10_capsBy_39 (by decide) ?_
        cases hf
        exact rw_z C hr hlk (by decide) hP hD hS dX10_capsBy_40 rfl
def X10_uses_L97 (F : Nat) : Nat → Int32 → (Nat → Int32) → Int32 → Option ((Nat → Int32))
  | 0, _, _, _ => none
  | n + 1, v2, k_w, k_o => if ((k_o + 0) : Int32) < 0 ∨ 3392 ≤ (Int32.toNatClampNeg (k_o + 0)) then none else (if ((k_w (Int32.toNatClampNeg (k_o + 0))) : Int32) ≤ v2 then (some k_w) else ((X10_of F v2 3 k_w k_o).bind fun r10 => (if (2 : Int32) ≤ r10 then ((X10_of F v2 3 k_w k_o).bind fun r12 => ((X10_sets F v2 3 (r12 / 2) k_w k_o).bind fun k_w_14 => (X10_uses_L97 F n (v2 + 1) k_w_14 k_o))) else ((X10_sets F v2 3 1 k_w k_o).bind fun k_w_16 => (X10_uses_L97 F n (v2 + 1) k_w_16 k_o)))))
def X10_uses (F : Nat) (p1 : Int32) (k_w : (Nat → Int32)) (k_o : Int32) : Option ((Nat → Int32)) := if ((k_o + 4) : Int32) < 0 ∨ 3392 ≤ (Int32.toNatClampNeg (k_o + 4)) then none else (if ((k_o + 4) : Int32) < 0 ∨ 3392 ≤ (Int32.toNatClampNeg (k_o + 4)) then none else (if ((k_o + 4) : Int32) < 0 ∨ 3392 ≤ (Int32.toNatClampNeg (k_o + 4)) then none else ((X10_sets F p1 4 ((upd k_w (Int32.toNatClampNeg (k_o + 4)) ((k_w (Int32.toNatClampNeg (k_o + 4))) + 1)) (Int32.toNatClampNeg (k_o + 4))) (upd k_w (Int32.toNatClampNeg (k_o + 4)) ((k_w (Int32.toNatClampNeg (k_o + 4))) + 1)) k_o).bind fun k_w_1 => ((X10_of F p1 3 k_w_1 k_o).bind fun r3 => ((X10_lesser F 999999 (r3 + 1)).bind fun r5 => ((X10_sets F p1 3 r5 k_w_1 k_o).bind fun k_w_7 => (if ((k_o + 4) : Int32) < 0 ∨ 3392 ≤ (Int32.toNatClampNeg (k_o + 4)) then none else (if ((k_o + 6) : Int32) < 0 ∨ 3392 ≤ (Int32.toNatClampNeg (k_o + 6)) then none else (if (k_w_7 (Int32.toNatClampNeg (k_o + 6))) = 0 then none else (if (((k_w_7 (Int32.toNatClampNeg (k_o + 4))) - (k_w_7 (Int32.toNatClampNeg (k_o + 4))) / (k_w_7 (Int32.toNatClampNeg (k_o + 6))) * (k_w_7 (Int32.toNatClampNeg (k_o + 6)))) : Int32) = 0 then (if ((k_o + 15) : Int32) < 0 ∨ 3392 ≤ (Int32.toNatClampNeg (k_o + 15)) then none else (if ((k_o + 15) : Int32) < 0 ∨ 3392 ≤ (Int32.toNatClampNeg (k_o + 15)) then none else ((X10_uses_L97 F F 0 (upd k_w_7 (Int32.toNatClampNeg (k_o + 15)) ((k_w_7 (Int32.toNatClampNeg (k_o + 15))) + 1)) k_o).bind fun k21 => (some k21)))) else (some k_w_7)))))))))))
abbrev rm_X10_uses : Room := { frames := 1, cells := 0, slots := 0, locals := 23 }
theorem ok_X10_uses : OKV RX10 yX10_uses cX10_uses 3 none 1 := ⟨by decide +kernel, qV_X10_uses, qL_X10_uses, qI_X10, qD_X10_uses⟩
set_option maxHeartbeats 4000000 in
set_option maxRecDepth 100000 in
theorem c_X10_uses (l : Launch) (D : va_G) (cI cZ cL cW : ClassId) (F : Nat) (a0 : Nat) (a1 : Nat) (a2 : Nat) (a3 : Nat) (a4 : Nat) (a5 : Nat) (a6 : Nat) (k_thrown : Int32) (k_w : (Nat → Int32)) (k_o : Int32) (k_isKept : (Nat → Int32)) (k_went : (Nat → Int32)) (k_wentMany : Int32) (k_waiting : (Nat → Int32)) (k_came : Int32) (k_depth : Int32) (k_isSilent : Int32) (k_x : Int64) (k_packed : (Nat → Int32)) (k_hits : Int32) (k_rues : Int32) (k_soonest : Int32) (k_inAll : (Nat → Int32)) (p1 : Int32) (k_w' : (Nat → Int32)) (hf : X10_uses F p1 k_w k_o = some (k_w')) : CtrW l D (tyL cI cZ cL cW) nestW yX10_uses cX10_uses 3 none rm_X10_uses [.ref a0, .int p1] (MX10 cI cZ cL cW a0 a1 a2 a3 a4 a5 a6 k_thrown k_w k_o k_isKept k_went k_wentMany k_waiting k_came k_depth k_isSilent k_x k_packed k_hits k_rues k_soonest k_inAll) (MX10 cI cZ cL cW a0 a1 a2 a3 a4 a5 a6 k_thrown (k_w') k_o k_isKept k_went k_wentMany k_waiting k_came k_depth k_isSilent k_x k_packed k_hits k_rues k_soonest k_inAll) none := by
  refine ofA RX10 (by decide) rfl (Nat.le_of_ble_eq_true rfl) ?_
  intro p e s m below meth c ls A C hr hlk hE hA hP hD hS hl
  generalize (List.toArray ([.ref a0, .int p1] : List Value)) = args at C ⊢
  obtain ⟨hx, hb, hml, hown, ht⟩ := id C
  have hl : lv_has ls 3 [(0, .ref a0), (1, .int p1)] := hl
  have L97 : ∀ (Q : State → Prop) (n : Nat) (v2 : Int32) (k_thrown : Int32) (k_w : (Nat → Int32)) (k_o : Int32) (k_isKept : (Nat → Int32)) (k_went : (Nat → Int32)) (k_wentMany : Int32) (k_waiting : (Nat → Int32)) (k_came : Int32) (k_depth : Int32) (k_isSilent : Int32) (k_x : Int64) (k_packed : (Nat → Int32)) (k_hits : Int32) (k_rues : Int32) (k_soonest : Int32) (k_inAll : (Nat → Int32)) (k_w' : (Nat → Int32)) (H : Heap) (locs : List Loc) (ls : Array Slot), X10_uses_L97 F n v2 k_w k_o = some (k_w') → va_P D vwCl (MX10 cI cZ cL cW a0 a1 a2 a3 a4 a5 a6 k_thrown k_w k_o k_isKept k_went k_wentMany k_waiting k_came k_depth k_isSilent k_x k_packed k_hits k_rues k_soonest k_inAll) H → va_D A (MX10 cI cZ cL cW a0 a1 a2 a3 a4 a5 a6 k_thrown k_w k_o k_isKept k_went k_wentMany k_waiting k_came k_depth k_isSilent k_x k_packed k_hits k_rues k_soonest k_inAll) → va_S A s.heap H locs → lv_has ls 3 [(0, .ref a0), (2, .int v2)] → (∀ (H : Heap) (locs : List Loc) (ls : Array Slot), va_P D vwCl (MX10 cI cZ cL cW a0 a1 a2 a3 a4 a5 a6 k_thrown (k_w') k_o k_isKept k_went k_wentMany k_waiting k_came k_depth k_isSilent k_x k_packed k_hits k_rues k_soonest k_inAll) H → va_D A (MX10 cI cZ cL cW a0 a1 a2 a3 a4 a5 a6 k_thrown (k_w') k_o k_isKept k_went k_wentMany k_waiting k_came k_depth k_isSilent k_x k_packed k_hits k_rues k_soonest k_inAll) → va_S A s.heap H locs → lv_has ls 3 [] → W p l e rm_X10_uses s m args below meth c H locs 0 0 Q (F0 m 146 ls [])) → W p l e rm_X10_uses s m args below meth c H locs 0 0 Q (F0 m 97 ls []) := by
    intro Q n
    induction n with
    | zero => intro v2 k_thrown k_w k_o k_isKept k_went k_wentMany k_waiting k_came k_depth k_isSilent k_x k_packed k_hits k_rues k_soonest k_inAll k_w' H locs ls hf hP hD hS hl hk; exact nn_s hf
    | succ n ih =>
      intro v2 k_thrown k_w k_o k_isKept k_went k_wentMany k_waiting k_came k_depth k_isSilent k_x k_packed k_hits k_rues k_soonest k_inAll k_w' H locs ls hf hP hD hS hl hk
      refine lv_iload_n hx hb dX10_uses_97 rfl (lv_at hl 1 rfl) ?_
      refine lv_aload_n hx hb dX10_uses_98 rfl (lv_at hl 0 rfl) ?_
      refine gf_X10 (v := .ref a1) C hE hP 0 1 rfl (by decide) qF_X10_17 rfl dX10_uses_99 ?_
      refine lv_aload_n hx hb dX10_uses_102 rfl (lv_at hl 0 rfl) ?_
      refine gf_X10 (v := .int k_o) C hE hP 0 2 rfl (by decide) qF_X10_41 rfl dX10_uses_103 ?_
      refine lv_iconst (v := 0) hx hb dX10_uses_106 (by decide) ?_
      refine lv_iadd hx hb dX10_uses_107 ?_
      obtain ⟨g20, hf⟩ := it_g hf
      refine va_iald hx hb hE.1 hP 1 0 rfl rfl g20 dX10_uses_108 ?_
      refine lv_icmp_ge (tgt := 146) hx hb dX10_uses_109 (by decide) (fun c19 => ?_) (fun c19 => ?_)
      · have hf := it_p hf c19
        cases hf
        exact hk _ _ ls hP hD hS (lv_sub hl [] rfl)
      · have hf := it_n hf c19
        refine lv_aload_n hx hb dX10_uses_112 rfl (lv_at hl 0 rfl) ?_
        refine lv_iload_n hx hb dX10_uses_113 rfl (lv_at hl 1 rfl) ?_
        refine lv_iconst (v := 3) hx hb dX10_uses_114 (by decide) ?_
        refine lv_aload_n hx hb dX10_uses_115 rfl (lv_at hl 0 rfl) ?_
        refine lv_iload_n hx hb dX10_uses_116 rfl (lv_at hl 1 rfl) ?_
        refine lv_iconst (v := 3) hx hb dX10_uses_117 (by decide) ?_
        obtain ⟨r10, h11, hf⟩ := bd_s hf
        refine iv_R (rest := [.int 3, .int v2, .ref a0]) (st1 := [.int r10, .int 3, .int v2, .ref a0]) C hE hP (c_X10_of l D cI cZ cL cW F a0 a1 a2 a3 a4 a5 a6 k_thrown k_w k_o k_isKept k_went k_wentMany k_waiting k_came k_depth k_isSilent k_x k_packed k_hits k_rues k_soonest k_inAll v2 3 r10  h11) ok_X10_of qM_X10_44 rfl rfl ⟨(Nat.le_of_ble_eq_true rfl), (Nat.le_of_ble_eq_true rfl)⟩ rfl rfl hl.1 (Nat.le_of_ble_eq_true rfl) ⟨Nat.zero_le _, Nat.zero_le _⟩ dX10_uses_118 rfl rfl ?_
        refine lv_iconst (v := 2) hx hb dX10_uses_121 (by decide) ?_
        refine lv_icmp_ge (tgt := 129) hx hb dX10_uses_122 (by decide) (fun c18 => ?_) (fun c18 => ?_)
        · have hf := it_p hf c18
          refine lv_aload_n hx hb dX10_uses_129 rfl (lv_at hl 0 rfl) ?_
          refine lv_iload_n hx hb dX10_uses_130 rfl (lv_at hl 1 rfl) ?_
          refine lv_iconst (v := 3) hx hb dX10_uses_131 (by decide) ?_
          obtain ⟨r12, h13, hf⟩ := bd_s hf
          refine iv_R (rest := [.int 3, .int v2, .ref a0]) (st1 := [.int r12, .int 3, .int v2, .ref a0]) C hE hP (c_X10_of l D cI cZ cL cW F a0 a1 a2 a3 a4 a5 a6 k_thrown k_w k_o k_isKept k_went k_wentMany k_waiting k_came k_depth k_isSilent k_x k_packed k_hits k_rues k_soonest k_inAll v2 3 r12  h13) ok_X10_of qM_X10_44 rfl rfl ⟨(Nat.le_of_ble_eq_true rfl), (Nat.le_of_ble_eq_true rfl)⟩ rfl rfl hl.1 (Nat.le_of_ble_eq_true rfl) ⟨Nat.zero_le _, Nat.zero_le _⟩ dX10_uses_132 rfl rfl ?_
          refine lv_iconst (v := 2) hx hb dX10_uses_135 (by decide) ?_
          refine lv_idiv hx hb dX10_uses_136 (by decide) ?_
          obtain ⟨k_w_14, h15, hf⟩ := bd_s hf
          refine iv_A (rest := []) (st1 := []) C hE hP hD hS hA (c_X10_sets l D cI cZ cL cW F a0 a1 a2 a3 a4 a5 a6 k_thrown k_w k_o k_isKept k_went k_wentMany k_waiting k_came k_depth k_isSilent k_x k_packed k_hits k_rues k_soonest k_inAll v2 3 (r12 / 2)  k_w_14 h15) ok_X10_sets qM_X10_121 rfl rfl ⟨(Nat.le_of_ble_eq_true rfl), (Nat.le_of_ble_eq_true rfl)⟩ rfl rfl hl.1 (Nat.le_of_ble_eq_true rfl) ⟨Nat.zero_le _, Nat.zero_le _⟩ dX10_uses_137 rfl rfl (fun H locs (hP : va_P D vwCl (MX10 cI cZ cL cW a0 a1 a2 a3 a4 a5 a6 k_thrown k_w_14 k_o k_isKept k_went k_wentMany k_waiting k_came k_depth k_isSilent k_x k_packed k_hits k_rues k_soonest k_inAll) H) (hD : va_D A (MX10 cI cZ cL cW a0 a1 a2 a3 a4 a5 a6 k_thrown k_w_14 k_o k_isKept k_went k_wentMany k_waiting k_came k_depth k_isSilent k_x k_packed k_hits k_rues k_soonest k_inAll)) hS => ?_)
          refine lv_iinc (v := (v2 + 1)) (lv' := [(2, .int (v2 + 1)), (0, .ref a0)]) hx hb dX10_uses_140 hl (k := 1) rfl rfl (by decide) rfl (fun ls hl => ?_)
          refine lv_goto (tgt := 97) hx hb dX10_uses_143 (by decide) ?_
          exact ih (v2 + 1) k_thrown k_w_14 k_o k_isKept k_went k_wentMany k_waiting k_came k_depth k_isSilent k_x k_packed k_hits k_rues k_soonest k_inAll _ _ _ ls hf hP hD hS (lv_sub hl [1, 0] rfl) hk
        · have hf := it_n hf c18
          refine lv_iconst (v := 1) hx hb dX10_uses_125 (by decide) ?_
          refine lv_goto (tgt := 137) hx hb dX10_uses_126 (by decide) ?_
          obtain ⟨k_w_16, h17, hf⟩ := bd_s hf
          refine iv_A (rest := []) (st1 := []) C hE hP hD hS hA (c_X10_sets l D cI cZ cL cW F a0 a1 a2 a3 a4 a5 a6 k_thrown k_w k_o k_isKept k_went k_wentMany k_waiting k_came k_depth k_isSilent k_x k_packed k_hits k_rues k_soonest k_inAll v2 3 1  k_w_16 h17) ok_X10_sets qM_X10_121 rfl rfl ⟨(Nat.le_of_ble_eq_true rfl), (Nat.le_of_ble_eq_true rfl)⟩ rfl rfl hl.1 (Nat.le_of_ble_eq_true rfl) ⟨Nat.zero_le _, Nat.zero_le _⟩ dX10_uses_137 rfl rfl (fun H locs (hP : va_P D vwCl (MX10 cI cZ cL cW a0 a1 a2 a3 a4 a5 a6 k_thrown k_w_16 k_o k_isKept k_went k_wentMany k_waiting k_came k_depth k_isSilent k_x k_packed k_hits k_rues k_soonest k_inAll) H) (hD : va_D A (MX10 cI cZ cL cW a0 a1 a2 a3 a4 a5 a6 k_thrown k_w_16 k_o k_isKept k_went k_wentMany k_waiting k_came k_depth k_isSilent k_x k_packed k_hits k_rues k_soonest k_inAll)) hS => ?_)
          refine lv_iinc (v := (v2 + 1)) (lv' := [(2, .int (v2 + 1)), (0, .ref a0)]) hx hb dX10_uses_140 hl (k := 1) rfl rfl (by decide) rfl (fun ls hl => ?_)
          refine lv_goto (tgt := 97) hx hb dX10_uses_143 (by decide) ?_
          exact ih (v2 + 1) k_thrown k_w_16 k_o k_isKept k_went k_wentMany k_waiting k_came k_depth k_isSilent k_x k_packed k_hits k_rues k_soonest k_inAll _ _ _ ls hf hP hD hS (lv_sub hl [1, 0] rfl) hk
  refine lv_aload_n hx hb dX10_uses_0 rfl (lv_at hl 0 rfl) ?_
  refine gf_X10 (v := .ref a1) C hE hP 0 1 rfl (by decide) qF_X10_17 rfl dX10_uses_1 ?_
  refine lv_aload_n hx hb dX10_uses_4 rfl (lv_at hl 0 rfl) ?_
  refine gf_X10 (v := .int k_o) C hE hP 0 2 rfl (by decide) qF_X10_41 rfl dX10_uses_5 ?_
  refine lv_iconst (v := 4) hx hb dX10_uses_8 (by decide) ?_
  refine lv_iadd hx hb dX10_uses_9 ?_
  refine lv_dup2_11 hx hb dX10_uses_10 rfl rfl ?_
  obtain ⟨g30, hf⟩ := it_g hf
  refine va_iald hx hb hE.1 hP 1 0 rfl rfl g30 dX10_uses_11 ?_
  refine lv_iconst (v := 1) hx hb dX10_uses_12 (by decide) ?_
  refine lv_iadd hx hb dX10_uses_13 ?_
  obtain ⟨g29, hf⟩ := it_g hf
  refine va_iast hx hb hE.1 hP hD hS 1 0 rfl rfl g29 dX10_uses_14 (fun H locs (hP : va_P D vwCl (MX10 cI cZ cL cW a0 a1 a2 a3 a4 a5 a6 k_thrown (upd k_w (Int32.toNatClampNeg (k_o + 4)) ((k_w (Int32.toNatClampNeg (k_o + 4))) + 1)) k_o k_isKept k_went k_wentMany k_waiting k_came k_depth k_isSilent k_x k_packed k_hits k_rues k_soonest k_inAll) H) (hD : va_D A (MX10 cI cZ cL cW a0 a1 a2 a3 a4 a5 a6 k_thrown (upd k_w (Int32.toNatClampNeg (k_o + 4)) ((k_w (Int32.toNatClampNeg (k_o + 4))) + 1)) k_o k_isKept k_went k_wentMany k_waiting k_came k_depth k_isSilent k_x k_packed k_hits k_rues k_soonest k_inAll)) hS => ?_)
  refine lv_aload_n hx hb dX10_uses_15 rfl (lv_at hl 0 rfl) ?_
  refine lv_iload_n hx hb dX10_uses_16 rfl (lv_at hl 1 rfl) ?_
  refine lv_iconst (v := 4) hx hb dX10_uses_17 (by decide) ?_
  refine lv_aload_n hx hb dX10_uses_18 rfl (lv_at hl 0 rfl) ?_
  refine gf_X10 (v := .ref a1) C hE hP 0 1 rfl (by decide) qF_X10_17 rfl dX10_uses_19 ?_
  refine lv_aload_n hx hb dX10_uses_22 rfl (lv_at hl 0 rfl) ?_
  refine gf_X10 (v := .int k_o) C hE hP 0 2 rfl (by decide) qF_X10_41 rfl dX10_uses_23 ?_
  refine lv_iconst (v := 4) hx hb dX10_uses_26 (by decide) ?_
  refine lv_iadd hx hb dX10_uses_27 ?_
  obtain ⟨g28, hf⟩ := it_g hf
  refine va_iald hx hb hE.1 hP 1 0 rfl rfl g28 dX10_uses_28 ?_
  obtain ⟨k_w_1, h2, hf⟩ := bd_s hf
  refine iv_A (rest := []) (st1 := []) C hE hP hD hS hA (c_X10_sets l D cI cZ cL cW F a0 a1 a2 a3 a4 a5 a6 k_thrown (upd k_w (Int32.toNatClampNeg (k_o + 4)) ((k_w (Int32.toNatClampNeg (k_o + 4))) + 1)) k_o k_isKept k_went k_wentMany k_waiting k_came k_depth k_isSilent k_x k_packed k_hits k_rues k_soonest k_inAll p1 4 ((upd k_w (Int32.toNatClampNeg (k_o + 4)) ((k_w (Int32.toNatClampNeg (k_o + 4))) + 1)) (Int32.toNatClampNeg (k_o + 4)))  k_w_1 h2) ok_X10_sets qM_X10_121 rfl rfl ⟨(Nat.le_of_ble_eq_true rfl), (Nat.le_of_ble_eq_true rfl)⟩ rfl rfl hl.1 (Nat.le_of_ble_eq_true rfl) ⟨Nat.zero_le _, Nat.zero_le _⟩ dX10_uses_29 rfl rfl (fun H locs (hP : va_P D vwCl (MX10 cI cZ cL cW a0 a1 a2 a3 a4 a5 a6 k_thrown k_w_1 k_o k_isKept k_went k_wentMany k_waiting k_came k_depth k_isSilent k_x k_packed k_hits k_rues k_soonest k_inAll) H) (hD : va_D A (MX10 cI cZ cL cW a0 a1 a2 a3 a4 a5 a6 k_thrown k_w_1 k_o k_isKept k_went k_wentMany k_waiting k_came k_depth k_isSilent k_x k_packed k_hits k_rues k_soonest k_inAll)) hS => ?_)
  refine lv_aload_n hx hb dX10_uses_32 rfl (lv_at hl 0 rfl) ?_
  refine lv_iload_n hx hb dX10_uses_33 rfl (lv_at hl 1 rfl) ?_
  refine lv_iconst (v := 3) hx hb dX10_uses_34 (by decide) ?_
  refine lv_ldc (v := 999999) hx hb hown (ht _ qK_X10_159) dX10_uses_35 ?_
  refine lv_aload_n hx hb dX10_uses_37 rfl (lv_at hl 0 rfl) ?_
  refine lv_iload_n hx hb dX10_uses_38 rfl (lv_at hl 1 rfl) ?_
  refine lv_iconst (v := 3) hx hb dX10_uses_39 (by decide) ?_
  obtain ⟨r3, h4, hf⟩ := bd_s hf
  refine iv_R (rest := [.int 999999, .int 3, .int p1, .ref a0]) (st1 := [.int r3, .int 999999, .int 3, .int p1, .ref a0]) C hE hP (c_X10_of l D cI cZ cL cW F a0 a1 a2 a3 a4 a5 a6 k_thrown k_w_1 k_o k_isKept k_went k_wentMany k_waiting k_came k_depth k_isSilent k_x k_packed k_hits k_rues k_soonest k_inAll p1 3 r3  h4) ok_X10_of qM_X10_44 rfl rfl ⟨(Nat.le_of_ble_eq_true rfl), (Nat.le_of_ble_eq_true rfl)⟩ rfl rfl hl.1 (Nat.le_of_ble_eq_true rfl) ⟨Nat.zero_le _, Nat.zero_le _⟩ dX10_uses_40 rfl rfl ?_
  refine lv_iconst (v := 1) hx hb dX10_uses_43 (by decide) ?_
  refine lv_iadd hx hb dX10_uses_44 ?_
  obtain ⟨r5, h6, hf⟩ := bd_s hf
  refine is_R (rest := [.int 3, .int p1, .ref a0]) (st1 := [.int r5, .int 3, .int p1, .ref a0]) C hE va_P_nil (c_X10_lesser l D cI cZ cL cW F   999999 (r3 + 1) r5  h6) ok_X10_lesser qM_X10_7 rfl rfl ⟨(Nat.le_of_ble_eq_true rfl), (Nat.le_of_ble_eq_true rfl)⟩ hl.1 (Nat.le_of_ble_eq_true rfl) ⟨Nat.zero_le _, Nat.zero_le _⟩ dX10_uses_45 rfl rfl ?_
  obtain ⟨k_w_7, h8, hf⟩ := bd_s hf
  refine iv_A (rest := []) (st1 := []) C hE hP hD hS hA (c_X10_sets l D cI cZ cL cW F a0 a1 a2 a3 a4 a5 a6 k_thrown k_w_1 k_o k_isKept k_went k_wentMany k_waiting k_came k_depth k_isSilent k_x k_packed k_hits k_rues k_soonest k_inAll p1 3 r5  k_w_7 h8) ok_X10_sets qM_X10_121 rfl rfl ⟨(Nat.le_of_ble_eq_true rfl), (Nat.le_of_ble_eq_true rfl)⟩ rfl rfl hl.1 (Nat.le_of_ble_eq_true rfl) ⟨Nat.zero_le _, Nat.zero_le _⟩ dX10_uses_48 rfl rfl (fun H locs (hP : va_P D vwCl (MX10 cI cZ cL cW a0 a1 a2 a3 a4 a5 a6 k_thrown k_w_7 k_o k_isKept k_went k_wentMany k_waiting k_came k_depth k_isSilent k_x k_packed k_hits k_rues k_soonest k_inAll) H) (hD : va_D A (MX10 cI cZ cL cW a0 a1 a2 a3 a4 a5 a6 k_thrown k_w_7 k_o k_isKept k_went k_wentMany k_waiting k_came k_depth k_isSilent k_x k_packed k_hits k_rues k_soonest k_inAll)) hS => ?_)
  refine lv_aload_n hx hb dX10_uses_51 rfl (lv_at hl 0 rfl) ?_
  refine gf_X10 (v := .ref a1) C hE hP 0 1 rfl (by decide) qF_X10_17 rfl dX10_uses_52 ?_
  refine lv_aload_n hx hb dX10_uses_55 rfl (lv_at hl 0 rfl) ?_
  refine gf_X10 (v := .int k_o) C hE hP 0 2 rfl (by decide) qF_X10_41 rfl dX10_uses_56 ?_
  refine lv_iconst (v := 4) hx hb dX10_uses_59 (by decide) ?_
  refine lv_iadd hx hb dX10_uses_60 ?_
  obtain ⟨g27, hf⟩ := it_g hf
  refine va_iald hx hb hE.1 hP 1 0 rfl rfl g27 dX10_uses_61 ?_
  refine lv_aload_n hx hb dX10_uses_62 rfl (lv_at hl 0 rfl) ?_
  refine gf_X10 (v := .ref a1) C hE hP 0 1 rfl (by decide) qF_X10_17 rfl dX10_uses_63 ?_
  refine lv_aload_n hx hb dX10_uses_66 rfl (lv_at hl 0 rfl) ?_
  refine gf_X10 (v := .int k_o) C hE hP 0 2 rfl (by decide) qF_X10_41 rfl dX10_uses_67 ?_
  refine lv_bipush (v := 6) hx hb dX10_uses_70 (by decide) ?_
  refine lv_iadd hx hb dX10_uses_72 ?_
  obtain ⟨g26, hf⟩ := it_g hf
  refine va_iald hx hb hE.1 hP 1 0 rfl rfl g26 dX10_uses_73 ?_
  obtain ⟨g9, hf⟩ := it_g hf
  refine lv_irem hx hb dX10_uses_74 g9 ?_
  refine lv_if_eq (tgt := 79) hx hb dX10_uses_75 (by decide) (fun c25 => ?_) (fun c25 => ?_)
  · have hf := it_p hf c25
    refine lv_aload_n hx hb dX10_uses_79 rfl (lv_at hl 0 rfl) ?_
    refine gf_X10 (v := .ref a1) C hE hP 0 1 rfl (by decide) qF_X10_17 rfl dX10_uses_80 ?_
    refine lv_aload_n hx hb dX10_uses_83 rfl (lv_at hl 0 rfl) ?_
    refine gf_X10 (v := .int k_o) C hE hP 0 2 rfl (by decide) qF_X10_41 rfl dX10_uses_84 ?_
    refine lv_bipush (v := 15) hx hb dX10_uses_87 (by decide) ?_
    refine lv_iadd hx hb dX10_uses_89 ?_
    refine lv_dup2_11 hx hb dX10_uses_90 rfl rfl ?_
    obtain ⟨g24, hf⟩ := it_g hf
    refine va_iald hx hb hE.1 hP 1 0 rfl rfl g24 dX10_uses_91 ?_
    refine lv_iconst (v := 1) hx hb dX10_uses_92 (by decide) ?_
    refine lv_iadd hx hb dX10_uses_93 ?_
    obtain ⟨g23, hf⟩ := it_g hf
    refine va_iast hx hb hE.1 hP hD hS 1 0 rfl rfl g23 dX10_uses_94 (fun H locs (hP : va_P D vwCl (MX10 cI cZ cL cW a0 a1 a2 a3 a4 a5 a6 k_thrown (upd k_w_7 (Int32.toNatClampNeg (k_o + 15)) ((k_w_7 (Int32.toNatClampNeg (k_o + 15))) + 1)) k_o k_isKept k_went k_wentMany k_waiting k_came k_depth k_isSilent k_x k_packed k_hits k_rues k_soonest k_inAll) H) (hD : va_D A (MX10 cI cZ cL cW a0 a1 a2 a3 a4 a5 a6 k_thrown (upd k_w_7 (Int32.toNatClampNeg (k_o + 15)) ((k_w_7 (Int32.toNatClampNeg (k_o + 15))) + 1)) k_o k_isKept k_went k_wentMany k_waiting k_came k_depth k_isSilent k_x k_packed k_hits k_rues k_soonest k_inAll)) hS => ?_)
    refine lv_iconst (v := 0) hx hb dX10_uses_95 (by decide) ?_
    refine lv_istore_n (lv' := [(2, .int 0), (0, .ref a0), (1, .int p1)]) hx hb dX10_uses_96 rfl hl (by decide) rfl (fun ls hl => ?_)
    obtain ⟨k21, h22, hf⟩ := bd_s hf
    refine L97 _ F 0 k_thrown (upd k_w_7 (Int32.toNatClampNeg (k_o + 15)) ((k_w_7 (Int32.toNatClampNeg (k_o + 15))) + 1)) k_o k_isKept k_went k_wentMany k_waiting k_came k_depth k_isSilent k_x k_packed k_hits k_rues k_soonest k_inAll k21 _ _ ls h22 hP hD hS (lv_sub hl [1, 0] rfl) (fun H locs ls hP hD hS hl => ?_)
    cases hf
    exact rw_v C hr hlk hP hD hS dX10_uses_146
  · have hf := it_n hf c25
    cases hf
    exact rw_v C hr hlk hP hD hS dX10_uses_78
def X10_gets (F : Nat) (p1 : Int32) (k_w : (Nat → Int32)) (k_o : Int32) (k_waiting : (Nat → Int32)) (k_came : Int32) (k_depth : Int32) (k_isSilent : Int32) : Option (Int32 × (Nat → Int32) × (Nat → Int32) × Int32) := (X10_entryOf F p1 k_w k_o).bind fun r1 => (if (r1 : Int32) = (-1) then (if ((k_o + 9) : Int32) < 0 ∨ 3392 ≤ (Int32.toNatClampNeg (k_o + 9)) then none else (if ((k_o + 9) : Int32) < 0 ∨ 3392 ≤ (Int32.toNatClampNeg (k_o + 9)) then none else ((X10_tells F 5 p1 0 0 k_waiting k_came k_depth k_isSilent).bind fun (k_waiting_7, k_came_8) => (some (0, (upd k_w (Int32.toNatClampNeg (k_o + 9)) ((k_w (Int32.toNatClampNeg (k_o + 9))) + 1)), k_waiting_7, k_came_8))))) else (if ((k_o + 8) : Int32) < 0 ∨ 3392 ≤ (Int32.toNatClampNeg (k_o + 8)) then none else (if ((k_o + 8) : Int32) < 0 ∨ 3392 ≤ (Int32.toNatClampNeg (k_o + 8)) then none else ((X10_uses F r1 (upd k_w (Int32.toNatClampNeg (k_o + 8)) ((k_w (Int32.toNatClampNeg (k_o + 8))) + 1)) k_o).bind fun k_w_3 => (some (1, k_w_3, k_waiting, k_came))))))
abbrev rm_X10_gets : Room := { frames := 2, cells := 0, slots := 0, locals := 45 }
theorem ok_X10_gets : OKV RX10 yX10_gets cX10_gets 3 (some .boolean) 1 := ⟨by decide +kernel, qV_X10_gets, qL_X10_gets, qI_X10, qD_X10_gets⟩
set_option maxHeartbeats 4000000 in
set_option maxRecDepth 100000 in
theorem c_X10_gets (l : Launch) (D : va_G) (cI cZ cL cW : ClassId) (F : Nat) (a0 : Nat) (a1 : Nat) (a2 : Nat) (a3 : Nat) (a4 : Nat) (a5 : Nat) (a6 : Nat) (k_thrown : Int32) (k_w : (Nat → Int32)) (k_o : Int32) (k_isKept : (Nat → Int32)) (k_went : (Nat → Int32)) (k_wentMany : Int32) (k_waiting : (Nat → Int32)) (k_came : Int32) (k_depth : Int32) (k_isSilent : Int32) (k_x : Int64) (k_packed : (Nat → Int32)) (k_hits : Int32) (k_rues : Int32) (k_soonest : Int32) (k_inAll : (Nat → Int32)) (p1 : Int32) (r : Int32) (k_w' : (Nat → Int32)) (k_waiting' : (Nat → Int32)) (k_came' : Int32) (hf : X10_gets F p1 k_w k_o k_waiting k_came k_depth k_isSilent = some (r, k_w', k_waiting', k_came')) : CtrW l D (tyL cI cZ cL cW) nestW yX10_gets cX10_gets 3 (some .boolean) rm_X10_gets [.ref a0, .int p1] (MX10 cI cZ cL cW a0 a1 a2 a3 a4 a5 a6 k_thrown k_w k_o k_isKept k_went k_wentMany k_waiting k_came k_depth k_isSilent k_x k_packed k_hits k_rues k_soonest k_inAll) (MX10 cI cZ cL cW a0 a1 a2 a3 a4 a5 a6 k_thrown (k_w') k_o k_isKept k_went k_wentMany (k_waiting') (k_came') k_depth k_isSilent k_x k_packed k_hits k_rues k_soonest k_inAll) (some (.int r)) := by
  refine ofA RX10 (by decide) rfl (Nat.le_of_ble_eq_true rfl) ?_
  intro p e s m below meth c ls A C hr hlk hE hA hP hD hS hl
  generalize (List.toArray ([.ref a0, .int p1] : List Value)) = args at C ⊢
  obtain ⟨hx, hb, hml, hown, ht⟩ := id C
  have hl : lv_has ls 3 [(0, .ref a0), (1, .int p1)] := hl
  refine lv_aload_n hx hb dX10_gets_0 rfl (lv_at hl 0 rfl) ?_
  refine lv_iload_n hx hb dX10_gets_1 rfl (lv_at hl 1 rfl) ?_
  obtain ⟨r1, h2, hf⟩ := bd_s hf
  refine iv_R (rest := []) (st1 := [.int r1]) C hE hP (c_X10_entryOf l D cI cZ cL cW F a0 a1 a2 a3 a4 a5 a6 k_thrown k_w k_o k_isKept k_went k_wentMany k_waiting k_came k_depth k_isSilent k_x k_packed k_hits k_rues k_soonest k_inAll p1 r1  h2) ok_X10_entryOf qM_X10_118 rfl rfl ⟨(Nat.le_of_ble_eq_true rfl), (Nat.le_of_ble_eq_true rfl)⟩ rfl rfl hl.1 (Nat.le_of_ble_eq_true rfl) ⟨Nat.zero_le _, Nat.zero_le _⟩ dX10_gets_2 rfl rfl ?_
  refine lv_istore_n (lv' := [(2, .int r1), (0, .ref a0), (1, .int p1)]) hx hb dX10_gets_5 rfl hl (by decide) rfl (fun ls hl => ?_)
  refine lv_iload_n hx hb dX10_gets_6 rfl (lv_at hl 0 rfl) ?_
  refine lv_iconst (v := (-1)) hx hb dX10_gets_7 (by decide) ?_
  refine lv_icmp_ne (tgt := 37) hx hb dX10_gets_8 (by decide) (fun c12 => ?_) (fun c12 => ?_)
  · have hf := it_n hf c12
    refine lv_aload_n hx hb dX10_gets_37 rfl (lv_at hl 1 rfl) ?_
    refine gf_X10 (v := .ref a1) C hE hP 0 1 rfl (by decide) qF_X10_17 rfl dX10_gets_38 ?_
    refine lv_aload_n hx hb dX10_gets_41 rfl (lv_at hl 1 rfl) ?_
    refine gf_X10 (v := .int k_o) C hE hP 0 2 rfl (by decide) qF_X10_41 rfl dX10_gets_42 ?_
    refine lv_bipush (v := 8) hx hb dX10_gets_45 (by decide) ?_
    refine lv_iadd hx hb dX10_gets_47 ?_
    refine lv_dup2_11 hx hb dX10_gets_48 rfl rfl ?_
    obtain ⟨g6, hf⟩ := it_g hf
    refine va_iald hx hb hE.1 hP 1 0 rfl rfl g6 dX10_gets_49 ?_
    refine lv_iconst (v := 1) hx hb dX10_gets_50 (by decide) ?_
    refine lv_iadd hx hb dX10_gets_51 ?_
    obtain ⟨g5, hf⟩ := it_g hf
    refine va_iast hx hb hE.1 hP hD hS 1 0 rfl rfl g5 dX10_gets_52 (fun H locs (hP : va_P D vwCl (MX10 cI cZ cL cW a0 a1 a2 a3 a4 a5 a6 k_thrown (upd k_w (Int32.toNatClampNeg (k_o + 8)) ((k_w (Int32.toNatClampNeg (k_o + 8))) + 1)) k_o k_isKept k_went k_wentMany k_waiting k_came k_depth k_isSilent k_x k_packed k_hits k_rues k_soonest k_inAll) H) (hD : va_D A (MX10 cI cZ cL cW a0 a1 a2 a3 a4 a5 a6 k_thrown (upd k_w (Int32.toNatClampNeg (k_o + 8)) ((k_w (Int32.toNatClampNeg (k_o + 8))) + 1)) k_o k_isKept k_went k_wentMany k_waiting k_came k_depth k_isSilent k_x k_packed k_hits k_rues k_soonest k_inAll)) hS => ?_)
    refine lv_aload_n hx hb dX10_gets_53 rfl (lv_at hl 1 rfl) ?_
    refine lv_iload_n hx hb dX10_gets_54 rfl (lv_at hl 0 rfl) ?_
    obtain ⟨k_w_3, h4, hf⟩ := bd_s hf
    refine iv_A (rest := []) (st1 := []) C hE hP hD hS hA (c_X10_uses l D cI cZ cL cW F a0 a1 a2 a3 a4 a5 a6 k_thrown (upd k_w (Int32.toNatClampNeg (k_o + 8)) ((k_w (Int32.toNatClampNeg (k_o + 8))) + 1)) k_o k_isKept k_went k_wentMany k_waiting k_came k_depth k_isSilent k_x k_packed k_hits k_rues k_soonest k_inAll r1  k_w_3 h4) ok_X10_uses qM_X10_182 rfl rfl ⟨(Nat.le_of_ble_eq_true rfl), (Nat.le_of_ble_eq_true rfl)⟩ rfl rfl hl.1 (Nat.le_of_ble_eq_true rfl) ⟨Nat.zero_le _, Nat.zero_le _⟩ dX10_gets_55 rfl rfl (fun H locs (hP : va_P D vwCl (MX10 cI cZ cL cW a0 a1 a2 a3 a4 a5 a6 k_thrown k_w_3 k_o k_isKept k_went k_wentMany k_waiting k_came k_depth k_isSilent k_x k_packed k_hits k_rues k_soonest k_inAll) H) (hD : va_D A (MX10 cI cZ cL cW a0 a1 a2 a3 a4 a5 a6 k_thrown k_w_3 k_o k_isKept k_went k_wentMany k_waiting k_came k_depth k_isSilent k_x k_packed k_hits k_rues k_soonest k_inAll)) hS => ?_)
    refine lv_iconst (v := 1) hx hb dX10_gets_58 (by decide) ?_
    cases hf
    exact rw_z C hr hlk (by decide) hP hD hS dX10_gets_59 rfl
  · have hf := it_p hf c12
    refine lv_aload_n hx hb dX10_gets_11 rfl (lv_at hl 1 rfl) ?_
    refine gf_X10 (v := .ref a1) C hE hP 0 1 rfl (by decide) qF_X10_17 rfl dX10_gets_12 ?_
    refine lv_aload_n hx hb dX10_gets_15 rfl (lv_at hl 1 rfl) ?_
    refine gf_X10 (v := .int k_o) C hE hP 0 2 rfl (by decide) qF_X10_41 rfl dX10_gets_16 ?_
    refine lv_bipush (v := 9) hx hb dX10_gets_19 (by decide) ?_
    refine lv_iadd hx hb dX10_gets_21 ?_
    refine lv_dup2_11 hx hb dX10_gets_22 rfl rfl ?_
    obtain ⟨g11, hf⟩ := it_g hf
    refine va_iald hx hb hE.1 hP 1 0 rfl rfl g11 dX10_gets_23 ?_
    refine lv_iconst (v := 1) hx hb dX10_gets_24 (by decide) ?_
    refine lv_iadd hx hb dX10_gets_25 ?_
    obtain ⟨g10, hf⟩ := it_g hf
    refine va_iast hx hb hE.1 hP hD hS 1 0 rfl rfl g10 dX10_gets_26 (fun H locs (hP : va_P D vwCl (MX10 cI cZ cL cW a0 a1 a2 a3 a4 a5 a6 k_thrown (upd k_w (Int32.toNatClampNeg (k_o + 9)) ((k_w (Int32.toNatClampNeg (k_o + 9))) + 1)) k_o k_isKept k_went k_wentMany k_waiting k_came k_depth k_isSilent k_x k_packed k_hits k_rues k_soonest k_inAll) H) (hD : va_D A (MX10 cI cZ cL cW a0 a1 a2 a3 a4 a5 a6 k_thrown (upd k_w (Int32.toNatClampNeg (k_o + 9)) ((k_w (Int32.toNatClampNeg (k_o + 9))) + 1)) k_o k_isKept k_went k_wentMany k_waiting k_came k_depth k_isSilent k_x k_packed k_hits k_rues k_soonest k_inAll)) hS => ?_)
    refine lv_aload_n hx hb dX10_gets_27 rfl (lv_at hl 1 rfl) ?_
    refine lv_iconst (v := 5) hx hb dX10_gets_28 (by decide) ?_
    refine lv_iload_n hx hb dX10_gets_29 rfl (lv_at hl 2 rfl) ?_
    refine lv_iconst (v := 0) hx hb dX10_gets_30 (by decide) ?_
    refine lv_iconst (v := 0) hx hb dX10_gets_31 (by decide) ?_
    obtain ⟨⟨k_waiting_7, k_came_8⟩, h9, hf⟩ := bd_s hf
    refine iv_A (rest := []) (st1 := []) C hE hP hD hS hA (c_X10_tells l D cI cZ cL cW F a0 a1 a2 a3 a4 a5 a6 k_thrown (upd k_w (Int32.toNatClampNeg (k_o + 9)) ((k_w (Int32.toNatClampNeg (k_o + 9))) + 1)) k_o k_isKept k_went k_wentMany k_waiting k_came k_depth k_isSilent k_x k_packed k_hits k_rues k_soonest k_inAll 5 p1 0 0  k_waiting_7 k_came_8 h9) ok_X10_tells qM_X10_91 rfl rfl ⟨(Nat.le_of_ble_eq_true rfl), (Nat.le_of_ble_eq_true rfl)⟩ rfl rfl hl.1 (Nat.le_of_ble_eq_true rfl) ⟨Nat.zero_le _, Nat.zero_le _⟩ dX10_gets_32 rfl rfl (fun H locs (hP : va_P D vwCl (MX10 cI cZ cL cW a0 a1 a2 a3 a4 a5 a6 k_thrown (upd k_w (Int32.toNatClampNeg (k_o + 9)) ((k_w (Int32.toNatClampNeg (k_o + 9))) + 1)) k_o k_isKept k_went k_wentMany k_waiting_7 k_came_8 k_depth k_isSilent k_x k_packed k_hits k_rues k_soonest k_inAll) H) (hD : va_D A (MX10 cI cZ cL cW a0 a1 a2 a3 a4 a5 a6 k_thrown (upd k_w (Int32.toNatClampNeg (k_o + 9)) ((k_w (Int32.toNatClampNeg (k_o + 9))) + 1)) k_o k_isKept k_went k_wentMany k_waiting_7 k_came_8 k_depth k_isSilent k_x k_packed k_hits k_rues k_soonest k_inAll)) hS => ?_)
    refine lv_iconst (v := 0) hx hb dX10_gets_35 (by decide) ?_
    cases hf
    exact rw_z C hr hlk (by decide) hP hD hS dX10_gets_36 rfl
def X10_isRejected (F : Nat) (p1 : Int32) (p2 : Int32) (k_w : (Nat → Int32)) (k_o : Int32) : Option (Int32) := (X10_pinned F p1 k_w k_o).bind fun r1 => (if ((k_o + 1) : Int32) < 0 ∨ 3392 ≤ (Int32.toNatClampNeg (k_o + 1)) then none else (if ((k_w (Int32.toNatClampNeg (k_o + 1))) : Int32) < (p2 + r1) then (some 1) else (if ((k_o + 0) : Int32) < 0 ∨ 3392 ≤ (Int32.toNatClampNeg (k_o + 0)) then none else (if ((k_w (Int32.toNatClampNeg (k_o + 0))) : Int32) = 60 then ((X10_pinnedMany F k_w k_o).bind fun r3 => (if (r3 : Int32) = 60 then ((X10_entryOf F p1 k_w k_o).bind fun r5 => (if (r5 : Int32) = (-1) then (some 1) else (some 0))) else (some 0))) else (some 0)))))
abbrev rm_X10_isRejected : Room := { frames := 2, cells := 0, slots := 0, locals := 45 }
theorem ok_X10_isRejected : OKV RX10 yX10_isRejected cX10_isRejected 3 (some .boolean) 2 := ⟨by decide +kernel, qV_X10_isRejected, qL_X10_isRejected, qI_X10, qD_X10_isRejected⟩
set_option maxHeartbeats 4000000 in
set_option maxRecDepth 100000 in
theorem c_X10_isRejected (l : Launch) (D : va_G) (cI cZ cL cW : ClassId) (F : Nat) (a0 : Nat) (a1 : Nat) (a2 : Nat) (a3 : Nat) (a4 : Nat) (a5 : Nat) (a6 : Nat) (k_thrown : Int32) (k_w : (Nat → Int32)) (k_o : Int32) (k_isKept : (Nat → Int32)) (k_went : (Nat → Int32)) (k_wentMany : Int32) (k_waiting : (Nat → Int32)) (k_came : Int32) (k_depth : Int32) (k_isSilent : Int32) (k_x : Int64) (k_packed : (Nat → Int32)) (k_hits : Int32) (k_rues : Int32) (k_soonest : Int32) (k_inAll : (Nat → Int32)) (p1 : Int32) (p2 : Int32) (r : Int32) (hf : X10_isRejected F p1 p2 k_w k_o = some r) : CtrR l D (tyL cI cZ cL cW) nestW yX10_isRejected cX10_isRejected 3 (some .boolean) rm_X10_isRejected [.ref a0, .int p1, .int p2] (MX10 cI cZ cL cW a0 a1 a2 a3 a4 a5 a6 k_thrown k_w k_o k_isKept k_went k_wentMany k_waiting k_came k_depth k_isSilent k_x k_packed k_hits k_rues k_soonest k_inAll) (some (.int r)) := by
  refine ofR RX10 (by decide) rfl (Nat.le_of_ble_eq_true rfl) ?_
  intro p e s m below meth c ls C hr hlk hE hP hl
  generalize (List.toArray ([.ref a0, .int p1, .int p2] : List Value)) = args at C ⊢
  obtain ⟨hx, hb, hml, hown, ht⟩ := id C
  have hl : lv_has ls 3 [(0, .ref a0), (1, .int p1), (2, .int p2)] := hl
  refine lv_iload_n hx hb dX10_isRejected_0 rfl (lv_at hl 2 rfl) ?_
  refine lv_aload_n hx hb dX10_isRejected_1 rfl (lv_at hl 0 rfl) ?_
  refine lv_iload_n hx hb dX10_isRejected_2 rfl (lv_at hl 1 rfl) ?_
  obtain ⟨r1, h2, hf⟩ := bd_s hf
  refine iv_R (rest := [.int p2]) (st1 := [.int r1, .int p2]) C hE hP (c_X10_pinned l D cI cZ cL cW F a0 a1 a2 a3 a4 a5 a6 k_thrown k_w k_o k_isKept k_went k_wentMany k_waiting k_came k_depth k_isSilent k_x k_packed k_hits k_rues k_soonest k_inAll p1 r1  h2) ok_X10_pinned qM_X10_127 rfl rfl ⟨(Nat.le_of_ble_eq_true rfl), (Nat.le_of_ble_eq_true rfl)⟩ rfl rfl hl.1 (Nat.le_of_ble_eq_true rfl) ⟨Nat.zero_le _, Nat.zero_le _⟩ dX10_isRejected_3 rfl rfl ?_
  refine lv_iadd hx hb dX10_isRejected_6 ?_
  refine lv_aload_n hx hb dX10_isRejected_7 rfl (lv_at hl 0 rfl) ?_
  refine gf_X10 (v := .ref a1) C hE hP 0 1 rfl (by decide) qF_X10_17 rfl dX10_isRejected_8 ?_
  refine lv_aload_n hx hb dX10_isRejected_11 rfl (lv_at hl 0 rfl) ?_
  refine gf_X10 (v := .int k_o) C hE hP 0 2 rfl (by decide) qF_X10_41 rfl dX10_isRejected_12 ?_
  refine lv_iconst (v := 1) hx hb dX10_isRejected_15 (by decide) ?_
  refine lv_iadd hx hb dX10_isRejected_16 ?_
  obtain ⟨g12, hf⟩ := it_g hf
  refine va_iald hx hb hE.1 hP 1 0 rfl rfl g12 dX10_isRejected_17 ?_
  refine lv_icmp_gt (tgt := 55) hx hb dX10_isRejected_18 (by decide) (fun c11 => ?_) (fun c11 => ?_)
  · have hf := it_p hf c11
    refine lv_iconst (v := 1) hx hb dX10_isRejected_55 (by decide) ?_
    refine lv_goto (tgt := 60) hx hb dX10_isRejected_56 (by decide) ?_
    exact rt_z C hr hlk (by decide) dX10_isRejected_60 (congrArg (fun o => o.map Value.int) hf)
  · have hf := it_n hf c11
    refine lv_aload_n hx hb dX10_isRejected_21 rfl (lv_at hl 0 rfl) ?_
    refine gf_X10 (v := .ref a1) C hE hP 0 1 rfl (by decide) qF_X10_17 rfl dX10_isRejected_22 ?_
    refine lv_aload_n hx hb dX10_isRejected_25 rfl (lv_at hl 0 rfl) ?_
    refine gf_X10 (v := .int k_o) C hE hP 0 2 rfl (by decide) qF_X10_41 rfl dX10_isRejected_26 ?_
    refine lv_iconst (v := 0) hx hb dX10_isRejected_29 (by decide) ?_
    refine lv_iadd hx hb dX10_isRejected_30 ?_
    obtain ⟨g10, hf⟩ := it_g hf
    refine va_iald hx hb hE.1 hP 1 0 rfl rfl g10 dX10_isRejected_31 ?_
    refine lv_bipush (v := 60) hx hb dX10_isRejected_32 (by decide) ?_
    refine lv_icmp_ne (tgt := 59) hx hb dX10_isRejected_34 (by decide) (fun c9 => ?_) (fun c9 => ?_)
    · have hf := it_n hf c9
      refine lv_iconst (v := 0) hx hb dX10_isRejected_59 (by decide) ?_
      exact rt_z C hr hlk (by decide) dX10_isRejected_60 (congrArg (fun o => o.map Value.int) hf)
    · have hf := it_p hf c9
      refine lv_aload_n hx hb dX10_isRejected_37 rfl (lv_at hl 0 rfl) ?_
      obtain ⟨r3, h4, hf⟩ := bd_s hf
      refine iv_R (rest := []) (st1 := [.int r3]) C hE hP (c_X10_pinnedMany l D cI cZ cL cW F a0 a1 a2 a3 a4 a5 a6 k_thrown k_w k_o k_isKept k_went k_wentMany k_waiting k_came k_depth k_isSilent k_x k_packed k_hits k_rues k_soonest k_inAll  r3  h4) ok_X10_pinnedMany qM_X10_160 rfl rfl ⟨(Nat.le_of_ble_eq_true rfl), (Nat.le_of_ble_eq_true rfl)⟩ rfl rfl hl.1 (Nat.le_of_ble_eq_true rfl) ⟨Nat.zero_le _, Nat.zero_le _⟩ dX10_isRejected_38 rfl rfl ?_
      refine lv_bipush (v := 60) hx hb dX10_isRejected_41 (by decide) ?_
      refine lv_icmp_ne (tgt := 59) hx hb dX10_isRejected_43 (by decide) (fun c8 => ?_) (fun c8 => ?_)
      · have hf := it_n hf c8
        refine lv_iconst (v := 0) hx hb dX10_isRejected_59 (by decide) ?_
        exact rt_z C hr hlk (by decide) dX10_isRejected_60 (congrArg (fun o => o.map Value.int) hf)
      · have hf := it_p hf c8
        refine lv_aload_n hx hb dX10_isRejected_46 rfl (lv_at hl 0 rfl) ?_
        refine lv_iload_n hx hb dX10_isRejected_47 rfl (lv_at hl 1 rfl) ?_
        obtain ⟨r5, h6, hf⟩ := bd_s hf
        refine iv_R (rest := []) (st1 := [.int r5]) C hE hP (c_X10_entryOf l D cI cZ cL cW F a0 a1 a2 a3 a4 a5 a6 k_thrown k_w k_o k_isKept k_went k_wentMany k_waiting k_came k_depth k_isSilent k_x k_packed k_hits k_rues k_soonest k_inAll p1 r5  h6) ok_X10_entryOf qM_X10_118 rfl rfl ⟨(Nat.le_of_ble_eq_true rfl), (Nat.le_of_ble_eq_true rfl)⟩ rfl rfl hl.1 (Nat.le_of_ble_eq_true rfl) ⟨Nat.zero_le _, Nat.zero_le _⟩ dX10_isRejected_48 rfl rfl ?_
        refine lv_iconst (v := (-1)) hx hb dX10_isRejected_51 (by decide) ?_
        refine lv_icmp_ne (tgt := 59) hx hb dX10_isRejected_52 (by decide) (fun c7 => ?_) (fun c7 => ?_)
        · have hf := it_n hf c7
          refine lv_iconst (v := 0) hx hb dX10_isRejected_59 (by decide) ?_
          exact rt_z C hr hlk (by decide) dX10_isRejected_60 (congrArg (fun o => o.map Value.int) hf)
        · have hf := it_p hf c7
          refine lv_iconst (v := 1) hx hb dX10_isRejected_55 (by decide) ?_
          refine lv_goto (tgt := 60) hx hb dX10_isRejected_56 (by decide) ?_
          exact rt_z C hr hlk (by decide) dX10_isRejected_60 (congrArg (fun o => o.map Value.int) hf)
def X10_learns_L2 (F : Nat) : Nat → Int32 → Int32 → Int32 → (Nat → Int32) → Int32 → Option ((Nat → Int32))
  | 0, _, _, _, _, _ => none
  | n + 1, v1, v2, v3, k_w, k_o => if (2 : Int32) ≤ v3 then (some k_w) else ((X10_ghostOf F v3 v1 k_w k_o).bind fun r1 => (if (r1 : Int32) = (-1) then (X10_learns_L2 F n v1 v2 (v3 + 1) k_w k_o) else (if ((k_o + 3) : Int32) < 0 ∨ 3392 ≤ (Int32.toNatClampNeg (k_o + 3)) then none else (if (v3 : Int32) = 0 then (if ((k_o + 1) : Int32) < 0 ∨ 3392 ≤ (Int32.toNatClampNeg (k_o + 1)) then none else ((X10_near F ((k_w (Int32.toNatClampNeg (k_o + 3))) + v2) (k_w (Int32.toNatClampNeg (k_o + 1)))).bind fun r9 => (if ((k_o + 3) : Int32) < 0 ∨ 3392 ≤ (Int32.toNatClampNeg (k_o + 3)) then none else ((X10_noGhost F v3 v1 (upd k_w (Int32.toNatClampNeg (k_o + 3)) r9) k_o).bind fun k_w_11 => (some k_w_11))))) else (if ((k_o + 1) : Int32) < 0 ∨ 3392 ≤ (Int32.toNatClampNeg (k_o + 1)) then none else ((X10_near F ((k_w (Int32.toNatClampNeg (k_o + 3))) + (-v2)) (k_w (Int32.toNatClampNeg (k_o + 1)))).bind fun r3 => (if ((k_o + 3) : Int32) < 0 ∨ 3392 ≤ (Int32.toNatClampNeg (k_o + 3)) then none else ((X10_noGhost F v3 v1 (upd k_w (Int32.toNatClampNeg (k_o + 3)) r3) k_o).bind fun k_w_5 => (some k_w_5)))))))))
def X10_learns (F : Nat) (p1 : Int32) (p2 : Int32) (k_w : (Nat → Int32)) (k_o : Int32) : Option ((Nat → Int32)) := X10_learns_L2 F F p1 p2 0 k_w k_o
abbrev rm_X10_learns : Room := { frames := 3, cells := 0, slots := 0, locals := 69 }
theorem ok_X10_learns : OKV RX10 yX10_learns cX10_learns 4 none 2 := ⟨by decide +kernel, qV_X10_learns, qL_X10_learns, qI_X10, qD_X10_learns⟩
set_option maxHeartbeats 4000000 in
set_option maxRecDepth 100000 in
theorem c_X10_learns (l : Launch) (D : va_G) (cI cZ cL cW : ClassId) (F : Nat) (a0 : Nat) (a1 : Nat) (a2 : Nat) (a3 : Nat) (a4 : Nat) (a5 : Nat) (a6 : Nat) (k_thrown : Int32) (k_w : (Nat → Int32)) (k_o : Int32) (k_isKept : (Nat → Int32)) (k_went : (Nat → Int32)) (k_wentMany : Int32) (k_waiting : (Nat → Int32)) (k_came : Int32) (k_depth : Int32) (k_isSilent : Int32) (k_x : Int64) (k_packed : (Nat → Int32)) (k_hits : Int32) (k_rues : Int32) (k_soonest : Int32) (k_inAll : (Nat → Int32)) (p1 : Int32) (p2 : Int32) (k_w' : (Nat → Int32)) (hf : X10_learns F p1 p2 k_w k_o = some (k_w')) : CtrW l D (tyL cI cZ cL cW) nestW yX10_learns cX10_learns 4 none rm_X10_learns [.ref a0, .int p1, .int p2] (MX10 cI cZ cL cW a0 a1 a2 a3 a4 a5 a6 k_thrown k_w k_o k_isKept k_went k_wentMany k_waiting k_came k_depth k_isSilent k_x k_packed k_hits k_rues k_soonest k_inAll) (MX10 cI cZ cL cW a0 a1 a2 a3 a4 a5 a6 k_thrown (k_w') k_o k_isKept k_went k_wentMany k_waiting k_came k_depth k_isSilent k_x k_packed k_hits k_rues k_soonest k_inAll) none := by
  refine ofA RX10 (by decide) rfl (Nat.le_of_ble_eq_true rfl) ?_
  intro p e s m below meth c ls A C hr hlk hE hA hP hD hS hl
  generalize (List.toArray ([.ref a0, .int p1, .int p2] : List Value)) = args at C ⊢
  obtain ⟨hx, hb, hml, hown, ht⟩ := id C
  have hl : lv_has ls 4 [(0, .ref a0), (1, .int p1), (2, .int p2)] := hl
  have L2 : ∀ (n : Nat) (v1 : Int32) (v2 : Int32) (v3 : Int32) (k_thrown : Int32) (k_w : (Nat → Int32)) (k_o : Int32) (k_isKept : (Nat → Int32)) (k_went : (Nat → Int32)) (k_wentMany : Int32) (k_waiting : (Nat → Int32)) (k_came : Int32) (k_depth : Int32) (k_isSilent : Int32) (k_x : Int64) (k_packed : (Nat → Int32)) (k_hits : Int32) (k_rues : Int32) (k_soonest : Int32) (k_inAll : (Nat → Int32)) (H : Heap) (locs : List Loc) (ls : Array Slot), X10_learns_L2 F n v1 v2 v3 k_w k_o = some k_w' → va_P D vwCl (MX10 cI cZ cL cW a0 a1 a2 a3 a4 a5 a6 k_thrown k_w k_o k_isKept k_went k_wentMany k_waiting k_came k_depth k_isSilent k_x k_packed k_hits k_rues k_soonest k_inAll) H → va_D A (MX10 cI cZ cL cW a0 a1 a2 a3 a4 a5 a6 k_thrown k_w k_o k_isKept k_went k_wentMany k_waiting k_came k_depth k_isSilent k_x k_packed k_hits k_rues k_soonest k_inAll) → va_S A s.heap H locs → lv_has ls 4 [(0, .ref a0), (1, .int v1), (2, .int v2), (3, .int v3)] → W p l e rm_X10_learns s m args below meth c H locs 0 0 (MQ below (QA D A (MX10 cI cZ cL cW a0 a1 a2 a3 a4 a5 a6 k_thrown (k_w') k_o k_isKept k_went k_wentMany k_waiting k_came k_depth k_isSilent k_x k_packed k_hits k_rues k_soonest k_inAll) none) args s 0 0 A) (F0 m 2 ls []) := by
    intro n
    induction n with
    | zero => intro v1 v2 v3 k_thrown k_w k_o k_isKept k_went k_wentMany k_waiting k_came k_depth k_isSilent k_x k_packed k_hits k_rues k_soonest k_inAll H locs ls hf hP hD hS hl; exact nn_s hf
    | succ n ih =>
      intro v1 v2 v3 k_thrown k_w k_o k_isKept k_went k_wentMany k_waiting k_came k_depth k_isSilent k_x k_packed k_hits k_rues k_soonest k_inAll H locs ls hf hP hD hS hl
      refine lv_iload_n hx hb dX10_learns_2 rfl (lv_at hl 3 rfl) ?_
      refine lv_iconst (v := 2) hx hb dX10_learns_3 (by decide) ?_
      refine lv_icmp_ge (tgt := 80) hx hb dX10_learns_4 (by decide) (fun c18 => ?_) (fun c18 => ?_)
      · have hf := it_p hf c18
        cases hf
        exact rw_v C hr hlk hP hD hS dX10_learns_80
      · have hf := it_n hf c18
        refine lv_aload_n hx hb dX10_learns_7 rfl (lv_at hl 0 rfl) ?_
        refine lv_iload_n hx hb dX10_learns_8 rfl (lv_at hl 3 rfl) ?_
        refine lv_iload_n hx hb dX10_learns_9 rfl (lv_at hl 1 rfl) ?_
        obtain ⟨r1, h2, hf⟩ := bd_s hf
        refine iv_R (rest := []) (st1 := [.int r1]) C hE hP (c_X10_ghostOf l D cI cZ cL cW F a0 a1 a2 a3 a4 a5 a6 k_thrown k_w k_o k_isKept k_went k_wentMany k_waiting k_came k_depth k_isSilent k_x k_packed k_hits k_rues k_soonest k_inAll v3 v1 r1  h2) ok_X10_ghostOf qM_X10_82 rfl rfl ⟨(Nat.le_of_ble_eq_true rfl), (Nat.le_of_ble_eq_true rfl)⟩ rfl rfl hl.1 (Nat.le_of_ble_eq_true rfl) ⟨Nat.zero_le _, Nat.zero_le _⟩ dX10_learns_10 rfl rfl ?_
        refine lv_iconst (v := (-1)) hx hb dX10_learns_13 (by decide) ?_
        refine lv_icmp_ne (tgt := 20) hx hb dX10_learns_14 (by decide) (fun c17 => ?_) (fun c17 => ?_)
        · have hf := it_n hf c17
          refine lv_aload_n hx hb dX10_learns_20 rfl (lv_at hl 0 rfl) ?_
          refine gf_X10 (v := .ref a1) C hE hP 0 1 rfl (by decide) qF_X10_17 rfl dX10_learns_21 ?_
          refine lv_aload_n hx hb dX10_learns_24 rfl (lv_at hl 0 rfl) ?_
          refine gf_X10 (v := .int k_o) C hE hP 0 2 rfl (by decide) qF_X10_41 rfl dX10_learns_25 ?_
          refine lv_iconst (v := 3) hx hb dX10_learns_28 (by decide) ?_
          refine lv_iadd hx hb dX10_learns_29 ?_
          refine lv_aload_n hx hb dX10_learns_30 rfl (lv_at hl 0 rfl) ?_
          refine gf_X10 (v := .ref a1) C hE hP 0 1 rfl (by decide) qF_X10_17 rfl dX10_learns_31 ?_
          refine lv_aload_n hx hb dX10_learns_34 rfl (lv_at hl 0 rfl) ?_
          refine gf_X10 (v := .int k_o) C hE hP 0 2 rfl (by decide) qF_X10_41 rfl dX10_learns_35 ?_
          refine lv_iconst (v := 3) hx hb dX10_learns_38 (by decide) ?_
          refine lv_iadd hx hb dX10_learns_39 ?_
          obtain ⟨g16, hf⟩ := it_g hf
          refine va_iald hx hb hE.1 hP 1 0 rfl rfl g16 dX10_learns_40 ?_
          refine lv_iload_n hx hb dX10_learns_41 rfl (lv_at hl 3 rfl) ?_
          refine lv_if_ne (tgt := 49) hx hb dX10_learns_42 (by decide) (fun c15 => ?_) (fun c15 => ?_)
          · have hf := it_n hf c15
            refine lv_iload_n hx hb dX10_learns_49 rfl (lv_at hl 2 rfl) ?_
            refine lv_ineg hx hb dX10_learns_50 ?_
            refine lv_iadd hx hb dX10_learns_51 ?_
            refine lv_aload_n hx hb dX10_learns_52 rfl (lv_at hl 0 rfl) ?_
            refine gf_X10 (v := .ref a1) C hE hP 0 1 rfl (by decide) qF_X10_17 rfl dX10_learns_53 ?_
            refine lv_aload_n hx hb dX10_learns_56 rfl (lv_at hl 0 rfl) ?_
            refine gf_X10 (v := .int k_o) C hE hP 0 2 rfl (by decide) qF_X10_41 rfl dX10_learns_57 ?_
            refine lv_iconst (v := 1) hx hb dX10_learns_60 (by decide) ?_
            refine lv_iadd hx hb dX10_learns_61 ?_
            obtain ⟨g8, hf⟩ := it_g hf
            refine va_iald hx hb hE.1 hP 1 0 rfl rfl g8 dX10_learns_62 ?_
            obtain ⟨r3, h4, hf⟩ := bd_s hf
            refine is_R (rest := [.int (k_o + 3), .ref a1]) (st1 := [.int r3, .int (k_o + 3), .ref a1]) C hE va_P_nil (c_X10_near l D cI cZ cL cW F   ((k_w (Int32.toNatClampNeg (k_o + 3))) + (-v2)) (k_w (Int32.toNatClampNeg (k_o + 1))) r3  h4) ok_X10_near qM_X10_164 rfl rfl ⟨(Nat.le_of_ble_eq_true rfl), (Nat.le_of_ble_eq_true rfl)⟩ hl.1 (Nat.le_of_ble_eq_true rfl) ⟨Nat.zero_le _, Nat.zero_le _⟩ dX10_learns_63 rfl rfl ?_
            obtain ⟨g7, hf⟩ := it_g hf
            refine va_iast hx hb hE.1 hP hD hS 1 0 rfl rfl g7 dX10_learns_66 (fun H locs (hP : va_P D vwCl (MX10 cI cZ cL cW a0 a1 a2 a3 a4 a5 a6 k_thrown (upd k_w (Int32.toNatClampNeg (k_o + 3)) r3) k_o k_isKept k_went k_wentMany k_waiting k_came k_depth k_isSilent k_x k_packed k_hits k_rues k_soonest k_inAll) H) (hD : va_D A (MX10 cI cZ cL cW a0 a1 a2 a3 a4 a5 a6 k_thrown (upd k_w (Int32.toNatClampNeg (k_o + 3)) r3) k_o k_isKept k_went k_wentMany k_waiting k_came k_depth k_isSilent k_x k_packed k_hits k_rues k_soonest k_inAll)) hS => ?_)
            refine lv_aload_n hx hb dX10_learns_67 rfl (lv_at hl 0 rfl) ?_
            refine lv_iload_n hx hb dX10_learns_68 rfl (lv_at hl 3 rfl) ?_
            refine lv_iload_n hx hb dX10_learns_69 rfl (lv_at hl 1 rfl) ?_
            obtain ⟨k_w_5, h6, hf⟩ := bd_s hf
            refine iv_A (rest := []) (st1 := []) C hE hP hD hS hA (c_X10_noGhost l D cI cZ cL cW F a0 a1 a2 a3 a4 a5 a6 k_thrown (upd k_w (Int32.toNatClampNeg (k_o + 3)) r3) k_o k_isKept k_went k_wentMany k_waiting k_came k_depth k_isSilent k_x k_packed k_hits k_rues k_soonest k_inAll v3 v1  k_w_5 h6) ok_X10_noGhost qM_X10_85 rfl rfl ⟨(Nat.le_of_ble_eq_true rfl), (Nat.le_of_ble_eq_true rfl)⟩ rfl rfl hl.1 (Nat.le_of_ble_eq_true rfl) ⟨Nat.zero_le _, Nat.zero_le _⟩ dX10_learns_70 rfl rfl (fun H locs (hP : va_P D vwCl (MX10 cI cZ cL cW a0 a1 a2 a3 a4 a5 a6 k_thrown k_w_5 k_o k_isKept k_went k_wentMany k_waiting k_came k_depth k_isSilent k_x k_packed k_hits k_rues k_soonest k_inAll) H) (hD : va_D A (MX10 cI cZ cL cW a0 a1 a2 a3 a4 a5 a6 k_thrown k_w_5 k_o k_isKept k_went k_wentMany k_waiting k_came k_depth k_isSilent k_x k_packed k_hits k_rues k_soonest k_inAll)) hS => ?_)
            cases hf
            exact rw_v C hr hlk hP hD hS dX10_learns_73
          · have hf := it_p hf c15
            refine lv_iload_n hx hb dX10_learns_45 rfl (lv_at hl 2 rfl) ?_
            refine lv_goto (tgt := 51) hx hb dX10_learns_46 (by decide) ?_
            refine lv_iadd hx hb dX10_learns_51 ?_
            refine lv_aload_n hx hb dX10_learns_52 rfl (lv_at hl 0 rfl) ?_
            refine gf_X10 (v := .ref a1) C hE hP 0 1 rfl (by decide) qF_X10_17 rfl dX10_learns_53 ?_
            refine lv_aload_n hx hb dX10_learns_56 rfl (lv_at hl 0 rfl) ?_
            refine gf_X10 (v := .int k_o) C hE hP 0 2 rfl (by decide) qF_X10_41 rfl dX10_learns_57 ?_
            refine lv_iconst (v := 1) hx hb dX10_learns_60 (by decide) ?_
            refine lv_iadd hx hb dX10_learns_61 ?_
            obtain ⟨g14, hf⟩ := it_g hf
            refine va_iald hx hb hE.1 hP 1 0 rfl rfl g14 dX10_learns_62 ?_
            obtain ⟨r9, h10, hf⟩ := bd_s hf
            refine is_R (rest := [.int (k_o + 3), .ref a1]) (st1 := [.int r9, .int (k_o + 3), .ref a1]) C hE va_P_nil (c_X10_near l D cI cZ cL cW F   ((k_w (Int32.toNatClampNeg (k_o + 3))) + v2) (k_w (Int32.toNatClampNeg (k_o + 1))) r9  h10) ok_X10_near qM_X10_164 rfl rfl ⟨(Nat.le_of_ble_eq_true rfl), (Nat.le_of_ble_eq_true rfl)⟩ hl.1 (Nat.le_of_ble_eq_true rfl) ⟨Nat.zero_le _, Nat.zero_le _⟩ dX10_learns_63 rfl rfl ?_
            obtain ⟨g13, hf⟩ := it_g hf
            refine va_iast hx hb hE.1 hP hD hS 1 0 rfl rfl g13 dX10_learns_66 (fun H locs (hP : va_P D vwCl (MX10 cI cZ cL cW a0 a1 a2 a3 a4 a5 a6 k_thrown (upd k_w (Int32.toNatClampNeg (k_o + 3)) r9) k_o k_isKept k_went k_wentMany k_waiting k_came k_depth k_isSilent k_x k_packed k_hits k_rues k_soonest k_inAll) H) (hD : va_D A (MX10 cI cZ cL cW a0 a1 a2 a3 a4 a5 a6 k_thrown (upd k_w (Int32.toNatClampNeg (k_o + 3)) r9) k_o k_isKept k_went k_wentMany k_waiting k_came k_depth k_isSilent k_x k_packed k_hits k_rues k_soonest k_inAll)) hS => ?_)
            refine lv_aload_n hx hb dX10_learns_67 rfl (lv_at hl 0 rfl) ?_
            refine lv_iload_n hx hb dX10_learns_68 rfl (lv_at hl 3 rfl) ?_
            refine lv_iload_n hx hb dX10_learns_69 rfl (lv_at hl 1 rfl) ?_
            obtain ⟨k_w_11, h12, hf⟩ := bd_s hf
            refine iv_A (rest := []) (st1 := []) C hE hP hD hS hA (c_X10_noGhost l D cI cZ cL cW F a0 a1 a2 a3 a4 a5 a6 k_thrown (upd k_w (Int32.toNatClampNeg (k_o + 3)) r9) k_o k_isKept k_went k_wentMany k_waiting k_came k_depth k_isSilent k_x k_packed k_hits k_rues k_soonest k_inAll v3 v1  k_w_11 h12) ok_X10_noGhost qM_X10_85 rfl rfl ⟨(Nat.le_of_ble_eq_true rfl), (Nat.le_of_ble_eq_true rfl)⟩ rfl rfl hl.1 (Nat.le_of_ble_eq_true rfl) ⟨Nat.zero_le _, Nat.zero_le _⟩ dX10_learns_70 rfl rfl (fun H locs (hP : va_P D vwCl (MX10 cI cZ cL cW a0 a1 a2 a3 a4 a5 a6 k_thrown k_w_11 k_o k_isKept k_went k_wentMany k_waiting k_came k_depth k_isSilent k_x k_packed k_hits k_rues k_soonest k_inAll) H) (hD : va_D A (MX10 cI cZ cL cW a0 a1 a2 a3 a4 a5 a6 k_thrown k_w_11 k_o k_isKept k_went k_wentMany k_waiting k_came k_depth k_isSilent k_x k_packed k_hits k_rues k_soonest k_inAll)) hS => ?_)
            cases hf
            exact rw_v C hr hlk hP hD hS dX10_learns_73
        · have hf := it_p hf c17
          refine lv_goto (tgt := 74) hx hb dX10_learns_17 (by decide) ?_
          refine lv_iinc (v := (v3 + 1)) (lv' := [(3, .int (v3 + 1)), (0, .ref a0), (1, .int v1), (2, .int v2)]) hx hb dX10_learns_74 hl (k := 3) rfl rfl (by decide) rfl (fun ls hl => ?_)
          refine lv_goto (tgt := 2) hx hb dX10_learns_77 (by decide) ?_
          exact ih v1 v2 (v3 + 1) k_thrown k_w k_o k_isKept k_went k_wentMany k_waiting k_came k_depth k_isSilent k_x k_packed k_hits k_rues k_soonest k_inAll _ _ ls hf hP hD hS (lv_sub hl [1, 2, 3, 0] rfl)
  refine lv_iconst (v := 0) hx hb dX10_learns_0 (by decide) ?_
  refine lv_istore_n (lv' := [(3, .int 0), (0, .ref a0), (1, .int p1), (2, .int p2)]) hx hb dX10_learns_1 rfl hl (by decide) rfl (fun ls hl => ?_)
  exact L2 F p1 p2 0 k_thrown k_w k_o k_isKept k_went k_wentMany k_waiting k_came k_depth k_isSilent k_x k_packed k_hits k_rues k_soonest k_inAll _ _ ls hf hP hD hS (lv_sub hl [1, 2, 3, 0] rfl)
def X10_tellsAll (F : Nat) (p1 : Int32) (p2 : Int32) (p3 : Int32) (p4 : Int32) (k_w : (Nat → Int32)) (k_o : Int32) : Option ((Nat → Int32)) := (X10_sets F p1 1 p2 k_w k_o).bind fun k_w_1 => ((X10_sets F p1 2 p3 k_w_1 k_o).bind fun k_w_3 => ((X10_sets F p1 5 p4 k_w_3 k_o).bind fun k_w_5 => (some k_w_5)))
abbrev rm_X10_tellsAll : Room := { frames := 1, cells := 0, slots := 0, locals := 23 }
theorem ok_X10_tellsAll : OKV RX10 yX10_tellsAll cX10_tellsAll 5 none 4 := ⟨by decide +kernel, qV_X10_tellsAll, qL_X10_tellsAll, qI_X10, qD_X10_tellsAll⟩
set_option maxHeartbeats 4000000 in
set_option maxRecDepth 100000 in
theorem c_X10_tellsAll (l : Launch) (D : va_G) (cI cZ cL cW : ClassId) (F : Nat) (a0 : Nat) (a1 : Nat) (a2 : Nat) (a3 : Nat) (a4 : Nat) (a5 : Nat) (a6 : Nat) (k_thrown : Int32) (k_w : (Nat → Int32)) (k_o : Int32) (k_isKept : (Nat → Int32)) (k_went : (Nat → Int32)) (k_wentMany : Int32) (k_waiting : (Nat → Int32)) (k_came : Int32) (k_depth : Int32) (k_isSilent : Int32) (k_x : Int64) (k_packed : (Nat → Int32)) (k_hits : Int32) (k_rues : Int32) (k_soonest : Int32) (k_inAll : (Nat → Int32)) (p1 : Int32) (p2 : Int32) (p3 : Int32) (p4 : Int32) (k_w' : (Nat → Int32)) (hf : X10_tellsAll F p1 p2 p3 p4 k_w k_o = some (k_w')) : CtrW l D (tyL cI cZ cL cW) nestW yX10_tellsAll cX10_tellsAll 5 none rm_X10_tellsAll [.ref a0, .int p1, .int p2, .int p3, .int p4] (MX10 cI cZ cL cW a0 a1 a2 a3 a4 a5 a6 k_thrown k_w k_o k_isKept k_went k_wentMany k_waiting k_came k_depth k_isSilent k_x k_packed k_hits k_rues k_soonest k_inAll) (MX10 cI cZ cL cW a0 a1 a2 a3 a4 a5 a6 k_thrown (k_w') k_o k_isKept k_went k_wentMany k_waiting k_came k_depth k_isSilent k_x k_packed k_hits k_rues k_soonest k_inAll) none := by
  refine ofA RX10 (by decide) rfl (Nat.le_of_ble_eq_true rfl) ?_
  intro p e s m below meth c ls A C hr hlk hE hA hP hD hS hl
  generalize (List.toArray ([.ref a0, .int p1, .int p2, .int p3, .int p4] : List Value)) = args at C ⊢
  obtain ⟨hx, hb, hml, hown, ht⟩ := id C
  have hl : lv_has ls 5 [(0, .ref a0), (1, .int p1), (2, .int p2), (3, .int p3), (4, .int p4)] := hl
  refine lv_aload_n hx hb dX10_tellsAll_0 rfl (lv_at hl 0 rfl) ?_
  refine lv_iload_n hx hb dX10_tellsAll_1 rfl (lv_at hl 1 rfl) ?_
  refine lv_iconst (v := 1) hx hb dX10_tellsAll_2 (by decide) ?_
  refine lv_iload_n hx hb dX10_tellsAll_3 rfl (lv_at hl 2 rfl) ?_
  obtain ⟨k_w_1, h2, hf⟩ := bd_s hf
  refine iv_A (rest := []) (st1 := []) C hE hP hD hS hA (c_X10_sets l D cI cZ cL cW F a0 a1 a2 a3 a4 a5 a6 k_thrown k_w k_o k_isKept k_went k_wentMany k_waiting k_came k_depth k_isSilent k_x k_packed k_hits k_rues k_soonest k_inAll p1 1 p2  k_w_1 h2) ok_X10_sets qM_X10_121 rfl rfl ⟨(Nat.le_of_ble_eq_true rfl), (Nat.le_of_ble_eq_true rfl)⟩ rfl rfl hl.1 (Nat.le_of_ble_eq_true rfl) ⟨Nat.zero_le _, Nat.zero_le _⟩ dX10_tellsAll_4 rfl rfl (fun H locs (hP : va_P D vwCl (MX10 cI cZ cL cW a0 a1 a2 a3 a4 a5 a6 k_thrown k_w_1 k_o k_isKept k_went k_wentMany k_waiting k_came k_depth k_isSilent k_x k_packed k_hits k_rues k_soonest k_inAll) H) (hD : va_D A (MX10 cI cZ cL cW a0 a1 a2 a3 a4 a5 a6 k_thrown k_w_1 k_o k_isKept k_went k_wentMany k_waiting k_came k_depth k_isSilent k_x k_packed k_hits k_rues k_soonest k_inAll)) hS => ?_)
  refine lv_aload_n hx hb dX10_tellsAll_7 rfl (lv_at hl 0 rfl) ?_
  refine lv_iload_n hx hb dX10_tellsAll_8 rfl (lv_at hl 1 rfl) ?_
  refine lv_iconst (v := 2) hx hb dX10_tellsAll_9 (by decide) ?_
  refine lv_iload_n hx hb dX10_tellsAll_10 rfl (lv_at hl 3 rfl) ?_
  obtain ⟨k_w_3, h4, hf⟩ := bd_s hf
  refine iv_A (rest := []) (st1 := []) C hE hP hD hS hA (c_X10_sets l D cI cZ cL cW F a0 a1 a2 a3 a4 a5 a6 k_thrown k_w_1 k_o k_isKept k_went k_wentMany k_waiting k_came k_depth k_isSilent k_x k_packed k_hits k_rues k_soonest k_inAll p1 2 p3  k_w_3 h4) ok_X10_sets qM_X10_121 rfl rfl ⟨(Nat.le_of_ble_eq_true rfl), (Nat.le_of_ble_eq_true rfl)⟩ rfl rfl hl.1 (Nat.le_of_ble_eq_true rfl) ⟨Nat.zero_le _, Nat.zero_le _⟩ dX10_tellsAll_11 rfl rfl (fun H locs (hP : va_P D vwCl (MX10 cI cZ cL cW a0 a1 a2 a3 a4 a5 a6 k_thrown k_w_3 k_o k_isKept k_went k_wentMany k_waiting k_came k_depth k_isSilent k_x k_packed k_hits k_rues k_soonest k_inAll) H) (hD : va_D A (MX10 cI cZ cL cW a0 a1 a2 a3 a4 a5 a6 k_thrown k_w_3 k_o k_isKept k_went k_wentMany k_waiting k_came k_depth k_isSilent k_x k_packed k_hits k_rues k_soonest k_inAll)) hS => ?_)
  refine lv_aload_n hx hb dX10_tellsAll_14 rfl (lv_at hl 0 rfl) ?_
  refine lv_iload_n hx hb dX10_tellsAll_15 rfl (lv_at hl 1 rfl) ?_
  refine lv_iconst (v := 5) hx hb dX10_tellsAll_16 (by decide) ?_
  refine lv_iload hx hb dX10_tellsAll_17 (lv_at hl 4 rfl) ?_
  obtain ⟨k_w_5, h6, hf⟩ := bd_s hf
  refine iv_A (rest := []) (st1 := []) C hE hP hD hS hA (c_X10_sets l D cI cZ cL cW F a0 a1 a2 a3 a4 a5 a6 k_thrown k_w_3 k_o k_isKept k_went k_wentMany k_waiting k_came k_depth k_isSilent k_x k_packed k_hits k_rues k_soonest k_inAll p1 5 p4  k_w_5 h6) ok_X10_sets qM_X10_121 rfl rfl ⟨(Nat.le_of_ble_eq_true rfl), (Nat.le_of_ble_eq_true rfl)⟩ rfl rfl hl.1 (Nat.le_of_ble_eq_true rfl) ⟨Nat.zero_le _, Nat.zero_le _⟩ dX10_tellsAll_19 rfl rfl (fun H locs (hP : va_P D vwCl (MX10 cI cZ cL cW a0 a1 a2 a3 a4 a5 a6 k_thrown k_w_5 k_o k_isKept k_went k_wentMany k_waiting k_came k_depth k_isSilent k_x k_packed k_hits k_rues k_soonest k_inAll) H) (hD : va_D A (MX10 cI cZ cL cW a0 a1 a2 a3 a4 a5 a6 k_thrown k_w_5 k_o k_isKept k_went k_wentMany k_waiting k_came k_depth k_isSilent k_x k_packed k_hits k_rues k_soonest k_inAll)) hS => ?_)
  cases hf
  exact rw_v C hr hlk hP hD hS dX10_tellsAll_22
def X10_puts_L101 (F : Nat) : Nat → Int32 → Int32 → Int32 → Int32 → Int32 → (Nat → Int32) → Int32 → (Nat → Int32) → Int32 → (Nat → Int32) → Int32 → Int32 → Int32 → Option ((Nat → Int32) × (Nat → Int32) × Int32 × (Nat → Int32) × Int32)
  | 0, _, _, _, _, _, _, _, _, _, _, _, _, _ => none
  | n + 1, v1, v2, v3, v4, v5, k_w, k_o, k_went, k_wentMany, k_waiting, k_came, k_depth, k_isSilent => (X10_load F k_w k_o).bind fun r11 => (if (v5 : Int32) = 0 then (if ((k_o + 1) : Int32) < 0 ∨ 3392 ≤ (Int32.toNatClampNeg (k_o + 1)) then none else (if ((r11 + 0) : Int32) ≤ (k_w (Int32.toNatClampNeg (k_o + 1))) then (some (k_w, k_went, k_wentMany, k_waiting, k_came)) else ((X10_evicts F v1 k_w k_o k_went k_wentMany k_waiting k_came k_depth k_isSilent).bind fun (r13, k_w_14, k_went_15, k_wentMany_16, k_waiting_17, k_came_18) => (X10_puts_L101 F n v1 v2 v3 v4 v5 k_w_14 k_o k_went_15 k_wentMany_16 k_waiting_17 k_came_18 k_depth k_isSilent)))) else (if ((k_o + 1) : Int32) < 0 ∨ 3392 ≤ (Int32.toNatClampNeg (k_o + 1)) then none else (if ((r11 + v3) : Int32) ≤ (k_w (Int32.toNatClampNeg (k_o + 1))) then (some (k_w, k_went, k_wentMany, k_waiting, k_came)) else ((X10_evicts F v1 k_w k_o k_went k_wentMany k_waiting k_came k_depth k_isSilent).bind fun (r22, k_w_23, k_went_24, k_wentMany_25, k_waiting_26, k_came_27) => (X10_puts_L101 F n v1 v2 v3 v4 v5 k_w_23 k_o k_went_24 k_wentMany_25 k_waiting_26 k_came_27 k_depth k_isSilent)))))
def X10_puts_L63 (F : Nat) : Nat → Int32 → Int32 → Int32 → Int32 → Int32 → (Nat → Int32) → Int32 → (Nat → Int32) → Int32 → (Nat → Int32) → Int32 → Int32 → Int32 → Option ((Nat → Int32) × (Nat → Int32) × Int32 × (Nat → Int32) × Int32)
  | 0, _, _, _, _, _, _, _, _, _, _, _, _, _ => none
  | n + 1, v1, v2, v3, v4, v5, k_w, k_o, k_went, k_wentMany, k_waiting, k_came, k_depth, k_isSilent => if ((k_o + 0) : Int32) < 0 ∨ 3392 ≤ (Int32.toNatClampNeg (k_o + 0)) then none else (if ((k_w (Int32.toNatClampNeg (k_o + 0))) : Int32) = 60 then ((X10_evicts F v1 k_w k_o k_went k_wentMany k_waiting k_came k_depth k_isSilent).bind fun (r47, k_w_48, k_went_49, k_wentMany_50, k_waiting_51, k_came_52) => (X10_puts_L63 F n v1 v2 v3 v4 v5 k_w_48 k_o k_went_49 k_wentMany_50 k_waiting_51 k_came_52 k_depth k_isSilent)) else (some (k_w, k_went, k_wentMany, k_waiting, k_came)))
def X10_puts (F : Nat) (p1 : Int32) (p2 : Int32) (p3 : Int32) (p4 : Int32) (k_w : (Nat → Int32)) (k_o : Int32) (k_went : (Nat → Int32)) (k_wentMany : Int32) (k_waiting : (Nat → Int32)) (k_came : Int32) (k_depth : Int32) (k_isSilent : Int32) : Option (Int32 × (Nat → Int32) × (Nat → Int32) × Int32 × (Nat → Int32) × Int32) := (X10_isRejected F p1 p3 k_w k_o).bind fun r1 => (if (r1 : Int32) = 0 then ((X10_learns F p1 p3 k_w k_o).bind fun k_w_3 => ((X10_entryOf F p1 k_w_3 k_o).bind fun r5 => (if (r5 : Int32) = (-1) then ((X10_puts_L63 F F p1 p2 p3 p4 1 k_w_3 k_o k_went k_wentMany k_waiting k_came k_depth k_isSilent).bind fun (k56, k57, k58, k59, k60) => ((X10_puts_L101 F F p1 p2 p3 p4 1 k56 k_o k57 k58 k59 k60 k_depth k_isSilent).bind fun (k62, k63, k64, k65, k66) => (if ((k_o + 0) : Int32) < 0 ∨ 3392 ≤ (Int32.toNatClampNeg (k_o + 0)) then none else (if ((k_o + 0) : Int32) < 0 ∨ 3392 ≤ (Int32.toNatClampNeg (k_o + 0)) then none else (if ((k_o + 0) : Int32) < 0 ∨ 3392 ≤ (Int32.toNatClampNeg (k_o + 0)) then none else ((X10_sets F (k62 (Int32.toNatClampNeg (k_o + 0))) 0 p1 (upd k62 (Int32.toNatClampNeg (k_o + 0)) ((k62 (Int32.toNatClampNeg (k_o + 0))) + 1)) k_o).bind fun k_w_68 => ((X10_tellsAll F (k62 (Int32.toNatClampNeg (k_o + 0))) p2 p3 p4 k_w_68 k_o).bind fun k_w_70 => ((X10_sets F (k62 (Int32.toNatClampNeg (k_o + 0))) 3 0 k_w_70 k_o).bind fun k_w_72 => ((X10_sets F (k62 (Int32.toNatClampNeg (k_o + 0))) 6 0 k_w_72 k_o).bind fun k_w_74 => ((X10_tells F 0 p1 p2 p3 k65 k66 k_depth k_isSilent).bind fun (k_waiting_76, k_came_77) => ((X10_entryOf F p1 k_w_74 k_o).bind fun r79 => ((X10_uses F r79 k_w_74 k_o).bind fun k_w_81 => ((X10_flag F 1).bind fun r83 => (some (r83, k_w_81, k63, k64, k_waiting_76, k_came_77))))))))))))))) else ((X10_entryOf F p1 k_w_3 k_o).bind fun r7 => ((X10_tellsAll F r7 p2 p3 p4 k_w_3 k_o).bind fun k_w_9 => ((X10_puts_L101 F F p1 p2 p3 p4 0 k_w_9 k_o k_went k_wentMany k_waiting k_came k_depth k_isSilent).bind fun (k32, k33, k34, k35, k36) => ((X10_tells F 1 p1 p2 p3 k35 k36 k_depth k_isSilent).bind fun (k_waiting_38, k_came_39) => ((X10_entryOf F p1 k32 k_o).bind fun r41 => ((X10_uses F r41 k32 k_o).bind fun k_w_43 => ((X10_flag F 0).bind fun r45 => (some (r45, k_w_43, k33, k34, k_waiting_38, k_came_39)))))))))))) else (if ((k_o + 12) : Int32) < 0 ∨ 3392 ≤ (Int32.toNatClampNeg (k_o + 12)) then none else (if ((k_o + 12) : Int32) < 0 ∨ 3392 ≤ (Int32.toNatClampNeg (k_o + 12)) then none else ((X10_tells F 6 p1 0 p3 k_waiting k_came k_depth k_isSilent).bind fun (k_waiting_89, k_came_90) => (some ((-1), (upd k_w (Int32.toNatClampNeg (k_o + 12)) ((k_w (Int32.toNatClampNeg (k_o + 12))) + 1)), k_went, k_wentMany, k_waiting_89, k_came_90))))))
abbrev rm_X10_puts : Room := { frames := 6, cells := 0, slots := 0, locals := 139 }
theorem ok_X10_puts : OKV RX10 yX10_puts cX10_puts 7 (some .int) 4 := ⟨by decide +kernel, qV_X10_puts, qL_X10_puts, qI_X10, qD_X10_puts⟩
set_option maxHeartbeats 4000000 in
set_option maxRecDepth 100000 in
theorem c_X10_puts (l : Launch) (D : va_G) (cI cZ cL cW : ClassId) (F : Nat) (a0 : Nat) (a1 : Nat) (a2 : Nat) (a3 : Nat) (a4 : Nat) (a5 : Nat) (a6 : Nat) (k_thrown : Int32) (k_w : (Nat → Int32)) (k_o : Int32) (k_isKept : (Nat → Int32)) (k_went : (Nat → Int32)) (k_wentMany : Int32) (k_waiting : (Nat → Int32)) (k_came : Int32) (k_depth : Int32) (k_isSilent : Int32) (k_x : Int64) (k_packed : (Nat → Int32)) (k_hits : Int32) (k_rues : Int32) (k_soonest : Int32) (k_inAll : (Nat → Int32)) (p1 : Int32) (p2 : Int32) (p3 : Int32) (p4 : Int32) (r : Int32) (k_w' : (Nat → Int32)) (k_went' : (Nat → Int32)) (k_wentMany' : Int32) (k_waiting' : (Nat → Int32)) (k_came' : Int32) (hf : X10_puts F p1 p2 p3 p4 k_w k_o k_went k_wentMany k_waiting k_came k_depth k_isSilent = some (r, k_w', k_went', k_wentMany', k_waiting', k_came')) : CtrW l D (tyL cI cZ cL cW) nestW yX10_puts cX10_puts 7 (some .int) rm_X10_puts [.ref a0, .int p1, .int p2, .int p3, .int p4] (MX10 cI cZ cL cW a0 a1 a2 a3 a4 a5 a6 k_thrown k_w k_o k_isKept k_went k_wentMany k_waiting k_came k_depth k_isSilent k_x k_packed k_hits k_rues k_soonest k_inAll) (MX10 cI cZ cL cW a0 a1 a2 a3 a4 a5 a6 k_thrown (k_w') k_o k_isKept (k_went') (k_wentMany') (k_waiting') (k_came') k_depth k_isSilent k_x k_packed k_hits k_rues k_soonest k_inAll) (some (.int r)) := by
  refine ofA RX10 (by decide) rfl (Nat.le_of_ble_eq_true rfl) ?_
  intro p e s m below meth c ls A C hr hlk hE hA hP hD hS hl
  generalize (List.toArray ([.ref a0, .int p1, .int p2, .int p3, .int p4] : List Value)) = args at C ⊢
  obtain ⟨hx, hb, hml, hown, ht⟩ := id C
  have hl : lv_has ls 7 [(0, .ref a0), (1, .int p1), (2, .int p2), (3, .int p3), (4, .int p4)] := hl
  have L101 : ∀ (Q : State → Prop) (n : Nat) (v1 : Int32) (v2 : Int32) (v3 : Int32) (v4 : Int32) (v5 : Int32) (k_thrown : Int32) (k_w : (Nat → Int32)) (k_o : Int32) (k_isKept : (Nat → Int32)) (k_went : (Nat → Int32)) (k_wentMany : Int32) (k_waiting : (Nat → Int32)) (k_came : Int32) (k_depth : Int32) (k_isSilent : Int32) (k_x : Int64) (k_packed : (Nat → Int32)) (k_hits : Int32) (k_rues : Int32) (k_soonest : Int32) (k_inAll : (Nat → Int32)) (k_w' : (Nat → Int32)) (k_went' : (Nat → Int32)) (k_wentMany' : Int32) (k_waiting' : (Nat → Int32)) (k_came' : Int32) (H : Heap) (locs : List Loc) (ls : Array Slot), X10_puts_L101 F n v1 v2 v3 v4 v5 k_w k_o k_went k_wentMany k_waiting k_came k_depth k_isSilent = some (k_w', k_went', k_wentMany', k_waiting', k_came') → va_P D vwCl (MX10 cI cZ cL cW a0 a1 a2 a3 a4 a5 a6 k_thrown k_w k_o k_isKept k_went k_wentMany k_waiting k_came k_depth k_isSilent k_x k_packed k_hits k_rues k_soonest k_inAll) H → va_D A (MX10 cI cZ cL cW a0 a1 a2 a3 a4 a5 a6 k_thrown k_w k_o k_isKept k_went k_wentMany k_waiting k_came k_depth k_isSilent k_x k_packed k_hits k_rues k_soonest k_inAll) → va_S A s.heap H locs → lv_has ls 7 [(0, .ref a0), (1, .int v1), (2, .int v2), (3, .int v3), (4, .int v4), (5, .int v5)] → (∀ (H : Heap) (locs : List Loc) (ls : Array Slot), va_P D vwCl (MX10 cI cZ cL cW a0 a1 a2 a3 a4 a5 a6 k_thrown (k_w') k_o k_isKept (k_went') (k_wentMany') (k_waiting') (k_came') k_depth k_isSilent k_x k_packed k_hits k_rues k_soonest k_inAll) H → va_D A (MX10 cI cZ cL cW a0 a1 a2 a3 a4 a5 a6 k_thrown (k_w') k_o k_isKept (k_went') (k_wentMany') (k_waiting') (k_came') k_depth k_isSilent k_x k_packed k_hits k_rues k_soonest k_inAll) → va_S A s.heap H locs → lv_has ls 7 [(0, .ref a0), (1, .int v1), (2, .int v2), (3, .int v3), (4, .int v4), (5, .int v5)] → W p l e rm_X10_puts s m args below meth c H locs 0 0 Q (F0 m 139 ls [])) → W p l e rm_X10_puts s m args below meth c H locs 0 0 Q (F0 m 101 ls []) := by
    intro Q n
    induction n with
    | zero => intro v1 v2 v3 v4 v5 k_thrown k_w k_o k_isKept k_went k_wentMany k_waiting k_came k_depth k_isSilent k_x k_packed k_hits k_rues k_soonest k_inAll k_w' k_went' k_wentMany' k_waiting' k_came' H locs ls hf hP hD hS hl hk; exact nn_s hf
    | succ n ih =>
      intro v1 v2 v3 v4 v5 k_thrown k_w k_o k_isKept k_went k_wentMany k_waiting k_came k_depth k_isSilent k_x k_packed k_hits k_rues k_soonest k_inAll k_w' k_went' k_wentMany' k_waiting' k_came' H locs ls hf hP hD hS hl hk
      refine lv_aload_n hx hb dX10_puts_101 rfl (lv_at hl 0 rfl) ?_
      obtain ⟨r11, h12, hf⟩ := bd_s hf
      refine iv_R (rest := []) (st1 := [.int r11]) C hE hP (c_X10_load l D cI cZ cL cW F a0 a1 a2 a3 a4 a5 a6 k_thrown k_w k_o k_isKept k_went k_wentMany k_waiting k_came k_depth k_isSilent k_x k_packed k_hits k_rues k_soonest k_inAll  r11  h12) ok_X10_load qM_X10_179 rfl rfl ⟨(Nat.le_of_ble_eq_true rfl), (Nat.le_of_ble_eq_true rfl)⟩ rfl rfl hl.1 (Nat.le_of_ble_eq_true rfl) ⟨Nat.zero_le _, Nat.zero_le _⟩ dX10_puts_102 rfl rfl ?_
      refine lv_iload hx hb dX10_puts_105 (lv_at hl 5 rfl) ?_
      refine lv_if_eq (tgt := 114) hx hb dX10_puts_107 (by decide) (fun c31 => ?_) (fun c31 => ?_)
      · have hf := it_p hf c31
        refine lv_iconst (v := 0) hx hb dX10_puts_114 (by decide) ?_
        refine lv_iadd hx hb dX10_puts_115 ?_
        refine lv_aload_n hx hb dX10_puts_116 rfl (lv_at hl 0 rfl) ?_
        refine gf_X10 (v := .ref a1) C hE hP 0 1 rfl (by decide) qF_X10_17 rfl dX10_puts_117 ?_
        refine lv_aload_n hx hb dX10_puts_120 rfl (lv_at hl 0 rfl) ?_
        refine gf_X10 (v := .int k_o) C hE hP 0 2 rfl (by decide) qF_X10_41 rfl dX10_puts_121 ?_
        refine lv_iconst (v := 1) hx hb dX10_puts_124 (by decide) ?_
        refine lv_iadd hx hb dX10_puts_125 ?_
        obtain ⟨g21, hf⟩ := it_g hf
        refine va_iald hx hb hE.1 hP 1 0 rfl rfl g21 dX10_puts_126 ?_
        refine lv_icmp_le (tgt := 139) hx hb dX10_puts_127 (by decide) (fun c20 => ?_) (fun c20 => ?_)
        · have hf := it_p hf c20
          cases hf
          exact hk _ _ ls hP hD hS (lv_sub hl [0, 1, 2, 3, 4, 5] rfl)
        · have hf := it_n hf c20
          refine lv_aload_n hx hb dX10_puts_130 rfl (lv_at hl 0 rfl) ?_
          refine lv_iload_n hx hb dX10_puts_131 rfl (lv_at hl 1 rfl) ?_
          obtain ⟨⟨r13, k_w_14, k_went_15, k_wentMany_16, k_waiting_17, k_came_18⟩, h19, hf⟩ := bd_s hf
          refine iv_A (rest := []) (st1 := [.int r13]) C hE hP hD hS hA (c_X10_evicts l D cI cZ cL cW F a0 a1 a2 a3 a4 a5 a6 k_thrown k_w k_o k_isKept k_went k_wentMany k_waiting k_came k_depth k_isSilent k_x k_packed k_hits k_rues k_soonest k_inAll v1 r13 k_w_14 k_went_15 k_wentMany_16 k_waiting_17 k_came_18 h19) ok_X10_evicts qM_X10_173 rfl rfl ⟨(Nat.le_of_ble_eq_true rfl), (Nat.le_of_ble_eq_true rfl)⟩ rfl rfl hl.1 (Nat.le_of_ble_eq_true rfl) ⟨Nat.zero_le _, Nat.zero_le _⟩ dX10_puts_132 rfl rfl (fun H locs (hP : va_P D vwCl (MX10 cI cZ cL cW a0 a1 a2 a3 a4 a5 a6 k_thrown k_w_14 k_o k_isKept k_went_15 k_wentMany_16 k_waiting_17 k_came_18 k_depth k_isSilent k_x k_packed k_hits k_rues k_soonest k_inAll) H) (hD : va_D A (MX10 cI cZ cL cW a0 a1 a2 a3 a4 a5 a6 k_thrown k_w_14 k_o k_isKept k_went_15 k_wentMany_16 k_waiting_17 k_came_18 k_depth k_isSilent k_x k_packed k_hits k_rues k_soonest k_inAll)) hS => ?_)
          refine lv_pop hx hb dX10_puts_135 rfl ?_
          refine lv_goto (tgt := 101) hx hb dX10_puts_136 (by decide) ?_
          exact ih v1 v2 v3 v4 v5 k_thrown k_w_14 k_o k_isKept k_went_15 k_wentMany_16 k_waiting_17 k_came_18 k_depth k_isSilent k_x k_packed k_hits k_rues k_soonest k_inAll _ _ _ _ _ _ _ ls hf hP hD hS (lv_sub hl [0, 1, 2, 3, 4, 5] rfl) hk
      · have hf := it_n hf c31
        refine lv_iload_n hx hb dX10_puts_110 rfl (lv_at hl 3 rfl) ?_
        refine lv_goto (tgt := 115) hx hb dX10_puts_111 (by decide) ?_
        refine lv_iadd hx hb dX10_puts_115 ?_
        refine lv_aload_n hx hb dX10_puts_116 rfl (lv_at hl 0 rfl) ?_
        refine gf_X10 (v := .ref a1) C hE hP 0 1 rfl (by decide) qF_X10_17 rfl dX10_puts_117 ?_
        refine lv_aload_n hx hb dX10_puts_120 rfl (lv_at hl 0 rfl) ?_
        refine gf_X10 (v := .int k_o) C hE hP 0 2 rfl (by decide) qF_X10_41 rfl dX10_puts_121 ?_
        refine lv_iconst (v := 1) hx hb dX10_puts_124 (by decide) ?_
        refine lv_iadd hx hb dX10_puts_125 ?_
        obtain ⟨g30, hf⟩ := it_g hf
        refine va_iald hx hb hE.1 hP 1 0 rfl rfl g30 dX10_puts_126 ?_
        refine lv_icmp_le (tgt := 139) hx hb dX10_puts_127 (by decide) (fun c29 => ?_) (fun c29 => ?_)
        · have hf := it_p hf c29
          cases hf
          exact hk _ _ ls hP hD hS (lv_sub hl [0, 1, 2, 3, 4, 5] rfl)
        · have hf := it_n hf c29
          refine lv_aload_n hx hb dX10_puts_130 rfl (lv_at hl 0 rfl) ?_
          refine lv_iload_n hx hb dX10_puts_131 rfl (lv_at hl 1 rfl) ?_
          obtain ⟨⟨r22, k_w_23, k_went_24, k_wentMany_25, k_waiting_26, k_came_27⟩, h28, hf⟩ := bd_s hf
          refine iv_A (rest := []) (st1 := [.int r22]) C hE hP hD hS hA (c_X10_evicts l D cI cZ cL cW F a0 a1 a2 a3 a4 a5 a6 k_thrown k_w k_o k_isKept k_went k_wentMany k_waiting k_came k_depth k_isSilent k_x k_packed k_hits k_rues k_soonest k_inAll v1 r22 k_w_23 k_went_24 k_wentMany_25 k_waiting_26 k_came_27 h28) ok_X10_evicts qM_X10_173 rfl rfl ⟨(Nat.le_of_ble_eq_true rfl), (Nat.le_of_ble_eq_true rfl)⟩ rfl rfl hl.1 (Nat.le_of_ble_eq_true rfl) ⟨Nat.zero_le _, Nat.zero_le _⟩ dX10_puts_132 rfl rfl (fun H locs (hP : va_P D vwCl (MX10 cI cZ cL cW a0 a1 a2 a3 a4 a5 a6 k_thrown k_w_23 k_o k_isKept k_went_24 k_wentMany_25 k_waiting_26 k_came_27 k_depth k_isSilent k_x k_packed k_hits k_rues k_soonest k_inAll) H) (hD : va_D A (MX10 cI cZ cL cW a0 a1 a2 a3 a4 a5 a6 k_thrown k_w_23 k_o k_isKept k_went_24 k_wentMany_25 k_waiting_26 k_came_27 k_depth k_isSilent k_x k_packed k_hits k_rues k_soonest k_inAll)) hS => ?_)
          refine lv_pop hx hb dX10_puts_135 rfl ?_
          refine lv_goto (tgt := 101) hx hb dX10_puts_136 (by decide) ?_
          exact ih v1 v2 v3 v4 v5 k_thrown k_w_23 k_o k_isKept k_went_24 k_wentMany_25 k_waiting_26 k_came_27 k_depth k_isSilent k_x k_packed k_hits k_rues k_soonest k_inAll _ _ _ _ _ _ _ ls hf hP hD hS (lv_sub hl [0, 1, 2, 3, 4, 5] rfl) hk
  have L63 : ∀ (Q : State → Prop) (n : Nat) (v1 : Int32) (v2 : Int32) (v3 : Int32) (v4 : Int32) (v5 : Int32) (k_thrown : Int32) (k_w : (Nat → Int32)) (k_o : Int32) (k_isKept : (Nat → Int32)) (k_went : (Nat → Int32)) (k_wentMany : Int32) (k_waiting : (Nat → Int32)) (k_came : Int32) (k_depth : Int32) (k_isSilent : Int32) (k_x : Int64) (k_packed : (Nat → Int32)) (k_hits : Int32) (k_rues : Int32) (k_soonest : Int32) (k_inAll : (Nat → Int32)) (k_w' : (Nat → Int32)) (k_went' : (Nat → Int32)) (k_wentMany' : Int32) (k_waiting' : (Nat → Int32)) (k_came' : Int32) (H : Heap) (locs : List Loc) (ls : Array Slot), X10_puts_L63 F n v1 v2 v3 v4 v5 k_w k_o k_went k_wentMany k_waiting k_came k_depth k_isSilent = some (k_w', k_went', k_wentMany', k_waiting', k_came') → va_P D vwCl (MX10 cI cZ cL cW a0 a1 a2 a3 a4 a5 a6 k_thrown k_w k_o k_isKept k_went k_wentMany k_waiting k_came k_depth k_isSilent k_x k_packed k_hits k_rues k_soonest k_inAll) H → va_D A (MX10 cI cZ cL cW a0 a1 a2 a3 a4 a5 a6 k_thrown k_w k_o k_isKept k_went k_wentMany k_waiting k_came k_depth k_isSilent k_x k_packed k_hits k_rues k_soonest k_inAll) → va_S A s.heap H locs → lv_has ls 7 [(0, .ref a0), (1, .int v1), (2, .int v2), (3, .int v3), (4, .int v4), (5, .int v5)] → (∀ (H : Heap) (locs : List Loc) (ls : Array Slot), va_P D vwCl (MX10 cI cZ cL cW a0 a1 a2 a3 a4 a5 a6 k_thrown (k_w') k_o k_isKept (k_went') (k_wentMany') (k_waiting') (k_came') k_depth k_isSilent k_x k_packed k_hits k_rues k_soonest k_inAll) H → va_D A (MX10 cI cZ cL cW a0 a1 a2 a3 a4 a5 a6 k_thrown (k_w') k_o k_isKept (k_went') (k_wentMany') (k_waiting') (k_came') k_depth k_isSilent k_x k_packed k_hits k_rues k_soonest k_inAll) → va_S A s.heap H locs → lv_has ls 7 [(0, .ref a0), (1, .int v1), (2, .int v2), (3, .int v3), (4, .int v4), (5, .int v5)] → W p l e rm_X10_puts s m args below meth c H locs 0 0 Q (F0 m 101 ls [])) → W p l e rm_X10_puts s m args below meth c H locs 0 0 Q (F0 m 63 ls []) := by
    intro Q n
    induction n with
    | zero => intro v1 v2 v3 v4 v5 k_thrown k_w k_o k_isKept k_went k_wentMany k_waiting k_came k_depth k_isSilent k_x k_packed k_hits k_rues k_soonest k_inAll k_w' k_went' k_wentMany' k_waiting' k_came' H locs ls hf hP hD hS hl hk; exact nn_s hf
    | succ n ih =>
      intro v1 v2 v3 v4 v5 k_thrown k_w k_o k_isKept k_went k_wentMany k_waiting k_came k_depth k_isSilent k_x k_packed k_hits k_rues k_soonest k_inAll k_w' k_went' k_wentMany' k_waiting' k_came' H locs ls hf hP hD hS hl hk
      refine lv_aload_n hx hb dX10_puts_63 rfl (lv_at hl 0 rfl) ?_
      refine gf_X10 (v := .ref a1) C hE hP 0 1 rfl (by decide) qF_X10_17 rfl dX10_puts_64 ?_
      refine lv_aload_n hx hb dX10_puts_67 rfl (lv_at hl 0 rfl) ?_
      refine gf_X10 (v := .int k_o) C hE hP 0 2 rfl (by decide) qF_X10_41 rfl dX10_puts_68 ?_
      refine lv_iconst (v := 0) hx hb dX10_puts_71 (by decide) ?_
      refine lv_iadd hx hb dX10_puts_72 ?_
      obtain ⟨g55, hf⟩ := it_g hf
      refine va_iald hx hb hE.1 hP 1 0 rfl rfl g55 dX10_puts_73 ?_
      refine lv_bipush (v := 60) hx hb dX10_puts_74 (by decide) ?_
      refine lv_icmp_ne (tgt := 101) hx hb dX10_puts_76 (by decide) (fun c54 => ?_) (fun c54 => ?_)
      · have hf := it_n hf c54
        cases hf
        exact hk _ _ ls hP hD hS (lv_sub hl [0, 1, 2, 3, 4, 5] rfl)
      · have hf := it_p hf c54
        refine lv_aload_n hx hb dX10_puts_79 rfl (lv_at hl 0 rfl) ?_
        refine lv_iload_n hx hb dX10_puts_80 rfl (lv_at hl 1 rfl) ?_
        obtain ⟨⟨r47, k_w_48, k_went_49, k_wentMany_50, k_waiting_51, k_came_52⟩, h53, hf⟩ := bd_s hf
        refine iv_A (rest := []) (st1 := [.int r47]) C hE hP hD hS hA (c_X10_evicts l D cI cZ cL cW F a0 a1 a2 a3 a4 a5 a6 k_thrown k_w k_o k_isKept k_went k_wentMany k_waiting k_came k_depth k_isSilent k_x k_packed k_hits k_rues k_soonest k_inAll v1 r47 k_w_48 k_went_49 k_wentMany_50 k_waiting_51 k_came_52 h53) ok_X10_evicts qM_X10_173 rfl rfl ⟨(Nat.le_of_ble_eq_true rfl), (Nat.le_of_ble_eq_true rfl)⟩ rfl rfl hl.1 (Nat.le_of_ble_eq_true rfl) ⟨Nat.zero_le _, Nat.zero_le _⟩ dX10_puts_81 rfl rfl (fun H locs (hP : va_P D vwCl (MX10 cI cZ cL cW a0 a1 a2 a3 a4 a5 a6 k_thrown k_w_48 k_o k_isKept k_went_49 k_wentMany_50 k_waiting_51 k_came_52 k_depth k_isSilent k_x k_packed k_hits k_rues k_soonest k_inAll) H) (hD : va_D A (MX10 cI cZ cL cW a0 a1 a2 a3 a4 a5 a6 k_thrown k_w_48 k_o k_isKept k_went_49 k_wentMany_50 k_waiting_51 k_came_52 k_depth k_isSilent k_x k_packed k_hits k_rues k_soonest k_inAll)) hS => ?_)
        refine lv_pop hx hb dX10_puts_84 rfl ?_
        refine lv_goto (tgt := 63) hx hb dX10_puts_85 (by decide) ?_
        exact ih v1 v2 v3 v4 v5 k_thrown k_w_48 k_o k_isKept k_went_49 k_wentMany_50 k_waiting_51 k_came_52 k_depth k_isSilent k_x k_packed k_hits k_rues k_soonest k_inAll _ _ _ _ _ _ _ ls hf hP hD hS (lv_sub hl [0, 1, 2, 3, 4, 5] rfl) hk
  refine lv_aload_n hx hb dX10_puts_0 rfl (lv_at hl 0 rfl) ?_
  refine lv_iload_n hx hb dX10_puts_1 rfl (lv_at hl 1 rfl) ?_
  refine lv_iload_n hx hb dX10_puts_2 rfl (lv_at hl 3 rfl) ?_
  obtain ⟨r1, h2, hf⟩ := bd_s hf
  refine iv_R (rest := []) (st1 := [.int r1]) C hE hP (c_X10_isRejected l D cI cZ cL cW F a0 a1 a2 a3 a4 a5 a6 k_thrown k_w k_o k_isKept k_went k_wentMany k_waiting k_came k_depth k_isSilent k_x k_packed k_hits k_rues k_soonest k_inAll p1 p3 r1  h2) ok_X10_isRejected qM_X10_167 rfl rfl ⟨(Nat.le_of_ble_eq_true rfl), (Nat.le_of_ble_eq_true rfl)⟩ rfl rfl hl.1 (Nat.le_of_ble_eq_true rfl) ⟨Nat.zero_le _, Nat.zero_le _⟩ dX10_puts_3 rfl rfl ?_
  refine lv_if_eq (tgt := 36) hx hb dX10_puts_6 (by decide) (fun c94 => ?_) (fun c94 => ?_)
  · have hf := it_p hf c94
    refine lv_aload_n hx hb dX10_puts_36 rfl (lv_at hl 0 rfl) ?_
    refine lv_iload_n hx hb dX10_puts_37 rfl (lv_at hl 1 rfl) ?_
    refine lv_iload_n hx hb dX10_puts_38 rfl (lv_at hl 3 rfl) ?_
    obtain ⟨k_w_3, h4, hf⟩ := bd_s hf
    refine iv_A (rest := []) (st1 := []) C hE hP hD hS hA (c_X10_learns l D cI cZ cL cW F a0 a1 a2 a3 a4 a5 a6 k_thrown k_w k_o k_isKept k_went k_wentMany k_waiting k_came k_depth k_isSilent k_x k_packed k_hits k_rues k_soonest k_inAll p1 p3  k_w_3 h4) ok_X10_learns qM_X10_170 rfl rfl ⟨(Nat.le_of_ble_eq_true rfl), (Nat.le_of_ble_eq_true rfl)⟩ rfl rfl hl.1 (Nat.le_of_ble_eq_true rfl) ⟨Nat.zero_le _, Nat.zero_le _⟩ dX10_puts_39 rfl rfl (fun H locs (hP : va_P D vwCl (MX10 cI cZ cL cW a0 a1 a2 a3 a4 a5 a6 k_thrown k_w_3 k_o k_isKept k_went k_wentMany k_waiting k_came k_depth k_isSilent k_x k_packed k_hits k_rues k_soonest k_inAll) H) (hD : va_D A (MX10 cI cZ cL cW a0 a1 a2 a3 a4 a5 a6 k_thrown k_w_3 k_o k_isKept k_went k_wentMany k_waiting k_came k_depth k_isSilent k_x k_packed k_hits k_rues k_soonest k_inAll)) hS => ?_)
    refine lv_aload_n hx hb dX10_puts_42 rfl (lv_at hl 0 rfl) ?_
    refine lv_iload_n hx hb dX10_puts_43 rfl (lv_at hl 1 rfl) ?_
    obtain ⟨r5, h6, hf⟩ := bd_s hf
    refine iv_R (rest := []) (st1 := [.int r5]) C hE hP (c_X10_entryOf l D cI cZ cL cW F a0 a1 a2 a3 a4 a5 a6 k_thrown k_w_3 k_o k_isKept k_went k_wentMany k_waiting k_came k_depth k_isSilent k_x k_packed k_hits k_rues k_soonest k_inAll p1 r5  h6) ok_X10_entryOf qM_X10_118 rfl rfl ⟨(Nat.le_of_ble_eq_true rfl), (Nat.le_of_ble_eq_true rfl)⟩ rfl rfl hl.1 (Nat.le_of_ble_eq_true rfl) ⟨Nat.zero_le _, Nat.zero_le _⟩ dX10_puts_44 rfl rfl ?_
    refine lv_iconst (v := (-1)) hx hb dX10_puts_47 (by decide) ?_
    refine lv_icmp_ne (tgt := 55) hx hb dX10_puts_48 (by decide) (fun c88 => ?_) (fun c88 => ?_)
    · have hf := it_n hf c88
      refine lv_iconst (v := 0) hx hb dX10_puts_55 (by decide) ?_
      refine lv_istore (lv' := [(5, .int 0), (0, .ref a0), (1, .int p1), (2, .int p2), (3, .int p3), (4, .int p4)]) hx hb dX10_puts_56 hl (by decide) rfl (fun ls hl => ?_)
      refine lv_iload hx hb dX10_puts_58 (lv_at hl 0 rfl) ?_
      refine lv_if_eq (tgt := 88) hx hb dX10_puts_60 (by decide) (fun c => ?_) (fun c => absurd c (by decide))
      refine lv_aload_n hx hb dX10_puts_88 rfl (lv_at hl 1 rfl) ?_
      refine lv_aload_n hx hb dX10_puts_89 rfl (lv_at hl 1 rfl) ?_
      refine lv_iload_n hx hb dX10_puts_90 rfl (lv_at hl 2 rfl) ?_
      obtain ⟨r7, h8, hf⟩ := bd_s hf
      refine iv_R (rest := [.ref a0]) (st1 := [.int r7, .ref a0]) C hE hP (c_X10_entryOf l D cI cZ cL cW F a0 a1 a2 a3 a4 a5 a6 k_thrown k_w_3 k_o k_isKept k_went k_wentMany k_waiting k_came k_depth k_isSilent k_x k_packed k_hits k_rues k_soonest k_inAll p1 r7  h8) ok_X10_entryOf qM_X10_118 rfl rfl ⟨(Nat.le_of_ble_eq_true rfl), (Nat.le_of_ble_eq_true rfl)⟩ rfl rfl hl.1 (Nat.le_of_ble_eq_true rfl) ⟨Nat.zero_le _, Nat.zero_le _⟩ dX10_puts_91 rfl rfl ?_
      refine lv_iload_n hx hb dX10_puts_94 rfl (lv_at hl 3 rfl) ?_
      refine lv_iload_n hx hb dX10_puts_95 rfl (lv_at hl 4 rfl) ?_
      refine lv_iload hx hb dX10_puts_96 (lv_at hl 5 rfl) ?_
      obtain ⟨k_w_9, h10, hf⟩ := bd_s hf
      refine iv_A (rest := []) (st1 := []) C hE hP hD hS hA (c_X10_tellsAll l D cI cZ cL cW F a0 a1 a2 a3 a4 a5 a6 k_thrown k_w_3 k_o k_isKept k_went k_wentMany k_waiting k_came k_depth k_isSilent k_x k_packed k_hits k_rues k_soonest k_inAll r7 p2 p3 p4  k_w_9 h10) ok_X10_tellsAll qM_X10_176 rfl rfl ⟨(Nat.le_of_ble_eq_true rfl), (Nat.le_of_ble_eq_true rfl)⟩ rfl rfl hl.1 (Nat.le_of_ble_eq_true rfl) ⟨Nat.zero_le _, Nat.zero_le _⟩ dX10_puts_98 rfl rfl (fun H locs (hP : va_P D vwCl (MX10 cI cZ cL cW a0 a1 a2 a3 a4 a5 a6 k_thrown k_w_9 k_o k_isKept k_went k_wentMany k_waiting k_came k_depth k_isSilent k_x k_packed k_hits k_rues k_soonest k_inAll) H) (hD : va_D A (MX10 cI cZ cL cW a0 a1 a2 a3 a4 a5 a6 k_thrown k_w_9 k_o k_isKept k_went k_wentMany k_waiting k_came k_depth k_isSilent k_x k_packed k_hits k_rues k_soonest k_inAll)) hS => ?_)
      obtain ⟨⟨k32, k33, k34, k35, k36⟩, h37, hf⟩ := bd_s hf
      refine L101 _ F p1 p2 p3 p4 0 k_thrown k_w_9 k_o k_isKept k_went k_wentMany k_waiting k_came k_depth k_isSilent k_x k_packed k_hits k_rues k_soonest k_inAll k32 k33 k34 k35 k36 _ _ ls h37 hP hD hS (lv_sub hl [1, 2, 3, 4, 5, 0] rfl) (fun H locs ls hP hD hS hl => ?_)
      refine lv_iload hx hb dX10_puts_139 (lv_at hl 5 rfl) ?_
      refine lv_if_ne (tgt := 152) hx hb dX10_puts_141 (by decide) (fun c => absurd c (by decide)) (fun c => ?_)
      refine lv_aload_n hx hb dX10_puts_144 rfl (lv_at hl 0 rfl) ?_
      refine lv_iconst (v := 1) hx hb dX10_puts_145 (by decide) ?_
      refine lv_iload_n hx hb dX10_puts_146 rfl (lv_at hl 1 rfl) ?_
      refine lv_iload_n hx hb dX10_puts_147 rfl (lv_at hl 2 rfl) ?_
      refine lv_iload_n hx hb dX10_puts_148 rfl (lv_at hl 3 rfl) ?_
      obtain ⟨⟨k_waiting_38, k_came_39⟩, h40, hf⟩ := bd_s hf
      refine iv_A (rest := []) (st1 := []) C hE hP hD hS hA (c_X10_tells l D cI cZ cL cW F a0 a1 a2 a3 a4 a5 a6 k_thrown k32 k_o k_isKept k33 k34 k35 k36 k_depth k_isSilent k_x k_packed k_hits k_rues k_soonest k_inAll 1 p1 p2 p3  k_waiting_38 k_came_39 h40) ok_X10_tells qM_X10_91 rfl rfl ⟨(Nat.le_of_ble_eq_true rfl), (Nat.le_of_ble_eq_true rfl)⟩ rfl rfl hl.1 (Nat.le_of_ble_eq_true rfl) ⟨Nat.zero_le _, Nat.zero_le _⟩ dX10_puts_149 rfl rfl (fun H locs (hP : va_P D vwCl (MX10 cI cZ cL cW a0 a1 a2 a3 a4 a5 a6 k_thrown k32 k_o k_isKept k33 k34 k_waiting_38 k_came_39 k_depth k_isSilent k_x k_packed k_hits k_rues k_soonest k_inAll) H) (hD : va_D A (MX10 cI cZ cL cW a0 a1 a2 a3 a4 a5 a6 k_thrown k32 k_o k_isKept k33 k34 k_waiting_38 k_came_39 k_depth k_isSilent k_x k_packed k_hits k_rues k_soonest k_inAll)) hS => ?_)
      refine lv_iload hx hb dX10_puts_152 (lv_at hl 5 rfl) ?_
      refine lv_if_eq (tgt := 228) hx hb dX10_puts_154 (by decide) (fun c => ?_) (fun c => absurd c (by decide))
      refine lv_aload_n hx hb dX10_puts_228 rfl (lv_at hl 0 rfl) ?_
      refine lv_aload_n hx hb dX10_puts_229 rfl (lv_at hl 0 rfl) ?_
      refine lv_iload_n hx hb dX10_puts_230 rfl (lv_at hl 1 rfl) ?_
      obtain ⟨r41, h42, hf⟩ := bd_s hf
      refine iv_R (rest := [.ref a0]) (st1 := [.int r41, .ref a0]) C hE hP (c_X10_entryOf l D cI cZ cL cW F a0 a1 a2 a3 a4 a5 a6 k_thrown k32 k_o k_isKept k33 k34 k_waiting_38 k_came_39 k_depth k_isSilent k_x k_packed k_hits k_rues k_soonest k_inAll p1 r41  h42) ok_X10_entryOf qM_X10_118 rfl rfl ⟨(Nat.le_of_ble_eq_true rfl), (Nat.le_of_ble_eq_true rfl)⟩ rfl rfl hl.1 (Nat.le_of_ble_eq_true rfl) ⟨Nat.zero_le _, Nat.zero_le _⟩ dX10_puts_231 rfl rfl ?_
      obtain ⟨k_w_43, h44, hf⟩ := bd_s hf
      refine iv_A (rest := []) (st1 := []) C hE hP hD hS hA (c_X10_uses l D cI cZ cL cW F a0 a1 a2 a3 a4 a5 a6 k_thrown k32 k_o k_isKept k33 k34 k_waiting_38 k_came_39 k_depth k_isSilent k_x k_packed k_hits k_rues k_soonest k_inAll r41  k_w_43 h44) ok_X10_uses qM_X10_182 rfl rfl ⟨(Nat.le_of_ble_eq_true rfl), (Nat.le_of_ble_eq_true rfl)⟩ rfl rfl hl.1 (Nat.le_of_ble_eq_true rfl) ⟨Nat.zero_le _, Nat.zero_le _⟩ dX10_puts_234 rfl rfl (fun H locs (hP : va_P D vwCl (MX10 cI cZ cL cW a0 a1 a2 a3 a4 a5 a6 k_thrown k_w_43 k_o k_isKept k33 k34 k_waiting_38 k_came_39 k_depth k_isSilent k_x k_packed k_hits k_rues k_soonest k_inAll) H) (hD : va_D A (MX10 cI cZ cL cW a0 a1 a2 a3 a4 a5 a6 k_thrown k_w_43 k_o k_isKept k33 k34 k_waiting_38 k_came_39 k_depth k_isSilent k_x k_packed k_hits k_rues k_soonest k_inAll)) hS => ?_)
      refine lv_iload hx hb dX10_puts_237 (lv_at hl 5 rfl) ?_
      obtain ⟨r45, h46, hf⟩ := bd_s hf
      refine is_R (rest := []) (st1 := [.int r45]) C hE va_P_nil (c_X10_flag l D cI cZ cL cW F   0 r45  h46) ok_X10_flag qM_X10_57 rfl rfl ⟨(Nat.le_of_ble_eq_true rfl), (Nat.le_of_ble_eq_true rfl)⟩ hl.1 (Nat.le_of_ble_eq_true rfl) ⟨Nat.zero_le _, Nat.zero_le _⟩ dX10_puts_239 rfl rfl ?_
      cases hf
      exact rw_i C hr hlk hP hD hS dX10_puts_242 rfl
    · have hf := it_p hf c88
      refine lv_iconst (v := 1) hx hb dX10_puts_51 (by decide) ?_
      refine lv_goto (tgt := 56) hx hb dX10_puts_52 (by decide) ?_
      refine lv_istore (lv' := [(5, .int 1), (0, .ref a0), (1, .int p1), (2, .int p2), (3, .int p3), (4, .int p4)]) hx hb dX10_puts_56 hl (by decide) rfl (fun ls hl => ?_)
      refine lv_iload hx hb dX10_puts_58 (lv_at hl 0 rfl) ?_
      refine lv_if_eq (tgt := 88) hx hb dX10_puts_60 (by decide) (fun c => absurd c (by decide)) (fun c => ?_)
      obtain ⟨⟨k56, k57, k58, k59, k60⟩, h61, hf⟩ := bd_s hf
      refine L63 _ F p1 p2 p3 p4 1 k_thrown k_w_3 k_o k_isKept k_went k_wentMany k_waiting k_came k_depth k_isSilent k_x k_packed k_hits k_rues k_soonest k_inAll k56 k57 k58 k59 k60 _ _ ls h61 hP hD hS (lv_sub hl [1, 2, 3, 4, 5, 0] rfl) (fun H locs ls hP hD hS hl => ?_)
      obtain ⟨⟨k62, k63, k64, k65, k66⟩, h67, hf⟩ := bd_s hf
      refine L101 _ F p1 p2 p3 p4 1 k_thrown k56 k_o k_isKept k57 k58 k59 k60 k_depth k_isSilent k_x k_packed k_hits k_rues k_soonest k_inAll k62 k63 k64 k65 k66 _ _ ls h67 hP hD hS (lv_sub hl [0, 1, 2, 3, 4, 5] rfl) (fun H locs ls hP hD hS hl => ?_)
      refine lv_iload hx hb dX10_puts_139 (lv_at hl 5 rfl) ?_
      refine lv_if_ne (tgt := 152) hx hb dX10_puts_141 (by decide) (fun c => ?_) (fun c => absurd c (by decide))
      refine lv_iload hx hb dX10_puts_152 (lv_at hl 5 rfl) ?_
      refine lv_if_eq (tgt := 228) hx hb dX10_puts_154 (by decide) (fun c => absurd c (by decide)) (fun c => ?_)
      refine lv_aload_n hx hb dX10_puts_157 rfl (lv_at hl 0 rfl) ?_
      refine gf_X10 (v := .ref a1) C hE hP 0 1 rfl (by decide) qF_X10_17 rfl dX10_puts_158 ?_
      refine lv_aload_n hx hb dX10_puts_161 rfl (lv_at hl 0 rfl) ?_
      refine gf_X10 (v := .int k_o) C hE hP 0 2 rfl (by decide) qF_X10_41 rfl dX10_puts_162 ?_
      refine lv_iconst (v := 0) hx hb dX10_puts_165 (by decide) ?_
      refine lv_iadd hx hb dX10_puts_166 ?_
      obtain ⟨g87, hf⟩ := it_g hf
      refine va_iald hx hb hE.1 hP 1 0 rfl rfl g87 dX10_puts_167 ?_
      refine lv_istore (lv' := [(6, .int (k62 (Int32.toNatClampNeg (k_o + 0)))), (0, .ref a0), (1, .int p1), (2, .int p2), (3, .int p3), (4, .int p4), (5, .int 1)]) hx hb dX10_puts_168 hl (by decide) rfl (fun ls hl => ?_)
      refine lv_aload_n hx hb dX10_puts_170 rfl (lv_at hl 1 rfl) ?_
      refine gf_X10 (v := .ref a1) C hE hP 0 1 rfl (by decide) qF_X10_17 rfl dX10_puts_171 ?_
      refine lv_aload_n hx hb dX10_puts_174 rfl (lv_at hl 1 rfl) ?_
      refine gf_X10 (v := .int k_o) C hE hP 0 2 rfl (by decide) qF_X10_41 rfl dX10_puts_175 ?_
      refine lv_iconst (v := 0) hx hb dX10_puts_178 (by decide) ?_
      refine lv_iadd hx hb dX10_puts_179 ?_
      refine lv_dup2_11 hx hb dX10_puts_180 rfl rfl ?_
      obtain ⟨g86, hf⟩ := it_g hf
      refine va_iald hx hb hE.1 hP 1 0 rfl rfl g86 dX10_puts_181 ?_
      refine lv_iconst (v := 1) hx hb dX10_puts_182 (by decide) ?_
      refine lv_iadd hx hb dX10_puts_183 ?_
      obtain ⟨g85, hf⟩ := it_g hf
      refine va_iast hx hb hE.1 hP hD hS 1 0 rfl rfl g85 dX10_puts_184 (fun H locs (hP : va_P D vwCl (MX10 cI cZ cL cW a0 a1 a2 a3 a4 a5 a6 k_thrown (upd k62 (Int32.toNatClampNeg (k_o + 0)) ((k62 (Int32.toNatClampNeg (k_o + 0))) + 1)) k_o k_isKept k63 k64 k65 k66 k_depth k_isSilent k_x k_packed k_hits k_rues k_soonest k_inAll) H) (hD : va_D A (MX10 cI cZ cL cW a0 a1 a2 a3 a4 a5 a6 k_thrown (upd k62 (Int32.toNatClampNeg (k_o + 0)) ((k62 (Int32.toNatClampNeg (k_o + 0))) + 1)) k_o k_isKept k63 k64 k65 k66 k_depth k_isSilent k_x k_packed k_hits k_rues k_soonest k_inAll)) hS => ?_)
      refine lv_aload_n hx hb dX10_puts_185 rfl (lv_at hl 1 rfl) ?_
      refine lv_iload hx hb dX10_puts_186 (lv_at hl 0 rfl) ?_
      refine lv_iconst (v := 0) hx hb dX10_puts_188 (by decide) ?_
      refine lv_iload_n hx hb dX10_puts_189 rfl (lv_at hl 2 rfl) ?_
      obtain ⟨k_w_68, h69, hf⟩ := bd_s hf
      refine iv_A (rest := []) (st1 := []) C hE hP hD hS hA (c_X10_sets l D cI cZ cL cW F a0 a1 a2 a3 a4 a5 a6 k_thrown (upd k62 (Int32.toNatClampNeg (k_o + 0)) ((k62 (Int32.toNatClampNeg (k_o + 0))) + 1)) k_o k_isKept k63 k64 k65 k66 k_depth k_isSilent k_x k_packed k_hits k_rues k_soonest k_inAll (k62 (Int32.toNatClampNeg (k_o + 0))) 0 p1  k_w_68 h69) ok_X10_sets qM_X10_121 rfl rfl ⟨(Nat.le_of_ble_eq_true rfl), (Nat.le_of_ble_eq_true rfl)⟩ rfl rfl hl.1 (Nat.le_of_ble_eq_true rfl) ⟨Nat.zero_le _, Nat.zero_le _⟩ dX10_puts_190 rfl rfl (fun H locs (hP : va_P D vwCl (MX10 cI cZ cL cW a0 a1 a2 a3 a4 a5 a6 k_thrown k_w_68 k_o k_isKept k63 k64 k65 k66 k_depth k_isSilent k_x k_packed k_hits k_rues k_soonest k_inAll) H) (hD : va_D A (MX10 cI cZ cL cW a0 a1 a2 a3 a4 a5 a6 k_thrown k_w_68 k_o k_isKept k63 k64 k65 k66 k_depth k_isSilent k_x k_packed k_hits k_rues k_soonest k_inAll)) hS => ?_)
      refine lv_aload_n hx hb dX10_puts_193 rfl (lv_at hl 1 rfl) ?_
      refine lv_iload hx hb dX10_puts_194 (lv_at hl 0 rfl) ?_
      refine lv_iload_n hx hb dX10_puts_196 rfl (lv_at hl 3 rfl) ?_
      refine lv_iload_n hx hb dX10_puts_197 rfl (lv_at hl 4 rfl) ?_
      refine lv_iload hx hb dX10_puts_198 (lv_at hl 5 rfl) ?_
      obtain ⟨k_w_70, h71, hf⟩ := bd_s hf
      refine iv_A (rest := []) (st1 := []) C hE hP hD hS hA (c_X10_tellsAll l D cI cZ cL cW F a0 a1 a2 a3 a4 a5 a6 k_thrown k_w_68 k_o k_isKept k63 k64 k65 k66 k_depth k_isSilent k_x k_packed k_hits k_rues k_soonest k_inAll (k62 (Int32.toNatClampNeg (k_o + 0))) p2 p3 p4  k_w_70 h71) ok_X10_tellsAll qM_X10_176 rfl rfl ⟨(Nat.le_of_ble_eq_true rfl), (Nat.le_of_ble_eq_true rfl)⟩ rfl rfl hl.1 (Nat.le_of_ble_eq_true rfl) ⟨Nat.zero_le _, Nat.zero_le _⟩ dX10_puts_200 rfl rfl (fun H locs (hP : va_P D vwCl (MX10 cI cZ cL cW a0 a1 a2 a3 a4 a5 a6 k_thrown k_w_70 k_o k_isKept k63 k64 k65 k66 k_depth k_isSilent k_x k_packed k_hits k_rues k_soonest k_inAll) H) (hD : va_D A (MX10 cI cZ cL cW a0 a1 a2 a3 a4 a5 a6 k_thrown k_w_70 k_o k_isKept k63 k64 k65 k66 k_depth k_isSilent k_x k_packed k_hits k_rues k_soonest k_inAll)) hS => ?_)
      refine lv_aload_n hx hb dX10_puts_203 rfl (lv_at hl 1 rfl) ?_
      refine lv_iload hx hb dX10_puts_204 (lv_at hl 0 rfl) ?_
      refine lv_iconst (v := 3) hx hb dX10_puts_206 (by decide) ?_
      refine lv_iconst (v := 0) hx hb dX10_puts_207 (by decide) ?_
      obtain ⟨k_w_72, h73, hf⟩ := bd_s hf
      refine iv_A (rest := []) (st1 := []) C hE hP hD hS hA (c_X10_sets l D cI cZ cL cW F a0 a1 a2 a3 a4 a5 a6 k_thrown k_w_70 k_o k_isKept k63 k64 k65 k66 k_depth k_isSilent k_x k_packed k_hits k_rues k_soonest k_inAll (k62 (Int32.toNatClampNeg (k_o + 0))) 3 0  k_w_72 h73) ok_X10_sets qM_X10_121 rfl rfl ⟨(Nat.le_of_ble_eq_true rfl), (Nat.le_of_ble_eq_true rfl)⟩ rfl rfl hl.1 (Nat.le_of_ble_eq_true rfl) ⟨Nat.zero_le _, Nat.zero_le _⟩ dX10_puts_208 rfl rfl (fun H locs (hP : va_P D vwCl (MX10 cI cZ cL cW a0 a1 a2 a3 a4 a5 a6 k_thrown k_w_72 k_o k_isKept k63 k64 k65 k66 k_depth k_isSilent k_x k_packed k_hits k_rues k_soonest k_inAll) H) (hD : va_D A (MX10 cI cZ cL cW a0 a1 a2 a3 a4 a5 a6 k_thrown k_w_72 k_o k_isKept k63 k64 k65 k66 k_depth k_isSilent k_x k_packed k_hits k_rues k_soonest k_inAll)) hS => ?_)
      refine lv_aload_n hx hb dX10_puts_211 rfl (lv_at hl 1 rfl) ?_
      refine lv_iload hx hb dX10_puts_212 (lv_at hl 0 rfl) ?_
      refine lv_bipush (v := 6) hx hb dX10_puts_214 (by decide) ?_
      refine lv_iconst (v := 0) hx hb dX10_puts_216 (by decide) ?_
      obtain ⟨k_w_74, h75, hf⟩ := bd_s hf
      refine iv_A (rest := []) (st1 := []) C hE hP hD hS hA (c_X10_sets l D cI cZ cL cW F a0 a1 a2 a3 a4 a5 a6 k_thrown k_w_72 k_o k_isKept k63 k64 k65 k66 k_depth k_isSilent k_x k_packed k_hits k_rues k_soonest k_inAll (k62 (Int32.toNatClampNeg (k_o + 0))) 6 0  k_w_74 h75) ok_X10_sets qM_X10_121 rfl rfl ⟨(Nat.le_of_ble_eq_true rfl), (Nat.le_of_ble_eq_true rfl)⟩ rfl rfl hl.1 (Nat.le_of_ble_eq_true rfl) ⟨Nat.zero_le _, Nat.zero_le _⟩ dX10_puts_217 rfl rfl (fun H locs (hP : va_P D vwCl (MX10 cI cZ cL cW a0 a1 a2 a3 a4 a5 a6 k_thrown k_w_74 k_o k_isKept k63 k64 k65 k66 k_depth k_isSilent k_x k_packed k_hits k_rues k_soonest k_inAll) H) (hD : va_D A (MX10 cI cZ cL cW a0 a1 a2 a3 a4 a5 a6 k_thrown k_w_74 k_o k_isKept k63 k64 k65 k66 k_depth k_isSilent k_x k_packed k_hits k_rues k_soonest k_inAll)) hS => ?_)
      refine lv_aload_n hx hb dX10_puts_220 rfl (lv_at hl 1 rfl) ?_
      refine lv_iconst (v := 0) hx hb dX10_puts_221 (by decide) ?_
      refine lv_iload_n hx hb dX10_puts_222 rfl (lv_at hl 2 rfl) ?_
      refine lv_iload_n hx hb dX10_puts_223 rfl (lv_at hl 3 rfl) ?_
      refine lv_iload_n hx hb dX10_puts_224 rfl (lv_at hl 4 rfl) ?_
      obtain ⟨⟨k_waiting_76, k_came_77⟩, h78, hf⟩ := bd_s hf
      refine iv_A (rest := []) (st1 := []) C hE hP hD hS hA (c_X10_tells l D cI cZ cL cW F a0 a1 a2 a3 a4 a5 a6 k_thrown k_w_74 k_o k_isKept k63 k64 k65 k66 k_depth k_isSilent k_x k_packed k_hits k_rues k_soonest k_inAll 0 p1 p2 p3  k_waiting_76 k_came_77 h78) ok_X10_tells qM_X10_91 rfl rfl ⟨(Nat.le_of_ble_eq_true rfl), (Nat.le_of_ble_eq_true rfl)⟩ rfl rfl hl.1 (Nat.le_of_ble_eq_true rfl) ⟨Nat.zero_le _, Nat.zero_le _⟩ dX10_puts_225 rfl rfl (fun H locs (hP : va_P D vwCl (MX10 cI cZ cL cW a0 a1 a2 a3 a4 a5 a6 k_thrown k_w_74 k_o k_isKept k63 k64 k_waiting_76 k_came_77 k_depth k_isSilent k_x k_packed k_hits k_rues k_soonest k_inAll) H) (hD : va_D A (MX10 cI cZ cL cW a0 a1 a2 a3 a4 a5 a6 k_thrown k_w_74 k_o k_isKept k63 k64 k_waiting_76 k_came_77 k_depth k_isSilent k_x k_packed k_hits k_rues k_soonest k_inAll)) hS => ?_)
      refine lv_aload_n hx hb dX10_puts_228 rfl (lv_at hl 1 rfl) ?_
      refine lv_aload_n hx hb dX10_puts_229 rfl (lv_at hl 1 rfl) ?_
      refine lv_iload_n hx hb dX10_puts_230 rfl (lv_at hl 2 rfl) ?_
      obtain ⟨r79, h80, hf⟩ := bd_s hf
      refine iv_R (rest := [.ref a0]) (st1 := [.int r79, .ref a0]) C hE hP (c_X10_entryOf l D cI cZ cL cW F a0 a1 a2 a3 a4 a5 a6 k_thrown k_w_74 k_o k_isKept k63 k64 k_waiting_76 k_came_77 k_depth k_isSilent k_x k_packed k_hits k_rues k_soonest k_inAll p1 r79  h80) ok_X10_entryOf qM_X10_118 rfl rfl ⟨(Nat.le_of_ble_eq_true rfl), (Nat.le_of_ble_eq_true rfl)⟩ rfl rfl hl.1 (Nat.le_of_ble_eq_true rfl) ⟨Nat.zero_le _, Nat.zero_le _⟩ dX10_puts_231 rfl rfl ?_
      obtain ⟨k_w_81, h82, hf⟩ := bd_s hf
      refine iv_A (rest := []) (st1 := []) C hE hP hD hS hA (c_X10_uses l D cI cZ cL cW F a0 a1 a2 a3 a4 a5 a6 k_thrown k_w_74 k_o k_isKept k63 k64 k_waiting_76 k_came_77 k_depth k_isSilent k_x k_packed k_hits k_rues k_soonest k_inAll r79  k_w_81 h82) ok_X10_uses qM_X10_182 rfl rfl ⟨(Nat.le_of_ble_eq_true rfl), (Nat.le_of_ble_eq_true rfl)⟩ rfl rfl hl.1 (Nat.le_of_ble_eq_true rfl) ⟨Nat.zero_le _, Nat.zero_le _⟩ dX10_puts_234 rfl rfl (fun H locs (hP : va_P D vwCl (MX10 cI cZ cL cW a0 a1 a2 a3 a4 a5 a6 k_thrown k_w_81 k_o k_isKept k63 k64 k_waiting_76 k_came_77 k_depth k_isSilent k_x k_packed k_hits k_rues k_soonest k_inAll) H) (hD : va_D A (MX10 cI cZ cL cW a0 a1 a2 a3 a4 a5 a6 k_thrown k_w_81 k_o k_isKept k63 k64 k_waiting_76 k_came_77 k_depth k_isSilent k_x k_packed k_hits k_rues k_soonest k_inAll)) hS => ?_)
      refine lv_iload hx hb dX10_puts_237 (lv_at hl 6 rfl) ?_
      obtain ⟨r83, h84, hf⟩ := bd_s hf
      refine is_R (rest := []) (st1 := [.int r83]) C hE va_P_nil (c_X10_flag l D cI cZ cL cW F   1 r83  h84) ok_X10_flag qM_X10_57 rfl rfl ⟨(Nat.le_of_ble_eq_true rfl), (Nat.le_of_ble_eq_true rfl)⟩ hl.1 (Nat.le_of_ble_eq_true rfl) ⟨Nat.zero_le _, Nat.zero_le _⟩ dX10_puts_239 rfl rfl ?_
      cases hf
      exact rw_i C hr hlk hP hD hS dX10_puts_242 rfl
  · have hf := it_n hf c94
    refine lv_aload_n hx hb dX10_puts_9 rfl (lv_at hl 0 rfl) ?_
    refine gf_X10 (v := .ref a1) C hE hP 0 1 rfl (by decide) qF_X10_17 rfl dX10_puts_10 ?_
    refine lv_aload_n hx hb dX10_puts_13 rfl (lv_at hl 0 rfl) ?_
    refine gf_X10 (v := .int k_o) C hE hP 0 2 rfl (by decide) qF_X10_41 rfl dX10_puts_14 ?_
    refine lv_bipush (v := 12) hx hb dX10_puts_17 (by decide) ?_
    refine lv_iadd hx hb dX10_puts_19 ?_
    refine lv_dup2_11 hx hb dX10_puts_20 rfl rfl ?_
    obtain ⟨g93, hf⟩ := it_g hf
    refine va_iald hx hb hE.1 hP 1 0 rfl rfl g93 dX10_puts_21 ?_
    refine lv_iconst (v := 1) hx hb dX10_puts_22 (by decide) ?_
    refine lv_iadd hx hb dX10_puts_23 ?_
    obtain ⟨g92, hf⟩ := it_g hf
    refine va_iast hx hb hE.1 hP hD hS 1 0 rfl rfl g92 dX10_puts_24 (fun H locs (hP : va_P D vwCl (MX10 cI cZ cL cW a0 a1 a2 a3 a4 a5 a6 k_thrown (upd k_w (Int32.toNatClampNeg (k_o + 12)) ((k_w (Int32.toNatClampNeg (k_o + 12))) + 1)) k_o k_isKept k_went k_wentMany k_waiting k_came k_depth k_isSilent k_x k_packed k_hits k_rues k_soonest k_inAll) H) (hD : va_D A (MX10 cI cZ cL cW a0 a1 a2 a3 a4 a5 a6 k_thrown (upd k_w (Int32.toNatClampNeg (k_o + 12)) ((k_w (Int32.toNatClampNeg (k_o + 12))) + 1)) k_o k_isKept k_went k_wentMany k_waiting k_came k_depth k_isSilent k_x k_packed k_hits k_rues k_soonest k_inAll)) hS => ?_)
    refine lv_aload_n hx hb dX10_puts_25 rfl (lv_at hl 0 rfl) ?_
    refine lv_bipush (v := 6) hx hb dX10_puts_26 (by decide) ?_
    refine lv_iload_n hx hb dX10_puts_28 rfl (lv_at hl 1 rfl) ?_
    refine lv_iconst (v := 0) hx hb dX10_puts_29 (by decide) ?_
    refine lv_iload_n hx hb dX10_puts_30 rfl (lv_at hl 3 rfl) ?_
    obtain ⟨⟨k_waiting_89, k_came_90⟩, h91, hf⟩ := bd_s hf
    refine iv_A (rest := []) (st1 := []) C hE hP hD hS hA (c_X10_tells l D cI cZ cL cW F a0 a1 a2 a3 a4 a5 a6 k_thrown (upd k_w (Int32.toNatClampNeg (k_o + 12)) ((k_w (Int32.toNatClampNeg (k_o + 12))) + 1)) k_o k_isKept k_went k_wentMany k_waiting k_came k_depth k_isSilent k_x k_packed k_hits k_rues k_soonest k_inAll 6 p1 0 p3  k_waiting_89 k_came_90 h91) ok_X10_tells qM_X10_91 rfl rfl ⟨(Nat.le_of_ble_eq_true rfl), (Nat.le_of_ble_eq_true rfl)⟩ rfl rfl hl.1 (Nat.le_of_ble_eq_true rfl) ⟨Nat.zero_le _, Nat.zero_le _⟩ dX10_puts_31 rfl rfl (fun H locs (hP : va_P D vwCl (MX10 cI cZ cL cW a0 a1 a2 a3 a4 a5 a6 k_thrown (upd k_w (Int32.toNatClampNeg (k_o + 12)) ((k_w (Int32.toNatClampNeg (k_o + 12))) + 1)) k_o k_isKept k_went k_wentMany k_waiting_89 k_came_90 k_depth k_isSilent k_x k_packed k_hits k_rues k_soonest k_inAll) H) (hD : va_D A (MX10 cI cZ cL cW a0 a1 a2 a3 a4 a5 a6 k_thrown (upd k_w (Int32.toNatClampNeg (k_o + 12)) ((k_w (Int32.toNatClampNeg (k_o + 12))) + 1)) k_o k_isKept k_went k_wentMany k_waiting_89 k_came_90 k_depth k_isSilent k_x k_packed k_hits k_rues k_soonest k_inAll)) hS => ?_)
    refine lv_iconst (v := (-1)) hx hb dX10_puts_34 (by decide) ?_
    cases hf
    exact rw_i C hr hlk hP hD hS dX10_puts_35 rfl
def X10_removes (F : Nat) (p1 : Int32) (k_w : (Nat → Int32)) (k_o : Int32) (k_waiting : (Nat → Int32)) (k_came : Int32) (k_depth : Int32) (k_isSilent : Int32) : Option (Int32 × (Nat → Int32) × (Nat → Int32) × Int32) := (X10_entryOf F p1 k_w k_o).bind fun r1 => (if (r1 : Int32) = (-1) then (some (0, k_w, k_waiting, k_came)) else ((X10_of F r1 1 k_w k_o).bind fun r3 => ((X10_of F r1 2 k_w k_o).bind fun r5 => ((X10_tells F 4 p1 r3 r5 k_waiting k_came k_depth k_isSilent).bind fun (k_waiting_7, k_came_8) => ((X10_goes F r1 k_w k_o).bind fun k_w_10 => (some (1, k_w_10, k_waiting_7, k_came_8)))))))
abbrev rm_X10_removes : Room := { frames := 2, cells := 0, slots := 0, locals := 44 }
theorem ok_X10_removes : OKV RX10 yX10_removes cX10_removes 3 (some .boolean) 1 := ⟨by decide +kernel, qV_X10_removes, qL_X10_removes, qI_X10, qD_X10_removes⟩
set_option maxHeartbeats 4000000 in
set_option maxRecDepth 100000 in
theorem c_X10_removes (l : Launch) (D : va_G) (cI cZ cL cW : ClassId) (F : Nat) (a0 : Nat) (a1 : Nat) (a2 : Nat) (a3 : Nat) (a4 : Nat) (a5 : Nat) (a6 : Nat) (k_thrown : Int32) (k_w : (Nat → Int32)) (k_o : Int32) (k_isKept : (Nat → Int32)) (k_went : (Nat → Int32)) (k_wentMany : Int32) (k_waiting : (Nat → Int32)) (k_came : Int32) (k_depth : Int32) (k_isSilent : Int32) (k_x : Int64) (k_packed : (Nat → Int32)) (k_hits : Int32) (k_rues : Int32) (k_soonest : Int32) (k_inAll : (Nat → Int32)) (p1 : Int32) (r : Int32) (k_w' : (Nat → Int32)) (k_waiting' : (Nat → Int32)) (k_came' : Int32) (hf : X10_removes F p1 k_w k_o k_waiting k_came k_depth k_isSilent = some (r, k_w', k_waiting', k_came')) : CtrW l D (tyL cI cZ cL cW) nestW yX10_removes cX10_removes 3 (some .boolean) rm_X10_removes [.ref a0, .int p1] (MX10 cI cZ cL cW a0 a1 a2 a3 a4 a5 a6 k_thrown k_w k_o k_isKept k_went k_wentMany k_waiting k_came k_depth k_isSilent k_x k_packed k_hits k_rues k_soonest k_inAll) (MX10 cI cZ cL cW a0 a1 a2 a3 a4 a5 a6 k_thrown (k_w') k_o k_isKept k_went k_wentMany (k_waiting') (k_came') k_depth k_isSilent k_x k_packed k_hits k_rues k_soonest k_inAll) (some (.int r)) := by
  refine ofA RX10 (by decide) rfl (Nat.le_of_ble_eq_true rfl) ?_
  intro p e s m below meth c ls A C hr hlk hE hA hP hD hS hl
  generalize (List.toArray ([.ref a0, .int p1] : List Value)) = args at C ⊢
  obtain ⟨hx, hb, hml, hown, ht⟩ := id C
  have hl : lv_has ls 3 [(0, .ref a0), (1, .int p1)] := hl
  refine lv_aload_n hx hb dX10_removes_0 rfl (lv_at hl 0 rfl) ?_
  refine lv_iload_n hx hb dX10_removes_1 rfl (lv_at hl 1 rfl) ?_
  obtain ⟨r1, h2, hf⟩ := bd_s hf
  refine iv_R (rest := []) (st1 := [.int r1]) C hE hP (c_X10_entryOf l D cI cZ cL cW F a0 a1 a2 a3 a4 a5 a6 k_thrown k_w k_o k_isKept k_went k_wentMany k_waiting k_came k_depth k_isSilent k_x k_packed k_hits k_rues k_soonest k_inAll p1 r1  h2) ok_X10_entryOf qM_X10_118 rfl rfl ⟨(Nat.le_of_ble_eq_true rfl), (Nat.le_of_ble_eq_true rfl)⟩ rfl rfl hl.1 (Nat.le_of_ble_eq_true rfl) ⟨Nat.zero_le _, Nat.zero_le _⟩ dX10_removes_2 rfl rfl ?_
  refine lv_istore_n (lv' := [(2, .int r1), (0, .ref a0), (1, .int p1)]) hx hb dX10_removes_5 rfl hl (by decide) rfl (fun ls hl => ?_)
  refine lv_iload_n hx hb dX10_removes_6 rfl (lv_at hl 0 rfl) ?_
  refine lv_iconst (v := (-1)) hx hb dX10_removes_7 (by decide) ?_
  refine lv_icmp_ne (tgt := 13) hx hb dX10_removes_8 (by decide) (fun c12 => ?_) (fun c12 => ?_)
  · have hf := it_n hf c12
    refine lv_aload_n hx hb dX10_removes_13 rfl (lv_at hl 1 rfl) ?_
    refine lv_iconst (v := 4) hx hb dX10_removes_14 (by decide) ?_
    refine lv_iload_n hx hb dX10_removes_15 rfl (lv_at hl 2 rfl) ?_
    refine lv_aload_n hx hb dX10_removes_16 rfl (lv_at hl 1 rfl) ?_
    refine lv_iload_n hx hb dX10_removes_17 rfl (lv_at hl 0 rfl) ?_
    refine lv_iconst (v := 1) hx hb dX10_removes_18 (by decide) ?_
    obtain ⟨r3, h4, hf⟩ := bd_s hf
    refine iv_R (rest := [.int p1, .int 4, .ref a0]) (st1 := [.int r3, .int p1, .int 4, .ref a0]) C hE hP (c_X10_of l D cI cZ cL cW F a0 a1 a2 a3 a4 a5 a6 k_thrown k_w k_o k_isKept k_went k_wentMany k_waiting k_came k_depth k_isSilent k_x k_packed k_hits k_rues k_soonest k_inAll r1 1 r3  h4) ok_X10_of qM_X10_44 rfl rfl ⟨(Nat.le_of_ble_eq_true rfl), (Nat.le_of_ble_eq_true rfl)⟩ rfl rfl hl.1 (Nat.le_of_ble_eq_true rfl) ⟨Nat.zero_le _, Nat.zero_le _⟩ dX10_removes_19 rfl rfl ?_
    refine lv_aload_n hx hb dX10_removes_22 rfl (lv_at hl 1 rfl) ?_
    refine lv_iload_n hx hb dX10_removes_23 rfl (lv_at hl 0 rfl) ?_
    refine lv_iconst (v := 2) hx hb dX10_removes_24 (by decide) ?_
    obtain ⟨r5, h6, hf⟩ := bd_s hf
    refine iv_R (rest := [.int r3, .int p1, .int 4, .ref a0]) (st1 := [.int r5, .int r3, .int p1, .int 4, .ref a0]) C hE hP (c_X10_of l D cI cZ cL cW F a0 a1 a2 a3 a4 a5 a6 k_thrown k_w k_o k_isKept k_went k_wentMany k_waiting k_came k_depth k_isSilent k_x k_packed k_hits k_rues k_soonest k_inAll r1 2 r5  h6) ok_X10_of qM_X10_44 rfl rfl ⟨(Nat.le_of_ble_eq_true rfl), (Nat.le_of_ble_eq_true rfl)⟩ rfl rfl hl.1 (Nat.le_of_ble_eq_true rfl) ⟨Nat.zero_le _, Nat.zero_le _⟩ dX10_removes_25 rfl rfl ?_
    obtain ⟨⟨k_waiting_7, k_came_8⟩, h9, hf⟩ := bd_s hf
    refine iv_A (rest := []) (st1 := []) C hE hP hD hS hA (c_X10_tells l D cI cZ cL cW F a0 a1 a2 a3 a4 a5 a6 k_thrown k_w k_o k_isKept k_went k_wentMany k_waiting k_came k_depth k_isSilent k_x k_packed k_hits k_rues k_soonest k_inAll 4 p1 r3 r5  k_waiting_7 k_came_8 h9) ok_X10_tells qM_X10_91 rfl rfl ⟨(Nat.le_of_ble_eq_true rfl), (Nat.le_of_ble_eq_true rfl)⟩ rfl rfl hl.1 (Nat.le_of_ble_eq_true rfl) ⟨Nat.zero_le _, Nat.zero_le _⟩ dX10_removes_28 rfl rfl (fun H locs (hP : va_P D vwCl (MX10 cI cZ cL cW a0 a1 a2 a3 a4 a5 a6 k_thrown k_w k_o k_isKept k_went k_wentMany k_waiting_7 k_came_8 k_depth k_isSilent k_x k_packed k_hits k_rues k_soonest k_inAll) H) (hD : va_D A (MX10 cI cZ cL cW a0 a1 a2 a3 a4 a5 a6 k_thrown k_w k_o k_isKept k_went k_wentMany k_waiting_7 k_came_8 k_depth k_isSilent k_x k_packed k_hits k_rues k_soonest k_inAll)) hS => ?_)
    refine lv_aload_n hx hb dX10_removes_31 rfl (lv_at hl 1 rfl) ?_
    refine lv_iload_n hx hb dX10_removes_32 rfl (lv_at hl 0 rfl) ?_
    obtain ⟨k_w_10, h11, hf⟩ := bd_s hf
    refine iv_A (rest := []) (st1 := []) C hE hP hD hS hA (c_X10_goes l D cI cZ cL cW F a0 a1 a2 a3 a4 a5 a6 k_thrown k_w k_o k_isKept k_went k_wentMany k_waiting_7 k_came_8 k_depth k_isSilent k_x k_packed k_hits k_rues k_soonest k_inAll r1  k_w_10 h11) ok_X10_goes qM_X10_101 rfl rfl ⟨(Nat.le_of_ble_eq_true rfl), (Nat.le_of_ble_eq_true rfl)⟩ rfl rfl hl.1 (Nat.le_of_ble_eq_true rfl) ⟨Nat.zero_le _, Nat.zero_le _⟩ dX10_removes_33 rfl rfl (fun H locs (hP : va_P D vwCl (MX10 cI cZ cL cW a0 a1 a2 a3 a4 a5 a6 k_thrown k_w_10 k_o k_isKept k_went k_wentMany k_waiting_7 k_came_8 k_depth k_isSilent k_x k_packed k_hits k_rues k_soonest k_inAll) H) (hD : va_D A (MX10 cI cZ cL cW a0 a1 a2 a3 a4 a5 a6 k_thrown k_w_10 k_o k_isKept k_went k_wentMany k_waiting_7 k_came_8 k_depth k_isSilent k_x k_packed k_hits k_rues k_soonest k_inAll)) hS => ?_)
    refine lv_iconst (v := 1) hx hb dX10_removes_36 (by decide) ?_
    cases hf
    exact rw_z C hr hlk (by decide) hP hD hS dX10_removes_37 rfl
  · have hf := it_p hf c12
    refine lv_iconst (v := 0) hx hb dX10_removes_11 (by decide) ?_
    cases hf
    exact rw_z C hr hlk (by decide) hP hD hS dX10_removes_12 rfl
def X10_acts (F : Nat) (p1 : Int32) (p2 : Int32) (p3 : Int32) (k_w : (Nat → Int32)) (k_o : Int32) (k_went : (Nat → Int32)) (k_wentMany : Int32) (k_waiting : (Nat → Int32)) (k_came : Int32) (k_depth : Int32) (k_isSilent : Int32) : Option (Int32 × (Nat → Int32) × (Nat → Int32) × Int32 × (Nat → Int32) × Int32) := (X10_hearerAt F p1 k_o).bind fun r1 => (if ((r1 + 4) : Int32) < 0 ∨ 3392 ≤ (Int32.toNatClampNeg (r1 + 4)) then none else (if ((r1 + 3) : Int32) < 0 ∨ 3392 ≤ (Int32.toNatClampNeg (r1 + 3)) then none else (if (k_w (Int32.toNatClampNeg (r1 + 3))) = 1 then (if ((r1 + 5) : Int32) < 0 ∨ 3392 ≤ (Int32.toNatClampNeg (r1 + 5)) then none else ((X10_puts F ((((p2 + (k_w (Int32.toNatClampNeg (r1 + 4)))) - (p2 + (k_w (Int32.toNatClampNeg (r1 + 4)))) / 1000 * 1000) + 1000) - (((p2 + (k_w (Int32.toNatClampNeg (r1 + 4)))) - (p2 + (k_w (Int32.toNatClampNeg (r1 + 4)))) / 1000 * 1000) + 1000) / 1000 * 1000) p3 (k_w (Int32.toNatClampNeg (r1 + 5))) (-1) k_w k_o k_went k_wentMany k_waiting k_came k_depth k_isSilent).bind fun (r4, k_w_5, k_went_6, k_wentMany_7, k_waiting_8, k_came_9) => (if (r4 : Int32) = (-1) then (some (0, k_w_5, k_went_6, k_wentMany_7, k_waiting_8, k_came_9)) else (some (1, k_w_5, k_went_6, k_wentMany_7, k_waiting_8, k_came_9))))) else (if (k_w (Int32.toNatClampNeg (r1 + 3))) = 2 then ((X10_gets F ((((p2 + (k_w (Int32.toNatClampNeg (r1 + 4)))) - (p2 + (k_w (Int32.toNatClampNeg (r1 + 4)))) / 1000 * 1000) + 1000) - (((p2 + (k_w (Int32.toNatClampNeg (r1 + 4)))) - (p2 + (k_w (Int32.toNatClampNeg (r1 + 4)))) / 1000 * 1000) + 1000) / 1000 * 1000) k_w k_o k_waiting k_came k_depth k_isSilent).bind fun (r14, k_w_15, k_waiting_16, k_came_17) => (if ¬ (r14 = 0 ∨ r14 = 1) then none else (some (r14, k_w_15, k_went, k_wentMany, k_waiting_16, k_came_17)))) else (if (k_w (Int32.toNatClampNeg (r1 + 3))) = 3 then ((X10_removes F ((((p2 + (k_w (Int32.toNatClampNeg (r1 + 4)))) - (p2 + (k_w (Int32.toNatClampNeg (r1 + 4)))) / 1000 * 1000) + 1000) - (((p2 + (k_w (Int32.toNatClampNeg (r1 + 4)))) - (p2 + (k_w (Int32.toNatClampNeg (r1 + 4)))) / 1000 * 1000) + 1000) / 1000 * 1000) k_w k_o k_waiting k_came k_depth k_isSilent).bind fun (r21, k_w_22, k_waiting_23, k_came_24) => (if ¬ (r21 = 0 ∨ r21 = 1) then none else (some (r21, k_w_22, k_went, k_wentMany, k_waiting_23, k_came_24)))) else (if (k_w (Int32.toNatClampNeg (r1 + 3))) = 4 then ((X10_pins F ((((p2 + (k_w (Int32.toNatClampNeg (r1 + 4)))) - (p2 + (k_w (Int32.toNatClampNeg (r1 + 4)))) / 1000 * 1000) + 1000) - (((p2 + (k_w (Int32.toNatClampNeg (r1 + 4)))) - (p2 + (k_w (Int32.toNatClampNeg (r1 + 4)))) / 1000 * 1000) + 1000) / 1000 * 1000) 1 k_w k_o).bind fun (r28, k_w_29) => (if ¬ (r28 = 0 ∨ r28 = 1) then none else (some (r28, k_w_29, k_went, k_wentMany, k_waiting, k_came)))) else (if (k_w (Int32.toNatClampNeg (r1 + 3))) = 5 then ((X10_pins F ((((p2 + (k_w (Int32.toNatClampNeg (r1 + 4)))) - (p2 + (k_w (Int32.toNatClampNeg (r1 + 4)))) / 1000 * 1000) + 1000) - (((p2 + (k_w (Int32.toNatClampNeg (r1 + 4)))) - (p2 + (k_w (Int32.toNatClampNeg (r1 + 4)))) / 1000 * 1000) + 1000) / 1000 * 1000) 0 k_w k_o).bind fun (r33, k_w_34) => (if ¬ (r33 = 0 ∨ r33 = 1) then none else (some (r33, k_w_34, k_went, k_wentMany, k_waiting, k_came)))) else (if (k_w (Int32.toNatClampNeg (r1 + 3))) = 6 then ((X10_capsBy F (k_w (Int32.toNatClampNeg (r1 + 4))) k_w k_o k_went k_wentMany k_waiting k_came k_depth k_isSilent).bind fun (r38, k_w_39, k_went_40, k_wentMany_41, k_waiting_42, k_came_43) => (if ¬ (r38 = 0 ∨ r38 = 1) then none else (some (r38, k_w_39, k_went_40, k_wentMany_41, k_waiting_42, k_came_43)))) else (some (0, k_w, k_went, k_wentMany, k_waiting, k_came))))))))))
abbrev rm_X10_acts : Room := { frames := 8, cells := 0, slots := 0, locals := 183 }
theorem ok_X10_acts : OKV RX10 yX10_acts cX10_acts 7 (some .boolean) 3 := ⟨by decide +kernel, qV_X10_acts, qL_X10_acts, qI_X10, qD_X10_acts⟩
set_option maxHeartbeats 4000000 in
set_option maxRecDepth 100000 in
theorem c_X10_acts (l : Launch) (D : va_G) (cI cZ cL cW : ClassId) (F : Nat) (a0 : Nat) (a1 : Nat) (a2 : Nat) (a3 : Nat) (a4 : Nat) (a5 : Nat) (a6 : Nat) (k_thrown : Int32) (k_w : (Nat → Int32)) (k_o : Int32) (k_isKept : (Nat → Int32)) (k_went : (Nat → Int32)) (k_wentMany : Int32) (k_waiting : (Nat → Int32)) (k_came : Int32) (k_depth : Int32) (k_isSilent : Int32) (k_x : Int64) (k_packed : (Nat → Int32)) (k_hits : Int32) (k_rues : Int32) (k_soonest : Int32) (k_inAll : (Nat → Int32)) (p1 : Int32) (p2 : Int32) (p3 : Int32) (r : Int32) (k_w' : (Nat → Int32)) (k_went' : (Nat → Int32)) (k_wentMany' : Int32) (k_waiting' : (Nat → Int32)) (k_came' : Int32) (hf : X10_acts F p1 p2 p3 k_w k_o k_went k_wentMany k_waiting k_came k_depth k_isSilent = some (r, k_w', k_went', k_wentMany', k_waiting', k_came')) : CtrW l D (tyL cI cZ cL cW) nestW yX10_acts cX10_acts 7 (some .boolean) rm_X10_acts [.ref a0, .int p1, .int p2, .int p3] (MX10 cI cZ cL cW a0 a1 a2 a3 a4 a5 a6 k_thrown k_w k_o k_isKept k_went k_wentMany k_waiting k_came k_depth k_isSilent k_x k_packed k_hits k_rues k_soonest k_inAll) (MX10 cI cZ cL cW a0 a1 a2 a3 a4 a5 a6 k_thrown (k_w') k_o k_isKept (k_went') (k_wentMany') (k_waiting') (k_came') k_depth k_isSilent k_x k_packed k_hits k_rues k_soonest k_inAll) (some (.int r)) := by
  refine ofA RX10 (by decide) rfl (Nat.le_of_ble_eq_true rfl) ?_
  intro p e s m below meth c ls A C hr hlk hE hA hP hD hS hl
  generalize (List.toArray ([.ref a0, .int p1, .int p2, .int p3] : List Value)) = args at C ⊢
  obtain ⟨hx, hb, hml, hown, ht⟩ := id C
  have hl : lv_has ls 7 [(0, .ref a0), (1, .int p1), (2, .int p2), (3, .int p3)] := hl
  refine lv_aload_n hx hb dX10_acts_0 rfl (lv_at hl 0 rfl) ?_
  refine lv_iload_n hx hb dX10_acts_1 rfl (lv_at hl 1 rfl) ?_
  obtain ⟨r1, h2, hf⟩ := bd_s hf
  refine iv_R (rest := []) (st1 := [.int r1]) C hE hP (c_X10_hearerAt l D cI cZ cL cW F a0 a1 a2 a3 a4 a5 a6 k_thrown k_w k_o k_isKept k_went k_wentMany k_waiting k_came k_depth k_isSilent k_x k_packed k_hits k_rues k_soonest k_inAll p1 r1  h2) ok_X10_hearerAt qM_X10_115 rfl rfl ⟨(Nat.le_of_ble_eq_true rfl), (Nat.le_of_ble_eq_true rfl)⟩ rfl rfl hl.1 (Nat.le_of_ble_eq_true rfl) ⟨Nat.zero_le _, Nat.zero_le _⟩ dX10_acts_2 rfl rfl ?_
  refine lv_istore (lv' := [(4, .int r1), (0, .ref a0), (1, .int p1), (2, .int p2), (3, .int p3)]) hx hb dX10_acts_5 hl (by decide) rfl (fun ls hl => ?_)
  refine lv_aload_n hx hb dX10_acts_7 rfl (lv_at hl 1 rfl) ?_
  refine gf_X10 (v := .ref a1) C hE hP 0 1 rfl (by decide) qF_X10_17 rfl dX10_acts_8 ?_
  refine lv_iload hx hb dX10_acts_11 (lv_at hl 0 rfl) ?_
  refine lv_iconst (v := 4) hx hb dX10_acts_13 (by decide) ?_
  refine lv_iadd hx hb dX10_acts_14 ?_
  obtain ⟨g47, hf⟩ := it_g hf
  refine va_iald hx hb hE.1 hP 1 0 rfl rfl g47 dX10_acts_15 ?_
  refine lv_istore (lv' := [(5, .int (k_w (Int32.toNatClampNeg (r1 + 4)))), (4, .int r1), (0, .ref a0), (1, .int p1), (2, .int p2), (3, .int p3)]) hx hb dX10_acts_16 hl (by decide) rfl (fun ls hl => ?_)
  refine lv_iload_n hx hb dX10_acts_18 rfl (lv_at hl 4 rfl) ?_
  refine lv_iload hx hb dX10_acts_19 (lv_at hl 0 rfl) ?_
  refine lv_iadd hx hb dX10_acts_21 ?_
  refine lv_sipush (v := 1000) hx hb dX10_acts_22 (by decide) ?_
  refine lv_irem hx hb dX10_acts_25 (by decide) ?_
  refine lv_sipush (v := 1000) hx hb dX10_acts_26 (by decide) ?_
  refine lv_iadd hx hb dX10_acts_29 ?_
  refine lv_sipush (v := 1000) hx hb dX10_acts_30 (by decide) ?_
  refine lv_irem hx hb dX10_acts_33 (by decide) ?_
  refine lv_istore (lv' := [(6, .int ((((p2 + (k_w (Int32.toNatClampNeg (r1 + 4)))) - (p2 + (k_w (Int32.toNatClampNeg (r1 + 4)))) / 1000 * 1000) + 1000) - (((p2 + (k_w (Int32.toNatClampNeg (r1 + 4)))) - (p2 + (k_w (Int32.toNatClampNeg (r1 + 4)))) / 1000 * 1000) + 1000) / 1000 * 1000)), (5, .int (k_w (Int32.toNatClampNeg (r1 + 4)))), (4, .int r1), (0, .ref a0), (1, .int p1), (2, .int p2), (3, .int p3)]) hx hb dX10_acts_34 hl (by decide) rfl (fun ls hl => ?_)
  refine lv_aload_n hx hb dX10_acts_36 rfl (lv_at hl 3 rfl) ?_
  refine gf_X10 (v := .ref a1) C hE hP 0 1 rfl (by decide) qF_X10_17 rfl dX10_acts_37 ?_
  refine lv_iload hx hb dX10_acts_40 (lv_at hl 2 rfl) ?_
  refine lv_iconst (v := 3) hx hb dX10_acts_42 (by decide) ?_
  refine lv_iadd hx hb dX10_acts_43 ?_
  obtain ⟨g46, hf⟩ := it_g hf
  refine va_iald hx hb hE.1 hP 1 0 rfl rfl g46 dX10_acts_44 ?_
  by_cases e3 : (k_w (Int32.toNatClampNeg (r1 + 3))) = 1
  · have hf := it_p hf e3
    refine lv_tableIn (off := 39) (tgt := 84) hx hb dX10_acts_45 (by rw [e3]; decide) (by rw [e3]; decide) (by rw [e3]; decide) (by decide) ?_
    refine lv_aload_n hx hb dX10_acts_84 rfl (lv_at hl 3 rfl) ?_
    refine lv_iload hx hb dX10_acts_85 (lv_at hl 0 rfl) ?_
    refine lv_iload_n hx hb dX10_acts_87 rfl (lv_at hl 6 rfl) ?_
    refine lv_aload_n hx hb dX10_acts_88 rfl (lv_at hl 3 rfl) ?_
    refine gf_X10 (v := .ref a1) C hE hP 0 1 rfl (by decide) qF_X10_17 rfl dX10_acts_89 ?_
    refine lv_iload hx hb dX10_acts_92 (lv_at hl 2 rfl) ?_
    refine lv_iconst (v := 5) hx hb dX10_acts_94 (by decide) ?_
    refine lv_iadd hx hb dX10_acts_95 ?_
    obtain ⟨g12, hf⟩ := it_g hf
    refine va_iald hx hb hE.1 hP 1 0 rfl rfl g12 dX10_acts_96 ?_
    refine lv_iconst (v := (-1)) hx hb dX10_acts_97 (by decide) ?_
    obtain ⟨⟨r4, k_w_5, k_went_6, k_wentMany_7, k_waiting_8, k_came_9⟩, h10, hf⟩ := bd_s hf
    refine iv_A (rest := []) (st1 := [.int r4]) C hE hP hD hS hA (c_X10_puts l D cI cZ cL cW F a0 a1 a2 a3 a4 a5 a6 k_thrown k_w k_o k_isKept k_went k_wentMany k_waiting k_came k_depth k_isSilent k_x k_packed k_hits k_rues k_soonest k_inAll ((((p2 + (k_w (Int32.toNatClampNeg (r1 + 4)))) - (p2 + (k_w (Int32.toNatClampNeg (r1 + 4)))) / 1000 * 1000) + 1000) - (((p2 + (k_w (Int32.toNatClampNeg (r1 + 4)))) - (p2 + (k_w (Int32.toNatClampNeg (r1 + 4)))) / 1000 * 1000) + 1000) / 1000 * 1000) p3 (k_w (Int32.toNatClampNeg (r1 + 5))) (-1) r4 k_w_5 k_went_6 k_wentMany_7 k_waiting_8 k_came_9 h10) ok_X10_puts qM_X10_133 rfl rfl ⟨(Nat.le_of_ble_eq_true rfl), (Nat.le_of_ble_eq_true rfl)⟩ rfl rfl hl.1 (Nat.le_of_ble_eq_true rfl) ⟨Nat.zero_le _, Nat.zero_le _⟩ dX10_acts_98 rfl rfl (fun H locs (hP : va_P D vwCl (MX10 cI cZ cL cW a0 a1 a2 a3 a4 a5 a6 k_thrown k_w_5 k_o k_isKept k_went_6 k_wentMany_7 k_waiting_8 k_came_9 k_depth k_isSilent k_x k_packed k_hits k_rues k_soonest k_inAll) H) (hD : va_D A (MX10 cI cZ cL cW a0 a1 a2 a3 a4 a5 a6 k_thrown k_w_5 k_o k_isKept k_went_6 k_wentMany_7 k_waiting_8 k_came_9 k_depth k_isSilent k_x k_packed k_hits k_rues k_soonest k_inAll)) hS => ?_)
    refine lv_iconst (v := (-1)) hx hb dX10_acts_101 (by decide) ?_
    refine lv_icmp_eq (tgt := 109) hx hb dX10_acts_102 (by decide) (fun c11 => ?_) (fun c11 => ?_)
    · have hf := it_p hf c11
      refine lv_iconst (v := 0) hx hb dX10_acts_109 (by decide) ?_
      cases hf
      exact rw_z C hr hlk (by decide) hP hD hS dX10_acts_110 rfl
    · have hf := it_n hf c11
      refine lv_iconst (v := 1) hx hb dX10_acts_105 (by decide) ?_
      refine lv_goto (tgt := 110) hx hb dX10_acts_106 (by decide) ?_
      cases hf
      exact rw_z C hr hlk (by decide) hP hD hS dX10_acts_110 rfl
  have hf := it_n hf e3
  by_cases e13 : (k_w (Int32.toNatClampNeg (r1 + 3))) = 2
  · have hf := it_p hf e13
    refine lv_tableIn (off := 66) (tgt := 111) hx hb dX10_acts_45 (by rw [e13]; decide) (by rw [e13]; decide) (by rw [e13]; decide) (by decide) ?_
    refine lv_aload_n hx hb dX10_acts_111 rfl (lv_at hl 3 rfl) ?_
    refine lv_iload hx hb dX10_acts_112 (lv_at hl 0 rfl) ?_
    obtain ⟨⟨r14, k_w_15, k_waiting_16, k_came_17⟩, h18, hf⟩ := bd_s hf
    refine iv_A (rest := []) (st1 := [.int r14]) C hE hP hD hS hA (c_X10_gets l D cI cZ cL cW F a0 a1 a2 a3 a4 a5 a6 k_thrown k_w k_o k_isKept k_went k_wentMany k_waiting k_came k_depth k_isSilent k_x k_packed k_hits k_rues k_soonest k_inAll ((((p2 + (k_w (Int32.toNatClampNeg (r1 + 4)))) - (p2 + (k_w (Int32.toNatClampNeg (r1 + 4)))) / 1000 * 1000) + 1000) - (((p2 + (k_w (Int32.toNatClampNeg (r1 + 4)))) - (p2 + (k_w (Int32.toNatClampNeg (r1 + 4)))) / 1000 * 1000) + 1000) / 1000 * 1000) r14 k_w_15 k_waiting_16 k_came_17 h18) ok_X10_gets qM_X10_137 rfl rfl ⟨(Nat.le_of_ble_eq_true rfl), (Nat.le_of_ble_eq_true rfl)⟩ rfl rfl hl.1 (Nat.le_of_ble_eq_true rfl) ⟨Nat.zero_le _, Nat.zero_le _⟩ dX10_acts_114 rfl rfl (fun H locs (hP : va_P D vwCl (MX10 cI cZ cL cW a0 a1 a2 a3 a4 a5 a6 k_thrown k_w_15 k_o k_isKept k_went k_wentMany k_waiting_16 k_came_17 k_depth k_isSilent k_x k_packed k_hits k_rues k_soonest k_inAll) H) (hD : va_D A (MX10 cI cZ cL cW a0 a1 a2 a3 a4 a5 a6 k_thrown k_w_15 k_o k_isKept k_went k_wentMany k_waiting_16 k_came_17 k_depth k_isSilent k_x k_packed k_hits k_rues k_soonest k_inAll)) hS => ?_)
    obtain ⟨g19, hf⟩ := it_g hf
    cases hf
    exact rw_z C hr hlk (zb_n g19) hP hD hS dX10_acts_117 rfl
  have hf := it_n hf e13
  by_cases e20 : (k_w (Int32.toNatClampNeg (r1 + 3))) = 3
  · have hf := it_p hf e20
    refine lv_tableIn (off := 73) (tgt := 118) hx hb dX10_acts_45 (by rw [e20]; decide) (by rw [e20]; decide) (by rw [e20]; decide) (by decide) ?_
    refine lv_aload_n hx hb dX10_acts_118 rfl (lv_at hl 3 rfl) ?_
    refine lv_iload hx hb dX10_acts_119 (lv_at hl 0 rfl) ?_
    obtain ⟨⟨r21, k_w_22, k_waiting_23, k_came_24⟩, h25, hf⟩ := bd_s hf
    refine iv_A (rest := []) (st1 := [.int r21]) C hE hP hD hS hA (c_X10_removes l D cI cZ cL cW F a0 a1 a2 a3 a4 a5 a6 k_thrown k_w k_o k_isKept k_went k_wentMany k_waiting k_came k_depth k_isSilent k_x k_packed k_hits k_rues k_soonest k_inAll ((((p2 + (k_w (Int32.toNatClampNeg (r1 + 4)))) - (p2 + (k_w (Int32.toNatClampNeg (r1 + 4)))) / 1000 * 1000) + 1000) - (((p2 + (k_w (Int32.toNatClampNeg (r1 + 4)))) - (p2 + (k_w (Int32.toNatClampNeg (r1 + 4)))) / 1000 * 1000) + 1000) / 1000 * 1000) r21 k_w_22 k_waiting_23 k_came_24 h25) ok_X10_removes qM_X10_141 rfl rfl ⟨(Nat.le_of_ble_eq_true rfl), (Nat.le_of_ble_eq_true rfl)⟩ rfl rfl hl.1 (Nat.le_of_ble_eq_true rfl) ⟨Nat.zero_le _, Nat.zero_le _⟩ dX10_acts_121 rfl rfl (fun H locs (hP : va_P D vwCl (MX10 cI cZ cL cW a0 a1 a2 a3 a4 a5 a6 k_thrown k_w_22 k_o k_isKept k_went k_wentMany k_waiting_23 k_came_24 k_depth k_isSilent k_x k_packed k_hits k_rues k_soonest k_inAll) H) (hD : va_D A (MX10 cI cZ cL cW a0 a1 a2 a3 a4 a5 a6 k_thrown k_w_22 k_o k_isKept k_went k_wentMany k_waiting_23 k_came_24 k_depth k_isSilent k_x k_packed k_hits k_rues k_soonest k_inAll)) hS => ?_)
    obtain ⟨g26, hf⟩ := it_g hf
    cases hf
    exact rw_z C hr hlk (zb_n g26) hP hD hS dX10_acts_124 rfl
  have hf := it_n hf e20
  by_cases e27 : (k_w (Int32.toNatClampNeg (r1 + 3))) = 4
  · have hf := it_p hf e27
    refine lv_tableIn (off := 80) (tgt := 125) hx hb dX10_acts_45 (by rw [e27]; decide) (by rw [e27]; decide) (by rw [e27]; decide) (by decide) ?_
    refine lv_aload_n hx hb dX10_acts_125 rfl (lv_at hl 3 rfl) ?_
    refine lv_iload hx hb dX10_acts_126 (lv_at hl 0 rfl) ?_
    refine lv_iconst (v := 1) hx hb dX10_acts_128 (by decide) ?_
    obtain ⟨⟨r28, k_w_29⟩, h30, hf⟩ := bd_s hf
    refine iv_A (rest := []) (st1 := [.int r28]) C hE hP hD hS hA (c_X10_pins l D cI cZ cL cW F a0 a1 a2 a3 a4 a5 a6 k_thrown k_w k_o k_isKept k_went k_wentMany k_waiting k_came k_depth k_isSilent k_x k_packed k_hits k_rues k_soonest k_inAll ((((p2 + (k_w (Int32.toNatClampNeg (r1 + 4)))) - (p2 + (k_w (Int32.toNatClampNeg (r1 + 4)))) / 1000 * 1000) + 1000) - (((p2 + (k_w (Int32.toNatClampNeg (r1 + 4)))) - (p2 + (k_w (Int32.toNatClampNeg (r1 + 4)))) / 1000 * 1000) + 1000) / 1000 * 1000) 1 r28 k_w_29 h30) ok_X10_pins qM_X10_144 rfl rfl ⟨(Nat.le_of_ble_eq_true rfl), (Nat.le_of_ble_eq_true rfl)⟩ rfl rfl hl.1 (Nat.le_of_ble_eq_true rfl) ⟨Nat.zero_le _, Nat.zero_le _⟩ dX10_acts_129 rfl rfl (fun H locs (hP : va_P D vwCl (MX10 cI cZ cL cW a0 a1 a2 a3 a4 a5 a6 k_thrown k_w_29 k_o k_isKept k_went k_wentMany k_waiting k_came k_depth k_isSilent k_x k_packed k_hits k_rues k_soonest k_inAll) H) (hD : va_D A (MX10 cI cZ cL cW a0 a1 a2 a3 a4 a5 a6 k_thrown k_w_29 k_o k_isKept k_went k_wentMany k_waiting k_came k_depth k_isSilent k_x k_packed k_hits k_rues k_soonest k_inAll)) hS => ?_)
    obtain ⟨g31, hf⟩ := it_g hf
    cases hf
    exact rw_z C hr hlk (zb_n g31) hP hD hS dX10_acts_132 rfl
  have hf := it_n hf e27
  by_cases e32 : (k_w (Int32.toNatClampNeg (r1 + 3))) = 5
  · have hf := it_p hf e32
    refine lv_tableIn (off := 88) (tgt := 133) hx hb dX10_acts_45 (by rw [e32]; decide) (by rw [e32]; decide) (by rw [e32]; decide) (by decide) ?_
    refine lv_aload_n hx hb dX10_acts_133 rfl (lv_at hl 3 rfl) ?_
    refine lv_iload hx hb dX10_acts_134 (lv_at hl 0 rfl) ?_
    refine lv_iconst (v := 0) hx hb dX10_acts_136 (by decide) ?_
    obtain ⟨⟨r33, k_w_34⟩, h35, hf⟩ := bd_s hf
    refine iv_A (rest := []) (st1 := [.int r33]) C hE hP hD hS hA (c_X10_pins l D cI cZ cL cW F a0 a1 a2 a3 a4 a5 a6 k_thrown k_w k_o k_isKept k_went k_wentMany k_waiting k_came k_depth k_isSilent k_x k_packed k_hits k_rues k_soonest k_inAll ((((p2 + (k_w (Int32.toNatClampNeg (r1 + 4)))) - (p2 + (k_w (Int32.toNatClampNeg (r1 + 4)))) / 1000 * 1000) + 1000) - (((p2 + (k_w (Int32.toNatClampNeg (r1 + 4)))) - (p2 + (k_w (Int32.toNatClampNeg (r1 + 4)))) / 1000 * 1000) + 1000) / 1000 * 1000) 0 r33 k_w_34 h35) ok_X10_pins qM_X10_144 rfl rfl ⟨(Nat.le_of_ble_eq_true rfl), (Nat.le_of_ble_eq_true rfl)⟩ rfl rfl hl.1 (Nat.le_of_ble_eq_true rfl) ⟨Nat.zero_le _, Nat.zero_le _⟩ dX10_acts_137 rfl rfl (fun H locs (hP : va_P D vwCl (MX10 cI cZ cL cW a0 a1 a2 a3 a4 a5 a6 k_thrown k_w_34 k_o k_isKept k_went k_wentMany k_waiting k_came k_depth k_isSilent k_x k_packed k_hits k_rues k_soonest k_inAll) H) (hD : va_D A (MX10 cI cZ cL cW a0 a1 a2 a3 a4 a5 a6 k_thrown k_w_34 k_o k_isKept k_went k_wentMany k_waiting k_came k_depth k_isSilent k_x k_packed k_hits k_rues k_soonest k_inAll)) hS => ?_)
    obtain ⟨g36, hf⟩ := it_g hf
    cases hf
    exact rw_z C hr hlk (zb_n g36) hP hD hS dX10_acts_140 rfl
  have hf := it_n hf e32
  by_cases e37 : (k_w (Int32.toNatClampNeg (r1 + 3))) = 6
  · have hf := it_p hf e37
    refine lv_tableIn (off := 96) (tgt := 141) hx hb dX10_acts_45 (by rw [e37]; decide) (by rw [e37]; decide) (by rw [e37]; decide) (by decide) ?_
    refine lv_aload_n hx hb dX10_acts_141 rfl (lv_at hl 3 rfl) ?_
    refine lv_iload hx hb dX10_acts_142 (lv_at hl 1 rfl) ?_
    obtain ⟨⟨r38, k_w_39, k_went_40, k_wentMany_41, k_waiting_42, k_came_43⟩, h44, hf⟩ := bd_s hf
    refine iv_A (rest := []) (st1 := [.int r38]) C hE hP hD hS hA (c_X10_capsBy l D cI cZ cL cW F a0 a1 a2 a3 a4 a5 a6 k_thrown k_w k_o k_isKept k_went k_wentMany k_waiting k_came k_depth k_isSilent k_x k_packed k_hits k_rues k_soonest k_inAll (k_w (Int32.toNatClampNeg (r1 + 4))) r38 k_w_39 k_went_40 k_wentMany_41 k_waiting_42 k_came_43 h44) ok_X10_capsBy qM_X10_147 rfl rfl ⟨(Nat.le_of_ble_eq_true rfl), (Nat.le_of_ble_eq_true rfl)⟩ rfl rfl hl.1 (Nat.le_of_ble_eq_true rfl) ⟨Nat.zero_le _, Nat.zero_le _⟩ dX10_acts_144 rfl rfl (fun H locs (hP : va_P D vwCl (MX10 cI cZ cL cW a0 a1 a2 a3 a4 a5 a6 k_thrown k_w_39 k_o k_isKept k_went_40 k_wentMany_41 k_waiting_42 k_came_43 k_depth k_isSilent k_x k_packed k_hits k_rues k_soonest k_inAll) H) (hD : va_D A (MX10 cI cZ cL cW a0 a1 a2 a3 a4 a5 a6 k_thrown k_w_39 k_o k_isKept k_went_40 k_wentMany_41 k_waiting_42 k_came_43 k_depth k_isSilent k_x k_packed k_hits k_rues k_soonest k_inAll)) hS => ?_)
    obtain ⟨g45, hf⟩ := it_g hf
    cases hf
    exact rw_z C hr hlk (zb_n g45) hP hD hS dX10_acts_147 rfl
  have hf := it_n hf e37
  refine lv_tableOut (tgt := 148) hx hb dX10_acts_45 (tw_e (tw_s (tw_s (tw_s (tw_s (tw_s (tw_s (tw_0 _ 1) e3) e13) e20) e27) e32) e37)) (by decide) ?_
  refine lv_iconst (v := 0) hx hb dX10_acts_148 (by decide) ?_
  cases hf
  exact rw_z C hr hlk (by decide) hP hD hS dX10_acts_149 rfl
