def X10_listen (F : Nat) (p1 : Int32) (p2 : Int32) (p3 : Int32) (p4 : Int32) (p5 : Int32) (p6 : Int32) (k_thrown : Int32) (k_w : (Nat → Int32)) (k_o : Int32) : Option (Int32 × Int32 × (Nat → Int32)) := (X10_isIn F p1.toInt64 (-1) 6).bind fun r1 => (if (r1 : Int32) = 0 then (some ((-2), 0, k_w)) else ((X10_isIn F p2.toInt64 1 9).bind fun r3 => (if (r3 : Int32) = 0 then (some ((-2), 0, k_w)) else ((X10_isIn F p3.toInt64 0 ((p2 - 1).toInt64)).bind fun r5 => (if (r5 : Int32) = 0 then (some ((-2), 0, k_w)) else ((X10_isIn F p4.toInt64 0 6).bind fun r7 => (if (r7 : Int32) = 0 then (some ((-2), 0, k_w)) else ((X10_isIn F p5.toInt64 (-999) 999).bind fun r9 => (if (r9 : Int32) = 0 then (some ((-2), 0, k_w)) else (if (p4 : Int32) = 1 then ((X10_isIn F p6.toInt64 1 99).bind fun r23 => (if (r23 : Int32) = 0 then (some ((-2), 0, k_w)) else (if ((k_w (Int32.toNatClampNeg 7)) : Int32) = 8 then (some ((-3), 0, k_w)) else ((X10_hearerAt F (k_w (Int32.toNatClampNeg 7)) k_o).bind fun r25 => (if ((r25 + 0) : Int32) < 0 ∨ 3392 ≤ (Int32.toNatClampNeg (r25 + 0)) then none else (if ((r25 + 1) : Int32) < 0 ∨ 3392 ≤ (Int32.toNatClampNeg (r25 + 1)) then none else (if ((r25 + 2) : Int32) < 0 ∨ 3392 ≤ (Int32.toNatClampNeg (r25 + 2)) then none else (if ((r25 + 3) : Int32) < 0 ∨ 3392 ≤ (Int32.toNatClampNeg (r25 + 3)) then none else (if ((r25 + 4) : Int32) < 0 ∨ 3392 ≤ (Int32.toNatClampNeg (r25 + 4)) then none else (if ((r25 + 5) : Int32) < 0 ∨ 3392 ≤ (Int32.toNatClampNeg (r25 + 5)) then none else (if ((r25 + 6) : Int32) < 0 ∨ 3392 ≤ (Int32.toNatClampNeg (r25 + 6)) then none else (if ((r25 + 7) : Int32) < 0 ∨ 3392 ≤ (Int32.toNatClampNeg (r25 + 7)) then none else (if ((r25 + 8) : Int32) < 0 ∨ 3392 ≤ (Int32.toNatClampNeg (r25 + 8)) then none else (some ((((upd (upd (upd (upd (upd (upd (upd (upd (upd (upd k_w (Int32.toNatClampNeg (r25 + 0)) p1) (Int32.toNatClampNeg (r25 + 1)) p2) (Int32.toNatClampNeg (r25 + 2)) p3) (Int32.toNatClampNeg (r25 + 3)) p4) (Int32.toNatClampNeg (r25 + 4)) p5) (Int32.toNatClampNeg (r25 + 5)) p6) (Int32.toNatClampNeg (r25 + 6)) 1) (Int32.toNatClampNeg (r25 + 7)) 0) (Int32.toNatClampNeg (r25 + 8)) 0) (Int32.toNatClampNeg 7) (((upd (upd (upd (upd (upd (upd (upd (upd (upd k_w (Int32.toNatClampNeg (r25 + 0)) p1) (Int32.toNatClampNeg (r25 + 1)) p2) (Int32.toNatClampNeg (r25 + 2)) p3) (Int32.toNatClampNeg (r25 + 3)) p4) (Int32.toNatClampNeg (r25 + 4)) p5) (Int32.toNatClampNeg (r25 + 5)) p6) (Int32.toNatClampNeg (r25 + 6)) 1) (Int32.toNatClampNeg (r25 + 7)) 0) (Int32.toNatClampNeg (r25 + 8)) 0) (Int32.toNatClampNeg 7)) + 1)) (Int32.toNatClampNeg 7)) - 1), 0, (upd (upd (upd (upd (upd (upd (upd (upd (upd (upd k_w (Int32.toNatClampNeg (r25 + 0)) p1) (Int32.toNatClampNeg (r25 + 1)) p2) (Int32.toNatClampNeg (r25 + 2)) p3) (Int32.toNatClampNeg (r25 + 3)) p4) (Int32.toNatClampNeg (r25 + 4)) p5) (Int32.toNatClampNeg (r25 + 5)) p6) (Int32.toNatClampNeg (r25 + 6)) 1) (Int32.toNatClampNeg (r25 + 7)) 0) (Int32.toNatClampNeg (r25 + 8)) 0) (Int32.toNatClampNeg 7) (((upd (upd (upd (upd (upd (upd (upd (upd (upd k_w (Int32.toNatClampNeg (r25 + 0)) p1) (Int32.toNatClampNeg (r25 + 1)) p2) (Int32.toNatClampNeg (r25 + 2)) p3) (Int32.toNatClampNeg (r25 + 3)) p4) (Int32.toNatClampNeg (r25 + 4)) p5) (Int32.toNatClampNeg (r25 + 5)) p6) (Int32.toNatClampNeg (r25 + 6)) 1) (Int32.toNatClampNeg (r25 + 7)) 0) (Int32.toNatClampNeg (r25 + 8)) 0) (Int32.toNatClampNeg 7)) + 1))))))))))))))))) else (if ((k_w (Int32.toNatClampNeg 7)) : Int32) = 8 then (some ((-3), 0, k_w)) else ((X10_hearerAt F (k_w (Int32.toNatClampNeg 7)) k_o).bind fun r11 => (if ((r11 + 0) : Int32) < 0 ∨ 3392 ≤ (Int32.toNatClampNeg (r11 + 0)) then none else (if ((r11 + 1) : Int32) < 0 ∨ 3392 ≤ (Int32.toNatClampNeg (r11 + 1)) then none else (if ((r11 + 2) : Int32) < 0 ∨ 3392 ≤ (Int32.toNatClampNeg (r11 + 2)) then none else (if ((r11 + 3) : Int32) < 0 ∨ 3392 ≤ (Int32.toNatClampNeg (r11 + 3)) then none else (if ((r11 + 4) : Int32) < 0 ∨ 3392 ≤ (Int32.toNatClampNeg (r11 + 4)) then none else (if ((r11 + 5) : Int32) < 0 ∨ 3392 ≤ (Int32.toNatClampNeg (r11 + 5)) then none else (if ((r11 + 6) : Int32) < 0 ∨ 3392 ≤ (Int32.toNatClampNeg (r11 + 6)) then none else (if ((r11 + 7) : Int32) < 0 ∨ 3392 ≤ (Int32.toNatClampNeg (r11 + 7)) then none else (if ((r11 + 8) : Int32) < 0 ∨ 3392 ≤ (Int32.toNatClampNeg (r11 + 8)) then none else (some ((((upd (upd (upd (upd (upd (upd (upd (upd (upd (upd k_w (Int32.toNatClampNeg (r11 + 0)) p1) (Int32.toNatClampNeg (r11 + 1)) p2) (Int32.toNatClampNeg (r11 + 2)) p3) (Int32.toNatClampNeg (r11 + 3)) p4) (Int32.toNatClampNeg (r11 + 4)) p5) (Int32.toNatClampNeg (r11 + 5)) p6) (Int32.toNatClampNeg (r11 + 6)) 1) (Int32.toNatClampNeg (r11 + 7)) 0) (Int32.toNatClampNeg (r11 + 8)) 0) (Int32.toNatClampNeg 7) (((upd (upd (upd (upd (upd (upd (upd (upd (upd k_w (Int32.toNatClampNeg (r11 + 0)) p1) (Int32.toNatClampNeg (r11 + 1)) p2) (Int32.toNatClampNeg (r11 + 2)) p3) (Int32.toNatClampNeg (r11 + 3)) p4) (Int32.toNatClampNeg (r11 + 4)) p5) (Int32.toNatClampNeg (r11 + 5)) p6) (Int32.toNatClampNeg (r11 + 6)) 1) (Int32.toNatClampNeg (r11 + 7)) 0) (Int32.toNatClampNeg (r11 + 8)) 0) (Int32.toNatClampNeg 7)) + 1)) (Int32.toNatClampNeg 7)) - 1), 0, (upd (upd (upd (upd (upd (upd (upd (upd (upd (upd k_w (Int32.toNatClampNeg (r11 + 0)) p1) (Int32.toNatClampNeg (r11 + 1)) p2) (Int32.toNatClampNeg (r11 + 2)) p3) (Int32.toNatClampNeg (r11 + 3)) p4) (Int32.toNatClampNeg (r11 + 4)) p5) (Int32.toNatClampNeg (r11 + 5)) p6) (Int32.toNatClampNeg (r11 + 6)) 1) (Int32.toNatClampNeg (r11 + 7)) 0) (Int32.toNatClampNeg (r11 + 8)) 0) (Int32.toNatClampNeg 7) (((upd (upd (upd (upd (upd (upd (upd (upd (upd k_w (Int32.toNatClampNeg (r11 + 0)) p1) (Int32.toNatClampNeg (r11 + 1)) p2) (Int32.toNatClampNeg (r11 + 2)) p3) (Int32.toNatClampNeg (r11 + 3)) p4) (Int32.toNatClampNeg (r11 + 4)) p5) (Int32.toNatClampNeg (r11 + 5)) p6) (Int32.toNatClampNeg (r11 + 6)) 1) (Int32.toNatClampNeg (r11 + 7)) 0) (Int32.toNatClampNeg (r11 + 8)) 0) (Int32.toNatClampNeg 7)) + 1)))))))))))))))))))))))))
abbrev rm_X10_listen : Room := { frames := 1, cells := 0, slots := 0, locals := 25 }
theorem ok_X10_listen : OKV RX10 yX10_listen cX10_listen 8 (some .int) 6 := ⟨by decide +kernel, qV_X10_listen, qL_X10_listen, qI_X10, qD_X10_listen⟩
set_option maxHeartbeats 4000000 in
set_option maxRecDepth 100000 in
theorem c_X10_listen (l : Launch) (D : va_G) (cI cZ cL cW : ClassId) (F : Nat) (a0 : Nat) (a1 : Nat) (a2 : Nat) (a3 : Nat) (a4 : Nat) (a5 : Nat) (a6 : Nat) (k_thrown : Int32) (k_w : (Nat → Int32)) (k_o : Int32) (k_isKept : (Nat → Int32)) (k_went : (Nat → Int32)) (k_wentMany : Int32) (k_waiting : (Nat → Int32)) (k_came : Int32) (k_depth : Int32) (k_isSilent : Int32) (k_x : Int64) (k_packed : (Nat → Int32)) (k_hits : Int32) (k_rues : Int32) (k_soonest : Int32) (k_inAll : (Nat → Int32)) (p1 : Int32) (p2 : Int32) (p3 : Int32) (p4 : Int32) (p5 : Int32) (p6 : Int32) (r : Int32) (k_thrown' : Int32) (k_w' : (Nat → Int32)) (hf : X10_listen F p1 p2 p3 p4 p5 p6 k_thrown k_w k_o = some (r, k_thrown', k_w')) : CtrW l D (tyL cI cZ cL cW) nestW yX10_listen cX10_listen 8 (some .int) rm_X10_listen [.ref a0, .int p1, .int p2, .int p3, .int p4, .int p5, .int p6] (MX10 cI cZ cL cW a0 a1 a2 a3 a4 a5 a6 k_thrown k_w k_o k_isKept k_went k_wentMany k_waiting k_came k_depth k_isSilent k_x k_packed k_hits k_rues k_soonest k_inAll) (MX10 cI cZ cL cW a0 a1 a2 a3 a4 a5 a6 (k_thrown') (k_w') k_o k_isKept k_went k_wentMany k_waiting k_came k_depth k_isSilent k_x k_packed k_hits k_rues k_soonest k_inAll) (some (.int r)) := by
  refine ofA RX10 (by decide) rfl (Nat.le_of_ble_eq_true rfl) ?_
  intro p e s m below meth c ls A C hr hlk hE hA hP hD hS hl
  generalize (List.toArray ([.ref a0, .int p1, .int p2, .int p3, .int p4, .int p5, .int p6] : List Value)) = args at C ⊢
  obtain ⟨hx, hb, hml, hown, ht⟩ := id C
  have hl : lv_has ls 8 [(0, .ref a0), (1, .int p1), (2, .int p2), (3, .int p3), (4, .int p4), (5, .int p5), (6, .int p6)] := hl
  refine lv_aload_n hx hb dX10_listen_0 rfl (lv_at hl 0 rfl) ?_
  refine lv_iconst (v := 0) hx hb dX10_listen_1 (by decide) ?_
  refine pf_X10 (v := .int 0) C hE hP hD hS 0 0 rfl (by decide) qF_X10_1 rfl rfl rfl (Nat.le_of_ble_eq_true rfl) dX10_listen_2 (fun H locs (hP : va_P D vwCl (MX10 cI cZ cL cW a0 a1 a2 a3 a4 a5 a6 0 k_w k_o k_isKept k_went k_wentMany k_waiting k_came k_depth k_isSilent k_x k_packed k_hits k_rues k_soonest k_inAll) H) (hD : va_D A (MX10 cI cZ cL cW a0 a1 a2 a3 a4 a5 a6 0 k_w k_o k_isKept k_went k_wentMany k_waiting k_came k_depth k_isSilent k_x k_packed k_hits k_rues k_soonest k_inAll)) hS => ?_)
  refine lv_iload_n hx hb dX10_listen_5 rfl (lv_at hl 1 rfl) ?_
  refine lv_i2l hx hb dX10_listen_6 rfl ?_
  refine lv_ldc2 (v := (-1)) hx hb hown (ht _ qJ_X10_214) dX10_listen_7 ?_
  refine lv_ldc2 (v := 6) hx hb hown (ht _ qJ_X10_216) dX10_listen_10 ?_
  obtain ⟨r1, h2, hf⟩ := bd_s hf
  refine is_R (rest := []) (st1 := [.int r1]) C hE va_P_nil (c_X10_isIn l D cI cZ cL cW F   p1.toInt64 (-1) 6 r1  h2) ok_X10_isIn qM_X10_49 rfl rfl ⟨(Nat.le_of_ble_eq_true rfl), (Nat.le_of_ble_eq_true rfl)⟩ hl.1 (Nat.le_of_ble_eq_true rfl) ⟨Nat.zero_le _, Nat.zero_le _⟩ dX10_listen_13 rfl rfl ?_
  refine lv_if_eq (tgt := 91) hx hb dX10_listen_16 (by decide) (fun c43 => ?_) (fun c43 => ?_)
  · have hf := it_p hf c43
    refine lv_bipush (v := (-2)) hx hb dX10_listen_91 (by decide) ?_
    cases hf
    exact rw_i C hr hlk hP hD hS dX10_listen_93 rfl
  · have hf := it_n hf c43
    refine lv_iload_n hx hb dX10_listen_19 rfl (lv_at hl 2 rfl) ?_
    refine lv_i2l hx hb dX10_listen_20 rfl ?_
    refine lv_lconst (v := 1) hx hb dX10_listen_21 (by decide) ?_
    refine lv_ldc2 (v := 9) hx hb hown (ht _ qJ_X10_218) dX10_listen_22 ?_
    obtain ⟨r3, h4, hf⟩ := bd_s hf
    refine is_R (rest := []) (st1 := [.int r3]) C hE va_P_nil (c_X10_isIn l D cI cZ cL cW F   p2.toInt64 1 9 r3  h4) ok_X10_isIn qM_X10_49 rfl rfl ⟨(Nat.le_of_ble_eq_true rfl), (Nat.le_of_ble_eq_true rfl)⟩ hl.1 (Nat.le_of_ble_eq_true rfl) ⟨Nat.zero_le _, Nat.zero_le _⟩ dX10_listen_25 rfl rfl ?_
    refine lv_if_eq (tgt := 91) hx hb dX10_listen_28 (by decide) (fun c42 => ?_) (fun c42 => ?_)
    · have hf := it_p hf c42
      refine lv_bipush (v := (-2)) hx hb dX10_listen_91 (by decide) ?_
      cases hf
      exact rw_i C hr hlk hP hD hS dX10_listen_93 rfl
    · have hf := it_n hf c42
      refine lv_iload_n hx hb dX10_listen_31 rfl (lv_at hl 3 rfl) ?_
      refine lv_i2l hx hb dX10_listen_32 rfl ?_
      refine lv_lconst (v := 0) hx hb dX10_listen_33 (by decide) ?_
      refine lv_iload_n hx hb dX10_listen_34 rfl (lv_at hl 2 rfl) ?_
      refine lv_iconst (v := 1) hx hb dX10_listen_35 (by decide) ?_
      refine lv_isub hx hb dX10_listen_36 ?_
      refine lv_i2l hx hb dX10_listen_37 rfl ?_
      obtain ⟨r5, h6, hf⟩ := bd_s hf
      refine is_R (rest := []) (st1 := [.int r5]) C hE va_P_nil (c_X10_isIn l D cI cZ cL cW F   p3.toInt64 0 ((p2 - 1).toInt64) r5  h6) ok_X10_isIn qM_X10_49 rfl rfl ⟨(Nat.le_of_ble_eq_true rfl), (Nat.le_of_ble_eq_true rfl)⟩ hl.1 (Nat.le_of_ble_eq_true rfl) ⟨Nat.zero_le _, Nat.zero_le _⟩ dX10_listen_38 rfl rfl ?_
      refine lv_if_eq (tgt := 91) hx hb dX10_listen_41 (by decide) (fun c41 => ?_) (fun c41 => ?_)
      · have hf := it_p hf c41
        refine lv_bipush (v := (-2)) hx hb dX10_listen_91 (by decide) ?_
        cases hf
        exact rw_i C hr hlk hP hD hS dX10_listen_93 rfl
      · have hf := it_n hf c41
        refine lv_iload hx hb dX10_listen_44 (lv_at hl 4 rfl) ?_
        refine lv_i2l hx hb dX10_listen_46 rfl ?_
        refine lv_lconst (v := 0) hx hb dX10_listen_47 (by decide) ?_
        refine lv_ldc2 (v := 6) hx hb hown (ht _ qJ_X10_216) dX10_listen_48 ?_
        obtain ⟨r7, h8, hf⟩ := bd_s hf
        refine is_R (rest := []) (st1 := [.int r7]) C hE va_P_nil (c_X10_isIn l D cI cZ cL cW F   p4.toInt64 0 6 r7  h8) ok_X10_isIn qM_X10_49 rfl rfl ⟨(Nat.le_of_ble_eq_true rfl), (Nat.le_of_ble_eq_true rfl)⟩ hl.1 (Nat.le_of_ble_eq_true rfl) ⟨Nat.zero_le _, Nat.zero_le _⟩ dX10_listen_51 rfl rfl ?_
        refine lv_if_eq (tgt := 91) hx hb dX10_listen_54 (by decide) (fun c40 => ?_) (fun c40 => ?_)
        · have hf := it_p hf c40
          refine lv_bipush (v := (-2)) hx hb dX10_listen_91 (by decide) ?_
          cases hf
          exact rw_i C hr hlk hP hD hS dX10_listen_93 rfl
        · have hf := it_n hf c40
          refine lv_iload hx hb dX10_listen_57 (lv_at hl 5 rfl) ?_
          refine lv_i2l hx hb dX10_listen_59 rfl ?_
          refine lv_ldc2 (v := (-999)) hx hb hown (ht _ qJ_X10_220) dX10_listen_60 ?_
          refine lv_ldc2 (v := 999) hx hb hown (ht _ qJ_X10_47) dX10_listen_63 ?_
          obtain ⟨r9, h10, hf⟩ := bd_s hf
          refine is_R (rest := []) (st1 := [.int r9]) C hE va_P_nil (c_X10_isIn l D cI cZ cL cW F   p5.toInt64 (-999) 999 r9  h10) ok_X10_isIn qM_X10_49 rfl rfl ⟨(Nat.le_of_ble_eq_true rfl), (Nat.le_of_ble_eq_true rfl)⟩ hl.1 (Nat.le_of_ble_eq_true rfl) ⟨Nat.zero_le _, Nat.zero_le _⟩ dX10_listen_66 rfl rfl ?_
          refine lv_if_eq (tgt := 91) hx hb dX10_listen_69 (by decide) (fun c39 => ?_) (fun c39 => ?_)
          · have hf := it_p hf c39
            refine lv_bipush (v := (-2)) hx hb dX10_listen_91 (by decide) ?_
            cases hf
            exact rw_i C hr hlk hP hD hS dX10_listen_93 rfl
          · have hf := it_n hf c39
            refine lv_iload hx hb dX10_listen_72 (lv_at hl 4 rfl) ?_
            refine lv_iconst (v := 1) hx hb dX10_listen_74 (by decide) ?_
            refine lv_icmp_ne (tgt := 94) hx hb dX10_listen_75 (by decide) (fun c38 => ?_) (fun c38 => ?_)
            · have hf := it_n hf c38
              refine lv_aload_n hx hb dX10_listen_94 rfl (lv_at hl 0 rfl) ?_
              refine gf_X10 (v := .ref a1) C hE hP 0 1 rfl (by decide) qF_X10_17 rfl dX10_listen_95 ?_
              refine lv_bipush (v := 7) hx hb dX10_listen_98 (by decide) ?_
              refine va_iald hx hb hE.1 hP 1 0 rfl rfl (vp_l (by decide)) dX10_listen_100 ?_
              refine lv_bipush (v := 8) hx hb dX10_listen_101 (by decide) ?_
              refine lv_icmp_ne (tgt := 109) hx hb dX10_listen_103 (by decide) (fun c22 => ?_) (fun c22 => ?_)
              · have hf := it_n hf c22
                refine lv_aload_n hx hb dX10_listen_109 rfl (lv_at hl 0 rfl) ?_
                refine lv_aload_n hx hb dX10_listen_110 rfl (lv_at hl 0 rfl) ?_
                refine gf_X10 (v := .ref a1) C hE hP 0 1 rfl (by decide) qF_X10_17 rfl dX10_listen_111 ?_
                refine lv_bipush (v := 7) hx hb dX10_listen_114 (by decide) ?_
                refine va_iald hx hb hE.1 hP 1 0 rfl rfl (vp_l (by decide)) dX10_listen_116 ?_
                obtain ⟨r11, h12, hf⟩ := bd_s hf
                refine iv_R (rest := []) (st1 := [.int r11]) C hE hP (c_X10_hearerAt l D cI cZ cL cW F a0 a1 a2 a3 a4 a5 a6 0 k_w k_o k_isKept k_went k_wentMany k_waiting k_came k_depth k_isSilent k_x k_packed k_hits k_rues k_soonest k_inAll (k_w (Int32.toNatClampNeg 7)) r11  h12) ok_X10_hearerAt qM_X10_115 rfl rfl ⟨(Nat.le_of_ble_eq_true rfl), (Nat.le_of_ble_eq_true rfl)⟩ rfl rfl hl.1 (Nat.le_of_ble_eq_true rfl) ⟨Nat.zero_le _, Nat.zero_le _⟩ dX10_listen_117 rfl rfl ?_
                refine lv_istore (lv' := [(7, .int r11), (0, .ref a0), (1, .int p1), (2, .int p2), (3, .int p3), (4, .int p4), (5, .int p5), (6, .int p6)]) hx hb dX10_listen_120 hl (by decide) rfl (fun ls hl => ?_)
                refine lv_aload_n hx hb dX10_listen_122 rfl (lv_at hl 1 rfl) ?_
                refine gf_X10 (v := .ref a1) C hE hP 0 1 rfl (by decide) qF_X10_17 rfl dX10_listen_123 ?_
                refine lv_iload hx hb dX10_listen_126 (lv_at hl 0 rfl) ?_
                refine lv_iconst (v := 0) hx hb dX10_listen_128 (by decide) ?_
                refine lv_iadd hx hb dX10_listen_129 ?_
                refine lv_iload_n hx hb dX10_listen_130 rfl (lv_at hl 2 rfl) ?_
                obtain ⟨g21, hf⟩ := it_g hf
                refine va_iast hx hb hE.1 hP hD hS 1 0 rfl rfl g21 dX10_listen_131 (fun H locs (hP : va_P D vwCl (MX10 cI cZ cL cW a0 a1 a2 a3 a4 a5 a6 0 (upd k_w (Int32.toNatClampNeg (r11 + 0)) p1) k_o k_isKept k_went k_wentMany k_waiting k_came k_depth k_isSilent k_x k_packed k_hits k_rues k_soonest k_inAll) H) (hD : va_D A (MX10 cI cZ cL cW a0 a1 a2 a3 a4 a5 a6 0 (upd k_w (Int32.toNatClampNeg (r11 + 0)) p1) k_o k_isKept k_went k_wentMany k_waiting k_came k_depth k_isSilent k_x k_packed k_hits k_rues k_soonest k_inAll)) hS => ?_)
                refine lv_aload_n hx hb dX10_listen_132 rfl (lv_at hl 1 rfl) ?_
                refine gf_X10 (v := .ref a1) C hE hP 0 1 rfl (by decide) qF_X10_17 rfl dX10_listen_133 ?_
                refine lv_iload hx hb dX10_listen_136 (lv_at hl 0 rfl) ?_
                refine lv_iconst (v := 1) hx hb dX10_listen_138 (by decide) ?_
                refine lv_iadd hx hb dX10_listen_139 ?_
                refine lv_iload_n hx hb dX10_listen_140 rfl (lv_at hl 3 rfl) ?_
                obtain ⟨g20, hf⟩ := it_g hf
                refine va_iast hx hb hE.1 hP hD hS 1 0 rfl rfl g20 dX10_listen_141 (fun H locs (hP : va_P D vwCl (MX10 cI cZ cL cW a0 a1 a2 a3 a4 a5 a6 0 (upd (upd k_w (Int32.toNatClampNeg (r11 + 0)) p1) (Int32.toNatClampNeg (r11 + 1)) p2) k_o k_isKept k_went k_wentMany k_waiting k_came k_depth k_isSilent k_x k_packed k_hits k_rues k_soonest k_inAll) H) (hD : va_D A (MX10 cI cZ cL cW a0 a1 a2 a3 a4 a5 a6 0 (upd (upd k_w (Int32.toNatClampNeg (r11 + 0)) p1) (Int32.toNatClampNeg (r11 + 1)) p2) k_o k_isKept k_went k_wentMany k_waiting k_came k_depth k_isSilent k_x k_packed k_hits k_rues k_soonest k_inAll)) hS => ?_)
                refine lv_aload_n hx hb dX10_listen_142 rfl (lv_at hl 1 rfl) ?_
                refine gf_X10 (v := .ref a1) C hE hP 0 1 rfl (by decide) qF_X10_17 rfl dX10_listen_143 ?_
                refine lv_iload hx hb dX10_listen_146 (lv_at hl 0 rfl) ?_
                refine lv_iconst (v := 2) hx hb dX10_listen_148 (by decide) ?_
                refine lv_iadd hx hb dX10_listen_149 ?_
                refine lv_iload_n hx hb dX10_listen_150 rfl (lv_at hl 4 rfl) ?_
                obtain ⟨g19, hf⟩ := it_g hf
                refine va_iast hx hb hE.1 hP hD hS 1 0 rfl rfl g19 dX10_listen_151 (fun H locs (hP : va_P D vwCl (MX10 cI cZ cL cW a0 a1 a2 a3 a4 a5 a6 0 (upd (upd (upd k_w (Int32.toNatClampNeg (r11 + 0)) p1) (Int32.toNatClampNeg (r11 + 1)) p2) (Int32.toNatClampNeg (r11 + 2)) p3) k_o k_isKept k_went k_wentMany k_waiting k_came k_depth k_isSilent k_x k_packed k_hits k_rues k_soonest k_inAll) H) (hD : va_D A (MX10 cI cZ cL cW a0 a1 a2 a3 a4 a5 a6 0 (upd (upd (upd k_w (Int32.toNatClampNeg (r11 + 0)) p1) (Int32.toNatClampNeg (r11 + 1)) p2) (Int32.toNatClampNeg (r11 + 2)) p3) k_o k_isKept k_went k_wentMany k_waiting k_came k_depth k_isSilent k_x k_packed k_hits k_rues k_soonest k_inAll)) hS => ?_)
                refine lv_aload_n hx hb dX10_listen_152 rfl (lv_at hl 1 rfl) ?_
                refine gf_X10 (v := .ref a1) C hE hP 0 1 rfl (by decide) qF_X10_17 rfl dX10_listen_153 ?_
                refine lv_iload hx hb dX10_listen_156 (lv_at hl 0 rfl) ?_
                refine lv_iconst (v := 3) hx hb dX10_listen_158 (by decide) ?_
                refine lv_iadd hx hb dX10_listen_159 ?_
                refine lv_iload hx hb dX10_listen_160 (lv_at hl 5 rfl) ?_
                obtain ⟨g18, hf⟩ := it_g hf
                refine va_iast hx hb hE.1 hP hD hS 1 0 rfl rfl g18 dX10_listen_162 (fun H locs (hP : va_P D vwCl (MX10 cI cZ cL cW a0 a1 a2 a3 a4 a5 a6 0 (upd (upd (upd (upd k_w (Int32.toNatClampNeg (r11 + 0)) p1) (Int32.toNatClampNeg (r11 + 1)) p2) (Int32.toNatClampNeg (r11 + 2)) p3) (Int32.toNatClampNeg (r11 + 3)) p4) k_o k_isKept k_went k_wentMany k_waiting k_came k_depth k_isSilent k_x k_packed k_hits k_rues k_soonest k_inAll) H) (hD : va_D A (MX10 cI cZ cL cW a0 a1 a2 a3 a4 a5 a6 0 (upd (upd (upd (upd k_w (Int32.toNatClampNeg (r11 + 0)) p1) (Int32.toNatClampNeg (r11 + 1)) p2) (Int32.toNatClampNeg (r11 + 2)) p3) (Int32.toNatClampNeg (r11 + 3)) p4) k_o k_isKept k_went k_wentMany k_waiting k_came k_depth k_isSilent k_x k_packed k_hits k_rues k_soonest k_inAll)) hS => ?_)
                refine lv_aload_n hx hb dX10_listen_163 rfl (lv_at hl 1 rfl) ?_
                refine gf_X10 (v := .ref a1) C hE hP 0 1 rfl (by decide) qF_X10_17 rfl dX10_listen_164 ?_
                refine lv_iload hx hb dX10_listen_167 (lv_at hl 0 rfl) ?_
                refine lv_iconst (v := 4) hx hb dX10_listen_169 (by decide) ?_
                refine lv_iadd hx hb dX10_listen_170 ?_
                refine lv_iload hx hb dX10_listen_171 (lv_at hl 6 rfl) ?_
                obtain ⟨g17, hf⟩ := it_g hf
                refine va_iast hx hb hE.1 hP hD hS 1 0 rfl rfl g17 dX10_listen_173 (fun H locs (hP : va_P D vwCl (MX10 cI cZ cL cW a0 a1 a2 a3 a4 a5 a6 0 (upd (upd (upd (upd (upd k_w (Int32.toNatClampNeg (r11 + 0)) p1) (Int32.toNatClampNeg (r11 + 1)) p2) (Int32.toNatClampNeg (r11 + 2)) p3) (Int32.toNatClampNeg (r11 + 3)) p4) (Int32.toNatClampNeg (r11 + 4)) p5) k_o k_isKept k_went k_wentMany k_waiting k_came k_depth k_isSilent k_x k_packed k_hits k_rues k_soonest k_inAll) H) (hD : va_D A (MX10 cI cZ cL cW a0 a1 a2 a3 a4 a5 a6 0 (upd (upd (upd (upd (upd k_w (Int32.toNatClampNeg (r11 + 0)) p1) (Int32.toNatClampNeg (r11 + 1)) p2) (Int32.toNatClampNeg (r11 + 2)) p3) (Int32.toNatClampNeg (r11 + 3)) p4) (Int32.toNatClampNeg (r11 + 4)) p5) k_o k_isKept k_went k_wentMany k_waiting k_came k_depth k_isSilent k_x k_packed k_hits k_rues k_soonest k_inAll)) hS => ?_)
                refine lv_aload_n hx hb dX10_listen_174 rfl (lv_at hl 1 rfl) ?_
                refine gf_X10 (v := .ref a1) C hE hP 0 1 rfl (by decide) qF_X10_17 rfl dX10_listen_175 ?_
                refine lv_iload hx hb dX10_listen_178 (lv_at hl 0 rfl) ?_
                refine lv_iconst (v := 5) hx hb dX10_listen_180 (by decide) ?_
                refine lv_iadd hx hb dX10_listen_181 ?_
                refine lv_iload hx hb dX10_listen_182 (lv_at hl 7 rfl) ?_
                obtain ⟨g16, hf⟩ := it_g hf
                refine va_iast hx hb hE.1 hP hD hS 1 0 rfl rfl g16 dX10_listen_184 (fun H locs (hP : va_P D vwCl (MX10 cI cZ cL cW a0 a1 a2 a3 a4 a5 a6 0 (upd (upd (upd (upd (upd (upd k_w (Int32.toNatClampNeg (r11 + 0)) p1) (Int32.toNatClampNeg (r11 + 1)) p2) (Int32.toNatClampNeg (r11 + 2)) p3) (Int32.toNatClampNeg (r11 + 3)) p4) (Int32.toNatClampNeg (r11 + 4)) p5) (Int32.toNatClampNeg (r11 + 5)) p6) k_o k_isKept k_went k_wentMany k_waiting k_came k_depth k_isSilent k_x k_packed k_hits k_rues k_soonest k_inAll) H) (hD : va_D A (MX10 cI cZ cL cW a0 a1 a2 a3 a4 a5 a6 0 (upd (upd (upd (upd (upd (upd k_w (Int32.toNatClampNeg (r11 + 0)) p1) (Int32.toNatClampNeg (r11 + 1)) p2) (Int32.toNatClampNeg (r11 + 2)) p3) (Int32.toNatClampNeg (r11 + 3)) p4) (Int32.toNatClampNeg (r11 + 4)) p5) (Int32.toNatClampNeg (r11 + 5)) p6) k_o k_isKept k_went k_wentMany k_waiting k_came k_depth k_isSilent k_x k_packed k_hits k_rues k_soonest k_inAll)) hS => ?_)
                refine lv_aload_n hx hb dX10_listen_185 rfl (lv_at hl 1 rfl) ?_
                refine gf_X10 (v := .ref a1) C hE hP 0 1 rfl (by decide) qF_X10_17 rfl dX10_listen_186 ?_
                refine lv_iload hx hb dX10_listen_189 (lv_at hl 0 rfl) ?_
                refine lv_bipush (v := 6) hx hb dX10_listen_191 (by decide) ?_
                refine lv_iadd hx hb dX10_listen_193 ?_
                refine lv_iconst (v := 1) hx hb dX10_listen_194 (by decide) ?_
                obtain ⟨g15, hf⟩ := it_g hf
                refine va_iast hx hb hE.1 hP hD hS 1 0 rfl rfl g15 dX10_listen_195 (fun H locs (hP : va_P D vwCl (MX10 cI cZ cL cW a0 a1 a2 a3 a4 a5 a6 0 (upd (upd (upd (upd (upd (upd (upd k_w (Int32.toNatClampNeg (r11 + 0)) p1) (Int32.toNatClampNeg (r11 + 1)) p2) (Int32.toNatClampNeg (r11 + 2)) p3) (Int32.toNatClampNeg (r11 + 3)) p4) (Int32.toNatClampNeg (r11 + 4)) p5) (Int32.toNatClampNeg (r11 + 5)) p6) (Int32.toNatClampNeg (r11 + 6)) 1) k_o k_isKept k_went k_wentMany k_waiting k_came k_depth k_isSilent k_x k_packed k_hits k_rues k_soonest k_inAll) H) (hD : va_D A (MX10 cI cZ cL cW a0 a1 a2 a3 a4 a5 a6 0 (upd (upd (upd (upd (upd (upd (upd k_w (Int32.toNatClampNeg (r11 + 0)) p1) (Int32.toNatClampNeg (r11 + 1)) p2) (Int32.toNatClampNeg (r11 + 2)) p3) (Int32.toNatClampNeg (r11 + 3)) p4) (Int32.toNatClampNeg (r11 + 4)) p5) (Int32.toNatClampNeg (r11 + 5)) p6) (Int32.toNatClampNeg (r11 + 6)) 1) k_o k_isKept k_went k_wentMany k_waiting k_came k_depth k_isSilent k_x k_packed k_hits k_rues k_soonest k_inAll)) hS => ?_)
                refine lv_aload_n hx hb dX10_listen_196 rfl (lv_at hl 1 rfl) ?_
                refine gf_X10 (v := .ref a1) C hE hP 0 1 rfl (by decide) qF_X10_17 rfl dX10_listen_197 ?_
                refine lv_iload hx hb dX10_listen_200 (lv_at hl 0 rfl) ?_
                refine lv_bipush (v := 7) hx hb dX10_listen_202 (by decide) ?_
                refine lv_iadd hx hb dX10_listen_204 ?_
                refine lv_iconst (v := 0) hx hb dX10_listen_205 (by decide) ?_
                obtain ⟨g14, hf⟩ := it_g hf
                refine va_iast hx hb hE.1 hP hD hS 1 0 rfl rfl g14 dX10_listen_206 (fun H locs (hP : va_P D vwCl (MX10 cI cZ cL cW a0 a1 a2 a3 a4 a5 a6 0 (upd (upd (upd (upd (upd (upd (upd (upd k_w (Int32.toNatClampNeg (r11 + 0)) p1) (Int32.toNatClampNeg (r11 + 1)) p2) (Int32.toNatClampNeg (r11 + 2)) p3) (Int32.toNatClampNeg (r11 + 3)) p4) (Int32.toNatClampNeg (r11 + 4)) p5) (Int32.toNatClampNeg (r11 + 5)) p6) (Int32.toNatClampNeg (r11 + 6)) 1) (Int32.toNatClampNeg (r11 + 7)) 0) k_o k_isKept k_went k_wentMany k_waiting k_came k_depth k_isSilent k_x k_packed k_hits k_rues k_soonest k_inAll) H) (hD : va_D A (MX10 cI cZ cL cW a0 a1 a2 a3 a4 a5 a6 0 (upd (upd (upd (upd (upd (upd (upd (upd k_w (Int32.toNatClampNeg (r11 + 0)) p1) (Int32.toNatClampNeg (r11 + 1)) p2) (Int32.toNatClampNeg (r11 + 2)) p3) (Int32.toNatClampNeg (r11 + 3)) p4) (Int32.toNatClampNeg (r11 + 4)) p5) (Int32.toNatClampNeg (r11 + 5)) p6) (Int32.toNatClampNeg (r11 + 6)) 1) (Int32.toNatClampNeg (r11 + 7)) 0) k_o k_isKept k_went k_wentMany k_waiting k_came k_depth k_isSilent k_x k_packed k_hits k_rues k_soonest k_inAll)) hS => ?_)
                refine lv_aload_n hx hb dX10_listen_207 rfl (lv_at hl 1 rfl) ?_
                refine gf_X10 (v := .ref a1) C hE hP 0 1 rfl (by decide) qF_X10_17 rfl dX10_listen_208 ?_
                refine lv_iload hx hb dX10_listen_211 (lv_at hl 0 rfl) ?_
                refine lv_bipush (v := 8) hx hb dX10_listen_213 (by decide) ?_
                refine lv_iadd hx hb dX10_listen_215 ?_
                refine lv_iconst (v := 0) hx hb dX10_listen_216 (by decide) ?_
                obtain ⟨g13, hf⟩ := it_g hf
                refine va_iast hx hb hE.1 hP hD hS 1 0 rfl rfl g13 dX10_listen_217 (fun H locs (hP : va_P D vwCl (MX10 cI cZ cL cW a0 a1 a2 a3 a4 a5 a6 0 (upd (upd (upd (upd (upd (upd (upd (upd (upd k_w (Int32.toNatClampNeg (r11 + 0)) p1) (Int32.toNatClampNeg (r11 + 1)) p2) (Int32.toNatClampNeg (r11 + 2)) p3) (Int32.toNatClampNeg (r11 + 3)) p4) (Int32.toNatClampNeg (r11 + 4)) p5) (Int32.toNatClampNeg (r11 + 5)) p6) (Int32.toNatClampNeg (r11 + 6)) 1) (Int32.toNatClampNeg (r11 + 7)) 0) (Int32.toNatClampNeg (r11 + 8)) 0) k_o k_isKept k_went k_wentMany k_waiting k_came k_depth k_isSilent k_x k_packed k_hits k_rues k_soonest k_inAll) H) (hD : va_D A (MX10 cI cZ cL cW a0 a1 a2 a3 a4 a5 a6 0 (upd (upd (upd (upd (upd (upd (upd (upd (upd k_w (Int32.toNatClampNeg (r11 + 0)) p1) (Int32.toNatClampNeg (r11 + 1)) p2) (Int32.toNatClampNeg (r11 + 2)) p3) (Int32.toNatClampNeg (r11 + 3)) p4) (Int32.toNatClampNeg (r11 + 4)) p5) (Int32.toNatClampNeg (r11 + 5)) p6) (Int32.toNatClampNeg (r11 + 6)) 1) (Int32.toNatClampNeg (r11 + 7)) 0) (Int32.toNatClampNeg (r11 + 8)) 0) k_o k_isKept k_went k_wentMany k_waiting k_came k_depth k_isSilent k_x k_packed k_hits k_rues k_soonest k_inAll)) hS => ?_)
                refine lv_aload_n hx hb dX10_listen_218 rfl (lv_at hl 1 rfl) ?_
                refine gf_X10 (v := .ref a1) C hE hP 0 1 rfl (by decide) qF_X10_17 rfl dX10_listen_219 ?_
                refine lv_bipush (v := 7) hx hb dX10_listen_222 (by decide) ?_
                refine lv_dup2_11 hx hb dX10_listen_224 rfl rfl ?_
                refine va_iald hx hb hE.1 hP 1 0 rfl rfl (vp_l (by decide)) dX10_listen_225 ?_
                refine lv_iconst (v := 1) hx hb dX10_listen_226 (by decide) ?_
                refine lv_iadd hx hb dX10_listen_227 ?_
                refine va_iast hx hb hE.1 hP hD hS 1 0 rfl rfl (vp_l (by decide)) dX10_listen_228 (fun H locs (hP : va_P D vwCl (MX10 cI cZ cL cW a0 a1 a2 a3 a4 a5 a6 0 (upd (upd (upd (upd (upd (upd (upd (upd (upd (upd k_w (Int32.toNatClampNeg (r11 + 0)) p1) (Int32.toNatClampNeg (r11 + 1)) p2) (Int32.toNatClampNeg (r11 + 2)) p3) (Int32.toNatClampNeg (r11 + 3)) p4) (Int32.toNatClampNeg (r11 + 4)) p5) (Int32.toNatClampNeg (r11 + 5)) p6) (Int32.toNatClampNeg (r11 + 6)) 1) (Int32.toNatClampNeg (r11 + 7)) 0) (Int32.toNatClampNeg (r11 + 8)) 0) (Int32.toNatClampNeg 7) (((upd (upd (upd (upd (upd (upd (upd (upd (upd k_w (Int32.toNatClampNeg (r11 + 0)) p1) (Int32.toNatClampNeg (r11 + 1)) p2) (Int32.toNatClampNeg (r11 + 2)) p3) (Int32.toNatClampNeg (r11 + 3)) p4) (Int32.toNatClampNeg (r11 + 4)) p5) (Int32.toNatClampNeg (r11 + 5)) p6) (Int32.toNatClampNeg (r11 + 6)) 1) (Int32.toNatClampNeg (r11 + 7)) 0) (Int32.toNatClampNeg (r11 + 8)) 0) (Int32.toNatClampNeg 7)) + 1)) k_o k_isKept k_went k_wentMany k_waiting k_came k_depth k_isSilent k_x k_packed k_hits k_rues k_soonest k_inAll) H) (hD : va_D A (MX10 cI cZ cL cW a0 a1 a2 a3 a4 a5 a6 0 (upd (upd (upd (upd (upd (upd (upd (upd (upd (upd k_w (Int32.toNatClampNeg (r11 + 0)) p1) (Int32.toNatClampNeg (r11 + 1)) p2) (Int32.toNatClampNeg (r11 + 2)) p3) (Int32.toNatClampNeg (r11 + 3)) p4) (Int32.toNatClampNeg (r11 + 4)) p5) (Int32.toNatClampNeg (r11 + 5)) p6) (Int32.toNatClampNeg (r11 + 6)) 1) (Int32.toNatClampNeg (r11 + 7)) 0) (Int32.toNatClampNeg (r11 + 8)) 0) (Int32.toNatClampNeg 7) (((upd (upd (upd (upd (upd (upd (upd (upd (upd k_w (Int32.toNatClampNeg (r11 + 0)) p1) (Int32.toNatClampNeg (r11 + 1)) p2) (Int32.toNatClampNeg (r11 + 2)) p3) (Int32.toNatClampNeg (r11 + 3)) p4) (Int32.toNatClampNeg (r11 + 4)) p5) (Int32.toNatClampNeg (r11 + 5)) p6) (Int32.toNatClampNeg (r11 + 6)) 1) (Int32.toNatClampNeg (r11 + 7)) 0) (Int32.toNatClampNeg (r11 + 8)) 0) (Int32.toNatClampNeg 7)) + 1)) k_o k_isKept k_went k_wentMany k_waiting k_came k_depth k_isSilent k_x k_packed k_hits k_rues k_soonest k_inAll)) hS => ?_)
                refine lv_aload_n hx hb dX10_listen_229 rfl (lv_at hl 1 rfl) ?_
                refine gf_X10 (v := .ref a1) C hE hP 0 1 rfl (by decide) qF_X10_17 rfl dX10_listen_230 ?_
                refine lv_bipush (v := 7) hx hb dX10_listen_233 (by decide) ?_
                refine va_iald hx hb hE.1 hP 1 0 rfl rfl (vp_l (by decide)) dX10_listen_235 ?_
                refine lv_iconst (v := 1) hx hb dX10_listen_236 (by decide) ?_
                refine lv_isub hx hb dX10_listen_237 ?_
                cases hf
                exact rw_i C hr hlk hP hD hS dX10_listen_238 rfl
              · have hf := it_p hf c22
                refine lv_bipush (v := (-3)) hx hb dX10_listen_106 (by decide) ?_
                cases hf
                exact rw_i C hr hlk hP hD hS dX10_listen_108 rfl
            · have hf := it_p hf c38
              refine lv_iload hx hb dX10_listen_78 (lv_at hl 6 rfl) ?_
              refine lv_i2l hx hb dX10_listen_80 rfl ?_
              refine lv_lconst (v := 1) hx hb dX10_listen_81 (by decide) ?_
              refine lv_ldc2 (v := 99) hx hb hown (ht _ qJ_X10_201) dX10_listen_82 ?_
              obtain ⟨r23, h24, hf⟩ := bd_s hf
              refine is_R (rest := []) (st1 := [.int r23]) C hE va_P_nil (c_X10_isIn l D cI cZ cL cW F   p6.toInt64 1 99 r23  h24) ok_X10_isIn qM_X10_49 rfl rfl ⟨(Nat.le_of_ble_eq_true rfl), (Nat.le_of_ble_eq_true rfl)⟩ hl.1 (Nat.le_of_ble_eq_true rfl) ⟨Nat.zero_le _, Nat.zero_le _⟩ dX10_listen_85 rfl rfl ?_
              refine lv_if_ne (tgt := 94) hx hb dX10_listen_88 (by decide) (fun c37 => ?_) (fun c37 => ?_)
              · have hf := it_n hf c37
                refine lv_aload_n hx hb dX10_listen_94 rfl (lv_at hl 0 rfl) ?_
                refine gf_X10 (v := .ref a1) C hE hP 0 1 rfl (by decide) qF_X10_17 rfl dX10_listen_95 ?_
                refine lv_bipush (v := 7) hx hb dX10_listen_98 (by decide) ?_
                refine va_iald hx hb hE.1 hP 1 0 rfl rfl (vp_l (by decide)) dX10_listen_100 ?_
                refine lv_bipush (v := 8) hx hb dX10_listen_101 (by decide) ?_
                refine lv_icmp_ne (tgt := 109) hx hb dX10_listen_103 (by decide) (fun c36 => ?_) (fun c36 => ?_)
                · have hf := it_n hf c36
                  refine lv_aload_n hx hb dX10_listen_109 rfl (lv_at hl 0 rfl) ?_
                  refine lv_aload_n hx hb dX10_listen_110 rfl (lv_at hl 0 rfl) ?_
                  refine gf_X10 (v := .ref a1) C hE hP 0 1 rfl (by decide) qF_X10_17 rfl dX10_listen_111 ?_
                  refine lv_bipush (v := 7) hx hb dX10_listen_114 (by decide) ?_
                  refine va_iald hx hb hE.1 hP 1 0 rfl rfl (vp_l (by decide)) dX10_listen_116 ?_
                  obtain ⟨r25, h26, hf⟩ := bd_s hf
                  refine iv_R (rest := []) (st1 := [.int r25]) C hE hP (c_X10_hearerAt l D cI cZ cL cW F a0 a1 a2 a3 a4 a5 a6 0 k_w k_o k_isKept k_went k_wentMany k_waiting k_came k_depth k_isSilent k_x k_packed k_hits k_rues k_soonest k_inAll (k_w (Int32.toNatClampNeg 7)) r25  h26) ok_X10_hearerAt qM_X10_115 rfl rfl ⟨(Nat.le_of_ble_eq_true rfl), (Nat.le_of_ble_eq_true rfl)⟩ rfl rfl hl.1 (Nat.le_of_ble_eq_true rfl) ⟨Nat.zero_le _, Nat.zero_le _⟩ dX10_listen_117 rfl rfl ?_
                  refine lv_istore (lv' := [(7, .int r25), (0, .ref a0), (1, .int p1), (2, .int p2), (3, .int p3), (4, .int p4), (5, .int p5), (6, .int p6)]) hx hb dX10_listen_120 hl (by decide) rfl (fun ls hl => ?_)
                  refine lv_aload_n hx hb dX10_listen_122 rfl (lv_at hl 1 rfl) ?_
                  refine gf_X10 (v := .ref a1) C hE hP 0 1 rfl (by decide) qF_X10_17 rfl dX10_listen_123 ?_
                  refine lv_iload hx hb dX10_listen_126 (lv_at hl 0 rfl) ?_
                  refine lv_iconst (v := 0) hx hb dX10_listen_128 (by decide) ?_
                  refine lv_iadd hx hb dX10_listen_129 ?_
                  refine lv_iload_n hx hb dX10_listen_130 rfl (lv_at hl 2 rfl) ?_
                  obtain ⟨g35, hf⟩ := it_g hf
                  refine va_iast hx hb hE.1 hP hD hS 1 0 rfl rfl g35 dX10_listen_131 (fun H locs (hP : va_P D vwCl (MX10 cI cZ cL cW a0 a1 a2 a3 a4 a5 a6 0 (upd k_w (Int32.toNatClampNeg (r25 + 0)) p1) k_o k_isKept k_went k_wentMany k_waiting k_came k_depth k_isSilent k_x k_packed k_hits k_rues k_soonest k_inAll) H) (hD : va_D A (MX10 cI cZ cL cW a0 a1 a2 a3 a4 a5 a6 0 (upd k_w (Int32.toNatClampNeg (r25 + 0)) p1) k_o k_isKept k_went k_wentMany k_waiting k_came k_depth k_isSilent k_x k_packed k_hits k_rues k_soonest k_inAll)) hS => ?_)
                  refine lv_aload_n hx hb dX10_listen_132 rfl (lv_at hl 1 rfl) ?_
                  refine gf_X10 (v := .ref a1) C hE hP 0 1 rfl (by decide) qF_X10_17 rfl dX10_listen_133 ?_
                  refine lv_iload hx hb dX10_listen_136 (lv_at hl 0 rfl) ?_
                  refine lv_iconst (v := 1) hx hb dX10_listen_138 (by decide) ?_
                  refine lv_iadd hx hb dX10_listen_139 ?_
                  refine lv_iload_n hx hb dX10_listen_140 rfl (lv_at hl 3 rfl) ?_
                  obtain ⟨g34, hf⟩ := it_g hf
                  refine va_iast hx hb hE.1 hP hD hS 1 0 rfl rfl g34 dX10_listen_141 (fun H locs (hP : va_P D vwCl (MX10 cI cZ cL cW a0 a1 a2 a3 a4 a5 a6 0 (upd (upd k_w (Int32.toNatClampNeg (r25 + 0)) p1) (Int32.toNatClampNeg (r25 + 1)) p2) k_o k_isKept k_went k_wentMany k_waiting k_came k_depth k_isSilent k_x k_packed k_hits k_rues k_soonest k_inAll) H) (hD : va_D A (MX10 cI cZ cL cW a0 a1 a2 a3 a4 a5 a6 0 (upd (upd k_w (Int32.toNatClampNeg (r25 + 0)) p1) (Int32.toNatClampNeg (r25 + 1)) p2) k_o k_isKept k_went k_wentMany k_waiting k_came k_depth k_isSilent k_x k_packed k_hits k_rues k_soonest k_inAll)) hS => ?_)
                  refine lv_aload_n hx hb dX10_listen_142 rfl (lv_at hl 1 rfl) ?_
                  refine gf_X10 (v := .ref a1) C hE hP 0 1 rfl (by decide) qF_X10_17 rfl dX10_listen_143 ?_
                  refine lv_iload hx hb dX10_listen_146 (lv_at hl 0 rfl) ?_
                  refine lv_iconst (v := 2) hx hb dX10_listen_148 (by decide) ?_
                  refine lv_iadd hx hb dX10_listen_149 ?_
                  refine lv_iload_n hx hb dX10_listen_150 rfl (lv_at hl 4 rfl) ?_
                  obtain ⟨g33, hf⟩ := it_g hf
                  refine va_iast hx hb hE.1 hP hD hS 1 0 rfl rfl g33 dX10_listen_151 (fun H locs (hP : va_P D vwCl (MX10 cI cZ cL cW a0 a1 a2 a3 a4 a5 a6 0 (upd (upd (upd k_w (Int32.toNatClampNeg (r25 + 0)) p1) (Int32.toNatClampNeg (r25 + 1)) p2) (Int32.toNatClampNeg (r25 + 2)) p3) k_o k_isKept k_went k_wentMany k_waiting k_came k_depth k_isSilent k_x k_packed k_hits k_rues k_soonest k_inAll) H) (hD : va_D A (MX10 cI cZ cL cW a0 a1 a2 a3 a4 a5 a6 0 (upd (upd (upd k_w (Int32.toNatClampNeg (r25 + 0)) p1) (Int32.toNatClampNeg (r25 + 1)) p2) (Int32.toNatClampNeg (r25 + 2)) p3) k_o k_isKept k_went k_wentMany k_waiting k_came k_depth k_isSilent k_x k_packed k_hits k_rues k_soonest k_inAll)) hS => ?_)
                  refine lv_aload_n hx hb dX10_listen_152 rfl (lv_at hl 1 rfl) ?_
                  refine gf_X10 (v := .ref a1) C hE hP 0 1 rfl (by decide) qF_X10_17 rfl dX10_listen_153 ?_
                  refine lv_iload hx hb dX10_listen_156 (lv_at hl 0 rfl) ?_
                  refine lv_iconst (v := 3) hx hb dX10_listen_158 (by decide) ?_
                  refine lv_iadd hx hb dX10_listen_159 ?_
                  refine lv_iload hx hb dX10_listen_160 (lv_at hl 5 rfl) ?_
                  obtain ⟨g32, hf⟩ := it_g hf
                  refine va_iast hx hb hE.1 hP hD hS 1 0 rfl rfl g32 dX10_listen_162 (fun H locs (hP : va_P D vwCl (MX10 cI cZ cL cW a0 a1 a2 a3 a4 a5 a6 0 (upd (upd (upd (upd k_w (Int32.toNatClampNeg (r25 + 0)) p1) (Int32.toNatClampNeg (r25 + 1)) p2) (Int32.toNatClampNeg (r25 + 2)) p3) (Int32.toNatClampNeg (r25 + 3)) p4) k_o k_isKept k_went k_wentMany k_waiting k_came k_depth k_isSilent k_x k_packed k_hits k_rues k_soonest k_inAll) H) (hD : va_D A (MX10 cI cZ cL cW a0 a1 a2 a3 a4 a5 a6 0 (upd (upd (upd (upd k_w (Int32.toNatClampNeg (r25 + 0)) p1) (Int32.toNatClampNeg (r25 + 1)) p2) (Int32.toNatClampNeg (r25 + 2)) p3) (Int32.toNatClampNeg (r25 + 3)) p4) k_o k_isKept k_went k_wentMany k_waiting k_came k_depth k_isSilent k_x k_packed k_hits k_rues k_soonest k_inAll)) hS => ?_)
                  refine lv_aload_n hx hb dX10_listen_163 rfl (lv_at hl 1 rfl) ?_
                  refine gf_X10 (v := .ref a1) C hE hP 0 1 rfl (by decide) qF_X10_17 rfl dX10_listen_164 ?_
                  refine lv_iload hx hb dX10_listen_167 (lv_at hl 0 rfl) ?_
                  refine lv_iconst (v := 4) hx hb dX10_listen_169 (by decide) ?_
                  refine lv_iadd hx hb dX10_listen_170 ?_
                  refine lv_iload hx hb dX10_listen_171 (lv_at hl 6 rfl) ?_
                  obtain ⟨g31, hf⟩ := it_g hf
                  refine va_iast hx hb hE.1 hP hD hS 1 0 rfl rfl g31 dX10_listen_173 (fun H locs (hP : va_P D vwCl (MX10 cI cZ cL cW a0 a1 a2 a3 a4 a5 a6 0 (upd (upd (upd (upd (upd k_w (Int32.toNatClampNeg (r25 + 0)) p1) (Int32.toNatClampNeg (r25 + 1)) p2) (Int32.toNatClampNeg (r25 + 2)) p3) (Int32.toNatClampNeg (r25 + 3)) p4) (Int32.toNatClampNeg (r25 + 4)) p5) k_o k_isKept k_went k_wentMany k_waiting k_came k_depth k_isSilent k_x k_packed k_hits k_rues k_soonest k_inAll) H) (hD : va_D A (MX10 cI cZ cL cW a0 a1 a2 a3 a4 a5 a6 0 (upd (upd (upd (upd (upd k_w (Int32.toNatClampNeg (r25 + 0)) p1) (Int32.toNatClampNeg (r25 + 1)) p2) (Int32.toNatClampNeg (r25 + 2)) p3) (Int32.toNatClampNeg (r25 + 3)) p4) (Int32.toNatClampNeg (r25 + 4)) p5) k_o k_isKept k_went k_wentMany k_waiting k_came k_depth k_isSilent k_x k_packed k_hits k_rues k_soonest k_inAll)) hS => ?_)
                  refine lv_aload_n hx hb dX10_listen_174 rfl (lv_at hl 1 rfl) ?_
                  refine gf_X10 (v := .ref a1) C hE hP 0 1 rfl (by decide) qF_X10_17 rfl dX10_listen_175 ?_
                  refine lv_iload hx hb dX10_listen_178 (lv_at hl 0 rfl) ?_
                  refine lv_iconst (v := 5) hx hb dX10_listen_180 (by decide) ?_
                  refine lv_iadd hx hb dX10_listen_181 ?_
                  refine lv_iload hx hb dX10_listen_182 (lv_at hl 7 rfl) ?_
                  obtain ⟨g30, hf⟩ := it_g hf
                  refine va_iast hx hb hE.1 hP hD hS 1 0 rfl rfl g30 dX10_listen_184 (fun H locs (hP : va_P D vwCl (MX10 cI cZ cL cW a0 a1 a2 a3 a4 a5 a6 0 (upd (upd (upd (upd (upd (upd k_w (Int32.toNatClampNeg (r25 + 0)) p1) (Int32.toNatClampNeg (r25 + 1)) p2) (Int32.toNatClampNeg (r25 + 2)) p3) (Int32.toNatClampNeg (r25 + 3)) p4) (Int32.toNatClampNeg (r25 + 4)) p5) (Int32.toNatClampNeg (r25 + 5)) p6) k_o k_isKept k_went k_wentMany k_waiting k_came k_depth k_isSilent k_x k_packed k_hits k_rues k_soonest k_inAll) H) (hD : va_D A (MX10 cI cZ cL cW a0 a1 a2 a3 a4 a5 a6 0 (upd (upd (upd (upd (upd (upd k_w (Int32.toNatClampNeg (r25 + 0)) p1) (Int32.toNatClampNeg (r25 + 1)) p2) (Int32.toNatClampNeg (r25 + 2)) p3) (Int32.toNatClampNeg (r25 + 3)) p4) (Int32.toNatClampNeg (r25 + 4)) p5) (Int32.toNatClampNeg (r25 + 5)) p6) k_o k_isKept k_went k_wentMany k_waiting k_came k_depth k_isSilent k_x k_packed k_hits k_rues k_soonest k_inAll)) hS => ?_)
                  refine lv_aload_n hx hb dX10_listen_185 rfl (lv_at hl 1 rfl) ?_
                  refine gf_X10 (v := .ref a1) C hE hP 0 1 rfl (by decide) qF_X10_17 rfl dX10_listen_186 ?_
                  refine lv_iload hx hb dX10_listen_189 (lv_at hl 0 rfl) ?_
                  refine lv_bipush (v := 6) hx hb dX10_listen_191 (by decide) ?_
                  refine lv_iadd hx hb dX10_listen_193 ?_
                  refine lv_iconst (v := 1) hx hb dX10_listen_194 (by decide) ?_
                  obtain ⟨g29, hf⟩ := it_g hf
                  refine va_iast hx hb hE.1 hP hD hS 1 0 rfl rfl g29 dX10_listen_195 (fun H locs (hP : va_P D vwCl (MX10 cI cZ cL cW a0 a1 a2 a3 a4 a5 a6 0 (upd (upd (upd (upd (upd (upd (upd k_w (Int32.toNatClampNeg (r25 + 0)) p1) (Int32.toNatClampNeg (r25 + 1)) p2) (Int32.toNatClampNeg (r25 + 2)) p3) (Int32.toNatClampNeg (r25 + 3)) p4) (Int32.toNatClampNeg (r25 + 4)) p5) (Int32.toNatClampNeg (r25 + 5)) p6) (Int32.toNatClampNeg (r25 + 6)) 1) k_o k_isKept k_went k_wentMany k_waiting k_came k_depth k_isSilent k_x k_packed k_hits k_rues k_soonest k_inAll) H) (hD : va_D A (MX10 cI cZ cL cW a0 a1 a2 a3 a4 a5 a6 0 (upd (upd (upd (upd (upd (upd (upd k_w (Int32.toNatClampNeg (r25 + 0)) p1) (Int32.toNatClampNeg (r25 + 1)) p2) (Int32.toNatClampNeg (r25 + 2)) p3) (Int32.toNatClampNeg (r25 + 3)) p4) (Int32.toNatClampNeg (r25 + 4)) p5) (Int32.toNatClampNeg (r25 + 5)) p6) (Int32.toNatClampNeg (r25 + 6)) 1) k_o k_isKept k_went k_wentMany k_waiting k_came k_depth k_isSilent k_x k_packed k_hits k_rues k_soonest k_inAll)) hS => ?_)
                  refine lv_aload_n hx hb dX10_listen_196 rfl (lv_at hl 1 rfl) ?_
                  refine gf_X10 (v := .ref a1) C hE hP 0 1 rfl (by decide) qF_X10_17 rfl dX10_listen_197 ?_
                  refine lv_iload hx hb dX10_listen_200 (lv_at hl 0 rfl) ?_
                  refine lv_bipush (v := 7) hx hb dX10_listen_202 (by decide) ?_
                  refine lv_iadd hx hb dX10_listen_204 ?_
                  refine lv_iconst (v := 0) hx hb dX10_listen_205 (by decide) ?_
                  obtain ⟨g28, hf⟩ := it_g hf
                  refine va_iast hx hb hE.1 hP hD hS 1 0 rfl rfl g28 dX10_listen_206 (fun H locs (hP : va_P D vwCl (MX10 cI cZ cL cW a0 a1 a2 a3 a4 a5 a6 0 (upd (upd (upd (upd (upd (upd (upd (upd k_w (Int32.toNatClampNeg (r25 + 0)) p1) (Int32.toNatClampNeg (r25 + 1)) p2) (Int32.toNatClampNeg (r25 + 2)) p3) (Int32.toNatClampNeg (r25 + 3)) p4) (Int32.toNatClampNeg (r25 + 4)) p5) (Int32.toNatClampNeg (r25 + 5)) p6) (Int32.toNatClampNeg (r25 + 6)) 1) (Int32.toNatClampNeg (r25 + 7)) 0) k_o k_isKept k_went k_wentMany k_waiting k_came k_depth k_isSilent k_x k_packed k_hits k_rues k_soonest k_inAll) H) (hD : va_D A (MX10 cI cZ cL cW a0 a1 a2 a3 a4 a5 a6 0 (upd (upd (upd (upd (upd (upd (upd (upd k_w (Int32.toNatClampNeg (r25 + 0)) p1) (Int32.toNatClampNeg (r25 + 1)) p2) (Int32.toNatClampNeg (r25 + 2)) p3) (Int32.toNatClampNeg (r25 + 3)) p4) (Int32.toNatClampNeg (r25 + 4)) p5) (Int32.toNatClampNeg (r25 + 5)) p6) (Int32.toNatClampNeg (r25 + 6)) 1) (Int32.toNatClampNeg (r25 + 7)) 0) k_o k_isKept k_went k_wentMany k_waiting k_came k_depth k_isSilent k_x k_packed k_hits k_rues k_soonest k_inAll)) hS => ?_)
                  refine lv_aload_n hx hb dX10_listen_207 rfl (lv_at hl 1 rfl) ?_
                  refine gf_X10 (v := .ref a1) C hE hP 0 1 rfl (by decide) qF_X10_17 rfl dX10_listen_208 ?_
                  refine lv_iload hx hb dX10_listen_211 (lv_at hl 0 rfl) ?_
                  refine lv_bipush (v := 8) hx hb dX10_listen_213 (by decide) ?_
                  refine lv_iadd hx hb dX10_listen_215 ?_
                  refine lv_iconst (v := 0) hx hb dX10_listen_216 (by decide) ?_
                  obtain ⟨g27, hf⟩ := it_g hf
                  refine va_iast hx hb hE.1 hP hD hS 1 0 rfl rfl g27 dX10_listen_217 (fun H locs (hP : va_P D vwCl (MX10 cI cZ cL cW a0 a1 a2 a3 a4 a5 a6 0 (upd (upd (upd (upd (upd (upd (upd (upd (upd k_w (Int32.toNatClampNeg (r25 + 0)) p1) (Int32.toNatClampNeg (r25 + 1)) p2) (Int32.toNatClampNeg (r25 + 2)) p3) (Int32.toNatClampNeg (r25 + 3)) p4) (Int32.toNatClampNeg (r25 + 4)) p5) (Int32.toNatClampNeg (r25 + 5)) p6) (Int32.toNatClampNeg (r25 + 6)) 1) (Int32.toNatClampNeg (r25 + 7)) 0) (Int32.toNatClampNeg (r25 + 8)) 0) k_o k_isKept k_went k_wentMany k_waiting k_came k_depth k_isSilent k_x k_packed k_hits k_rues k_soonest k_inAll) H) (hD : va_D A (MX10 cI cZ cL cW a0 a1 a2 a3 a4 a5 a6 0 (upd (upd (upd (upd (upd (upd (upd (upd (upd k_w (Int32.toNatClampNeg (r25 + 0)) p1) (Int32.toNatClampNeg (r25 + 1)) p2) (Int32.toNatClampNeg (r25 + 2)) p3) (Int32.toNatClampNeg (r25 + 3)) p4) (Int32.toNatClampNeg (r25 + 4)) p5) (Int32.toNatClampNeg (r25 + 5)) p6) (Int32.toNatClampNeg (r25 + 6)) 1) (Int32.toNatClampNeg (r25 + 7)) 0) (Int32.toNatClampNeg (r25 + 8)) 0) k_o k_isKept k_went k_wentMany k_waiting k_came k_depth k_isSilent k_x k_packed k_hits k_rues k_soonest k_inAll)) hS => ?_)
                  refine lv_aload_n hx hb dX10_listen_218 rfl (lv_at hl 1 rfl) ?_
                  refine gf_X10 (v := .ref a1) C hE hP 0 1 rfl (by decide) qF_X10_17 rfl dX10_listen_219 ?_
                  refine lv_bipush (v := 7) hx hb dX10_listen_222 (by decide) ?_
                  refine lv_dup2_11 hx hb dX10_listen_224 rfl rfl ?_
                  refine va_iald hx hb hE.1 hP 1 0 rfl rfl (vp_l (by decide)) dX10_listen_225 ?_
                  refine lv_iconst (v := 1) hx hb dX10_listen_226 (by decide) ?_
                  refine lv_iadd hx hb dX10_listen_227 ?_
                  refine va_iast hx hb hE.1 hP hD hS 1 0 rfl rfl (vp_l (by decide)) dX10_listen_228 (fun H locs (hP : va_P D vwCl (MX10 cI cZ cL cW a0 a1 a2 a3 a4 a5 a6 0 (upd (upd (upd (upd (upd (upd (upd (upd (upd (upd k_w (Int32.toNatClampNeg (r25 + 0)) p1) (Int32.toNatClampNeg (r25 + 1)) p2) (Int32.toNatClampNeg (r25 + 2)) p3) (Int32.toNatClampNeg (r25 + 3)) p4) (Int32.toNatClampNeg (r25 + 4)) p5) (Int32.toNatClampNeg (r25 + 5)) p6) (Int32.toNatClampNeg (r25 + 6)) 1) (Int32.toNatClampNeg (r25 + 7)) 0) (Int32.toNatClampNeg (r25 + 8)) 0) (Int32.toNatClampNeg 7) (((upd (upd (upd (upd (upd (upd (upd (upd (upd k_w (Int32.toNatClampNeg (r25 + 0)) p1) (Int32.toNatClampNeg (r25 + 1)) p2) (Int32.toNatClampNeg (r25 + 2)) p3) (Int32.toNatClampNeg (r25 + 3)) p4) (Int32.toNatClampNeg (r25 + 4)) p5) (Int32.toNatClampNeg (r25 + 5)) p6) (Int32.toNatClampNeg (r25 + 6)) 1) (Int32.toNatClampNeg (r25 + 7)) 0) (Int32.toNatClampNeg (r25 + 8)) 0) (Int32.toNatClampNeg 7)) + 1)) k_o k_isKept k_went k_wentMany k_waiting k_came k_depth k_isSilent k_x k_packed k_hits k_rues k_soonest k_inAll) H) (hD : va_D A (MX10 cI cZ cL cW a0 a1 a2 a3 a4 a5 a6 0 (upd (upd (upd (upd (upd (upd (upd (upd (upd (upd k_w (Int32.toNatClampNeg (r25 + 0)) p1) (Int32.toNatClampNeg (r25 + 1)) p2) (Int32.toNatClampNeg (r25 + 2)) p3) (Int32.toNatClampNeg (r25 + 3)) p4) (Int32.toNatClampNeg (r25 + 4)) p5) (Int32.toNatClampNeg (r25 + 5)) p6) (Int32.toNatClampNeg (r25 + 6)) 1) (Int32.toNatClampNeg (r25 + 7)) 0) (Int32.toNatClampNeg (r25 + 8)) 0) (Int32.toNatClampNeg 7) (((upd (upd (upd (upd (upd (upd (upd (upd (upd k_w (Int32.toNatClampNeg (r25 + 0)) p1) (Int32.toNatClampNeg (r25 + 1)) p2) (Int32.toNatClampNeg (r25 + 2)) p3) (Int32.toNatClampNeg (r25 + 3)) p4) (Int32.toNatClampNeg (r25 + 4)) p5) (Int32.toNatClampNeg (r25 + 5)) p6) (Int32.toNatClampNeg (r25 + 6)) 1) (Int32.toNatClampNeg (r25 + 7)) 0) (Int32.toNatClampNeg (r25 + 8)) 0) (Int32.toNatClampNeg 7)) + 1)) k_o k_isKept k_went k_wentMany k_waiting k_came k_depth k_isSilent k_x k_packed k_hits k_rues k_soonest k_inAll)) hS => ?_)
                  refine lv_aload_n hx hb dX10_listen_229 rfl (lv_at hl 1 rfl) ?_
                  refine gf_X10 (v := .ref a1) C hE hP 0 1 rfl (by decide) qF_X10_17 rfl dX10_listen_230 ?_
                  refine lv_bipush (v := 7) hx hb dX10_listen_233 (by decide) ?_
                  refine va_iald hx hb hE.1 hP 1 0 rfl rfl (vp_l (by decide)) dX10_listen_235 ?_
                  refine lv_iconst (v := 1) hx hb dX10_listen_236 (by decide) ?_
                  refine lv_isub hx hb dX10_listen_237 ?_
                  cases hf
                  exact rw_i C hr hlk hP hD hS dX10_listen_238 rfl
                · have hf := it_p hf c36
                  refine lv_bipush (v := (-3)) hx hb dX10_listen_106 (by decide) ?_
                  cases hf
                  exact rw_i C hr hlk hP hD hS dX10_listen_108 rfl
              · have hf := it_p hf c37
                refine lv_bipush (v := (-2)) hx hb dX10_listen_91 (by decide) ?_
                cases hf
                exact rw_i C hr hlk hP hD hS dX10_listen_93 rfl
def X10_isHearer (F : Nat) (p1 : Int32) (k_w : (Nat → Int32)) : Option (Int32) := (X10_isIn F p1.toInt64 0 (((k_w (Int32.toNatClampNeg 7)) - 1).toInt64)).bind fun r1 => (if ¬ (r1 = 0 ∨ r1 = 1) then none else (some r1))
abbrev rm_X10_isHearer : Room := { frames := 1, cells := 0, slots := 0, locals := 25 }
theorem ok_X10_isHearer : OKV RX10 yX10_isHearer cX10_isHearer 2 (some .boolean) 1 := ⟨by decide +kernel, qV_X10_isHearer, qL_X10_isHearer, qI_X10, qD_X10_isHearer⟩
set_option maxHeartbeats 4000000 in
set_option maxRecDepth 100000 in
theorem c_X10_isHearer (l : Launch) (D : va_G) (cI cZ cL cW : ClassId) (F : Nat) (a0 : Nat) (a1 : Nat) (a2 : Nat) (a3 : Nat) (a4 : Nat) (a5 : Nat) (a6 : Nat) (k_thrown : Int32) (k_w : (Nat → Int32)) (k_o : Int32) (k_isKept : (Nat → Int32)) (k_went : (Nat → Int32)) (k_wentMany : Int32) (k_waiting : (Nat → Int32)) (k_came : Int32) (k_depth : Int32) (k_isSilent : Int32) (k_x : Int64) (k_packed : (Nat → Int32)) (k_hits : Int32) (k_rues : Int32) (k_soonest : Int32) (k_inAll : (Nat → Int32)) (p1 : Int32) (r : Int32) (hf : X10_isHearer F p1 k_w = some r) : CtrR l D (tyL cI cZ cL cW) nestW yX10_isHearer cX10_isHearer 2 (some .boolean) rm_X10_isHearer [.ref a0, .int p1] (MX10 cI cZ cL cW a0 a1 a2 a3 a4 a5 a6 k_thrown k_w k_o k_isKept k_went k_wentMany k_waiting k_came k_depth k_isSilent k_x k_packed k_hits k_rues k_soonest k_inAll) (some (.int r)) := by
  refine ofR RX10 (by decide) rfl (Nat.le_of_ble_eq_true rfl) ?_
  intro p e s m below meth c ls C hr hlk hE hP hl
  generalize (List.toArray ([.ref a0, .int p1] : List Value)) = args at C ⊢
  obtain ⟨hx, hb, hml, hown, ht⟩ := id C
  have hl : lv_has ls 2 [(0, .ref a0), (1, .int p1)] := hl
  refine lv_iload_n hx hb dX10_isHearer_0 rfl (lv_at hl 1 rfl) ?_
  refine lv_i2l hx hb dX10_isHearer_1 rfl ?_
  refine lv_lconst (v := 0) hx hb dX10_isHearer_2 (by decide) ?_
  refine lv_aload_n hx hb dX10_isHearer_3 rfl (lv_at hl 0 rfl) ?_
  refine gf_X10 (v := .ref a1) C hE hP 0 1 rfl (by decide) qF_X10_17 rfl dX10_isHearer_4 ?_
  refine lv_bipush (v := 7) hx hb dX10_isHearer_7 (by decide) ?_
  refine va_iald hx hb hE.1 hP 1 0 rfl rfl (vp_l (by decide)) dX10_isHearer_9 ?_
  refine lv_iconst (v := 1) hx hb dX10_isHearer_10 (by decide) ?_
  refine lv_isub hx hb dX10_isHearer_11 ?_
  refine lv_i2l hx hb dX10_isHearer_12 rfl ?_
  obtain ⟨r1, h2, hf⟩ := bd_s hf
  refine is_R (rest := []) (st1 := [.int r1]) C hE va_P_nil (c_X10_isIn l D cI cZ cL cW F   p1.toInt64 0 (((k_w (Int32.toNatClampNeg 7)) - 1).toInt64) r1  h2) ok_X10_isIn qM_X10_49 rfl rfl ⟨(Nat.le_of_ble_eq_true rfl), (Nat.le_of_ble_eq_true rfl)⟩ hl.1 (Nat.le_of_ble_eq_true rfl) ⟨Nat.zero_le _, Nat.zero_le _⟩ dX10_isHearer_13 rfl rfl ?_
  obtain ⟨g3, hf⟩ := it_g hf
  exact rt_z C hr hlk (zb_n g3) dX10_isHearer_16 (congrArg (fun o => o.map Value.int) hf)
def X10_turn (F : Nat) (p1 : Int32) (p2 : Int32) (k_thrown : Int32) (k_w : (Nat → Int32)) (k_o : Int32) : Option (Int32 × Int32 × (Nat → Int32)) := (X10_isHearer F p1 k_w).bind fun r1 => (if (r1 : Int32) = 0 then (some ((-2), 0, k_w)) else ((X10_hearerAt F p1 k_o).bind fun r3 => (if ((r3 + 6) : Int32) < 0 ∨ 3392 ≤ (Int32.toNatClampNeg (r3 + 6)) then none else ((X10_flag F p2).bind fun r5 => (if ((k_w (Int32.toNatClampNeg (r3 + 6))) : Int32) = r5 then ((X10_flag F p2).bind fun r7 => (if ((r3 + 6) : Int32) < 0 ∨ 3392 ≤ (Int32.toNatClampNeg (r3 + 6)) then none else ((X10_flag F 0).bind fun r9 => (some (r9, 0, (upd k_w (Int32.toNatClampNeg (r3 + 6)) r7)))))) else ((X10_flag F p2).bind fun r12 => (if ((r3 + 6) : Int32) < 0 ∨ 3392 ≤ (Int32.toNatClampNeg (r3 + 6)) then none else ((X10_flag F 1).bind fun r14 => (some (r14, 0, (upd k_w (Int32.toNatClampNeg (r3 + 6)) r12)))))))))))
abbrev rm_X10_turn : Room := { frames := 2, cells := 0, slots := 0, locals := 46 }
theorem ok_X10_turn : OKV RX10 yX10_turn cX10_turn 5 (some .int) 2 := ⟨by decide +kernel, qV_X10_turn, qL_X10_turn, qI_X10, qD_X10_turn⟩
set_option maxHeartbeats 4000000 in
set_option maxRecDepth 100000 in
theorem c_X10_turn (l : Launch) (D : va_G) (cI cZ cL cW : ClassId) (F : Nat) (a0 : Nat) (a1 : Nat) (a2 : Nat) (a3 : Nat) (a4 : Nat) (a5 : Nat) (a6 : Nat) (k_thrown : Int32) (k_w : (Nat → Int32)) (k_o : Int32) (k_isKept : (Nat → Int32)) (k_went : (Nat → Int32)) (k_wentMany : Int32) (k_waiting : (Nat → Int32)) (k_came : Int32) (k_depth : Int32) (k_isSilent : Int32) (k_x : Int64) (k_packed : (Nat → Int32)) (k_hits : Int32) (k_rues : Int32) (k_soonest : Int32) (k_inAll : (Nat → Int32)) (p1 : Int32) (p2 : Int32) (r : Int32) (k_thrown' : Int32) (k_w' : (Nat → Int32)) (hf : X10_turn F p1 p2 k_thrown k_w k_o = some (r, k_thrown', k_w')) : CtrW l D (tyL cI cZ cL cW) nestW yX10_turn cX10_turn 5 (some .int) rm_X10_turn [.ref a0, .int p1, .int p2] (MX10 cI cZ cL cW a0 a1 a2 a3 a4 a5 a6 k_thrown k_w k_o k_isKept k_went k_wentMany k_waiting k_came k_depth k_isSilent k_x k_packed k_hits k_rues k_soonest k_inAll) (MX10 cI cZ cL cW a0 a1 a2 a3 a4 a5 a6 (k_thrown') (k_w') k_o k_isKept k_went k_wentMany k_waiting k_came k_depth k_isSilent k_x k_packed k_hits k_rues k_soonest k_inAll) (some (.int r)) := by
  refine ofA RX10 (by decide) rfl (Nat.le_of_ble_eq_true rfl) ?_
  intro p e s m below meth c ls A C hr hlk hE hA hP hD hS hl
  generalize (List.toArray ([.ref a0, .int p1, .int p2] : List Value)) = args at C ⊢
  obtain ⟨hx, hb, hml, hown, ht⟩ := id C
  have hl : lv_has ls 5 [(0, .ref a0), (1, .int p1), (2, .int p2)] := hl
  refine lv_aload_n hx hb dX10_turn_0 rfl (lv_at hl 0 rfl) ?_
  refine lv_iconst (v := 0) hx hb dX10_turn_1 (by decide) ?_
  refine pf_X10 (v := .int 0) C hE hP hD hS 0 0 rfl (by decide) qF_X10_1 rfl rfl rfl (Nat.le_of_ble_eq_true rfl) dX10_turn_2 (fun H locs (hP : va_P D vwCl (MX10 cI cZ cL cW a0 a1 a2 a3 a4 a5 a6 0 k_w k_o k_isKept k_went k_wentMany k_waiting k_came k_depth k_isSilent k_x k_packed k_hits k_rues k_soonest k_inAll) H) (hD : va_D A (MX10 cI cZ cL cW a0 a1 a2 a3 a4 a5 a6 0 k_w k_o k_isKept k_went k_wentMany k_waiting k_came k_depth k_isSilent k_x k_packed k_hits k_rues k_soonest k_inAll)) hS => ?_)
  refine lv_aload_n hx hb dX10_turn_5 rfl (lv_at hl 0 rfl) ?_
  refine lv_iload_n hx hb dX10_turn_6 rfl (lv_at hl 1 rfl) ?_
  obtain ⟨r1, h2, hf⟩ := bd_s hf
  refine iv_R (rest := []) (st1 := [.int r1]) C hE hP (c_X10_isHearer l D cI cZ cL cW F a0 a1 a2 a3 a4 a5 a6 0 k_w k_o k_isKept k_went k_wentMany k_waiting k_came k_depth k_isSilent k_x k_packed k_hits k_rues k_soonest k_inAll p1 r1  h2) ok_X10_isHearer qM_X10_222 rfl rfl ⟨(Nat.le_of_ble_eq_true rfl), (Nat.le_of_ble_eq_true rfl)⟩ rfl rfl hl.1 (Nat.le_of_ble_eq_true rfl) ⟨Nat.zero_le _, Nat.zero_le _⟩ dX10_turn_7 rfl rfl ?_
  refine lv_if_ne (tgt := 16) hx hb dX10_turn_10 (by decide) (fun c19 => ?_) (fun c19 => ?_)
  · have hf := it_n hf c19
    refine lv_aload_n hx hb dX10_turn_16 rfl (lv_at hl 0 rfl) ?_
    refine lv_iload_n hx hb dX10_turn_17 rfl (lv_at hl 1 rfl) ?_
    obtain ⟨r3, h4, hf⟩ := bd_s hf
    refine iv_R (rest := []) (st1 := [.int r3]) C hE hP (c_X10_hearerAt l D cI cZ cL cW F a0 a1 a2 a3 a4 a5 a6 0 k_w k_o k_isKept k_went k_wentMany k_waiting k_came k_depth k_isSilent k_x k_packed k_hits k_rues k_soonest k_inAll p1 r3  h4) ok_X10_hearerAt qM_X10_115 rfl rfl ⟨(Nat.le_of_ble_eq_true rfl), (Nat.le_of_ble_eq_true rfl)⟩ rfl rfl hl.1 (Nat.le_of_ble_eq_true rfl) ⟨Nat.zero_le _, Nat.zero_le _⟩ dX10_turn_18 rfl rfl ?_
    refine lv_bipush (v := 6) hx hb dX10_turn_21 (by decide) ?_
    refine lv_iadd hx hb dX10_turn_23 ?_
    refine lv_istore_n (lv' := [(3, .int (r3 + 6)), (0, .ref a0), (1, .int p1), (2, .int p2)]) hx hb dX10_turn_24 rfl hl (by decide) rfl (fun ls hl => ?_)
    refine lv_aload_n hx hb dX10_turn_25 rfl (lv_at hl 1 rfl) ?_
    refine gf_X10 (v := .ref a1) C hE hP 0 1 rfl (by decide) qF_X10_17 rfl dX10_turn_26 ?_
    refine lv_iload_n hx hb dX10_turn_29 rfl (lv_at hl 0 rfl) ?_
    obtain ⟨g18, hf⟩ := it_g hf
    refine va_iald hx hb hE.1 hP 1 0 rfl rfl g18 dX10_turn_30 ?_
    refine lv_iload_n hx hb dX10_turn_31 rfl (lv_at hl 3 rfl) ?_
    obtain ⟨r5, h6, hf⟩ := bd_s hf
    refine is_R (rest := [.int (k_w (Int32.toNatClampNeg (r3 + 6)))]) (st1 := [.int r5, .int (k_w (Int32.toNatClampNeg (r3 + 6)))]) C hE va_P_nil (c_X10_flag l D cI cZ cL cW F   p2 r5  h6) ok_X10_flag qM_X10_57 rfl rfl ⟨(Nat.le_of_ble_eq_true rfl), (Nat.le_of_ble_eq_true rfl)⟩ hl.1 (Nat.le_of_ble_eq_true rfl) ⟨Nat.zero_le _, Nat.zero_le _⟩ dX10_turn_32 rfl rfl ?_
    refine lv_icmp_eq (tgt := 42) hx hb dX10_turn_35 (by decide) (fun c17 => ?_) (fun c17 => ?_)
    · have hf := it_p hf c17
      refine lv_iconst (v := 0) hx hb dX10_turn_42 (by decide) ?_
      refine lv_istore (lv' := [(4, .int 0), (3, .int (r3 + 6)), (0, .ref a0), (1, .int p1), (2, .int p2)]) hx hb dX10_turn_43 hl (by decide) rfl (fun ls hl => ?_)
      refine lv_aload_n hx hb dX10_turn_45 rfl (lv_at hl 2 rfl) ?_
      refine gf_X10 (v := .ref a1) C hE hP 0 1 rfl (by decide) qF_X10_17 rfl dX10_turn_46 ?_
      refine lv_iload_n hx hb dX10_turn_49 rfl (lv_at hl 1 rfl) ?_
      refine lv_iload_n hx hb dX10_turn_50 rfl (lv_at hl 4 rfl) ?_
      obtain ⟨r7, h8, hf⟩ := bd_s hf
      refine is_R (rest := [.int (r3 + 6), .ref a1]) (st1 := [.int r7, .int (r3 + 6), .ref a1]) C hE va_P_nil (c_X10_flag l D cI cZ cL cW F   p2 r7  h8) ok_X10_flag qM_X10_57 rfl rfl ⟨(Nat.le_of_ble_eq_true rfl), (Nat.le_of_ble_eq_true rfl)⟩ hl.1 (Nat.le_of_ble_eq_true rfl) ⟨Nat.zero_le _, Nat.zero_le _⟩ dX10_turn_51 rfl rfl ?_
      obtain ⟨g11, hf⟩ := it_g hf
      refine va_iast hx hb hE.1 hP hD hS 1 0 rfl rfl g11 dX10_turn_54 (fun H locs (hP : va_P D vwCl (MX10 cI cZ cL cW a0 a1 a2 a3 a4 a5 a6 0 (upd k_w (Int32.toNatClampNeg (r3 + 6)) r7) k_o k_isKept k_went k_wentMany k_waiting k_came k_depth k_isSilent k_x k_packed k_hits k_rues k_soonest k_inAll) H) (hD : va_D A (MX10 cI cZ cL cW a0 a1 a2 a3 a4 a5 a6 0 (upd k_w (Int32.toNatClampNeg (r3 + 6)) r7) k_o k_isKept k_went k_wentMany k_waiting k_came k_depth k_isSilent k_x k_packed k_hits k_rues k_soonest k_inAll)) hS => ?_)
      refine lv_iload hx hb dX10_turn_55 (lv_at hl 0 rfl) ?_
      obtain ⟨r9, h10, hf⟩ := bd_s hf
      refine is_R (rest := []) (st1 := [.int r9]) C hE va_P_nil (c_X10_flag l D cI cZ cL cW F   0 r9  h10) ok_X10_flag qM_X10_57 rfl rfl ⟨(Nat.le_of_ble_eq_true rfl), (Nat.le_of_ble_eq_true rfl)⟩ hl.1 (Nat.le_of_ble_eq_true rfl) ⟨Nat.zero_le _, Nat.zero_le _⟩ dX10_turn_57 rfl rfl ?_
      cases hf
      exact rw_i C hr hlk hP hD hS dX10_turn_60 rfl
    · have hf := it_n hf c17
      refine lv_iconst (v := 1) hx hb dX10_turn_38 (by decide) ?_
      refine lv_goto (tgt := 43) hx hb dX10_turn_39 (by decide) ?_
      refine lv_istore (lv' := [(4, .int 1), (3, .int (r3 + 6)), (0, .ref a0), (1, .int p1), (2, .int p2)]) hx hb dX10_turn_43 hl (by decide) rfl (fun ls hl => ?_)
      refine lv_aload_n hx hb dX10_turn_45 rfl (lv_at hl 2 rfl) ?_
      refine gf_X10 (v := .ref a1) C hE hP 0 1 rfl (by decide) qF_X10_17 rfl dX10_turn_46 ?_
      refine lv_iload_n hx hb dX10_turn_49 rfl (lv_at hl 1 rfl) ?_
      refine lv_iload_n hx hb dX10_turn_50 rfl (lv_at hl 4 rfl) ?_
      obtain ⟨r12, h13, hf⟩ := bd_s hf
      refine is_R (rest := [.int (r3 + 6), .ref a1]) (st1 := [.int r12, .int (r3 + 6), .ref a1]) C hE va_P_nil (c_X10_flag l D cI cZ cL cW F   p2 r12  h13) ok_X10_flag qM_X10_57 rfl rfl ⟨(Nat.le_of_ble_eq_true rfl), (Nat.le_of_ble_eq_true rfl)⟩ hl.1 (Nat.le_of_ble_eq_true rfl) ⟨Nat.zero_le _, Nat.zero_le _⟩ dX10_turn_51 rfl rfl ?_
      obtain ⟨g16, hf⟩ := it_g hf
      refine va_iast hx hb hE.1 hP hD hS 1 0 rfl rfl g16 dX10_turn_54 (fun H locs (hP : va_P D vwCl (MX10 cI cZ cL cW a0 a1 a2 a3 a4 a5 a6 0 (upd k_w (Int32.toNatClampNeg (r3 + 6)) r12) k_o k_isKept k_went k_wentMany k_waiting k_came k_depth k_isSilent k_x k_packed k_hits k_rues k_soonest k_inAll) H) (hD : va_D A (MX10 cI cZ cL cW a0 a1 a2 a3 a4 a5 a6 0 (upd k_w (Int32.toNatClampNeg (r3 + 6)) r12) k_o k_isKept k_went k_wentMany k_waiting k_came k_depth k_isSilent k_x k_packed k_hits k_rues k_soonest k_inAll)) hS => ?_)
      refine lv_iload hx hb dX10_turn_55 (lv_at hl 0 rfl) ?_
      obtain ⟨r14, h15, hf⟩ := bd_s hf
      refine is_R (rest := []) (st1 := [.int r14]) C hE va_P_nil (c_X10_flag l D cI cZ cL cW F   1 r14  h15) ok_X10_flag qM_X10_57 rfl rfl ⟨(Nat.le_of_ble_eq_true rfl), (Nat.le_of_ble_eq_true rfl)⟩ hl.1 (Nat.le_of_ble_eq_true rfl) ⟨Nat.zero_le _, Nat.zero_le _⟩ dX10_turn_57 rfl rfl ?_
      cases hf
      exact rw_i C hr hlk hP hD hS dX10_turn_60 rfl
  · have hf := it_p hf c19
    refine lv_bipush (v := (-2)) hx hb dX10_turn_13 (by decide) ?_
    cases hf
    exact rw_i C hr hlk hP hD hS dX10_turn_15 rfl
def X10_draw (F : Nat) (p1 : Int32) (k_x : Int64) : Option (Int32 × Int64) := if p1.toInt64 = 0 then none else (some ((((((1103515245 * k_x) + 12345) - ((1103515245 * k_x) + 12345) / 2147483648 * 2147483648) / 64) - ((((1103515245 * k_x) + 12345) - ((1103515245 * k_x) + 12345) / 2147483648 * 2147483648) / 64) / p1.toInt64 * p1.toInt64).toInt32, (((1103515245 * k_x) + 12345) - ((1103515245 * k_x) + 12345) / 2147483648 * 2147483648)))
abbrev rm_X10_draw : Room := { frames := 0, cells := 0, slots := 0, locals := 0 }
theorem ok_X10_draw : OKV RX10 yX10_draw cX10_draw 2 (some .int) 1 := ⟨by decide +kernel, qV_X10_draw, qL_X10_draw, qI_X10, qD_X10_draw⟩
set_option maxHeartbeats 4000000 in
set_option maxRecDepth 100000 in
theorem c_X10_draw (l : Launch) (D : va_G) (cI cZ cL cW : ClassId) (F : Nat) (a0 : Nat) (a1 : Nat) (a2 : Nat) (a3 : Nat) (a4 : Nat) (a5 : Nat) (a6 : Nat) (k_thrown : Int32) (k_w : (Nat → Int32)) (k_o : Int32) (k_isKept : (Nat → Int32)) (k_went : (Nat → Int32)) (k_wentMany : Int32) (k_waiting : (Nat → Int32)) (k_came : Int32) (k_depth : Int32) (k_isSilent : Int32) (k_x : Int64) (k_packed : (Nat → Int32)) (k_hits : Int32) (k_rues : Int32) (k_soonest : Int32) (k_inAll : (Nat → Int32)) (p1 : Int32) (r : Int32) (k_x' : Int64) (hf : X10_draw F p1 k_x = some (r, k_x')) : CtrW l D (tyL cI cZ cL cW) nestW yX10_draw cX10_draw 2 (some .int) rm_X10_draw [.ref a0, .int p1] (MX10 cI cZ cL cW a0 a1 a2 a3 a4 a5 a6 k_thrown k_w k_o k_isKept k_went k_wentMany k_waiting k_came k_depth k_isSilent k_x k_packed k_hits k_rues k_soonest k_inAll) (MX10 cI cZ cL cW a0 a1 a2 a3 a4 a5 a6 k_thrown k_w k_o k_isKept k_went k_wentMany k_waiting k_came k_depth k_isSilent (k_x') k_packed k_hits k_rues k_soonest k_inAll) (some (.int r)) := by
  refine ofA RX10 (by decide) rfl (Nat.le_of_ble_eq_true rfl) ?_
  intro p e s m below meth c ls A C hr hlk hE hA hP hD hS hl
  generalize (List.toArray ([.ref a0, .int p1] : List Value)) = args at C ⊢
  obtain ⟨hx, hb, hml, hown, ht⟩ := id C
  have hl : lv_has ls 2 [(0, .ref a0), (1, .int p1)] := hl
  refine lv_aload_n hx hb dX10_draw_0 rfl (lv_at hl 0 rfl) ?_
  refine lv_ldc2 (v := 1103515245) hx hb hown (ht _ qJ_X10_225) dX10_draw_1 ?_
  refine lv_aload_n hx hb dX10_draw_4 rfl (lv_at hl 0 rfl) ?_
  refine gf_X10 (v := .long k_x) C hE hP 0 10 rfl (by decide) qF_X10_227 rfl dX10_draw_5 ?_
  refine lv_lmul hx hb dX10_draw_8 ?_
  refine lv_ldc2 (v := 12345) hx hb hown (ht _ qJ_X10_231) dX10_draw_9 ?_
  refine lv_ladd hx hb dX10_draw_12 ?_
  refine lv_ldc2 (v := 2147483648) hx hb hown (ht _ qJ_X10_233) dX10_draw_13 ?_
  refine lv_lrem hx hb dX10_draw_16 (by decide) ?_
  refine pf_X10 (v := .long (((1103515245 * k_x) + 12345) - ((1103515245 * k_x) + 12345) / 2147483648 * 2147483648)) C hE hP hD hS 0 10 rfl (by decide) qF_X10_227 rfl rfl rfl (Nat.le_of_ble_eq_true rfl) dX10_draw_17 (fun H locs (hP : va_P D vwCl (MX10 cI cZ cL cW a0 a1 a2 a3 a4 a5 a6 k_thrown k_w k_o k_isKept k_went k_wentMany k_waiting k_came k_depth k_isSilent (((1103515245 * k_x) + 12345) - ((1103515245 * k_x) + 12345) / 2147483648 * 2147483648) k_packed k_hits k_rues k_soonest k_inAll) H) (hD : va_D A (MX10 cI cZ cL cW a0 a1 a2 a3 a4 a5 a6 k_thrown k_w k_o k_isKept k_went k_wentMany k_waiting k_came k_depth k_isSilent (((1103515245 * k_x) + 12345) - ((1103515245 * k_x) + 12345) / 2147483648 * 2147483648) k_packed k_hits k_rues k_soonest k_inAll)) hS => ?_)
  refine lv_aload_n hx hb dX10_draw_20 rfl (lv_at hl 0 rfl) ?_
  refine gf_X10 (v := .long (((1103515245 * k_x) + 12345) - ((1103515245 * k_x) + 12345) / 2147483648 * 2147483648)) C hE hP 0 10 rfl (by decide) qF_X10_227 rfl dX10_draw_21 ?_
  refine lv_ldc2 (v := 64) hx hb hown (ht _ qJ_X10_235) dX10_draw_24 ?_
  refine lv_ldiv hx hb dX10_draw_27 (by decide) ?_
  refine lv_iload_n hx hb dX10_draw_28 rfl (lv_at hl 1 rfl) ?_
  refine lv_i2l hx hb dX10_draw_29 rfl ?_
  obtain ⟨g1, hf⟩ := it_g hf
  refine lv_lrem hx hb dX10_draw_30 g1 ?_
  refine lv_l2i hx hb dX10_draw_31 rfl ?_
  cases hf
  exact rw_i C hr hlk hP hD hS dX10_draw_32 rfl
def X10_step (F : Nat) (k_thrown : Int32) (k_w : (Nat → Int32)) (k_o : Int32) (k_went : (Nat → Int32)) (k_wentMany : Int32) (k_waiting : (Nat → Int32)) (k_came : Int32) (k_depth : Int32) (k_isSilent : Int32) (k_x : Int64) : Option (Int32 × Int32 × (Nat → Int32) × (Nat → Int32) × Int32 × (Nat → Int32) × Int32 × Int32 × Int64) := (X10_draw F 8 k_x).bind fun (r1, k_x_2) => ((X10_draw F 40 k_x_2).bind fun (r4, k_x_5) => ((X10_draw F 9 k_x_5).bind fun (r7, k_x_8) => (if (4 : Int32) ≤ r1 then (if (7 : Int32) ≤ r1 then ((X10_pins F r4 (1 - (r4 - r4 / 2 * 2)) k_w k_o).bind fun (r10, k_w_11) => (some (0, k_thrown, k_w_11, k_went, k_wentMany, k_waiting, k_came, k_depth, k_x_8))) else ((X10_putCalled F r4 r4 (r7 + 1) 0 k_thrown k_w k_o k_went k_wentMany k_waiting k_came k_depth k_isSilent).bind fun (r13, k_thrown_14, k_w_15, k_went_16, k_wentMany_17, k_waiting_18, k_came_19, k_depth_20) => (some (0, k_thrown_14, k_w_15, k_went_16, k_wentMany_17, k_waiting_18, k_came_19, k_depth_20, k_x_8)))) else ((X10_getCalled F r4 k_thrown k_w k_o k_went k_wentMany k_waiting k_came k_depth k_isSilent).bind fun (r23, k_thrown_24, k_w_25, k_went_26, k_wentMany_27, k_waiting_28, k_came_29, k_depth_30) => (if (r23 : Int32) = 1 then (some (1, k_thrown_24, k_w_25, k_went_26, k_wentMany_27, k_waiting_28, k_came_29, k_depth_30, k_x_8)) else (some (0, k_thrown_24, k_w_25, k_went_26, k_wentMany_27, k_waiting_28, k_came_29, k_depth_30, k_x_8)))))))
abbrev rm_X10_step : Room := { frames := 11, cells := 0, slots := 0, locals := 260 }
theorem ok_X10_step : OKV RX10 yX10_step cX10_step 4 (some .boolean) 0 := ⟨by decide +kernel, qV_X10_step, qL_X10_step, qI_X10, qD_X10_step⟩
set_option maxHeartbeats 4000000 in
set_option maxRecDepth 100000 in
theorem c_X10_step (l : Launch) (D : va_G) (cI cZ cL cW : ClassId) (F : Nat) (a0 : Nat) (a1 : Nat) (a2 : Nat) (a3 : Nat) (a4 : Nat) (a5 : Nat) (a6 : Nat) (k_thrown : Int32) (k_w : (Nat → Int32)) (k_o : Int32) (k_isKept : (Nat → Int32)) (k_went : (Nat → Int32)) (k_wentMany : Int32) (k_waiting : (Nat → Int32)) (k_came : Int32) (k_depth : Int32) (k_isSilent : Int32) (k_x : Int64) (k_packed : (Nat → Int32)) (k_hits : Int32) (k_rues : Int32) (k_soonest : Int32) (k_inAll : (Nat → Int32)) (r : Int32) (k_thrown' : Int32) (k_w' : (Nat → Int32)) (k_went' : (Nat → Int32)) (k_wentMany' : Int32) (k_waiting' : (Nat → Int32)) (k_came' : Int32) (k_depth' : Int32) (k_x' : Int64) (hf : X10_step F k_thrown k_w k_o k_went k_wentMany k_waiting k_came k_depth k_isSilent k_x = some (r, k_thrown', k_w', k_went', k_wentMany', k_waiting', k_came', k_depth', k_x')) : CtrW l D (tyL cI cZ cL cW) nestW yX10_step cX10_step 4 (some .boolean) rm_X10_step [.ref a0] (MX10 cI cZ cL cW a0 a1 a2 a3 a4 a5 a6 k_thrown k_w k_o k_isKept k_went k_wentMany k_waiting k_came k_depth k_isSilent k_x k_packed k_hits k_rues k_soonest k_inAll) (MX10 cI cZ cL cW a0 a1 a2 a3 a4 a5 a6 (k_thrown') (k_w') k_o k_isKept (k_went') (k_wentMany') (k_waiting') (k_came') (k_depth') k_isSilent (k_x') k_packed k_hits k_rues k_soonest k_inAll) (some (.int r)) := by
  refine ofA RX10 (by decide) rfl (Nat.le_of_ble_eq_true rfl) ?_
  intro p e s m below meth c ls A C hr hlk hE hA hP hD hS hl
  generalize (List.toArray ([.ref a0] : List Value)) = args at C ⊢
  obtain ⟨hx, hb, hml, hown, ht⟩ := id C
  have hl : lv_has ls 4 [(0, .ref a0)] := hl
  refine lv_aload_n hx hb dX10_step_0 rfl (lv_at hl 0 rfl) ?_
  refine lv_bipush (v := 8) hx hb dX10_step_1 (by decide) ?_
  obtain ⟨⟨r1, k_x_2⟩, h3, hf⟩ := bd_s hf
  refine iv_A (rest := []) (st1 := [.int r1]) C hE hP hD hS hA (c_X10_draw l D cI cZ cL cW F a0 a1 a2 a3 a4 a5 a6 k_thrown k_w k_o k_isKept k_went k_wentMany k_waiting k_came k_depth k_isSilent k_x k_packed k_hits k_rues k_soonest k_inAll 8 r1 k_x_2 h3) ok_X10_draw qM_X10_237 rfl rfl ⟨(Nat.le_of_ble_eq_true rfl), (Nat.le_of_ble_eq_true rfl)⟩ rfl rfl hl.1 (Nat.le_of_ble_eq_true rfl) ⟨Nat.zero_le _, Nat.zero_le _⟩ dX10_step_3 rfl rfl (fun H locs (hP : va_P D vwCl (MX10 cI cZ cL cW a0 a1 a2 a3 a4 a5 a6 k_thrown k_w k_o k_isKept k_went k_wentMany k_waiting k_came k_depth k_isSilent k_x_2 k_packed k_hits k_rues k_soonest k_inAll) H) (hD : va_D A (MX10 cI cZ cL cW a0 a1 a2 a3 a4 a5 a6 k_thrown k_w k_o k_isKept k_went k_wentMany k_waiting k_came k_depth k_isSilent k_x_2 k_packed k_hits k_rues k_soonest k_inAll)) hS => ?_)
  refine lv_istore_n (lv' := [(1, .int r1), (0, .ref a0)]) hx hb dX10_step_6 rfl hl (by decide) rfl (fun ls hl => ?_)
  refine lv_aload_n hx hb dX10_step_7 rfl (lv_at hl 1 rfl) ?_
  refine lv_bipush (v := 40) hx hb dX10_step_8 (by decide) ?_
  obtain ⟨⟨r4, k_x_5⟩, h6, hf⟩ := bd_s hf
  refine iv_A (rest := []) (st1 := [.int r4]) C hE hP hD hS hA (c_X10_draw l D cI cZ cL cW F a0 a1 a2 a3 a4 a5 a6 k_thrown k_w k_o k_isKept k_went k_wentMany k_waiting k_came k_depth k_isSilent k_x_2 k_packed k_hits k_rues k_soonest k_inAll 40 r4 k_x_5 h6) ok_X10_draw qM_X10_237 rfl rfl ⟨(Nat.le_of_ble_eq_true rfl), (Nat.le_of_ble_eq_true rfl)⟩ rfl rfl hl.1 (Nat.le_of_ble_eq_true rfl) ⟨Nat.zero_le _, Nat.zero_le _⟩ dX10_step_10 rfl rfl (fun H locs (hP : va_P D vwCl (MX10 cI cZ cL cW a0 a1 a2 a3 a4 a5 a6 k_thrown k_w k_o k_isKept k_went k_wentMany k_waiting k_came k_depth k_isSilent k_x_5 k_packed k_hits k_rues k_soonest k_inAll) H) (hD : va_D A (MX10 cI cZ cL cW a0 a1 a2 a3 a4 a5 a6 k_thrown k_w k_o k_isKept k_went k_wentMany k_waiting k_came k_depth k_isSilent k_x_5 k_packed k_hits k_rues k_soonest k_inAll)) hS => ?_)
  refine lv_istore_n (lv' := [(2, .int r4), (1, .int r1), (0, .ref a0)]) hx hb dX10_step_13 rfl hl (by decide) rfl (fun ls hl => ?_)
  refine lv_aload_n hx hb dX10_step_14 rfl (lv_at hl 2 rfl) ?_
  refine lv_bipush (v := 9) hx hb dX10_step_15 (by decide) ?_
  obtain ⟨⟨r7, k_x_8⟩, h9, hf⟩ := bd_s hf
  refine iv_A (rest := []) (st1 := [.int r7]) C hE hP hD hS hA (c_X10_draw l D cI cZ cL cW F a0 a1 a2 a3 a4 a5 a6 k_thrown k_w k_o k_isKept k_went k_wentMany k_waiting k_came k_depth k_isSilent k_x_5 k_packed k_hits k_rues k_soonest k_inAll 9 r7 k_x_8 h9) ok_X10_draw qM_X10_237 rfl rfl ⟨(Nat.le_of_ble_eq_true rfl), (Nat.le_of_ble_eq_true rfl)⟩ rfl rfl hl.1 (Nat.le_of_ble_eq_true rfl) ⟨Nat.zero_le _, Nat.zero_le _⟩ dX10_step_17 rfl rfl (fun H locs (hP : va_P D vwCl (MX10 cI cZ cL cW a0 a1 a2 a3 a4 a5 a6 k_thrown k_w k_o k_isKept k_went k_wentMany k_waiting k_came k_depth k_isSilent k_x_8 k_packed k_hits k_rues k_soonest k_inAll) H) (hD : va_D A (MX10 cI cZ cL cW a0 a1 a2 a3 a4 a5 a6 k_thrown k_w k_o k_isKept k_went k_wentMany k_waiting k_came k_depth k_isSilent k_x_8 k_packed k_hits k_rues k_soonest k_inAll)) hS => ?_)
  refine lv_iconst (v := 1) hx hb dX10_step_20 (by decide) ?_
  refine lv_iadd hx hb dX10_step_21 ?_
  refine lv_istore_n (lv' := [(3, .int (r7 + 1)), (2, .int r4), (1, .int r1), (0, .ref a0)]) hx hb dX10_step_22 rfl hl (by decide) rfl (fun ls hl => ?_)
  refine lv_iload_n hx hb dX10_step_23 rfl (lv_at hl 2 rfl) ?_
  refine lv_iconst (v := 4) hx hb dX10_step_24 (by decide) ?_
  refine lv_icmp_ge (tgt := 43) hx hb dX10_step_25 (by decide) (fun c33 => ?_) (fun c33 => ?_)
  · have hf := it_p hf c33
    refine lv_iload_n hx hb dX10_step_43 rfl (lv_at hl 2 rfl) ?_
    refine lv_bipush (v := 7) hx hb dX10_step_44 (by decide) ?_
    refine lv_icmp_ge (tgt := 61) hx hb dX10_step_46 (by decide) (fun c22 => ?_) (fun c22 => ?_)
    · have hf := it_p hf c22
      refine lv_aload_n hx hb dX10_step_61 rfl (lv_at hl 3 rfl) ?_
      refine lv_iload_n hx hb dX10_step_62 rfl (lv_at hl 1 rfl) ?_
      refine lv_iconst (v := 1) hx hb dX10_step_63 (by decide) ?_
      refine lv_iload_n hx hb dX10_step_64 rfl (lv_at hl 1 rfl) ?_
      refine lv_iconst (v := 2) hx hb dX10_step_65 (by decide) ?_
      refine lv_irem hx hb dX10_step_66 (by decide) ?_
      refine lv_isub hx hb dX10_step_67 ?_
      obtain ⟨⟨r10, k_w_11⟩, h12, hf⟩ := bd_s hf
      refine iv_A (rest := []) (st1 := [.int r10]) C hE hP hD hS hA (c_X10_pins l D cI cZ cL cW F a0 a1 a2 a3 a4 a5 a6 k_thrown k_w k_o k_isKept k_went k_wentMany k_waiting k_came k_depth k_isSilent k_x_8 k_packed k_hits k_rues k_soonest k_inAll r4 (1 - (r4 - r4 / 2 * 2)) r10 k_w_11 h12) ok_X10_pins qM_X10_144 rfl rfl ⟨(Nat.le_of_ble_eq_true rfl), (Nat.le_of_ble_eq_true rfl)⟩ rfl rfl hl.1 (Nat.le_of_ble_eq_true rfl) ⟨Nat.zero_le _, Nat.zero_le _⟩ dX10_step_68 rfl rfl (fun H locs (hP : va_P D vwCl (MX10 cI cZ cL cW a0 a1 a2 a3 a4 a5 a6 k_thrown k_w_11 k_o k_isKept k_went k_wentMany k_waiting k_came k_depth k_isSilent k_x_8 k_packed k_hits k_rues k_soonest k_inAll) H) (hD : va_D A (MX10 cI cZ cL cW a0 a1 a2 a3 a4 a5 a6 k_thrown k_w_11 k_o k_isKept k_went k_wentMany k_waiting k_came k_depth k_isSilent k_x_8 k_packed k_hits k_rues k_soonest k_inAll)) hS => ?_)
      refine lv_pop hx hb dX10_step_71 rfl ?_
      refine lv_iconst (v := 0) hx hb dX10_step_72 (by decide) ?_
      cases hf
      exact rw_z C hr hlk (by decide) hP hD hS dX10_step_73 rfl
    · have hf := it_n hf c22
      refine lv_aload_n hx hb dX10_step_49 rfl (lv_at hl 3 rfl) ?_
      refine lv_iload_n hx hb dX10_step_50 rfl (lv_at hl 1 rfl) ?_
      refine lv_iload_n hx hb dX10_step_51 rfl (lv_at hl 1 rfl) ?_
      refine lv_iload_n hx hb dX10_step_52 rfl (lv_at hl 0 rfl) ?_
      refine lv_iconst (v := 0) hx hb dX10_step_53 (by decide) ?_
      obtain ⟨⟨r13, k_thrown_14, k_w_15, k_went_16, k_wentMany_17, k_waiting_18, k_came_19, k_depth_20⟩, h21, hf⟩ := bd_s hf
      refine iv_A (rest := []) (st1 := [.int r13]) C hE hP hD hS hA (c_X10_putCalled l D cI cZ cL cW F a0 a1 a2 a3 a4 a5 a6 k_thrown k_w k_o k_isKept k_went k_wentMany k_waiting k_came k_depth k_isSilent k_x_8 k_packed k_hits k_rues k_soonest k_inAll r4 r4 (r7 + 1) 0 r13 k_thrown_14 k_w_15 k_went_16 k_wentMany_17 k_waiting_18 k_came_19 k_depth_20 h21) ok_X10_putCalled qM_X10_203 rfl rfl ⟨(Nat.le_of_ble_eq_true rfl), (Nat.le_of_ble_eq_true rfl)⟩ rfl rfl hl.1 (Nat.le_of_ble_eq_true rfl) ⟨Nat.zero_le _, Nat.zero_le _⟩ dX10_step_54 rfl rfl (fun H locs (hP : va_P D vwCl (MX10 cI cZ cL cW a0 a1 a2 a3 a4 a5 a6 k_thrown_14 k_w_15 k_o k_isKept k_went_16 k_wentMany_17 k_waiting_18 k_came_19 k_depth_20 k_isSilent k_x_8 k_packed k_hits k_rues k_soonest k_inAll) H) (hD : va_D A (MX10 cI cZ cL cW a0 a1 a2 a3 a4 a5 a6 k_thrown_14 k_w_15 k_o k_isKept k_went_16 k_wentMany_17 k_waiting_18 k_came_19 k_depth_20 k_isSilent k_x_8 k_packed k_hits k_rues k_soonest k_inAll)) hS => ?_)
      refine lv_pop hx hb dX10_step_57 rfl ?_
      refine lv_goto (tgt := 72) hx hb dX10_step_58 (by decide) ?_
      refine lv_iconst (v := 0) hx hb dX10_step_72 (by decide) ?_
      cases hf
      exact rw_z C hr hlk (by decide) hP hD hS dX10_step_73 rfl
  · have hf := it_n hf c33
    refine lv_aload_n hx hb dX10_step_28 rfl (lv_at hl 3 rfl) ?_
    refine lv_iload_n hx hb dX10_step_29 rfl (lv_at hl 1 rfl) ?_
    obtain ⟨⟨r23, k_thrown_24, k_w_25, k_went_26, k_wentMany_27, k_waiting_28, k_came_29, k_depth_30⟩, h31, hf⟩ := bd_s hf
    refine iv_A (rest := []) (st1 := [.int r23]) C hE hP hD hS hA (c_X10_getCalled l D cI cZ cL cW F a0 a1 a2 a3 a4 a5 a6 k_thrown k_w k_o k_isKept k_went k_wentMany k_waiting k_came k_depth k_isSilent k_x_8 k_packed k_hits k_rues k_soonest k_inAll r4 r23 k_thrown_24 k_w_25 k_went_26 k_wentMany_27 k_waiting_28 k_came_29 k_depth_30 h31) ok_X10_getCalled qM_X10_206 rfl rfl ⟨(Nat.le_of_ble_eq_true rfl), (Nat.le_of_ble_eq_true rfl)⟩ rfl rfl hl.1 (Nat.le_of_ble_eq_true rfl) ⟨Nat.zero_le _, Nat.zero_le _⟩ dX10_step_30 rfl rfl (fun H locs (hP : va_P D vwCl (MX10 cI cZ cL cW a0 a1 a2 a3 a4 a5 a6 k_thrown_24 k_w_25 k_o k_isKept k_went_26 k_wentMany_27 k_waiting_28 k_came_29 k_depth_30 k_isSilent k_x_8 k_packed k_hits k_rues k_soonest k_inAll) H) (hD : va_D A (MX10 cI cZ cL cW a0 a1 a2 a3 a4 a5 a6 k_thrown_24 k_w_25 k_o k_isKept k_went_26 k_wentMany_27 k_waiting_28 k_came_29 k_depth_30 k_isSilent k_x_8 k_packed k_hits k_rues k_soonest k_inAll)) hS => ?_)
    refine lv_iconst (v := 1) hx hb dX10_step_33 (by decide) ?_
    refine lv_icmp_ne (tgt := 41) hx hb dX10_step_34 (by decide) (fun c32 => ?_) (fun c32 => ?_)
    · have hf := it_n hf c32
      refine lv_iconst (v := 0) hx hb dX10_step_41 (by decide) ?_
      cases hf
      exact rw_z C hr hlk (by decide) hP hD hS dX10_step_42 rfl
    · have hf := it_p hf c32
      refine lv_iconst (v := 1) hx hb dX10_step_37 (by decide) ?_
      refine lv_goto (tgt := 42) hx hb dX10_step_38 (by decide) ?_
      cases hf
      exact rw_z C hr hlk (by decide) hP hD hS dX10_step_42 rfl
def X10_chance_L35 (F : Nat) : Nat → Int32 → Int32 → Int32 → Int32 → (Nat → Int32) → Int32 → (Nat → Int32) → Int32 → (Nat → Int32) → Int32 → Int32 → Int32 → Int64 → Option (Int32 × Int32 × (Nat → Int32) × (Nat → Int32) × Int32 × (Nat → Int32) × Int32 × Int32 × Int64)
  | 0, _, _, _, _, _, _, _, _, _, _, _, _, _ => none
  | n + 1, v2, v3, v4, k_thrown, k_w, k_o, k_went, k_wentMany, k_waiting, k_came, k_depth, k_isSilent, k_x => if (v2 : Int32) ≤ v4 then (some (v3, k_thrown, k_w, k_went, k_wentMany, k_waiting, k_came, k_depth, k_x)) else ((X10_step F k_thrown k_w k_o k_went k_wentMany k_waiting k_came k_depth k_isSilent k_x).bind fun (r3, k_thrown_4, k_w_5, k_went_6, k_wentMany_7, k_waiting_8, k_came_9, k_depth_10, k_x_11) => ((X10_flag F r3).bind fun r13 => (X10_chance_L35 F n v2 (v3 + r13) (v4 + 1) k_thrown_4 k_w_5 k_o k_went_6 k_wentMany_7 k_waiting_8 k_came_9 k_depth_10 k_isSilent k_x_11)))
def X10_chance (F : Nat) (p1 : Int32) (p2 : Int32) (k_thrown : Int32) (k_w : (Nat → Int32)) (k_o : Int32) (k_went : (Nat → Int32)) (k_wentMany : Int32) (k_waiting : (Nat → Int32)) (k_came : Int32) (k_depth : Int32) (k_isSilent : Int32) (k_x : Int64) : Option (Int32 × Int32 × (Nat → Int32) × (Nat → Int32) × Int32 × (Nat → Int32) × Int32 × Int32 × Int64) := if (p1 : Int32) < 0 then (some ((-2), 0, k_w, k_went, k_wentMany, k_waiting, k_came, k_depth, k_x)) else ((X10_isIn F p2.toInt64 0 60).bind fun r1 => (if (r1 : Int32) = 0 then (some ((-2), 0, k_w, k_went, k_wentMany, k_waiting, k_came, k_depth, k_x)) else ((X10_chance_L35 F F p2 0 0 0 k_w k_o k_went k_wentMany k_waiting k_came k_depth k_isSilent p1.toInt64).bind fun (x16, k17, k18, k19, k20, k21, k22, k23, k24) => (some (x16, k17, k18, k19, k20, k21, k22, k23, k24)))))
abbrev rm_X10_chance : Room := { frames := 12, cells := 0, slots := 0, locals := 283 }
theorem ok_X10_chance : OKV RX10 yX10_chance cX10_chance 5 (some .int) 2 := ⟨by decide +kernel, qV_X10_chance, qL_X10_chance, qI_X10, qD_X10_chance⟩
set_option maxHeartbeats 4000000 in
set_option maxRecDepth 100000 in
theorem c_X10_chance (l : Launch) (D : va_G) (cI cZ cL cW : ClassId) (F : Nat) (a0 : Nat) (a1 : Nat) (a2 : Nat) (a3 : Nat) (a4 : Nat) (a5 : Nat) (a6 : Nat) (k_thrown : Int32) (k_w : (Nat → Int32)) (k_o : Int32) (k_isKept : (Nat → Int32)) (k_went : (Nat → Int32)) (k_wentMany : Int32) (k_waiting : (Nat → Int32)) (k_came : Int32) (k_depth : Int32) (k_isSilent : Int32) (k_x : Int64) (k_packed : (Nat → Int32)) (k_hits : Int32) (k_rues : Int32) (k_soonest : Int32) (k_inAll : (Nat → Int32)) (p1 : Int32) (p2 : Int32) (r : Int32) (k_thrown' : Int32) (k_w' : (Nat → Int32)) (k_went' : (Nat → Int32)) (k_wentMany' : Int32) (k_waiting' : (Nat → Int32)) (k_came' : Int32) (k_depth' : Int32) (k_x' : Int64) (hf : X10_chance F p1 p2 k_thrown k_w k_o k_went k_wentMany k_waiting k_came k_depth k_isSilent k_x = some (r, k_thrown', k_w', k_went', k_wentMany', k_waiting', k_came', k_depth', k_x')) : CtrW l D (tyL cI cZ cL cW) nestW yX10_chance cX10_chance 5 (some .int) rm_X10_chance [.ref a0, .int p1, .int p2] (MX10 cI cZ cL cW a0 a1 a2 a3 a4 a5 a6 k_thrown k_w k_o k_isKept k_went k_wentMany k_waiting k_came k_depth k_isSilent k_x k_packed k_hits k_rues k_soonest k_inAll) (MX10 cI cZ cL cW a0 a1 a2 a3 a4 a5 a6 (k_thrown') (k_w') k_o k_isKept (k_went') (k_wentMany') (k_waiting') (k_came') (k_depth') k_isSilent (k_x') k_packed k_hits k_rues k_soonest k_inAll) (some (.int r)) := by
  refine ofA RX10 (by decide) rfl (Nat.le_of_ble_eq_true rfl) ?_
  intro p e s m below meth c ls A C hr hlk hE hA hP hD hS hl
  generalize (List.toArray ([.ref a0, .int p1, .int p2] : List Value)) = args at C ⊢
  obtain ⟨hx, hb, hml, hown, ht⟩ := id C
  have hl : lv_has ls 5 [(0, .ref a0), (1, .int p1), (2, .int p2)] := hl
  have L35 : ∀ (Q : State → Prop) (n : Nat) (v2 : Int32) (v3 : Int32) (v4 : Int32) (k_thrown : Int32) (k_w : (Nat → Int32)) (k_o : Int32) (k_isKept : (Nat → Int32)) (k_went : (Nat → Int32)) (k_wentMany : Int32) (k_waiting : (Nat → Int32)) (k_came : Int32) (k_depth : Int32) (k_isSilent : Int32) (k_x : Int64) (k_packed : (Nat → Int32)) (k_hits : Int32) (k_rues : Int32) (k_soonest : Int32) (k_inAll : (Nat → Int32)) (x3 : Int32) (k_thrown' : Int32) (k_w' : (Nat → Int32)) (k_went' : (Nat → Int32)) (k_wentMany' : Int32) (k_waiting' : (Nat → Int32)) (k_came' : Int32) (k_depth' : Int32) (k_x' : Int64) (H : Heap) (locs : List Loc) (ls : Array Slot), X10_chance_L35 F n v2 v3 v4 k_thrown k_w k_o k_went k_wentMany k_waiting k_came k_depth k_isSilent k_x = some (x3, k_thrown', k_w', k_went', k_wentMany', k_waiting', k_came', k_depth', k_x') → va_P D vwCl (MX10 cI cZ cL cW a0 a1 a2 a3 a4 a5 a6 k_thrown k_w k_o k_isKept k_went k_wentMany k_waiting k_came k_depth k_isSilent k_x k_packed k_hits k_rues k_soonest k_inAll) H → va_D A (MX10 cI cZ cL cW a0 a1 a2 a3 a4 a5 a6 k_thrown k_w k_o k_isKept k_went k_wentMany k_waiting k_came k_depth k_isSilent k_x k_packed k_hits k_rues k_soonest k_inAll) → va_S A s.heap H locs → lv_has ls 5 [(0, .ref a0), (2, .int v2), (3, .int v3), (4, .int v4)] → (∀ (H : Heap) (locs : List Loc) (ls : Array Slot), va_P D vwCl (MX10 cI cZ cL cW a0 a1 a2 a3 a4 a5 a6 (k_thrown') (k_w') k_o k_isKept (k_went') (k_wentMany') (k_waiting') (k_came') (k_depth') k_isSilent (k_x') k_packed k_hits k_rues k_soonest k_inAll) H → va_D A (MX10 cI cZ cL cW a0 a1 a2 a3 a4 a5 a6 (k_thrown') (k_w') k_o k_isKept (k_went') (k_wentMany') (k_waiting') (k_came') (k_depth') k_isSilent (k_x') k_packed k_hits k_rues k_soonest k_inAll) → va_S A s.heap H locs → lv_has ls 5 [(3, .int x3)] → W p l e rm_X10_chance s m args below meth c H locs 0 0 Q (F0 m 57 ls [])) → W p l e rm_X10_chance s m args below meth c H locs 0 0 Q (F0 m 35 ls []) := by
    intro Q n
    induction n with
    | zero => intro v2 v3 v4 k_thrown k_w k_o k_isKept k_went k_wentMany k_waiting k_came k_depth k_isSilent k_x k_packed k_hits k_rues k_soonest k_inAll x3 k_thrown' k_w' k_went' k_wentMany' k_waiting' k_came' k_depth' k_x' H locs ls hf hP hD hS hl hk; exact nn_s hf
    | succ n ih =>
      intro v2 v3 v4 k_thrown k_w k_o k_isKept k_went k_wentMany k_waiting k_came k_depth k_isSilent k_x k_packed k_hits k_rues k_soonest k_inAll x3 k_thrown' k_w' k_went' k_wentMany' k_waiting' k_came' k_depth' k_x' H locs ls hf hP hD hS hl hk
      refine lv_iload hx hb dX10_chance_35 (lv_at hl 3 rfl) ?_
      refine lv_iload_n hx hb dX10_chance_37 rfl (lv_at hl 1 rfl) ?_
      refine lv_icmp_ge (tgt := 57) hx hb dX10_chance_38 (by decide) (fun c15 => ?_) (fun c15 => ?_)
      · have hf := it_p hf c15
        cases hf
        exact hk _ _ ls hP hD hS (lv_sub hl [2] rfl)
      · have hf := it_n hf c15
        refine lv_iload_n hx hb dX10_chance_41 rfl (lv_at hl 2 rfl) ?_
        refine lv_aload_n hx hb dX10_chance_42 rfl (lv_at hl 0 rfl) ?_
        obtain ⟨⟨r3, k_thrown_4, k_w_5, k_went_6, k_wentMany_7, k_waiting_8, k_came_9, k_depth_10, k_x_11⟩, h12, hf⟩ := bd_s hf
        refine iv_A (rest := [.int v3]) (st1 := [.int r3, .int v3]) C hE hP hD hS hA (c_X10_step l D cI cZ cL cW F a0 a1 a2 a3 a4 a5 a6 k_thrown k_w k_o k_isKept k_went k_wentMany k_waiting k_came k_depth k_isSilent k_x k_packed k_hits k_rues k_soonest k_inAll  r3 k_thrown_4 k_w_5 k_went_6 k_wentMany_7 k_waiting_8 k_came_9 k_depth_10 k_x_11 h12) ok_X10_step qM_X10_242 rfl rfl ⟨(Nat.le_of_ble_eq_true rfl), (Nat.le_of_ble_eq_true rfl)⟩ rfl rfl hl.1 (Nat.le_of_ble_eq_true rfl) ⟨Nat.zero_le _, Nat.zero_le _⟩ dX10_chance_43 rfl rfl (fun H locs (hP : va_P D vwCl (MX10 cI cZ cL cW a0 a1 a2 a3 a4 a5 a6 k_thrown_4 k_w_5 k_o k_isKept k_went_6 k_wentMany_7 k_waiting_8 k_came_9 k_depth_10 k_isSilent k_x_11 k_packed k_hits k_rues k_soonest k_inAll) H) (hD : va_D A (MX10 cI cZ cL cW a0 a1 a2 a3 a4 a5 a6 k_thrown_4 k_w_5 k_o k_isKept k_went_6 k_wentMany_7 k_waiting_8 k_came_9 k_depth_10 k_isSilent k_x_11 k_packed k_hits k_rues k_soonest k_inAll)) hS => ?_)
        obtain ⟨r13, h14, hf⟩ := bd_s hf
        refine is_R (rest := [.int v3]) (st1 := [.int r13, .int v3]) C hE va_P_nil (c_X10_flag l D cI cZ cL cW F   r3 r13  h14) ok_X10_flag qM_X10_57 rfl rfl ⟨(Nat.le_of_ble_eq_true rfl), (Nat.le_of_ble_eq_true rfl)⟩ hl.1 (Nat.le_of_ble_eq_true rfl) ⟨Nat.zero_le _, Nat.zero_le _⟩ dX10_chance_46 rfl rfl ?_
        refine lv_iadd hx hb dX10_chance_49 ?_
        refine lv_istore_n (lv' := [(3, .int (v3 + r13)), (0, .ref a0), (2, .int v2), (4, .int v4)]) hx hb dX10_chance_50 rfl hl (by decide) rfl (fun ls hl => ?_)
        refine lv_iinc (v := (v4 + 1)) (lv' := [(4, .int (v4 + 1)), (3, .int (v3 + r13)), (0, .ref a0), (2, .int v2)]) hx hb dX10_chance_51 hl (k := 3) rfl rfl (by decide) rfl (fun ls hl => ?_)
        refine lv_goto (tgt := 35) hx hb dX10_chance_54 (by decide) ?_
        exact ih v2 (v3 + r13) (v4 + 1) k_thrown_4 k_w_5 k_o k_isKept k_went_6 k_wentMany_7 k_waiting_8 k_came_9 k_depth_10 k_isSilent k_x_11 k_packed k_hits k_rues k_soonest k_inAll _ _ _ _ _ _ _ _ _ _ _ ls hf hP hD hS (lv_sub hl [2, 3, 1, 0] rfl) hk
  refine lv_aload_n hx hb dX10_chance_0 rfl (lv_at hl 0 rfl) ?_
  refine lv_iconst (v := 0) hx hb dX10_chance_1 (by decide) ?_
  refine pf_X10 (v := .int 0) C hE hP hD hS 0 0 rfl (by decide) qF_X10_1 rfl rfl rfl (Nat.le_of_ble_eq_true rfl) dX10_chance_2 (fun H locs (hP : va_P D vwCl (MX10 cI cZ cL cW a0 a1 a2 a3 a4 a5 a6 0 k_w k_o k_isKept k_went k_wentMany k_waiting k_came k_depth k_isSilent k_x k_packed k_hits k_rues k_soonest k_inAll) H) (hD : va_D A (MX10 cI cZ cL cW a0 a1 a2 a3 a4 a5 a6 0 k_w k_o k_isKept k_went k_wentMany k_waiting k_came k_depth k_isSilent k_x k_packed k_hits k_rues k_soonest k_inAll)) hS => ?_)
  refine lv_iload_n hx hb dX10_chance_5 rfl (lv_at hl 1 rfl) ?_
  refine lv_if_lt (tgt := 21) hx hb dX10_chance_6 (by decide) (fun c27 => ?_) (fun c27 => ?_)
  · have hf := it_p hf c27
    refine lv_bipush (v := (-2)) hx hb dX10_chance_21 (by decide) ?_
    cases hf
    exact rw_i C hr hlk hP hD hS dX10_chance_23 rfl
  · have hf := it_n hf c27
    refine lv_iload_n hx hb dX10_chance_9 rfl (lv_at hl 2 rfl) ?_
    refine lv_i2l hx hb dX10_chance_10 rfl ?_
    refine lv_lconst (v := 0) hx hb dX10_chance_11 (by decide) ?_
    refine lv_ldc2 (v := 60) hx hb hown (ht _ qJ_X10_240) dX10_chance_12 ?_
    obtain ⟨r1, h2, hf⟩ := bd_s hf
    refine is_R (rest := []) (st1 := [.int r1]) C hE va_P_nil (c_X10_isIn l D cI cZ cL cW F   p2.toInt64 0 60 r1  h2) ok_X10_isIn qM_X10_49 rfl rfl ⟨(Nat.le_of_ble_eq_true rfl), (Nat.le_of_ble_eq_true rfl)⟩ hl.1 (Nat.le_of_ble_eq_true rfl) ⟨Nat.zero_le _, Nat.zero_le _⟩ dX10_chance_15 rfl rfl ?_
    refine lv_if_ne (tgt := 24) hx hb dX10_chance_18 (by decide) (fun c26 => ?_) (fun c26 => ?_)
    · have hf := it_n hf c26
      refine lv_aload_n hx hb dX10_chance_24 rfl (lv_at hl 0 rfl) ?_
      refine lv_iload_n hx hb dX10_chance_25 rfl (lv_at hl 1 rfl) ?_
      refine lv_i2l hx hb dX10_chance_26 rfl ?_
      refine pf_X10 (v := .long p1.toInt64) C hE hP hD hS 0 10 rfl (by decide) qF_X10_227 rfl rfl rfl (Nat.le_of_ble_eq_true rfl) dX10_chance_27 (fun H locs (hP : va_P D vwCl (MX10 cI cZ cL cW a0 a1 a2 a3 a4 a5 a6 0 k_w k_o k_isKept k_went k_wentMany k_waiting k_came k_depth k_isSilent p1.toInt64 k_packed k_hits k_rues k_soonest k_inAll) H) (hD : va_D A (MX10 cI cZ cL cW a0 a1 a2 a3 a4 a5 a6 0 k_w k_o k_isKept k_went k_wentMany k_waiting k_came k_depth k_isSilent p1.toInt64 k_packed k_hits k_rues k_soonest k_inAll)) hS => ?_)
      refine lv_iconst (v := 0) hx hb dX10_chance_30 (by decide) ?_
      refine lv_istore_n (lv' := [(3, .int 0), (0, .ref a0), (1, .int p1), (2, .int p2)]) hx hb dX10_chance_31 rfl hl (by decide) rfl (fun ls hl => ?_)
      refine lv_iconst (v := 0) hx hb dX10_chance_32 (by decide) ?_
      refine lv_istore (lv' := [(4, .int 0), (3, .int 0), (0, .ref a0), (1, .int p1), (2, .int p2)]) hx hb dX10_chance_33 hl (by decide) rfl (fun ls hl => ?_)
      obtain ⟨⟨x16, k17, k18, k19, k20, k21, k22, k23, k24⟩, h25, hf⟩ := bd_s hf
      refine L35 _ F p2 0 0 0 k_w k_o k_isKept k_went k_wentMany k_waiting k_came k_depth k_isSilent p1.toInt64 k_packed k_hits k_rues k_soonest k_inAll x16 k17 k18 k19 k20 k21 k22 k23 k24 _ _ ls h25 hP hD hS (lv_sub hl [2, 4, 1, 0] rfl) (fun H locs ls hP hD hS hl => ?_)
      refine lv_iload_n hx hb dX10_chance_57 rfl (lv_at hl 0 rfl) ?_
      cases hf
      exact rw_i C hr hlk hP hD hS dX10_chance_58 rfl
    · have hf := it_p hf c26
      refine lv_bipush (v := (-2)) hx hb dX10_chance_21 (by decide) ?_
      cases hf
      exact rw_i C hr hlk hP hD hS dX10_chance_23 rfl
def X10_keep (F : Nat) (p1 : Int32) (k_thrown : Int32) (k_w : (Nat → Int32)) (k_isKept : (Nat → Int32)) : Option (Int32 × Int32 × (Nat → Int32) × (Nat → Int32)) := (X10_isIn F p1.toInt64 0 1).bind fun r1 => (if (r1 : Int32) = 0 then (some ((-2), 0, k_w, k_isKept)) else ((X10_copies F (848 * (p1 + 1)) 0 k_w).bind fun k_w_3 => (if (p1 : Int32) < 0 ∨ 2 ≤ (Int32.toNatClampNeg p1) then none else (some ((k_w_3 (Int32.toNatClampNeg 0)), 0, k_w_3, (upd k_isKept (Int32.toNatClampNeg p1) (vp_nar .boolean 1)))))))
abbrev rm_X10_keep : Room := { frames := 1, cells := 0, slots := 0, locals := 25 }
theorem ok_X10_keep : OKV RX10 yX10_keep cX10_keep 2 (some .int) 1 := ⟨by decide +kernel, qV_X10_keep, qL_X10_keep, qI_X10, qD_X10_keep⟩
set_option maxHeartbeats 4000000 in
set_option maxRecDepth 100000 in
theorem c_X10_keep (l : Launch) (D : va_G) (cI cZ cL cW : ClassId) (F : Nat) (a0 : Nat) (a1 : Nat) (a2 : Nat) (a3 : Nat) (a4 : Nat) (a5 : Nat) (a6 : Nat) (k_thrown : Int32) (k_w : (Nat → Int32)) (k_o : Int32) (k_isKept : (Nat → Int32)) (k_went : (Nat → Int32)) (k_wentMany : Int32) (k_waiting : (Nat → Int32)) (k_came : Int32) (k_depth : Int32) (k_isSilent : Int32) (k_x : Int64) (k_packed : (Nat → Int32)) (k_hits : Int32) (k_rues : Int32) (k_soonest : Int32) (k_inAll : (Nat → Int32)) (p1 : Int32) (r : Int32) (k_thrown' : Int32) (k_w' : (Nat → Int32)) (k_isKept' : (Nat → Int32)) (hf : X10_keep F p1 k_thrown k_w k_isKept = some (r, k_thrown', k_w', k_isKept')) : CtrW l D (tyL cI cZ cL cW) nestW yX10_keep cX10_keep 2 (some .int) rm_X10_keep [.ref a0, .int p1] (MX10 cI cZ cL cW a0 a1 a2 a3 a4 a5 a6 k_thrown k_w k_o k_isKept k_went k_wentMany k_waiting k_came k_depth k_isSilent k_x k_packed k_hits k_rues k_soonest k_inAll) (MX10 cI cZ cL cW a0 a1 a2 a3 a4 a5 a6 (k_thrown') (k_w') k_o (k_isKept') k_went k_wentMany k_waiting k_came k_depth k_isSilent k_x k_packed k_hits k_rues k_soonest k_inAll) (some (.int r)) := by
  refine ofA RX10 (by decide) rfl (Nat.le_of_ble_eq_true rfl) ?_
  intro p e s m below meth c ls A C hr hlk hE hA hP hD hS hl
  generalize (List.toArray ([.ref a0, .int p1] : List Value)) = args at C ⊢
  obtain ⟨hx, hb, hml, hown, ht⟩ := id C
  have hl : lv_has ls 2 [(0, .ref a0), (1, .int p1)] := hl
  refine lv_aload_n hx hb dX10_keep_0 rfl (lv_at hl 0 rfl) ?_
  refine lv_iconst (v := 0) hx hb dX10_keep_1 (by decide) ?_
  refine pf_X10 (v := .int 0) C hE hP hD hS 0 0 rfl (by decide) qF_X10_1 rfl rfl rfl (Nat.le_of_ble_eq_true rfl) dX10_keep_2 (fun H locs (hP : va_P D vwCl (MX10 cI cZ cL cW a0 a1 a2 a3 a4 a5 a6 0 k_w k_o k_isKept k_went k_wentMany k_waiting k_came k_depth k_isSilent k_x k_packed k_hits k_rues k_soonest k_inAll) H) (hD : va_D A (MX10 cI cZ cL cW a0 a1 a2 a3 a4 a5 a6 0 k_w k_o k_isKept k_went k_wentMany k_waiting k_came k_depth k_isSilent k_x k_packed k_hits k_rues k_soonest k_inAll)) hS => ?_)
  refine lv_iload_n hx hb dX10_keep_5 rfl (lv_at hl 1 rfl) ?_
  refine lv_i2l hx hb dX10_keep_6 rfl ?_
  refine lv_lconst (v := 0) hx hb dX10_keep_7 (by decide) ?_
  refine lv_lconst (v := 1) hx hb dX10_keep_8 (by decide) ?_
  obtain ⟨r1, h2, hf⟩ := bd_s hf
  refine is_R (rest := []) (st1 := [.int r1]) C hE va_P_nil (c_X10_isIn l D cI cZ cL cW F   p1.toInt64 0 1 r1  h2) ok_X10_isIn qM_X10_49 rfl rfl ⟨(Nat.le_of_ble_eq_true rfl), (Nat.le_of_ble_eq_true rfl)⟩ hl.1 (Nat.le_of_ble_eq_true rfl) ⟨Nat.zero_le _, Nat.zero_le _⟩ dX10_keep_9 rfl rfl ?_
  refine lv_if_ne (tgt := 18) hx hb dX10_keep_12 (by decide) (fun c6 => ?_) (fun c6 => ?_)
  · have hf := it_n hf c6
    refine lv_aload_n hx hb dX10_keep_18 rfl (lv_at hl 0 rfl) ?_
    refine lv_sipush (v := 848) hx hb dX10_keep_19 (by decide) ?_
    refine lv_iload_n hx hb dX10_keep_22 rfl (lv_at hl 1 rfl) ?_
    refine lv_iconst (v := 1) hx hb dX10_keep_23 (by decide) ?_
    refine lv_iadd hx hb dX10_keep_24 ?_
    refine lv_imul hx hb dX10_keep_25 ?_
    refine lv_iconst (v := 0) hx hb dX10_keep_26 (by decide) ?_
    obtain ⟨k_w_3, h4, hf⟩ := bd_s hf
    refine iv_A (rest := []) (st1 := []) C hE hP hD hS hA (c_X10_copies l D cI cZ cL cW F a0 a1 a2 a3 a4 a5 a6 0 k_w k_o k_isKept k_went k_wentMany k_waiting k_came k_depth k_isSilent k_x k_packed k_hits k_rues k_soonest k_inAll (848 * (p1 + 1)) 0  k_w_3 h4) ok_X10_copies qM_X10_246 rfl rfl ⟨(Nat.le_of_ble_eq_true rfl), (Nat.le_of_ble_eq_true rfl)⟩ rfl rfl hl.1 (Nat.le_of_ble_eq_true rfl) ⟨Nat.zero_le _, Nat.zero_le _⟩ dX10_keep_27 rfl rfl (fun H locs (hP : va_P D vwCl (MX10 cI cZ cL cW a0 a1 a2 a3 a4 a5 a6 0 k_w_3 k_o k_isKept k_went k_wentMany k_waiting k_came k_depth k_isSilent k_x k_packed k_hits k_rues k_soonest k_inAll) H) (hD : va_D A (MX10 cI cZ cL cW a0 a1 a2 a3 a4 a5 a6 0 k_w_3 k_o k_isKept k_went k_wentMany k_waiting k_came k_depth k_isSilent k_x k_packed k_hits k_rues k_soonest k_inAll)) hS => ?_)
    refine lv_aload_n hx hb dX10_keep_30 rfl (lv_at hl 0 rfl) ?_
    refine gf_X10 (v := .ref a2) C hE hP 0 3 rfl (by decide) qF_X10_21 rfl dX10_keep_31 ?_
    refine lv_iload_n hx hb dX10_keep_34 rfl (lv_at hl 1 rfl) ?_
    refine lv_iconst (v := 1) hx hb dX10_keep_35 (by decide) ?_
    obtain ⟨g5, hf⟩ := it_g hf
    refine va_zast hx hb hE.1 hP hD hS 2 1 rfl rfl g5 dX10_keep_36 (fun H locs (hP : va_P D vwCl (MX10 cI cZ cL cW a0 a1 a2 a3 a4 a5 a6 0 k_w_3 k_o (upd k_isKept (Int32.toNatClampNeg p1) (vp_nar .boolean 1)) k_went k_wentMany k_waiting k_came k_depth k_isSilent k_x k_packed k_hits k_rues k_soonest k_inAll) H) (hD : va_D A (MX10 cI cZ cL cW a0 a1 a2 a3 a4 a5 a6 0 k_w_3 k_o (upd k_isKept (Int32.toNatClampNeg p1) (vp_nar .boolean 1)) k_went k_wentMany k_waiting k_came k_depth k_isSilent k_x k_packed k_hits k_rues k_soonest k_inAll)) hS => ?_)
    refine lv_aload_n hx hb dX10_keep_37 rfl (lv_at hl 0 rfl) ?_
    refine gf_X10 (v := .ref a1) C hE hP 0 1 rfl (by decide) qF_X10_17 rfl dX10_keep_38 ?_
    refine lv_iconst (v := 0) hx hb dX10_keep_41 (by decide) ?_
    refine va_iald hx hb hE.1 hP 1 0 rfl rfl (vp_l (by decide)) dX10_keep_42 ?_
    cases hf
    exact rw_i C hr hlk hP hD hS dX10_keep_43 rfl
  · have hf := it_p hf c6
    refine lv_bipush (v := (-2)) hx hb dX10_keep_15 (by decide) ?_
    cases hf
    exact rw_i C hr hlk hP hD hS dX10_keep_17 rfl
def X10_back (F : Nat) (p1 : Int32) (k_thrown : Int32) (k_w : (Nat → Int32)) (k_isKept : (Nat → Int32)) : Option (Int32 × Int32 × (Nat → Int32)) := (X10_isIn F p1.toInt64 0 1).bind fun r1 => (if (r1 : Int32) = 0 then (some ((-2), 0, k_w)) else (if (p1 : Int32) < 0 ∨ 2 ≤ (Int32.toNatClampNeg p1) then none else (if ((k_isKept (Int32.toNatClampNeg p1)) : Int32) = 0 then (some ((-3), 0, k_w)) else ((X10_copies F 0 (848 * (p1 + 1)) k_w).bind fun k_w_3 => (some ((k_w_3 (Int32.toNatClampNeg 0)), 0, k_w_3))))))
abbrev rm_X10_back : Room := { frames := 1, cells := 0, slots := 0, locals := 25 }
theorem ok_X10_back : OKV RX10 yX10_back cX10_back 2 (some .int) 1 := ⟨by decide +kernel, qV_X10_back, qL_X10_back, qI_X10, qD_X10_back⟩
set_option maxHeartbeats 4000000 in
set_option maxRecDepth 100000 in
theorem c_X10_back (l : Launch) (D : va_G) (cI cZ cL cW : ClassId) (F : Nat) (a0 : Nat) (a1 : Nat) (a2 : Nat) (a3 : Nat) (a4 : Nat) (a5 : Nat) (a6 : Nat) (k_thrown : Int32) (k_w : (Nat → Int32)) (k_o : Int32) (k_isKept : (Nat → Int32)) (k_went : (Nat → Int32)) (k_wentMany : Int32) (k_waiting : (Nat → Int32)) (k_came : Int32) (k_depth : Int32) (k_isSilent : Int32) (k_x : Int64) (k_packed : (Nat → Int32)) (k_hits : Int32) (k_rues : Int32) (k_soonest : Int32) (k_inAll : (Nat → Int32)) (p1 : Int32) (r : Int32) (k_thrown' : Int32) (k_w' : (Nat → Int32)) (hf : X10_back F p1 k_thrown k_w k_isKept = some (r, k_thrown', k_w')) : CtrW l D (tyL cI cZ cL cW) nestW yX10_back cX10_back 2 (some .int) rm_X10_back [.ref a0, .int p1] (MX10 cI cZ cL cW a0 a1 a2 a3 a4 a5 a6 k_thrown k_w k_o k_isKept k_went k_wentMany k_waiting k_came k_depth k_isSilent k_x k_packed k_hits k_rues k_soonest k_inAll) (MX10 cI cZ cL cW a0 a1 a2 a3 a4 a5 a6 (k_thrown') (k_w') k_o k_isKept k_went k_wentMany k_waiting k_came k_depth k_isSilent k_x k_packed k_hits k_rues k_soonest k_inAll) (some (.int r)) := by
  refine ofA RX10 (by decide) rfl (Nat.le_of_ble_eq_true rfl) ?_
  intro p e s m below meth c ls A C hr hlk hE hA hP hD hS hl
  generalize (List.toArray ([.ref a0, .int p1] : List Value)) = args at C ⊢
  obtain ⟨hx, hb, hml, hown, ht⟩ := id C
  have hl : lv_has ls 2 [(0, .ref a0), (1, .int p1)] := hl
  refine lv_aload_n hx hb dX10_back_0 rfl (lv_at hl 0 rfl) ?_
  refine lv_iconst (v := 0) hx hb dX10_back_1 (by decide) ?_
  refine pf_X10 (v := .int 0) C hE hP hD hS 0 0 rfl (by decide) qF_X10_1 rfl rfl rfl (Nat.le_of_ble_eq_true rfl) dX10_back_2 (fun H locs (hP : va_P D vwCl (MX10 cI cZ cL cW a0 a1 a2 a3 a4 a5 a6 0 k_w k_o k_isKept k_went k_wentMany k_waiting k_came k_depth k_isSilent k_x k_packed k_hits k_rues k_soonest k_inAll) H) (hD : va_D A (MX10 cI cZ cL cW a0 a1 a2 a3 a4 a5 a6 0 k_w k_o k_isKept k_went k_wentMany k_waiting k_came k_depth k_isSilent k_x k_packed k_hits k_rues k_soonest k_inAll)) hS => ?_)
  refine lv_iload_n hx hb dX10_back_5 rfl (lv_at hl 1 rfl) ?_
  refine lv_i2l hx hb dX10_back_6 rfl ?_
  refine lv_lconst (v := 0) hx hb dX10_back_7 (by decide) ?_
  refine lv_lconst (v := 1) hx hb dX10_back_8 (by decide) ?_
  obtain ⟨r1, h2, hf⟩ := bd_s hf
  refine is_R (rest := []) (st1 := [.int r1]) C hE va_P_nil (c_X10_isIn l D cI cZ cL cW F   p1.toInt64 0 1 r1  h2) ok_X10_isIn qM_X10_49 rfl rfl ⟨(Nat.le_of_ble_eq_true rfl), (Nat.le_of_ble_eq_true rfl)⟩ hl.1 (Nat.le_of_ble_eq_true rfl) ⟨Nat.zero_le _, Nat.zero_le _⟩ dX10_back_9 rfl rfl ?_
  refine lv_if_ne (tgt := 18) hx hb dX10_back_12 (by decide) (fun c7 => ?_) (fun c7 => ?_)
  · have hf := it_n hf c7
    refine lv_aload_n hx hb dX10_back_18 rfl (lv_at hl 0 rfl) ?_
    refine gf_X10 (v := .ref a2) C hE hP 0 3 rfl (by decide) qF_X10_21 rfl dX10_back_19 ?_
    refine lv_iload_n hx hb dX10_back_22 rfl (lv_at hl 1 rfl) ?_
    obtain ⟨g6, hf⟩ := it_g hf
    refine va_zald hx hb hE.1 hP 2 1 rfl rfl g6 dX10_back_23 ?_
    refine lv_if_ne (tgt := 30) hx hb dX10_back_24 (by decide) (fun c5 => ?_) (fun c5 => ?_)
    · have hf := it_n hf c5
      refine lv_aload_n hx hb dX10_back_30 rfl (lv_at hl 0 rfl) ?_
      refine lv_iconst (v := 0) hx hb dX10_back_31 (by decide) ?_
      refine lv_sipush (v := 848) hx hb dX10_back_32 (by decide) ?_
      refine lv_iload_n hx hb dX10_back_35 rfl (lv_at hl 1 rfl) ?_
      refine lv_iconst (v := 1) hx hb dX10_back_36 (by decide) ?_
      refine lv_iadd hx hb dX10_back_37 ?_
      refine lv_imul hx hb dX10_back_38 ?_
      obtain ⟨k_w_3, h4, hf⟩ := bd_s hf
      refine iv_A (rest := []) (st1 := []) C hE hP hD hS hA (c_X10_copies l D cI cZ cL cW F a0 a1 a2 a3 a4 a5 a6 0 k_w k_o k_isKept k_went k_wentMany k_waiting k_came k_depth k_isSilent k_x k_packed k_hits k_rues k_soonest k_inAll 0 (848 * (p1 + 1))  k_w_3 h4) ok_X10_copies qM_X10_246 rfl rfl ⟨(Nat.le_of_ble_eq_true rfl), (Nat.le_of_ble_eq_true rfl)⟩ rfl rfl hl.1 (Nat.le_of_ble_eq_true rfl) ⟨Nat.zero_le _, Nat.zero_le _⟩ dX10_back_39 rfl rfl (fun H locs (hP : va_P D vwCl (MX10 cI cZ cL cW a0 a1 a2 a3 a4 a5 a6 0 k_w_3 k_o k_isKept k_went k_wentMany k_waiting k_came k_depth k_isSilent k_x k_packed k_hits k_rues k_soonest k_inAll) H) (hD : va_D A (MX10 cI cZ cL cW a0 a1 a2 a3 a4 a5 a6 0 k_w_3 k_o k_isKept k_went k_wentMany k_waiting k_came k_depth k_isSilent k_x k_packed k_hits k_rues k_soonest k_inAll)) hS => ?_)
      refine lv_aload_n hx hb dX10_back_42 rfl (lv_at hl 0 rfl) ?_
      refine gf_X10 (v := .ref a1) C hE hP 0 1 rfl (by decide) qF_X10_17 rfl dX10_back_43 ?_
      refine lv_iconst (v := 0) hx hb dX10_back_46 (by decide) ?_
      refine va_iald hx hb hE.1 hP 1 0 rfl rfl (vp_l (by decide)) dX10_back_47 ?_
      cases hf
      exact rw_i C hr hlk hP hD hS dX10_back_48 rfl
    · have hf := it_p hf c5
      refine lv_bipush (v := (-3)) hx hb dX10_back_27 (by decide) ?_
      cases hf
      exact rw_i C hr hlk hP hD hS dX10_back_29 rfl
  · have hf := it_p hf c7
    refine lv_bipush (v := (-2)) hx hb dX10_back_15 (by decide) ?_
    cases hf
    exact rw_i C hr hlk hP hD hS dX10_back_17 rfl
def X10_entry (F : Nat) (p1 : Int32) (p2 : Int32) (k_thrown : Int32) (k_w : (Nat → Int32)) (k_o : Int32) : Option (Int32 × Int32) := (X10_entryOf F p1 k_w k_o).bind fun r1 => (if (r1 : Int32) = (-1) then (some ((-10000), 0)) else ((X10_isIn F p2.toInt64 0 7).bind fun r3 => (if (r3 : Int32) = 0 then (some ((-10000), 0)) else (if (6 : Int32) ≤ p2 then ((X10_placeOf F (p2 - 6) r1 k_w k_o).bind fun r5 => (some (r5, 0))) else ((X10_of F r1 (p2 + 1) k_w k_o).bind fun r7 => (some (r7, 0)))))))
abbrev rm_X10_entry : Room := { frames := 3, cells := 0, slots := 0, locals := 69 }
theorem ok_X10_entry : OKV RX10 yX10_entry cX10_entry 4 (some .int) 2 := ⟨by decide +kernel, qV_X10_entry, qL_X10_entry, qI_X10, qD_X10_entry⟩
set_option maxHeartbeats 4000000 in
set_option maxRecDepth 100000 in
theorem c_X10_entry (l : Launch) (D : va_G) (cI cZ cL cW : ClassId) (F : Nat) (a0 : Nat) (a1 : Nat) (a2 : Nat) (a3 : Nat) (a4 : Nat) (a5 : Nat) (a6 : Nat) (k_thrown : Int32) (k_w : (Nat → Int32)) (k_o : Int32) (k_isKept : (Nat → Int32)) (k_went : (Nat → Int32)) (k_wentMany : Int32) (k_waiting : (Nat → Int32)) (k_came : Int32) (k_depth : Int32) (k_isSilent : Int32) (k_x : Int64) (k_packed : (Nat → Int32)) (k_hits : Int32) (k_rues : Int32) (k_soonest : Int32) (k_inAll : (Nat → Int32)) (p1 : Int32) (p2 : Int32) (r : Int32) (k_thrown' : Int32) (hf : X10_entry F p1 p2 k_thrown k_w k_o = some (r, k_thrown')) : CtrW l D (tyL cI cZ cL cW) nestW yX10_entry cX10_entry 4 (some .int) rm_X10_entry [.ref a0, .int p1, .int p2] (MX10 cI cZ cL cW a0 a1 a2 a3 a4 a5 a6 k_thrown k_w k_o k_isKept k_went k_wentMany k_waiting k_came k_depth k_isSilent k_x k_packed k_hits k_rues k_soonest k_inAll) (MX10 cI cZ cL cW a0 a1 a2 a3 a4 a5 a6 (k_thrown') k_w k_o k_isKept k_went k_wentMany k_waiting k_came k_depth k_isSilent k_x k_packed k_hits k_rues k_soonest k_inAll) (some (.int r)) := by
  refine ofA RX10 (by decide) rfl (Nat.le_of_ble_eq_true rfl) ?_
  intro p e s m below meth c ls A C hr hlk hE hA hP hD hS hl
  generalize (List.toArray ([.ref a0, .int p1, .int p2] : List Value)) = args at C ⊢
  obtain ⟨hx, hb, hml, hown, ht⟩ := id C
  have hl : lv_has ls 4 [(0, .ref a0), (1, .int p1), (2, .int p2)] := hl
  refine lv_aload_n hx hb dX10_entry_0 rfl (lv_at hl 0 rfl) ?_
  refine lv_iconst (v := 0) hx hb dX10_entry_1 (by decide) ?_
  refine pf_X10 (v := .int 0) C hE hP hD hS 0 0 rfl (by decide) qF_X10_1 rfl rfl rfl (Nat.le_of_ble_eq_true rfl) dX10_entry_2 (fun H locs (hP : va_P D vwCl (MX10 cI cZ cL cW a0 a1 a2 a3 a4 a5 a6 0 k_w k_o k_isKept k_went k_wentMany k_waiting k_came k_depth k_isSilent k_x k_packed k_hits k_rues k_soonest k_inAll) H) (hD : va_D A (MX10 cI cZ cL cW a0 a1 a2 a3 a4 a5 a6 0 k_w k_o k_isKept k_went k_wentMany k_waiting k_came k_depth k_isSilent k_x k_packed k_hits k_rues k_soonest k_inAll)) hS => ?_)
  refine lv_aload_n hx hb dX10_entry_5 rfl (lv_at hl 0 rfl) ?_
  refine lv_iload_n hx hb dX10_entry_6 rfl (lv_at hl 1 rfl) ?_
  obtain ⟨r1, h2, hf⟩ := bd_s hf
  refine iv_R (rest := []) (st1 := [.int r1]) C hE hP (c_X10_entryOf l D cI cZ cL cW F a0 a1 a2 a3 a4 a5 a6 0 k_w k_o k_isKept k_went k_wentMany k_waiting k_came k_depth k_isSilent k_x k_packed k_hits k_rues k_soonest k_inAll p1 r1  h2) ok_X10_entryOf qM_X10_118 rfl rfl ⟨(Nat.le_of_ble_eq_true rfl), (Nat.le_of_ble_eq_true rfl)⟩ rfl rfl hl.1 (Nat.le_of_ble_eq_true rfl) ⟨Nat.zero_le _, Nat.zero_le _⟩ dX10_entry_7 rfl rfl ?_
  refine lv_istore_n (lv' := [(3, .int r1), (0, .ref a0), (1, .int p1), (2, .int p2)]) hx hb dX10_entry_10 rfl hl (by decide) rfl (fun ls hl => ?_)
  refine lv_iload_n hx hb dX10_entry_11 rfl (lv_at hl 0 rfl) ?_
  refine lv_iconst (v := (-1)) hx hb dX10_entry_12 (by decide) ?_
  refine lv_icmp_eq (tgt := 28) hx hb dX10_entry_13 (by decide) (fun c11 => ?_) (fun c11 => ?_)
  · have hf := it_p hf c11
    refine lv_sipush (v := (-10000)) hx hb dX10_entry_28 (by decide) ?_
    cases hf
    exact rw_i C hr hlk hP hD hS dX10_entry_31 rfl
  · have hf := it_n hf c11
    refine lv_iload_n hx hb dX10_entry_16 rfl (lv_at hl 3 rfl) ?_
    refine lv_i2l hx hb dX10_entry_17 rfl ?_
    refine lv_lconst (v := 0) hx hb dX10_entry_18 (by decide) ?_
    refine lv_ldc2 (v := 7) hx hb hown (ht _ qJ_X10_249) dX10_entry_19 ?_
    obtain ⟨r3, h4, hf⟩ := bd_s hf
    refine is_R (rest := []) (st1 := [.int r3]) C hE va_P_nil (c_X10_isIn l D cI cZ cL cW F   p2.toInt64 0 7 r3  h4) ok_X10_isIn qM_X10_49 rfl rfl ⟨(Nat.le_of_ble_eq_true rfl), (Nat.le_of_ble_eq_true rfl)⟩ hl.1 (Nat.le_of_ble_eq_true rfl) ⟨Nat.zero_le _, Nat.zero_le _⟩ dX10_entry_22 rfl rfl ?_
    refine lv_if_ne (tgt := 32) hx hb dX10_entry_25 (by decide) (fun c10 => ?_) (fun c10 => ?_)
    · have hf := it_n hf c10
      refine lv_iload_n hx hb dX10_entry_32 rfl (lv_at hl 3 rfl) ?_
      refine lv_bipush (v := 6) hx hb dX10_entry_33 (by decide) ?_
      refine lv_icmp_ge (tgt := 49) hx hb dX10_entry_35 (by decide) (fun c9 => ?_) (fun c9 => ?_)
      · have hf := it_p hf c9
        refine lv_aload_n hx hb dX10_entry_49 rfl (lv_at hl 1 rfl) ?_
        refine lv_iload_n hx hb dX10_entry_50 rfl (lv_at hl 3 rfl) ?_
        refine lv_bipush (v := 6) hx hb dX10_entry_51 (by decide) ?_
        refine lv_isub hx hb dX10_entry_53 ?_
        refine lv_iload_n hx hb dX10_entry_54 rfl (lv_at hl 0 rfl) ?_
        obtain ⟨r5, h6, hf⟩ := bd_s hf
        refine iv_R (rest := []) (st1 := [.int r5]) C hE hP (c_X10_placeOf l D cI cZ cL cW F a0 a1 a2 a3 a4 a5 a6 0 k_w k_o k_isKept k_went k_wentMany k_waiting k_came k_depth k_isSilent k_x k_packed k_hits k_rues k_soonest k_inAll (p2 - 6) r1 r5  h6) ok_X10_placeOf qM_X10_61 rfl rfl ⟨(Nat.le_of_ble_eq_true rfl), (Nat.le_of_ble_eq_true rfl)⟩ rfl rfl hl.1 (Nat.le_of_ble_eq_true rfl) ⟨Nat.zero_le _, Nat.zero_le _⟩ dX10_entry_55 rfl rfl ?_
        cases hf
        exact rw_i C hr hlk hP hD hS dX10_entry_58 rfl
      · have hf := it_n hf c9
        refine lv_aload_n hx hb dX10_entry_38 rfl (lv_at hl 1 rfl) ?_
        refine lv_iload_n hx hb dX10_entry_39 rfl (lv_at hl 0 rfl) ?_
        refine lv_iload_n hx hb dX10_entry_40 rfl (lv_at hl 3 rfl) ?_
        refine lv_iconst (v := 1) hx hb dX10_entry_41 (by decide) ?_
        refine lv_iadd hx hb dX10_entry_42 ?_
        obtain ⟨r7, h8, hf⟩ := bd_s hf
        refine iv_R (rest := []) (st1 := [.int r7]) C hE hP (c_X10_of l D cI cZ cL cW F a0 a1 a2 a3 a4 a5 a6 0 k_w k_o k_isKept k_went k_wentMany k_waiting k_came k_depth k_isSilent k_x k_packed k_hits k_rues k_soonest k_inAll r1 (p2 + 1) r7  h8) ok_X10_of qM_X10_44 rfl rfl ⟨(Nat.le_of_ble_eq_true rfl), (Nat.le_of_ble_eq_true rfl)⟩ rfl rfl hl.1 (Nat.le_of_ble_eq_true rfl) ⟨Nat.zero_le _, Nat.zero_le _⟩ dX10_entry_43 rfl rfl ?_
        refine lv_goto (tgt := 58) hx hb dX10_entry_46 (by decide) ?_
        cases hf
        exact rw_i C hr hlk hP hD hS dX10_entry_58 rfl
    · have hf := it_p hf c10
      refine lv_sipush (v := (-10000)) hx hb dX10_entry_28 (by decide) ?_
      cases hf
      exact rw_i C hr hlk hP hD hS dX10_entry_31 rfl
def X10_order (F : Nat) (p1 : Int32) (p2 : Int32) (k_thrown : Int32) (k_w : (Nat → Int32)) (k_o : Int32) : Option (Int32 × Int32) := (X10_isIn F p1.toInt64 0 1).bind fun r1 => (if (r1 : Int32) = 0 then (some ((-1), 0)) else ((X10_isIn F p2.toInt64 0 (((k_w (Int32.toNatClampNeg 0)) - 1).toInt64)).bind fun r3 => (if (r3 : Int32) = 0 then (some ((-1), 0)) else ((X10_keyAt F p1 p2 k_w k_o).bind fun r5 => (some (r5, 0))))))
abbrev rm_X10_order : Room := { frames := 4, cells := 0, slots := 0, locals := 92 }
theorem ok_X10_order : OKV RX10 yX10_order cX10_order 3 (some .int) 2 := ⟨by decide +kernel, qV_X10_order, qL_X10_order, qI_X10, qD_X10_order⟩
set_option maxHeartbeats 4000000 in
set_option maxRecDepth 100000 in
theorem c_X10_order (l : Launch) (D : va_G) (cI cZ cL cW : ClassId) (F : Nat) (a0 : Nat) (a1 : Nat) (a2 : Nat) (a3 : Nat) (a4 : Nat) (a5 : Nat) (a6 : Nat) (k_thrown : Int32) (k_w : (Nat → Int32)) (k_o : Int32) (k_isKept : (Nat → Int32)) (k_went : (Nat → Int32)) (k_wentMany : Int32) (k_waiting : (Nat → Int32)) (k_came : Int32) (k_depth : Int32) (k_isSilent : Int32) (k_x : Int64) (k_packed : (Nat → Int32)) (k_hits : Int32) (k_rues : Int32) (k_soonest : Int32) (k_inAll : (Nat → Int32)) (p1 : Int32) (p2 : Int32) (r : Int32) (k_thrown' : Int32) (hf : X10_order F p1 p2 k_thrown k_w k_o = some (r, k_thrown')) : CtrW l D (tyL cI cZ cL cW) nestW yX10_order cX10_order 3 (some .int) rm_X10_order [.ref a0, .int p1, .int p2] (MX10 cI cZ cL cW a0 a1 a2 a3 a4 a5 a6 k_thrown k_w k_o k_isKept k_went k_wentMany k_waiting k_came k_depth k_isSilent k_x k_packed k_hits k_rues k_soonest k_inAll) (MX10 cI cZ cL cW a0 a1 a2 a3 a4 a5 a6 (k_thrown') k_w k_o k_isKept k_went k_wentMany k_waiting k_came k_depth k_isSilent k_x k_packed k_hits k_rues k_soonest k_inAll) (some (.int r)) := by
  refine ofA RX10 (by decide) rfl (Nat.le_of_ble_eq_true rfl) ?_
  intro p e s m below meth c ls A C hr hlk hE hA hP hD hS hl
  generalize (List.toArray ([.ref a0, .int p1, .int p2] : List Value)) = args at C ⊢
  obtain ⟨hx, hb, hml, hown, ht⟩ := id C
  have hl : lv_has ls 3 [(0, .ref a0), (1, .int p1), (2, .int p2)] := hl
  refine lv_aload_n hx hb dX10_order_0 rfl (lv_at hl 0 rfl) ?_
  refine lv_iconst (v := 0) hx hb dX10_order_1 (by decide) ?_
  refine pf_X10 (v := .int 0) C hE hP hD hS 0 0 rfl (by decide) qF_X10_1 rfl rfl rfl (Nat.le_of_ble_eq_true rfl) dX10_order_2 (fun H locs (hP : va_P D vwCl (MX10 cI cZ cL cW a0 a1 a2 a3 a4 a5 a6 0 k_w k_o k_isKept k_went k_wentMany k_waiting k_came k_depth k_isSilent k_x k_packed k_hits k_rues k_soonest k_inAll) H) (hD : va_D A (MX10 cI cZ cL cW a0 a1 a2 a3 a4 a5 a6 0 k_w k_o k_isKept k_went k_wentMany k_waiting k_came k_depth k_isSilent k_x k_packed k_hits k_rues k_soonest k_inAll)) hS => ?_)
  refine lv_iload_n hx hb dX10_order_5 rfl (lv_at hl 1 rfl) ?_
  refine lv_i2l hx hb dX10_order_6 rfl ?_
  refine lv_lconst (v := 0) hx hb dX10_order_7 (by decide) ?_
  refine lv_lconst (v := 1) hx hb dX10_order_8 (by decide) ?_
  obtain ⟨r1, h2, hf⟩ := bd_s hf
  refine is_R (rest := []) (st1 := [.int r1]) C hE va_P_nil (c_X10_isIn l D cI cZ cL cW F   p1.toInt64 0 1 r1  h2) ok_X10_isIn qM_X10_49 rfl rfl ⟨(Nat.le_of_ble_eq_true rfl), (Nat.le_of_ble_eq_true rfl)⟩ hl.1 (Nat.le_of_ble_eq_true rfl) ⟨Nat.zero_le _, Nat.zero_le _⟩ dX10_order_9 rfl rfl ?_
  refine lv_if_eq (tgt := 42) hx hb dX10_order_12 (by decide) (fun c8 => ?_) (fun c8 => ?_)
  · have hf := it_p hf c8
    refine lv_iconst (v := (-1)) hx hb dX10_order_42 (by decide) ?_
    cases hf
    exact rw_i C hr hlk hP hD hS dX10_order_43 rfl
  · have hf := it_n hf c8
    refine lv_iload_n hx hb dX10_order_15 rfl (lv_at hl 2 rfl) ?_
    refine lv_i2l hx hb dX10_order_16 rfl ?_
    refine lv_lconst (v := 0) hx hb dX10_order_17 (by decide) ?_
    refine lv_aload_n hx hb dX10_order_18 rfl (lv_at hl 0 rfl) ?_
    refine gf_X10 (v := .ref a1) C hE hP 0 1 rfl (by decide) qF_X10_17 rfl dX10_order_19 ?_
    refine lv_iconst (v := 0) hx hb dX10_order_22 (by decide) ?_
    refine va_iald hx hb hE.1 hP 1 0 rfl rfl (vp_l (by decide)) dX10_order_23 ?_
    refine lv_iconst (v := 1) hx hb dX10_order_24 (by decide) ?_
    refine lv_isub hx hb dX10_order_25 ?_
    refine lv_i2l hx hb dX10_order_26 rfl ?_
    obtain ⟨r3, h4, hf⟩ := bd_s hf
    refine is_R (rest := []) (st1 := [.int r3]) C hE va_P_nil (c_X10_isIn l D cI cZ cL cW F   p2.toInt64 0 (((k_w (Int32.toNatClampNeg 0)) - 1).toInt64) r3  h4) ok_X10_isIn qM_X10_49 rfl rfl ⟨(Nat.le_of_ble_eq_true rfl), (Nat.le_of_ble_eq_true rfl)⟩ hl.1 (Nat.le_of_ble_eq_true rfl) ⟨Nat.zero_le _, Nat.zero_le _⟩ dX10_order_27 rfl rfl ?_
    refine lv_if_eq (tgt := 42) hx hb dX10_order_30 (by decide) (fun c7 => ?_) (fun c7 => ?_)
    · have hf := it_p hf c7
      refine lv_iconst (v := (-1)) hx hb dX10_order_42 (by decide) ?_
      cases hf
      exact rw_i C hr hlk hP hD hS dX10_order_43 rfl
    · have hf := it_n hf c7
      refine lv_aload_n hx hb dX10_order_33 rfl (lv_at hl 0 rfl) ?_
      refine lv_iload_n hx hb dX10_order_34 rfl (lv_at hl 1 rfl) ?_
      refine lv_iload_n hx hb dX10_order_35 rfl (lv_at hl 2 rfl) ?_
      obtain ⟨r5, h6, hf⟩ := bd_s hf
      refine iv_R (rest := []) (st1 := [.int r5]) C hE hP (c_X10_keyAt l D cI cZ cL cW F a0 a1 a2 a3 a4 a5 a6 0 k_w k_o k_isKept k_went k_wentMany k_waiting k_came k_depth k_isSilent k_x k_packed k_hits k_rues k_soonest k_inAll p1 p2 r5  h6) ok_X10_keyAt qM_X10_251 rfl rfl ⟨(Nat.le_of_ble_eq_true rfl), (Nat.le_of_ble_eq_true rfl)⟩ rfl rfl hl.1 (Nat.le_of_ble_eq_true rfl) ⟨Nat.zero_le _, Nat.zero_le _⟩ dX10_order_36 rfl rfl ?_
      refine lv_goto (tgt := 43) hx hb dX10_order_39 (by decide) ?_
      cases hf
      exact rw_i C hr hlk hP hD hS dX10_order_43 rfl
def X10_ghost (F : Nat) (p1 : Int32) (p2 : Int32) (k_thrown : Int32) (k_w : (Nat → Int32)) (k_o : Int32) : Option (Int32 × Int32) := (X10_isIn F p1.toInt64 0 1).bind fun r1 => (if (r1 : Int32) = 0 then (some ((-1), 0)) else (if ((19 + p1) : Int32) < 0 ∨ 3392 ≤ (Int32.toNatClampNeg (19 + p1)) then none else ((X10_isIn F p2.toInt64 0 (((k_w (Int32.toNatClampNeg (19 + p1))) - 1).toInt64)).bind fun r3 => (if (r3 : Int32) = 0 then (some ((-1), 0)) else ((X10_ghostAt F p1 p2 k_o).bind fun r5 => (if (r5 : Int32) < 0 ∨ 3392 ≤ (Int32.toNatClampNeg r5) then none else (some ((k_w (Int32.toNatClampNeg r5)), 0))))))))
abbrev rm_X10_ghost : Room := { frames := 1, cells := 0, slots := 0, locals := 25 }
theorem ok_X10_ghost : OKV RX10 yX10_ghost cX10_ghost 3 (some .int) 2 := ⟨by decide +kernel, qV_X10_ghost, qL_X10_ghost, qI_X10, qD_X10_ghost⟩
set_option maxHeartbeats 4000000 in
set_option maxRecDepth 100000 in
theorem c_X10_ghost (l : Launch) (D : va_G) (cI cZ cL cW : ClassId) (F : Nat) (a0 : Nat) (a1 : Nat) (a2 : Nat) (a3 : Nat) (a4 : Nat) (a5 : Nat) (a6 : Nat) (k_thrown : Int32) (k_w : (Nat → Int32)) (k_o : Int32) (k_isKept : (Nat → Int32)) (k_went : (Nat → Int32)) (k_wentMany : Int32) (k_waiting : (Nat → Int32)) (k_came : Int32) (k_depth : Int32) (k_isSilent : Int32) (k_x : Int64) (k_packed : (Nat → Int32)) (k_hits : Int32) (k_rues : Int32) (k_soonest : Int32) (k_inAll : (Nat → Int32)) (p1 : Int32) (p2 : Int32) (r : Int32) (k_thrown' : Int32) (hf : X10_ghost F p1 p2 k_thrown k_w k_o = some (r, k_thrown')) : CtrW l D (tyL cI cZ cL cW) nestW yX10_ghost cX10_ghost 3 (some .int) rm_X10_ghost [.ref a0, .int p1, .int p2] (MX10 cI cZ cL cW a0 a1 a2 a3 a4 a5 a6 k_thrown k_w k_o k_isKept k_went k_wentMany k_waiting k_came k_depth k_isSilent k_x k_packed k_hits k_rues k_soonest k_inAll) (MX10 cI cZ cL cW a0 a1 a2 a3 a4 a5 a6 (k_thrown') k_w k_o k_isKept k_went k_wentMany k_waiting k_came k_depth k_isSilent k_x k_packed k_hits k_rues k_soonest k_inAll) (some (.int r)) := by
  refine ofA RX10 (by decide) rfl (Nat.le_of_ble_eq_true rfl) ?_
  intro p e s m below meth c ls A C hr hlk hE hA hP hD hS hl
  generalize (List.toArray ([.ref a0, .int p1, .int p2] : List Value)) = args at C ⊢
  obtain ⟨hx, hb, hml, hown, ht⟩ := id C
  have hl : lv_has ls 3 [(0, .ref a0), (1, .int p1), (2, .int p2)] := hl
  refine lv_aload_n hx hb dX10_ghost_0 rfl (lv_at hl 0 rfl) ?_
  refine lv_iconst (v := 0) hx hb dX10_ghost_1 (by decide) ?_
  refine pf_X10 (v := .int 0) C hE hP hD hS 0 0 rfl (by decide) qF_X10_1 rfl rfl rfl (Nat.le_of_ble_eq_true rfl) dX10_ghost_2 (fun H locs (hP : va_P D vwCl (MX10 cI cZ cL cW a0 a1 a2 a3 a4 a5 a6 0 k_w k_o k_isKept k_went k_wentMany k_waiting k_came k_depth k_isSilent k_x k_packed k_hits k_rues k_soonest k_inAll) H) (hD : va_D A (MX10 cI cZ cL cW a0 a1 a2 a3 a4 a5 a6 0 k_w k_o k_isKept k_went k_wentMany k_waiting k_came k_depth k_isSilent k_x k_packed k_hits k_rues k_soonest k_inAll)) hS => ?_)
  refine lv_iload_n hx hb dX10_ghost_5 rfl (lv_at hl 1 rfl) ?_
  refine lv_i2l hx hb dX10_ghost_6 rfl ?_
  refine lv_lconst (v := 0) hx hb dX10_ghost_7 (by decide) ?_
  refine lv_lconst (v := 1) hx hb dX10_ghost_8 (by decide) ?_
  obtain ⟨r1, h2, hf⟩ := bd_s hf
  refine is_R (rest := []) (st1 := [.int r1]) C hE va_P_nil (c_X10_isIn l D cI cZ cL cW F   p1.toInt64 0 1 r1  h2) ok_X10_isIn qM_X10_49 rfl rfl ⟨(Nat.le_of_ble_eq_true rfl), (Nat.le_of_ble_eq_true rfl)⟩ hl.1 (Nat.le_of_ble_eq_true rfl) ⟨Nat.zero_le _, Nat.zero_le _⟩ dX10_ghost_9 rfl rfl ?_
  refine lv_if_eq (tgt := 50) hx hb dX10_ghost_12 (by decide) (fun c10 => ?_) (fun c10 => ?_)
  · have hf := it_p hf c10
    refine lv_iconst (v := (-1)) hx hb dX10_ghost_50 (by decide) ?_
    cases hf
    exact rw_i C hr hlk hP hD hS dX10_ghost_51 rfl
  · have hf := it_n hf c10
    refine lv_iload_n hx hb dX10_ghost_15 rfl (lv_at hl 2 rfl) ?_
    refine lv_i2l hx hb dX10_ghost_16 rfl ?_
    refine lv_lconst (v := 0) hx hb dX10_ghost_17 (by decide) ?_
    refine lv_aload_n hx hb dX10_ghost_18 rfl (lv_at hl 0 rfl) ?_
    refine gf_X10 (v := .ref a1) C hE hP 0 1 rfl (by decide) qF_X10_17 rfl dX10_ghost_19 ?_
    refine lv_bipush (v := 19) hx hb dX10_ghost_22 (by decide) ?_
    refine lv_iload_n hx hb dX10_ghost_24 rfl (lv_at hl 1 rfl) ?_
    refine lv_iadd hx hb dX10_ghost_25 ?_
    obtain ⟨g9, hf⟩ := it_g hf
    refine va_iald hx hb hE.1 hP 1 0 rfl rfl g9 dX10_ghost_26 ?_
    refine lv_iconst (v := 1) hx hb dX10_ghost_27 (by decide) ?_
    refine lv_isub hx hb dX10_ghost_28 ?_
    refine lv_i2l hx hb dX10_ghost_29 rfl ?_
    obtain ⟨r3, h4, hf⟩ := bd_s hf
    refine is_R (rest := []) (st1 := [.int r3]) C hE va_P_nil (c_X10_isIn l D cI cZ cL cW F   p2.toInt64 0 (((k_w (Int32.toNatClampNeg (19 + p1))) - 1).toInt64) r3  h4) ok_X10_isIn qM_X10_49 rfl rfl ⟨(Nat.le_of_ble_eq_true rfl), (Nat.le_of_ble_eq_true rfl)⟩ hl.1 (Nat.le_of_ble_eq_true rfl) ⟨Nat.zero_le _, Nat.zero_le _⟩ dX10_ghost_30 rfl rfl ?_
    refine lv_if_eq (tgt := 50) hx hb dX10_ghost_33 (by decide) (fun c8 => ?_) (fun c8 => ?_)
    · have hf := it_p hf c8
      refine lv_iconst (v := (-1)) hx hb dX10_ghost_50 (by decide) ?_
      cases hf
      exact rw_i C hr hlk hP hD hS dX10_ghost_51 rfl
    · have hf := it_n hf c8
      refine lv_aload_n hx hb dX10_ghost_36 rfl (lv_at hl 0 rfl) ?_
      refine gf_X10 (v := .ref a1) C hE hP 0 1 rfl (by decide) qF_X10_17 rfl dX10_ghost_37 ?_
      refine lv_aload_n hx hb dX10_ghost_40 rfl (lv_at hl 0 rfl) ?_
      refine lv_iload_n hx hb dX10_ghost_41 rfl (lv_at hl 1 rfl) ?_
      refine lv_iload_n hx hb dX10_ghost_42 rfl (lv_at hl 2 rfl) ?_
      obtain ⟨r5, h6, hf⟩ := bd_s hf
      refine iv_R (rest := [.ref a1]) (st1 := [.int r5, .ref a1]) C hE hP (c_X10_ghostAt l D cI cZ cL cW F a0 a1 a2 a3 a4 a5 a6 0 k_w k_o k_isKept k_went k_wentMany k_waiting k_came k_depth k_isSilent k_x k_packed k_hits k_rues k_soonest k_inAll p1 p2 r5  h6) ok_X10_ghostAt qM_X10_79 rfl rfl ⟨(Nat.le_of_ble_eq_true rfl), (Nat.le_of_ble_eq_true rfl)⟩ rfl rfl hl.1 (Nat.le_of_ble_eq_true rfl) ⟨Nat.zero_le _, Nat.zero_le _⟩ dX10_ghost_43 rfl rfl ?_
      obtain ⟨g7, hf⟩ := it_g hf
      refine va_iald hx hb hE.1 hP 1 0 rfl rfl g7 dX10_ghost_46 ?_
      refine lv_goto (tgt := 51) hx hb dX10_ghost_47 (by decide) ?_
      cases hf
      exact rw_i C hr hlk hP hD hS dX10_ghost_51 rfl
def X10_countAbove_L4 (F : Nat) : Nat → Int32 → Int32 → Int32 → (Nat → Int32) → Int32 → Option (Int32)
  | 0, _, _, _, _, _ => none
  | n + 1, v1, v2, v3, k_w, k_o => if ((k_w (Int32.toNatClampNeg 0)) : Int32) ≤ v3 then (some v2) else ((X10_of F v3 3 k_w k_o).bind fun r1 => (if (r1 : Int32) ≤ v1 then (X10_countAbove_L4 F n v1 v2 (v3 + 1) k_w k_o) else (if (v2 : Int32) = (-1) then ((X10_of F v3 3 k_w k_o).bind fun r3 => (X10_countAbove_L4 F n v1 r3 (v3 + 1) k_w k_o)) else ((X10_of F v3 3 k_w k_o).bind fun r5 => (if (v2 : Int32) ≤ r5 then (X10_countAbove_L4 F n v1 v2 (v3 + 1) k_w k_o) else ((X10_of F v3 3 k_w k_o).bind fun r7 => (X10_countAbove_L4 F n v1 r7 (v3 + 1) k_w k_o)))))))
def X10_countAbove (F : Nat) (p1 : Int32) (k_w : (Nat → Int32)) (k_o : Int32) : Option (Int32) := (X10_countAbove_L4 F F p1 (-1) 0 k_w k_o).bind fun x13 => (some x13)
abbrev rm_X10_countAbove : Room := { frames := 1, cells := 0, slots := 0, locals := 22 }
theorem ok_X10_countAbove : OKV RX10 yX10_countAbove cX10_countAbove 4 (some .int) 1 := ⟨by decide +kernel, qV_X10_countAbove, qL_X10_countAbove, qI_X10, qD_X10_countAbove⟩
set_option maxHeartbeats 4000000 in
set_option maxRecDepth 100000 in
theorem c_X10_countAbove (l : Launch) (D : va_G) (cI cZ cL cW : ClassId) (F : Nat) (a0 : Nat) (a1 : Nat) (a2 : Nat) (a3 : Nat) (a4 : Nat) (a5 : Nat) (a6 : Nat) (k_thrown : Int32) (k_w : (Nat → Int32)) (k_o : Int32) (k_isKept : (Nat → Int32)) (k_went : (Nat → Int32)) (k_wentMany : Int32) (k_waiting : (Nat → Int32)) (k_came : Int32) (k_depth : Int32) (k_isSilent : Int32) (k_x : Int64) (k_packed : (Nat → Int32)) (k_hits : Int32) (k_rues : Int32) (k_soonest : Int32) (k_inAll : (Nat → Int32)) (p1 : Int32) (r : Int32) (hf : X10_countAbove F p1 k_w k_o = some r) : CtrR l D (tyL cI cZ cL cW) nestW yX10_countAbove cX10_countAbove 4 (some .int) rm_X10_countAbove [.ref a0, .int p1] (MX10 cI cZ cL cW a0 a1 a2 a3 a4 a5 a6 k_thrown k_w k_o k_isKept k_went k_wentMany k_waiting k_came k_depth k_isSilent k_x k_packed k_hits k_rues k_soonest k_inAll) (some (.int r)) := by
  refine ofR RX10 (by decide) rfl (Nat.le_of_ble_eq_true rfl) ?_
  intro p e s m below meth c ls C hr hlk hE hP hl
  generalize (List.toArray ([.ref a0, .int p1] : List Value)) = args at C ⊢
  obtain ⟨hx, hb, hml, hown, ht⟩ := id C
  have hl : lv_has ls 4 [(0, .ref a0), (1, .int p1)] := hl
  have L4 : ∀ (Q : State → Prop) (n : Nat) (v1 : Int32) (v2 : Int32) (v3 : Int32) (x2 : Int32) (ls : Array Slot), X10_countAbove_L4 F n v1 v2 v3 k_w k_o = some x2 → lv_has ls 4 [(0, .ref a0), (1, .int v1), (2, .int v2), (3, .int v3)] → (∀ ls : Array Slot, lv_has ls 4 [(2, .int x2)] → W p l e rm_X10_countAbove s m args below meth c s.heap [] 0 0 Q (F0 m 52 ls [])) → W p l e rm_X10_countAbove s m args below meth c s.heap [] 0 0 Q (F0 m 4 ls []) := by
    intro Q n
    induction n with
    | zero => intro v1 v2 v3 x2 ls hf hl hk; exact nn_s hf
    | succ n ih =>
      intro v1 v2 v3 x2 ls hf hl hk
      refine lv_iload_n hx hb dX10_countAbove_4 rfl (lv_at hl 3 rfl) ?_
      refine lv_aload_n hx hb dX10_countAbove_5 rfl (lv_at hl 0 rfl) ?_
      refine gf_X10 (v := .ref a1) C hE hP 0 1 rfl (by decide) qF_X10_17 rfl dX10_countAbove_6 ?_
      refine lv_iconst (v := 0) hx hb dX10_countAbove_9 (by decide) ?_
      refine va_iald hx hb hE.1 hP 1 0 rfl rfl (vp_l (by decide)) dX10_countAbove_10 ?_
      refine lv_icmp_ge (tgt := 52) hx hb dX10_countAbove_11 (by decide) (fun c12 => ?_) (fun c12 => ?_)
      · have hf := it_p hf c12
        cases hf
        exact hk ls (lv_sub hl [2] rfl)
      · have hf := it_n hf c12
        refine lv_aload_n hx hb dX10_countAbove_14 rfl (lv_at hl 0 rfl) ?_
        refine lv_iload_n hx hb dX10_countAbove_15 rfl (lv_at hl 3 rfl) ?_
        refine lv_iconst (v := 3) hx hb dX10_countAbove_16 (by decide) ?_
        obtain ⟨r1, h2, hf⟩ := bd_s hf
        refine iv_R (rest := []) (st1 := [.int r1]) C hE hP (c_X10_of l D cI cZ cL cW F a0 a1 a2 a3 a4 a5 a6 k_thrown k_w k_o k_isKept k_went k_wentMany k_waiting k_came k_depth k_isSilent k_x k_packed k_hits k_rues k_soonest k_inAll v3 3 r1  h2) ok_X10_of qM_X10_44 rfl rfl ⟨(Nat.le_of_ble_eq_true rfl), (Nat.le_of_ble_eq_true rfl)⟩ rfl rfl hl.1 (Nat.le_of_ble_eq_true rfl) ⟨Nat.zero_le _, Nat.zero_le _⟩ dX10_countAbove_17 rfl rfl ?_
        refine lv_iload_n hx hb dX10_countAbove_20 rfl (lv_at hl 1 rfl) ?_
        refine lv_icmp_le (tgt := 46) hx hb dX10_countAbove_21 (by decide) (fun c11 => ?_) (fun c11 => ?_)
        · have hf := it_p hf c11
          refine lv_iinc (v := (v3 + 1)) (lv' := [(3, .int (v3 + 1)), (0, .ref a0), (1, .int v1), (2, .int v2)]) hx hb dX10_countAbove_46 hl (k := 3) rfl rfl (by decide) rfl (fun ls hl => ?_)
          refine lv_goto (tgt := 4) hx hb dX10_countAbove_49 (by decide) ?_
          exact ih v1 v2 (v3 + 1) _ ls hf (lv_sub hl [1, 2, 3, 0] rfl) hk
        · have hf := it_n hf c11
          refine lv_iload_n hx hb dX10_countAbove_24 rfl (lv_at hl 2 rfl) ?_
          refine lv_iconst (v := (-1)) hx hb dX10_countAbove_25 (by decide) ?_
          refine lv_icmp_eq (tgt := 39) hx hb dX10_countAbove_26 (by decide) (fun c10 => ?_) (fun c10 => ?_)
          · have hf := it_p hf c10
            refine lv_aload_n hx hb dX10_countAbove_39 rfl (lv_at hl 0 rfl) ?_
            refine lv_iload_n hx hb dX10_countAbove_40 rfl (lv_at hl 3 rfl) ?_
            refine lv_iconst (v := 3) hx hb dX10_countAbove_41 (by decide) ?_
            obtain ⟨r3, h4, hf⟩ := bd_s hf
            refine iv_R (rest := []) (st1 := [.int r3]) C hE hP (c_X10_of l D cI cZ cL cW F a0 a1 a2 a3 a4 a5 a6 k_thrown k_w k_o k_isKept k_went k_wentMany k_waiting k_came k_depth k_isSilent k_x k_packed k_hits k_rues k_soonest k_inAll v3 3 r3  h4) ok_X10_of qM_X10_44 rfl rfl ⟨(Nat.le_of_ble_eq_true rfl), (Nat.le_of_ble_eq_true rfl)⟩ rfl rfl hl.1 (Nat.le_of_ble_eq_true rfl) ⟨Nat.zero_le _, Nat.zero_le _⟩ dX10_countAbove_42 rfl rfl ?_
            refine lv_istore_n (lv' := [(2, .int r3), (0, .ref a0), (1, .int v1), (3, .int v3)]) hx hb dX10_countAbove_45 rfl hl (by decide) rfl (fun ls hl => ?_)
            refine lv_iinc (v := (v3 + 1)) (lv' := [(3, .int (v3 + 1)), (2, .int r3), (0, .ref a0), (1, .int v1)]) hx hb dX10_countAbove_46 hl (k := 3) rfl rfl (by decide) rfl (fun ls hl => ?_)
            refine lv_goto (tgt := 4) hx hb dX10_countAbove_49 (by decide) ?_
            exact ih v1 r3 (v3 + 1) _ ls hf (lv_sub hl [2, 3, 1, 0] rfl) hk
          · have hf := it_n hf c10
            refine lv_aload_n hx hb dX10_countAbove_29 rfl (lv_at hl 0 rfl) ?_
            refine lv_iload_n hx hb dX10_countAbove_30 rfl (lv_at hl 3 rfl) ?_
            refine lv_iconst (v := 3) hx hb dX10_countAbove_31 (by decide) ?_
            obtain ⟨r5, h6, hf⟩ := bd_s hf
            refine iv_R (rest := []) (st1 := [.int r5]) C hE hP (c_X10_of l D cI cZ cL cW F a0 a1 a2 a3 a4 a5 a6 k_thrown k_w k_o k_isKept k_went k_wentMany k_waiting k_came k_depth k_isSilent k_x k_packed k_hits k_rues k_soonest k_inAll v3 3 r5  h6) ok_X10_of qM_X10_44 rfl rfl ⟨(Nat.le_of_ble_eq_true rfl), (Nat.le_of_ble_eq_true rfl)⟩ rfl rfl hl.1 (Nat.le_of_ble_eq_true rfl) ⟨Nat.zero_le _, Nat.zero_le _⟩ dX10_countAbove_32 rfl rfl ?_
            refine lv_iload_n hx hb dX10_countAbove_35 rfl (lv_at hl 2 rfl) ?_
            refine lv_icmp_ge (tgt := 46) hx hb dX10_countAbove_36 (by decide) (fun c9 => ?_) (fun c9 => ?_)
            · have hf := it_p hf c9
              refine lv_iinc (v := (v3 + 1)) (lv' := [(3, .int (v3 + 1)), (0, .ref a0), (1, .int v1), (2, .int v2)]) hx hb dX10_countAbove_46 hl (k := 3) rfl rfl (by decide) rfl (fun ls hl => ?_)
              refine lv_goto (tgt := 4) hx hb dX10_countAbove_49 (by decide) ?_
              exact ih v1 v2 (v3 + 1) _ ls hf (lv_sub hl [1, 2, 3, 0] rfl) hk
            · have hf := it_n hf c9
              refine lv_aload_n hx hb dX10_countAbove_39 rfl (lv_at hl 0 rfl) ?_
              refine lv_iload_n hx hb dX10_countAbove_40 rfl (lv_at hl 3 rfl) ?_
              refine lv_iconst (v := 3) hx hb dX10_countAbove_41 (by decide) ?_
              obtain ⟨r7, h8, hf⟩ := bd_s hf
              refine iv_R (rest := []) (st1 := [.int r7]) C hE hP (c_X10_of l D cI cZ cL cW F a0 a1 a2 a3 a4 a5 a6 k_thrown k_w k_o k_isKept k_went k_wentMany k_waiting k_came k_depth k_isSilent k_x k_packed k_hits k_rues k_soonest k_inAll v3 3 r7  h8) ok_X10_of qM_X10_44 rfl rfl ⟨(Nat.le_of_ble_eq_true rfl), (Nat.le_of_ble_eq_true rfl)⟩ rfl rfl hl.1 (Nat.le_of_ble_eq_true rfl) ⟨Nat.zero_le _, Nat.zero_le _⟩ dX10_countAbove_42 rfl rfl ?_
              refine lv_istore_n (lv' := [(2, .int r7), (0, .ref a0), (1, .int v1), (3, .int v3)]) hx hb dX10_countAbove_45 rfl hl (by decide) rfl (fun ls hl => ?_)
              refine lv_iinc (v := (v3 + 1)) (lv' := [(3, .int (v3 + 1)), (2, .int r7), (0, .ref a0), (1, .int v1)]) hx hb dX10_countAbove_46 hl (k := 3) rfl rfl (by decide) rfl (fun ls hl => ?_)
              refine lv_goto (tgt := 4) hx hb dX10_countAbove_49 (by decide) ?_
              exact ih v1 r7 (v3 + 1) _ ls hf (lv_sub hl [2, 3, 1, 0] rfl) hk
  refine lv_iconst (v := (-1)) hx hb dX10_countAbove_0 (by decide) ?_
  refine lv_istore_n (lv' := [(2, .int (-1)), (0, .ref a0), (1, .int p1)]) hx hb dX10_countAbove_1 rfl hl (by decide) rfl (fun ls hl => ?_)
  refine lv_iconst (v := 0) hx hb dX10_countAbove_2 (by decide) ?_
  refine lv_istore_n (lv' := [(3, .int 0), (2, .int (-1)), (0, .ref a0), (1, .int p1)]) hx hb dX10_countAbove_3 rfl hl (by decide) rfl (fun ls hl => ?_)
  obtain ⟨x13, h14, hf⟩ := bd_s hf
  refine L4 _ F p1 (-1) 0 x13 ls h14 (lv_sub hl [2, 3, 1, 0] rfl) (fun ls hl => ?_)
  refine lv_iload_n hx hb dX10_countAbove_52 rfl (lv_at hl 0 rfl) ?_
  exact rt_i C hr hlk dX10_countAbove_53 (congrArg (fun o => o.map Value.int) hf)
def X10_unlike_L8 (F : Nat) : Nat → Int32 → Int32 → (Nat → Int32) → Int32 → Option (Int32)
  | 0, _, _, _, _ => none
  | n + 1, v1, v2, k_w, k_o => if (v2 : Int32) = (-1) then (some v1) else ((X10_countAbove F v2 k_w k_o).bind fun r3 => (X10_unlike_L8 F n (v1 + 1) r3 k_w k_o))
def X10_unlike (F : Nat) (k_w : (Nat → Int32)) (k_o : Int32) : Option (Int32) := (X10_countAbove F (-1) k_w k_o).bind fun r1 => ((X10_unlike_L8 F F 0 r1 k_w k_o).bind fun x6 => (some x6))
abbrev rm_X10_unlike : Room := { frames := 2, cells := 0, slots := 0, locals := 45 }
theorem ok_X10_unlike : OKV RX10 yX10_unlike cX10_unlike 3 (some .int) 0 := ⟨by decide +kernel, qV_X10_unlike, qL_X10_unlike, qI_X10, qD_X10_unlike⟩
set_option maxHeartbeats 4000000 in
set_option maxRecDepth 100000 in
theorem c_X10_unlike (l : Launch) (D : va_G) (cI cZ cL cW : ClassId) (F : Nat) (a0 : Nat) (a1 : Nat) (a2 : Nat) (a3 : Nat) (a4 : Nat) (a5 : Nat) (a6 : Nat) (k_thrown : Int32) (k_w : (Nat → Int32)) (k_o : Int32) (k_isKept : (Nat → Int32)) (k_went : (Nat → Int32)) (k_wentMany : Int32) (k_waiting : (Nat → Int32)) (k_came : Int32) (k_depth : Int32) (k_isSilent : Int32) (k_x : Int64) (k_packed : (Nat → Int32)) (k_hits : Int32) (k_rues : Int32) (k_soonest : Int32) (k_inAll : (Nat → Int32)) (r : Int32) (hf : X10_unlike F k_w k_o = some r) : CtrR l D (tyL cI cZ cL cW) nestW yX10_unlike cX10_unlike 3 (some .int) rm_X10_unlike [.ref a0] (MX10 cI cZ cL cW a0 a1 a2 a3 a4 a5 a6 k_thrown k_w k_o k_isKept k_went k_wentMany k_waiting k_came k_depth k_isSilent k_x k_packed k_hits k_rues k_soonest k_inAll) (some (.int r)) := by
  refine ofR RX10 (by decide) rfl (Nat.le_of_ble_eq_true rfl) ?_
  intro p e s m below meth c ls C hr hlk hE hP hl
  generalize (List.toArray ([.ref a0] : List Value)) = args at C ⊢
  obtain ⟨hx, hb, hml, hown, ht⟩ := id C
  have hl : lv_has ls 3 [(0, .ref a0)] := hl
  have L8 : ∀ (Q : State → Prop) (n : Nat) (v1 : Int32) (v2 : Int32) (x1 : Int32) (ls : Array Slot), X10_unlike_L8 F n v1 v2 k_w k_o = some x1 → lv_has ls 3 [(0, .ref a0), (1, .int v1), (2, .int v2)] → (∀ ls : Array Slot, lv_has ls 3 [(1, .int x1)] → W p l e rm_X10_unlike s m args below meth c s.heap [] 0 0 Q (F0 m 25 ls [])) → W p l e rm_X10_unlike s m args below meth c s.heap [] 0 0 Q (F0 m 8 ls []) := by
    intro Q n
    induction n with
    | zero => intro v1 v2 x1 ls hf hl hk; exact nn_s hf
    | succ n ih =>
      intro v1 v2 x1 ls hf hl hk
      refine lv_iload_n hx hb dX10_unlike_8 rfl (lv_at hl 2 rfl) ?_
      refine lv_iconst (v := (-1)) hx hb dX10_unlike_9 (by decide) ?_
      refine lv_icmp_eq (tgt := 25) hx hb dX10_unlike_10 (by decide) (fun c5 => ?_) (fun c5 => ?_)
      · have hf := it_p hf c5
        cases hf
        exact hk ls (lv_sub hl [1] rfl)
      · have hf := it_n hf c5
        refine lv_iinc (v := (v1 + 1)) (lv' := [(1, .int (v1 + 1)), (0, .ref a0), (2, .int v2)]) hx hb dX10_unlike_13 hl (k := 1) rfl rfl (by decide) rfl (fun ls hl => ?_)
        refine lv_aload_n hx hb dX10_unlike_16 rfl (lv_at hl 1 rfl) ?_
        refine lv_iload_n hx hb dX10_unlike_17 rfl (lv_at hl 2 rfl) ?_
        obtain ⟨r3, h4, hf⟩ := bd_s hf
        refine iv_R (rest := []) (st1 := [.int r3]) C hE hP (c_X10_countAbove l D cI cZ cL cW F a0 a1 a2 a3 a4 a5 a6 k_thrown k_w k_o k_isKept k_went k_wentMany k_waiting k_came k_depth k_isSilent k_x k_packed k_hits k_rues k_soonest k_inAll v2 r3  h4) ok_X10_countAbove qM_X10_254 rfl rfl ⟨(Nat.le_of_ble_eq_true rfl), (Nat.le_of_ble_eq_true rfl)⟩ rfl rfl hl.1 (Nat.le_of_ble_eq_true rfl) ⟨Nat.zero_le _, Nat.zero_le _⟩ dX10_unlike_18 rfl rfl ?_
        refine lv_istore_n (lv' := [(2, .int r3), (1, .int (v1 + 1)), (0, .ref a0)]) hx hb dX10_unlike_21 rfl hl (by decide) rfl (fun ls hl => ?_)
        refine lv_goto (tgt := 8) hx hb dX10_unlike_22 (by decide) ?_
        exact ih (v1 + 1) r3 _ ls hf (lv_sub hl [2, 1, 0] rfl) hk
  refine lv_iconst (v := 0) hx hb dX10_unlike_0 (by decide) ?_
  refine lv_istore_n (lv' := [(1, .int 0), (0, .ref a0)]) hx hb dX10_unlike_1 rfl hl (by decide) rfl (fun ls hl => ?_)
  refine lv_aload_n hx hb dX10_unlike_2 rfl (lv_at hl 1 rfl) ?_
  refine lv_iconst (v := (-1)) hx hb dX10_unlike_3 (by decide) ?_
  obtain ⟨r1, h2, hf⟩ := bd_s hf
  refine iv_R (rest := []) (st1 := [.int r1]) C hE hP (c_X10_countAbove l D cI cZ cL cW F a0 a1 a2 a3 a4 a5 a6 k_thrown k_w k_o k_isKept k_went k_wentMany k_waiting k_came k_depth k_isSilent k_x k_packed k_hits k_rues k_soonest k_inAll (-1) r1  h2) ok_X10_countAbove qM_X10_254 rfl rfl ⟨(Nat.le_of_ble_eq_true rfl), (Nat.le_of_ble_eq_true rfl)⟩ rfl rfl hl.1 (Nat.le_of_ble_eq_true rfl) ⟨Nat.zero_le _, Nat.zero_le _⟩ dX10_unlike_4 rfl rfl ?_
  refine lv_istore_n (lv' := [(2, .int r1), (1, .int 0), (0, .ref a0)]) hx hb dX10_unlike_7 rfl hl (by decide) rfl (fun ls hl => ?_)
  obtain ⟨x6, h7, hf⟩ := bd_s hf
  refine L8 _ F 0 r1 x6 ls h7 (lv_sub hl [2, 1, 0] rfl) (fun ls hl => ?_)
  refine lv_iload_n hx hb dX10_unlike_25 rfl (lv_at hl 0 rfl) ?_
  exact rt_i C hr hlk dX10_unlike_26 (congrArg (fun o => o.map Value.int) hf)
def X10_ofCount_L5 (F : Nat) : Nat → Int32 → Int32 → Int32 → Int32 → (Nat → Int32) → Int32 → Option (Int32)
  | 0, _, _, _, _, _, _ => none
  | n + 1, v1, v2, v3, v4, k_w, k_o => if ((k_w (Int32.toNatClampNeg 0)) : Int32) ≤ v4 then (some v3) else ((X10_of F v4 3 k_w k_o).bind fun r1 => (if (r1 : Int32) = v1 then (if (v2 : Int32) = 0 then (X10_ofCount_L5 F n v1 v2 (v3 + 1) (v4 + 1) k_w k_o) else ((X10_of F v4 2 k_w k_o).bind fun r3 => (X10_ofCount_L5 F n v1 v2 (v3 + r3) (v4 + 1) k_w k_o))) else (X10_ofCount_L5 F n v1 v2 v3 (v4 + 1) k_w k_o)))
def X10_ofCount (F : Nat) (p1 : Int32) (p2 : Int32) (k_w : (Nat → Int32)) (k_o : Int32) : Option (Int32) := (X10_ofCount_L5 F F p1 p2 0 0 k_w k_o).bind fun x8 => (if (p2 : Int32) = 1 then (some p1) else (some x8))
abbrev rm_X10_ofCount : Room := { frames := 1, cells := 0, slots := 0, locals := 22 }
theorem ok_X10_ofCount : OKV RX10 yX10_ofCount cX10_ofCount 5 (some .int) 2 := ⟨by decide +kernel, qV_X10_ofCount, qL_X10_ofCount, qI_X10, qD_X10_ofCount⟩
set_option maxHeartbeats 4000000 in
set_option maxRecDepth 100000 in
theorem c_X10_ofCount (l : Launch) (D : va_G) (cI cZ cL cW : ClassId) (F : Nat) (a0 : Nat) (a1 : Nat) (a2 : Nat) (a3 : Nat) (a4 : Nat) (a5 : Nat) (a6 : Nat) (k_thrown : Int32) (k_w : (Nat → Int32)) (k_o : Int32) (k_isKept : (Nat → Int32)) (k_went : (Nat → Int32)) (k_wentMany : Int32) (k_waiting : (Nat → Int32)) (k_came : Int32) (k_depth : Int32) (k_isSilent : Int32) (k_x : Int64) (k_packed : (Nat → Int32)) (k_hits : Int32) (k_rues : Int32) (k_soonest : Int32) (k_inAll : (Nat → Int32)) (p1 : Int32) (p2 : Int32) (r : Int32) (hf : X10_ofCount F p1 p2 k_w k_o = some r) : CtrR l D (tyL cI cZ cL cW) nestW yX10_ofCount cX10_ofCount 5 (some .int) rm_X10_ofCount [.ref a0, .int p1, .int p2] (MX10 cI cZ cL cW a0 a1 a2 a3 a4 a5 a6 k_thrown k_w k_o k_isKept k_went k_wentMany k_waiting k_came k_depth k_isSilent k_x k_packed k_hits k_rues k_soonest k_inAll) (some (.int r)) := by
  refine ofR RX10 (by decide) rfl (Nat.le_of_ble_eq_true rfl) ?_
  intro p e s m below meth c ls C hr hlk hE hP hl
  generalize (List.toArray ([.ref a0, .int p1, .int p2] : List Value)) = args at C ⊢
  obtain ⟨hx, hb, hml, hown, ht⟩ := id C
  have hl : lv_has ls 5 [(0, .ref a0), (1, .int p1), (2, .int p2)] := hl
  have L5 : ∀ (Q : State → Prop) (n : Nat) (v1 : Int32) (v2 : Int32) (v3 : Int32) (v4 : Int32) (x3 : Int32) (ls : Array Slot), X10_ofCount_L5 F n v1 v2 v3 v4 k_w k_o = some x3 → lv_has ls 5 [(0, .ref a0), (1, .int v1), (2, .int v2), (3, .int v3), (4, .int v4)] → (∀ ls : Array Slot, lv_has ls 5 [(1, .int v1), (2, .int v2), (3, .int x3)] → W p l e rm_X10_ofCount s m args below meth c s.heap [] 0 0 Q (F0 m 51 ls [])) → W p l e rm_X10_ofCount s m args below meth c s.heap [] 0 0 Q (F0 m 5 ls []) := by
    intro Q n
    induction n with
    | zero => intro v1 v2 v3 v4 x3 ls hf hl hk; exact nn_s hf
    | succ n ih =>
      intro v1 v2 v3 v4 x3 ls hf hl hk
      refine lv_iload hx hb dX10_ofCount_5 (lv_at hl 4 rfl) ?_
      refine lv_aload_n hx hb dX10_ofCount_7 rfl (lv_at hl 0 rfl) ?_
      refine gf_X10 (v := .ref a1) C hE hP 0 1 rfl (by decide) qF_X10_17 rfl dX10_ofCount_8 ?_
      refine lv_iconst (v := 0) hx hb dX10_ofCount_11 (by decide) ?_
      refine va_iald hx hb hE.1 hP 1 0 rfl rfl (vp_l (by decide)) dX10_ofCount_12 ?_
      refine lv_icmp_ge (tgt := 51) hx hb dX10_ofCount_13 (by decide) (fun c7 => ?_) (fun c7 => ?_)
      · have hf := it_p hf c7
        cases hf
        exact hk ls (lv_sub hl [1, 2, 3] rfl)
      · have hf := it_n hf c7
        refine lv_aload_n hx hb dX10_ofCount_16 rfl (lv_at hl 0 rfl) ?_
        refine lv_iload hx hb dX10_ofCount_17 (lv_at hl 4 rfl) ?_
        refine lv_iconst (v := 3) hx hb dX10_ofCount_19 (by decide) ?_
        obtain ⟨r1, h2, hf⟩ := bd_s hf
        refine iv_R (rest := []) (st1 := [.int r1]) C hE hP (c_X10_of l D cI cZ cL cW F a0 a1 a2 a3 a4 a5 a6 k_thrown k_w k_o k_isKept k_went k_wentMany k_waiting k_came k_depth k_isSilent k_x k_packed k_hits k_rues k_soonest k_inAll v4 3 r1  h2) ok_X10_of qM_X10_44 rfl rfl ⟨(Nat.le_of_ble_eq_true rfl), (Nat.le_of_ble_eq_true rfl)⟩ rfl rfl hl.1 (Nat.le_of_ble_eq_true rfl) ⟨Nat.zero_le _, Nat.zero_le _⟩ dX10_ofCount_20 rfl rfl ?_
        refine lv_iload_n hx hb dX10_ofCount_23 rfl (lv_at hl 1 rfl) ?_
        refine lv_icmp_ne (tgt := 45) hx hb dX10_ofCount_24 (by decide) (fun c6 => ?_) (fun c6 => ?_)
        · have hf := it_n hf c6
          refine lv_iinc (v := (v4 + 1)) (lv' := [(4, .int (v4 + 1)), (0, .ref a0), (1, .int v1), (2, .int v2), (3, .int v3)]) hx hb dX10_ofCount_45 hl (k := 4) rfl rfl (by decide) rfl (fun ls hl => ?_)
          refine lv_goto (tgt := 5) hx hb dX10_ofCount_48 (by decide) ?_
          exact ih v1 v2 v3 (v4 + 1) _ ls hf (lv_sub hl [1, 2, 3, 4, 0] rfl) hk
        · have hf := it_p hf c6
          refine lv_iload_n hx hb dX10_ofCount_27 rfl (lv_at hl 3 rfl) ?_
          refine lv_iload_n hx hb dX10_ofCount_28 rfl (lv_at hl 2 rfl) ?_
          refine lv_if_ne (tgt := 36) hx hb dX10_ofCount_29 (by decide) (fun c5 => ?_) (fun c5 => ?_)
          · have hf := it_n hf c5
            refine lv_aload_n hx hb dX10_ofCount_36 rfl (lv_at hl 0 rfl) ?_
            refine lv_iload hx hb dX10_ofCount_37 (lv_at hl 4 rfl) ?_
            refine lv_iconst (v := 2) hx hb dX10_ofCount_39 (by decide) ?_
            obtain ⟨r3, h4, hf⟩ := bd_s hf
            refine iv_R (rest := [.int v3]) (st1 := [.int r3, .int v3]) C hE hP (c_X10_of l D cI cZ cL cW F a0 a1 a2 a3 a4 a5 a6 k_thrown k_w k_o k_isKept k_went k_wentMany k_waiting k_came k_depth k_isSilent k_x k_packed k_hits k_rues k_soonest k_inAll v4 2 r3  h4) ok_X10_of qM_X10_44 rfl rfl ⟨(Nat.le_of_ble_eq_true rfl), (Nat.le_of_ble_eq_true rfl)⟩ rfl rfl hl.1 (Nat.le_of_ble_eq_true rfl) ⟨Nat.zero_le _, Nat.zero_le _⟩ dX10_ofCount_40 rfl rfl ?_
            refine lv_iadd hx hb dX10_ofCount_43 ?_
            refine lv_istore_n (lv' := [(3, .int (v3 + r3)), (0, .ref a0), (1, .int v1), (2, .int v2), (4, .int v4)]) hx hb dX10_ofCount_44 rfl hl (by decide) rfl (fun ls hl => ?_)
            refine lv_iinc (v := (v4 + 1)) (lv' := [(4, .int (v4 + 1)), (3, .int (v3 + r3)), (0, .ref a0), (1, .int v1), (2, .int v2)]) hx hb dX10_ofCount_45 hl (k := 4) rfl rfl (by decide) rfl (fun ls hl => ?_)
            refine lv_goto (tgt := 5) hx hb dX10_ofCount_48 (by decide) ?_
            exact ih v1 v2 (v3 + r3) (v4 + 1) _ ls hf (lv_sub hl [2, 3, 4, 1, 0] rfl) hk
          · have hf := it_p hf c5
            refine lv_iconst (v := 1) hx hb dX10_ofCount_32 (by decide) ?_
            refine lv_goto (tgt := 43) hx hb dX10_ofCount_33 (by decide) ?_
            refine lv_iadd hx hb dX10_ofCount_43 ?_
            refine lv_istore_n (lv' := [(3, .int (v3 + 1)), (0, .ref a0), (1, .int v1), (2, .int v2), (4, .int v4)]) hx hb dX10_ofCount_44 rfl hl (by decide) rfl (fun ls hl => ?_)
            refine lv_iinc (v := (v4 + 1)) (lv' := [(4, .int (v4 + 1)), (3, .int (v3 + 1)), (0, .ref a0), (1, .int v1), (2, .int v2)]) hx hb dX10_ofCount_45 hl (k := 4) rfl rfl (by decide) rfl (fun ls hl => ?_)
            refine lv_goto (tgt := 5) hx hb dX10_ofCount_48 (by decide) ?_
            exact ih v1 v2 (v3 + 1) (v4 + 1) _ ls hf (lv_sub hl [2, 3, 4, 1, 0] rfl) hk
  refine lv_iconst (v := 0) hx hb dX10_ofCount_0 (by decide) ?_
  refine lv_istore_n (lv' := [(3, .int 0), (0, .ref a0), (1, .int p1), (2, .int p2)]) hx hb dX10_ofCount_1 rfl hl (by decide) rfl (fun ls hl => ?_)
  refine lv_iconst (v := 0) hx hb dX10_ofCount_2 (by decide) ?_
  refine lv_istore (lv' := [(4, .int 0), (3, .int 0), (0, .ref a0), (1, .int p1), (2, .int p2)]) hx hb dX10_ofCount_3 hl (by decide) rfl (fun ls hl => ?_)
  obtain ⟨x8, h9, hf⟩ := bd_s hf
  refine L5 _ F p1 p2 0 0 x8 ls h9 (lv_sub hl [2, 3, 4, 1, 0] rfl) (fun ls hl => ?_)
  refine lv_iload_n hx hb dX10_ofCount_51 rfl (lv_at hl 1 rfl) ?_
  refine lv_iconst (v := 1) hx hb dX10_ofCount_52 (by decide) ?_
  refine lv_icmp_ne (tgt := 60) hx hb dX10_ofCount_53 (by decide) (fun c10 => ?_) (fun c10 => ?_)
  · have hf := it_n hf c10
    refine lv_iload_n hx hb dX10_ofCount_60 rfl (lv_at hl 2 rfl) ?_
    exact rt_i C hr hlk dX10_ofCount_61 (congrArg (fun o => o.map Value.int) hf)
  · have hf := it_p hf c10
    refine lv_iload_n hx hb dX10_ofCount_56 rfl (lv_at hl 0 rfl) ?_
    refine lv_goto (tgt := 61) hx hb dX10_ofCount_57 (by decide) ?_
    exact rt_i C hr hlk dX10_ofCount_61 (congrArg (fun o => o.map Value.int) hf)
