def X10_doesWake (F : Nat) (p1 : Int32) (p2 : Int32) (k_w : (Nat → Int32)) (k_o : Int32) : Option (Int32) := (X10_hearerAt F p1 k_o).bind fun r1 => (if ((r1 + 3) : Int32) < 0 ∨ 3392 ≤ (Int32.toNatClampNeg (r1 + 3)) then none else (if (k_w (Int32.toNatClampNeg (r1 + 3))) = 1 then ((X10_hearsKind F p2 2 k_w k_o).bind fun r4 => (if (r4 : Int32) = 0 then ((X10_hearsKind F p2 0 k_w k_o).bind fun r6 => (if (r6 : Int32) = 0 then ((X10_hearsKind F p2 1 k_w k_o).bind fun r11 => (if (r11 : Int32) = 0 then ((X10_hearsKind F p2 6 k_w k_o).bind fun r16 => (if (r16 : Int32) = 0 then (some 0) else ((X10_meets F p1 p2 k_w k_o).bind fun r18 => (if (r18 : Int32) = 0 then (some 0) else (some 1))))) else ((X10_meets F p1 p2 k_w k_o).bind fun r13 => (if (r13 : Int32) = 0 then (some 0) else (some 1))))) else ((X10_meets F p1 p2 k_w k_o).bind fun r8 => (if (r8 : Int32) = 0 then (some 0) else (some 1))))) else (some 1))) else (if (k_w (Int32.toNatClampNeg (r1 + 3))) = 2 then ((X10_hearsKind F p2 5 k_w k_o).bind fun r26 => (if (r26 : Int32) = 0 then (some 0) else ((X10_meets F p1 p2 k_w k_o).bind fun r28 => (if (r28 : Int32) = 0 then (some 0) else (some 1))))) else (if (k_w (Int32.toNatClampNeg (r1 + 3))) = 3 then ((X10_hearsKind F p2 4 k_w k_o).bind fun r33 => (if (r33 : Int32) = 0 then (some 0) else ((X10_meets F p1 p2 k_w k_o).bind fun r35 => (if (r35 : Int32) = 0 then (some 0) else (some 1))))) else (if (k_w (Int32.toNatClampNeg (r1 + 3))) = 4 then (some 0) else (if (k_w (Int32.toNatClampNeg (r1 + 3))) = 5 then (some 0) else (if (k_w (Int32.toNatClampNeg (r1 + 3))) = 6 then ((X10_hearerAt F p1 k_o).bind fun r42 => (if ((r42 + 4) : Int32) < 0 ∨ 3392 ≤ (Int32.toNatClampNeg (r42 + 4)) then none else (if (0 : Int32) ≤ (k_w (Int32.toNatClampNeg (r42 + 4))) then (some 0) else ((X10_hearsKind F p2 2 k_w k_o).bind fun r44 => (if (r44 : Int32) = 0 then (some 0) else (some 1)))))) else (some 0))))))))
abbrev rm_X10_doesWake : Room := { frames := 2, cells := 0, slots := 0, locals := 47 }
theorem ok_X10_doesWake : OKV RX10 yX10_doesWake cX10_doesWake 4 (some .boolean) 2 := ⟨by decide +kernel, qV_X10_doesWake, qL_X10_doesWake, qI_X10, qD_X10_doesWake⟩
set_option maxHeartbeats 4000000 in
set_option maxRecDepth 100000 in
theorem c_X10_doesWake (l : Launch) (D : va_G) (cI cZ cL cW : ClassId) (F : Nat) (a0 : Nat) (a1 : Nat) (a2 : Nat) (a3 : Nat) (a4 : Nat) (a5 : Nat) (a6 : Nat) (k_thrown : Int32) (k_w : (Nat → Int32)) (k_o : Int32) (k_isKept : (Nat → Int32)) (k_went : (Nat → Int32)) (k_wentMany : Int32) (k_waiting : (Nat → Int32)) (k_came : Int32) (k_depth : Int32) (k_isSilent : Int32) (k_x : Int64) (k_packed : (Nat → Int32)) (k_hits : Int32) (k_rues : Int32) (k_soonest : Int32) (k_inAll : (Nat → Int32)) (p1 : Int32) (p2 : Int32) (r : Int32) (hf : X10_doesWake F p1 p2 k_w k_o = some r) : CtrR l D (tyL cI cZ cL cW) nestW yX10_doesWake cX10_doesWake 4 (some .boolean) rm_X10_doesWake [.ref a0, .int p1, .int p2] (MX10 cI cZ cL cW a0 a1 a2 a3 a4 a5 a6 k_thrown k_w k_o k_isKept k_went k_wentMany k_waiting k_came k_depth k_isSilent k_x k_packed k_hits k_rues k_soonest k_inAll) (some (.int r)) := by
  refine ofR RX10 (by decide) rfl (Nat.le_of_ble_eq_true rfl) ?_
  intro p e s m below meth c ls C hr hlk hE hP hl
  generalize (List.toArray ([.ref a0, .int p1, .int p2] : List Value)) = args at C ⊢
  obtain ⟨hx, hb, hml, hown, ht⟩ := id C
  have hl : lv_has ls 4 [(0, .ref a0), (1, .int p1), (2, .int p2)] := hl
  refine lv_aload_n hx hb dX10_doesWake_0 rfl (lv_at hl 0 rfl) ?_
  refine gf_X10 (v := .ref a1) C hE hP 0 1 rfl (by decide) qF_X10_17 rfl dX10_doesWake_1 ?_
  refine lv_aload_n hx hb dX10_doesWake_4 rfl (lv_at hl 0 rfl) ?_
  refine lv_iload_n hx hb dX10_doesWake_5 rfl (lv_at hl 1 rfl) ?_
  obtain ⟨r1, h2, hf⟩ := bd_s hf
  refine iv_R (rest := [.ref a1]) (st1 := [.int r1, .ref a1]) C hE hP (c_X10_hearerAt l D cI cZ cL cW F a0 a1 a2 a3 a4 a5 a6 k_thrown k_w k_o k_isKept k_went k_wentMany k_waiting k_came k_depth k_isSilent k_x k_packed k_hits k_rues k_soonest k_inAll p1 r1  h2) ok_X10_hearerAt qM_X10_115 rfl rfl ⟨(Nat.le_of_ble_eq_true rfl), (Nat.le_of_ble_eq_true rfl)⟩ rfl rfl hl.1 (Nat.le_of_ble_eq_true rfl) ⟨Nat.zero_le _, Nat.zero_le _⟩ dX10_doesWake_6 rfl rfl ?_
  refine lv_iconst (v := 3) hx hb dX10_doesWake_9 (by decide) ?_
  refine lv_iadd hx hb dX10_doesWake_10 ?_
  obtain ⟨g49, hf⟩ := it_g hf
  refine va_iald hx hb hE.1 hP 1 0 rfl rfl g49 dX10_doesWake_11 ?_
  refine lv_istore_n (lv' := [(3, .int (k_w (Int32.toNatClampNeg (r1 + 3)))), (0, .ref a0), (1, .int p1), (2, .int p2)]) hx hb dX10_doesWake_12 rfl hl (by decide) rfl (fun ls hl => ?_)
  refine lv_iload_n hx hb dX10_doesWake_13 rfl (lv_at hl 0 rfl) ?_
  by_cases e3 : (k_w (Int32.toNatClampNeg (r1 + 3))) = 1
  · have hf := it_p hf e3
    refine lv_tableIn (off := 38) (tgt := 52) hx hb dX10_doesWake_14 (by rw [e3]; decide) (by rw [e3]; decide) (by rw [e3]; decide) (by decide) ?_
    refine lv_aload_n hx hb dX10_doesWake_52 rfl (lv_at hl 1 rfl) ?_
    refine lv_iload_n hx hb dX10_doesWake_53 rfl (lv_at hl 3 rfl) ?_
    refine lv_iconst (v := 2) hx hb dX10_doesWake_54 (by decide) ?_
    obtain ⟨r4, h5, hf⟩ := bd_s hf
    refine iv_R (rest := []) (st1 := [.int r4]) C hE hP (c_X10_hearsKind l D cI cZ cL cW F a0 a1 a2 a3 a4 a5 a6 k_thrown k_w k_o k_isKept k_went k_wentMany k_waiting k_came k_depth k_isSilent k_x k_packed k_hits k_rues k_soonest k_inAll p2 2 r4  h5) ok_X10_hearsKind qM_X10_274 rfl rfl ⟨(Nat.le_of_ble_eq_true rfl), (Nat.le_of_ble_eq_true rfl)⟩ rfl rfl hl.1 (Nat.le_of_ble_eq_true rfl) ⟨Nat.zero_le _, Nat.zero_le _⟩ dX10_doesWake_55 rfl rfl ?_
    refine lv_if_ne (tgt := 98) hx hb dX10_doesWake_58 (by decide) (fun c24 => ?_) (fun c24 => ?_)
    · have hf := it_n hf c24
      refine lv_iconst (v := 1) hx hb dX10_doesWake_98 (by decide) ?_
      refine lv_goto (tgt := 103) hx hb dX10_doesWake_99 (by decide) ?_
      exact rt_z C hr hlk (by decide) dX10_doesWake_103 (congrArg (fun o => o.map Value.int) hf)
    · have hf := it_p hf c24
      refine lv_aload_n hx hb dX10_doesWake_61 rfl (lv_at hl 1 rfl) ?_
      refine lv_iload_n hx hb dX10_doesWake_62 rfl (lv_at hl 3 rfl) ?_
      refine lv_iconst (v := 0) hx hb dX10_doesWake_63 (by decide) ?_
      obtain ⟨r6, h7, hf⟩ := bd_s hf
      refine iv_R (rest := []) (st1 := [.int r6]) C hE hP (c_X10_hearsKind l D cI cZ cL cW F a0 a1 a2 a3 a4 a5 a6 k_thrown k_w k_o k_isKept k_went k_wentMany k_waiting k_came k_depth k_isSilent k_x k_packed k_hits k_rues k_soonest k_inAll p2 0 r6  h7) ok_X10_hearsKind qM_X10_274 rfl rfl ⟨(Nat.le_of_ble_eq_true rfl), (Nat.le_of_ble_eq_true rfl)⟩ rfl rfl hl.1 (Nat.le_of_ble_eq_true rfl) ⟨Nat.zero_le _, Nat.zero_le _⟩ dX10_doesWake_64 rfl rfl ?_
      refine lv_if_ne (tgt := 89) hx hb dX10_doesWake_67 (by decide) (fun c23 => ?_) (fun c23 => ?_)
      · have hf := it_n hf c23
        refine lv_aload_n hx hb dX10_doesWake_89 rfl (lv_at hl 1 rfl) ?_
        refine lv_iload_n hx hb dX10_doesWake_90 rfl (lv_at hl 2 rfl) ?_
        refine lv_iload_n hx hb dX10_doesWake_91 rfl (lv_at hl 3 rfl) ?_
        obtain ⟨r8, h9, hf⟩ := bd_s hf
        refine iv_R (rest := []) (st1 := [.int r8]) C hE hP (c_X10_meets l D cI cZ cL cW F a0 a1 a2 a3 a4 a5 a6 k_thrown k_w k_o k_isKept k_went k_wentMany k_waiting k_came k_depth k_isSilent k_x k_packed k_hits k_rues k_soonest k_inAll p1 p2 r8  h9) ok_X10_meets qM_X10_277 rfl rfl ⟨(Nat.le_of_ble_eq_true rfl), (Nat.le_of_ble_eq_true rfl)⟩ rfl rfl hl.1 (Nat.le_of_ble_eq_true rfl) ⟨Nat.zero_le _, Nat.zero_le _⟩ dX10_doesWake_92 rfl rfl ?_
        refine lv_if_eq (tgt := 102) hx hb dX10_doesWake_95 (by decide) (fun c10 => ?_) (fun c10 => ?_)
        · have hf := it_p hf c10
          refine lv_iconst (v := 0) hx hb dX10_doesWake_102 (by decide) ?_
          exact rt_z C hr hlk (by decide) dX10_doesWake_103 (congrArg (fun o => o.map Value.int) hf)
        · have hf := it_n hf c10
          refine lv_iconst (v := 1) hx hb dX10_doesWake_98 (by decide) ?_
          refine lv_goto (tgt := 103) hx hb dX10_doesWake_99 (by decide) ?_
          exact rt_z C hr hlk (by decide) dX10_doesWake_103 (congrArg (fun o => o.map Value.int) hf)
      · have hf := it_p hf c23
        refine lv_aload_n hx hb dX10_doesWake_70 rfl (lv_at hl 1 rfl) ?_
        refine lv_iload_n hx hb dX10_doesWake_71 rfl (lv_at hl 3 rfl) ?_
        refine lv_iconst (v := 1) hx hb dX10_doesWake_72 (by decide) ?_
        obtain ⟨r11, h12, hf⟩ := bd_s hf
        refine iv_R (rest := []) (st1 := [.int r11]) C hE hP (c_X10_hearsKind l D cI cZ cL cW F a0 a1 a2 a3 a4 a5 a6 k_thrown k_w k_o k_isKept k_went k_wentMany k_waiting k_came k_depth k_isSilent k_x k_packed k_hits k_rues k_soonest k_inAll p2 1 r11  h12) ok_X10_hearsKind qM_X10_274 rfl rfl ⟨(Nat.le_of_ble_eq_true rfl), (Nat.le_of_ble_eq_true rfl)⟩ rfl rfl hl.1 (Nat.le_of_ble_eq_true rfl) ⟨Nat.zero_le _, Nat.zero_le _⟩ dX10_doesWake_73 rfl rfl ?_
        refine lv_if_ne (tgt := 89) hx hb dX10_doesWake_76 (by decide) (fun c22 => ?_) (fun c22 => ?_)
        · have hf := it_n hf c22
          refine lv_aload_n hx hb dX10_doesWake_89 rfl (lv_at hl 1 rfl) ?_
          refine lv_iload_n hx hb dX10_doesWake_90 rfl (lv_at hl 2 rfl) ?_
          refine lv_iload_n hx hb dX10_doesWake_91 rfl (lv_at hl 3 rfl) ?_
          obtain ⟨r13, h14, hf⟩ := bd_s hf
          refine iv_R (rest := []) (st1 := [.int r13]) C hE hP (c_X10_meets l D cI cZ cL cW F a0 a1 a2 a3 a4 a5 a6 k_thrown k_w k_o k_isKept k_went k_wentMany k_waiting k_came k_depth k_isSilent k_x k_packed k_hits k_rues k_soonest k_inAll p1 p2 r13  h14) ok_X10_meets qM_X10_277 rfl rfl ⟨(Nat.le_of_ble_eq_true rfl), (Nat.le_of_ble_eq_true rfl)⟩ rfl rfl hl.1 (Nat.le_of_ble_eq_true rfl) ⟨Nat.zero_le _, Nat.zero_le _⟩ dX10_doesWake_92 rfl rfl ?_
          refine lv_if_eq (tgt := 102) hx hb dX10_doesWake_95 (by decide) (fun c15 => ?_) (fun c15 => ?_)
          · have hf := it_p hf c15
            refine lv_iconst (v := 0) hx hb dX10_doesWake_102 (by decide) ?_
            exact rt_z C hr hlk (by decide) dX10_doesWake_103 (congrArg (fun o => o.map Value.int) hf)
          · have hf := it_n hf c15
            refine lv_iconst (v := 1) hx hb dX10_doesWake_98 (by decide) ?_
            refine lv_goto (tgt := 103) hx hb dX10_doesWake_99 (by decide) ?_
            exact rt_z C hr hlk (by decide) dX10_doesWake_103 (congrArg (fun o => o.map Value.int) hf)
        · have hf := it_p hf c22
          refine lv_aload_n hx hb dX10_doesWake_79 rfl (lv_at hl 1 rfl) ?_
          refine lv_iload_n hx hb dX10_doesWake_80 rfl (lv_at hl 3 rfl) ?_
          refine lv_bipush (v := 6) hx hb dX10_doesWake_81 (by decide) ?_
          obtain ⟨r16, h17, hf⟩ := bd_s hf
          refine iv_R (rest := []) (st1 := [.int r16]) C hE hP (c_X10_hearsKind l D cI cZ cL cW F a0 a1 a2 a3 a4 a5 a6 k_thrown k_w k_o k_isKept k_went k_wentMany k_waiting k_came k_depth k_isSilent k_x k_packed k_hits k_rues k_soonest k_inAll p2 6 r16  h17) ok_X10_hearsKind qM_X10_274 rfl rfl ⟨(Nat.le_of_ble_eq_true rfl), (Nat.le_of_ble_eq_true rfl)⟩ rfl rfl hl.1 (Nat.le_of_ble_eq_true rfl) ⟨Nat.zero_le _, Nat.zero_le _⟩ dX10_doesWake_83 rfl rfl ?_
          refine lv_if_eq (tgt := 102) hx hb dX10_doesWake_86 (by decide) (fun c21 => ?_) (fun c21 => ?_)
          · have hf := it_p hf c21
            refine lv_iconst (v := 0) hx hb dX10_doesWake_102 (by decide) ?_
            exact rt_z C hr hlk (by decide) dX10_doesWake_103 (congrArg (fun o => o.map Value.int) hf)
          · have hf := it_n hf c21
            refine lv_aload_n hx hb dX10_doesWake_89 rfl (lv_at hl 1 rfl) ?_
            refine lv_iload_n hx hb dX10_doesWake_90 rfl (lv_at hl 2 rfl) ?_
            refine lv_iload_n hx hb dX10_doesWake_91 rfl (lv_at hl 3 rfl) ?_
            obtain ⟨r18, h19, hf⟩ := bd_s hf
            refine iv_R (rest := []) (st1 := [.int r18]) C hE hP (c_X10_meets l D cI cZ cL cW F a0 a1 a2 a3 a4 a5 a6 k_thrown k_w k_o k_isKept k_went k_wentMany k_waiting k_came k_depth k_isSilent k_x k_packed k_hits k_rues k_soonest k_inAll p1 p2 r18  h19) ok_X10_meets qM_X10_277 rfl rfl ⟨(Nat.le_of_ble_eq_true rfl), (Nat.le_of_ble_eq_true rfl)⟩ rfl rfl hl.1 (Nat.le_of_ble_eq_true rfl) ⟨Nat.zero_le _, Nat.zero_le _⟩ dX10_doesWake_92 rfl rfl ?_
            refine lv_if_eq (tgt := 102) hx hb dX10_doesWake_95 (by decide) (fun c20 => ?_) (fun c20 => ?_)
            · have hf := it_p hf c20
              refine lv_iconst (v := 0) hx hb dX10_doesWake_102 (by decide) ?_
              exact rt_z C hr hlk (by decide) dX10_doesWake_103 (congrArg (fun o => o.map Value.int) hf)
            · have hf := it_n hf c20
              refine lv_iconst (v := 1) hx hb dX10_doesWake_98 (by decide) ?_
              refine lv_goto (tgt := 103) hx hb dX10_doesWake_99 (by decide) ?_
              exact rt_z C hr hlk (by decide) dX10_doesWake_103 (congrArg (fun o => o.map Value.int) hf)
  have hf := it_n hf e3
  by_cases e25 : (k_w (Int32.toNatClampNeg (r1 + 3))) = 2
  · have hf := it_p hf e25
    refine lv_tableIn (off := 90) (tgt := 104) hx hb dX10_doesWake_14 (by rw [e25]; decide) (by rw [e25]; decide) (by rw [e25]; decide) (by decide) ?_
    refine lv_aload_n hx hb dX10_doesWake_104 rfl (lv_at hl 1 rfl) ?_
    refine lv_iload_n hx hb dX10_doesWake_105 rfl (lv_at hl 3 rfl) ?_
    refine lv_iconst (v := 5) hx hb dX10_doesWake_106 (by decide) ?_
    obtain ⟨r26, h27, hf⟩ := bd_s hf
    refine iv_R (rest := []) (st1 := [.int r26]) C hE hP (c_X10_hearsKind l D cI cZ cL cW F a0 a1 a2 a3 a4 a5 a6 k_thrown k_w k_o k_isKept k_went k_wentMany k_waiting k_came k_depth k_isSilent k_x k_packed k_hits k_rues k_soonest k_inAll p2 5 r26  h27) ok_X10_hearsKind qM_X10_274 rfl rfl ⟨(Nat.le_of_ble_eq_true rfl), (Nat.le_of_ble_eq_true rfl)⟩ rfl rfl hl.1 (Nat.le_of_ble_eq_true rfl) ⟨Nat.zero_le _, Nat.zero_le _⟩ dX10_doesWake_107 rfl rfl ?_
    refine lv_if_eq (tgt := 126) hx hb dX10_doesWake_110 (by decide) (fun c31 => ?_) (fun c31 => ?_)
    · have hf := it_p hf c31
      refine lv_iconst (v := 0) hx hb dX10_doesWake_126 (by decide) ?_
      exact rt_z C hr hlk (by decide) dX10_doesWake_127 (congrArg (fun o => o.map Value.int) hf)
    · have hf := it_n hf c31
      refine lv_aload_n hx hb dX10_doesWake_113 rfl (lv_at hl 1 rfl) ?_
      refine lv_iload_n hx hb dX10_doesWake_114 rfl (lv_at hl 2 rfl) ?_
      refine lv_iload_n hx hb dX10_doesWake_115 rfl (lv_at hl 3 rfl) ?_
      obtain ⟨r28, h29, hf⟩ := bd_s hf
      refine iv_R (rest := []) (st1 := [.int r28]) C hE hP (c_X10_meets l D cI cZ cL cW F a0 a1 a2 a3 a4 a5 a6 k_thrown k_w k_o k_isKept k_went k_wentMany k_waiting k_came k_depth k_isSilent k_x k_packed k_hits k_rues k_soonest k_inAll p1 p2 r28  h29) ok_X10_meets qM_X10_277 rfl rfl ⟨(Nat.le_of_ble_eq_true rfl), (Nat.le_of_ble_eq_true rfl)⟩ rfl rfl hl.1 (Nat.le_of_ble_eq_true rfl) ⟨Nat.zero_le _, Nat.zero_le _⟩ dX10_doesWake_116 rfl rfl ?_
      refine lv_if_eq (tgt := 126) hx hb dX10_doesWake_119 (by decide) (fun c30 => ?_) (fun c30 => ?_)
      · have hf := it_p hf c30
        refine lv_iconst (v := 0) hx hb dX10_doesWake_126 (by decide) ?_
        exact rt_z C hr hlk (by decide) dX10_doesWake_127 (congrArg (fun o => o.map Value.int) hf)
      · have hf := it_n hf c30
        refine lv_iconst (v := 1) hx hb dX10_doesWake_122 (by decide) ?_
        refine lv_goto (tgt := 127) hx hb dX10_doesWake_123 (by decide) ?_
        exact rt_z C hr hlk (by decide) dX10_doesWake_127 (congrArg (fun o => o.map Value.int) hf)
  have hf := it_n hf e25
  by_cases e32 : (k_w (Int32.toNatClampNeg (r1 + 3))) = 3
  · have hf := it_p hf e32
    refine lv_tableIn (off := 114) (tgt := 128) hx hb dX10_doesWake_14 (by rw [e32]; decide) (by rw [e32]; decide) (by rw [e32]; decide) (by decide) ?_
    refine lv_aload_n hx hb dX10_doesWake_128 rfl (lv_at hl 1 rfl) ?_
    refine lv_iload_n hx hb dX10_doesWake_129 rfl (lv_at hl 3 rfl) ?_
    refine lv_iconst (v := 4) hx hb dX10_doesWake_130 (by decide) ?_
    obtain ⟨r33, h34, hf⟩ := bd_s hf
    refine iv_R (rest := []) (st1 := [.int r33]) C hE hP (c_X10_hearsKind l D cI cZ cL cW F a0 a1 a2 a3 a4 a5 a6 k_thrown k_w k_o k_isKept k_went k_wentMany k_waiting k_came k_depth k_isSilent k_x k_packed k_hits k_rues k_soonest k_inAll p2 4 r33  h34) ok_X10_hearsKind qM_X10_274 rfl rfl ⟨(Nat.le_of_ble_eq_true rfl), (Nat.le_of_ble_eq_true rfl)⟩ rfl rfl hl.1 (Nat.le_of_ble_eq_true rfl) ⟨Nat.zero_le _, Nat.zero_le _⟩ dX10_doesWake_131 rfl rfl ?_
    refine lv_if_eq (tgt := 150) hx hb dX10_doesWake_134 (by decide) (fun c38 => ?_) (fun c38 => ?_)
    · have hf := it_p hf c38
      refine lv_iconst (v := 0) hx hb dX10_doesWake_150 (by decide) ?_
      exact rt_z C hr hlk (by decide) dX10_doesWake_151 (congrArg (fun o => o.map Value.int) hf)
    · have hf := it_n hf c38
      refine lv_aload_n hx hb dX10_doesWake_137 rfl (lv_at hl 1 rfl) ?_
      refine lv_iload_n hx hb dX10_doesWake_138 rfl (lv_at hl 2 rfl) ?_
      refine lv_iload_n hx hb dX10_doesWake_139 rfl (lv_at hl 3 rfl) ?_
      obtain ⟨r35, h36, hf⟩ := bd_s hf
      refine iv_R (rest := []) (st1 := [.int r35]) C hE hP (c_X10_meets l D cI cZ cL cW F a0 a1 a2 a3 a4 a5 a6 k_thrown k_w k_o k_isKept k_went k_wentMany k_waiting k_came k_depth k_isSilent k_x k_packed k_hits k_rues k_soonest k_inAll p1 p2 r35  h36) ok_X10_meets qM_X10_277 rfl rfl ⟨(Nat.le_of_ble_eq_true rfl), (Nat.le_of_ble_eq_true rfl)⟩ rfl rfl hl.1 (Nat.le_of_ble_eq_true rfl) ⟨Nat.zero_le _, Nat.zero_le _⟩ dX10_doesWake_140 rfl rfl ?_
      refine lv_if_eq (tgt := 150) hx hb dX10_doesWake_143 (by decide) (fun c37 => ?_) (fun c37 => ?_)
      · have hf := it_p hf c37
        refine lv_iconst (v := 0) hx hb dX10_doesWake_150 (by decide) ?_
        exact rt_z C hr hlk (by decide) dX10_doesWake_151 (congrArg (fun o => o.map Value.int) hf)
      · have hf := it_n hf c37
        refine lv_iconst (v := 1) hx hb dX10_doesWake_146 (by decide) ?_
        refine lv_goto (tgt := 151) hx hb dX10_doesWake_147 (by decide) ?_
        exact rt_z C hr hlk (by decide) dX10_doesWake_151 (congrArg (fun o => o.map Value.int) hf)
  have hf := it_n hf e32
  by_cases e39 : (k_w (Int32.toNatClampNeg (r1 + 3))) = 4
  · have hf := it_p hf e39
    refine lv_tableIn (off := 168) (tgt := 182) hx hb dX10_doesWake_14 (by rw [e39]; decide) (by rw [e39]; decide) (by rw [e39]; decide) (by decide) ?_
    refine lv_iconst (v := 0) hx hb dX10_doesWake_182 (by decide) ?_
    exact rt_z C hr hlk (by decide) dX10_doesWake_183 (congrArg (fun o => o.map Value.int) hf)
  have hf := it_n hf e39
  by_cases e40 : (k_w (Int32.toNatClampNeg (r1 + 3))) = 5
  · have hf := it_p hf e40
    refine lv_tableIn (off := 168) (tgt := 182) hx hb dX10_doesWake_14 (by rw [e40]; decide) (by rw [e40]; decide) (by rw [e40]; decide) (by decide) ?_
    refine lv_iconst (v := 0) hx hb dX10_doesWake_182 (by decide) ?_
    exact rt_z C hr hlk (by decide) dX10_doesWake_183 (congrArg (fun o => o.map Value.int) hf)
  have hf := it_n hf e40
  by_cases e41 : (k_w (Int32.toNatClampNeg (r1 + 3))) = 6
  · have hf := it_p hf e41
    refine lv_tableIn (off := 138) (tgt := 152) hx hb dX10_doesWake_14 (by rw [e41]; decide) (by rw [e41]; decide) (by rw [e41]; decide) (by decide) ?_
    refine lv_aload_n hx hb dX10_doesWake_152 rfl (lv_at hl 1 rfl) ?_
    refine gf_X10 (v := .ref a1) C hE hP 0 1 rfl (by decide) qF_X10_17 rfl dX10_doesWake_153 ?_
    refine lv_aload_n hx hb dX10_doesWake_156 rfl (lv_at hl 1 rfl) ?_
    refine lv_iload_n hx hb dX10_doesWake_157 rfl (lv_at hl 2 rfl) ?_
    obtain ⟨r42, h43, hf⟩ := bd_s hf
    refine iv_R (rest := [.ref a1]) (st1 := [.int r42, .ref a1]) C hE hP (c_X10_hearerAt l D cI cZ cL cW F a0 a1 a2 a3 a4 a5 a6 k_thrown k_w k_o k_isKept k_went k_wentMany k_waiting k_came k_depth k_isSilent k_x k_packed k_hits k_rues k_soonest k_inAll p1 r42  h43) ok_X10_hearerAt qM_X10_115 rfl rfl ⟨(Nat.le_of_ble_eq_true rfl), (Nat.le_of_ble_eq_true rfl)⟩ rfl rfl hl.1 (Nat.le_of_ble_eq_true rfl) ⟨Nat.zero_le _, Nat.zero_le _⟩ dX10_doesWake_158 rfl rfl ?_
    refine lv_iconst (v := 4) hx hb dX10_doesWake_161 (by decide) ?_
    refine lv_iadd hx hb dX10_doesWake_162 ?_
    obtain ⟨g48, hf⟩ := it_g hf
    refine va_iald hx hb hE.1 hP 1 0 rfl rfl g48 dX10_doesWake_163 ?_
    refine lv_if_ge (tgt := 180) hx hb dX10_doesWake_164 (by decide) (fun c47 => ?_) (fun c47 => ?_)
    · have hf := it_p hf c47
      refine lv_iconst (v := 0) hx hb dX10_doesWake_180 (by decide) ?_
      exact rt_z C hr hlk (by decide) dX10_doesWake_181 (congrArg (fun o => o.map Value.int) hf)
    · have hf := it_n hf c47
      refine lv_aload_n hx hb dX10_doesWake_167 rfl (lv_at hl 1 rfl) ?_
      refine lv_iload_n hx hb dX10_doesWake_168 rfl (lv_at hl 3 rfl) ?_
      refine lv_iconst (v := 2) hx hb dX10_doesWake_169 (by decide) ?_
      obtain ⟨r44, h45, hf⟩ := bd_s hf
      refine iv_R (rest := []) (st1 := [.int r44]) C hE hP (c_X10_hearsKind l D cI cZ cL cW F a0 a1 a2 a3 a4 a5 a6 k_thrown k_w k_o k_isKept k_went k_wentMany k_waiting k_came k_depth k_isSilent k_x k_packed k_hits k_rues k_soonest k_inAll p2 2 r44  h45) ok_X10_hearsKind qM_X10_274 rfl rfl ⟨(Nat.le_of_ble_eq_true rfl), (Nat.le_of_ble_eq_true rfl)⟩ rfl rfl hl.1 (Nat.le_of_ble_eq_true rfl) ⟨Nat.zero_le _, Nat.zero_le _⟩ dX10_doesWake_170 rfl rfl ?_
      refine lv_if_eq (tgt := 180) hx hb dX10_doesWake_173 (by decide) (fun c46 => ?_) (fun c46 => ?_)
      · have hf := it_p hf c46
        refine lv_iconst (v := 0) hx hb dX10_doesWake_180 (by decide) ?_
        exact rt_z C hr hlk (by decide) dX10_doesWake_181 (congrArg (fun o => o.map Value.int) hf)
      · have hf := it_n hf c46
        refine lv_iconst (v := 1) hx hb dX10_doesWake_176 (by decide) ?_
        refine lv_goto (tgt := 181) hx hb dX10_doesWake_177 (by decide) ?_
        exact rt_z C hr hlk (by decide) dX10_doesWake_181 (congrArg (fun o => o.map Value.int) hf)
  have hf := it_n hf e41
  refine lv_tableOut (tgt := 182) hx hb dX10_doesWake_14 (tw_e (tw_s (tw_s (tw_s (tw_s (tw_s (tw_s (tw_0 _ 1) e3) e25) e32) e39) e40) e41)) (by decide) ?_
  refine lv_iconst (v := 0) hx hb dX10_doesWake_182 (by decide) ?_
  exact rt_z C hr hlk (by decide) dX10_doesWake_183 (congrArg (fun o => o.map Value.int) hf)
def X10_wakes (F : Nat) (p1 : Int32) (p2 : Int32) (k_thrown : Int32) (k_w : (Nat → Int32)) (k_o : Int32) : Option (Int32 × Int32) := (X10_isHearer F p1 k_w).bind fun r1 => (if (r1 : Int32) = 0 then (some ((-1), 0)) else ((X10_isHearer F p2 k_w).bind fun r3 => (if (r3 : Int32) = 0 then (some ((-1), 0)) else ((X10_doesWake F p1 p2 k_w k_o).bind fun r5 => ((X10_flag F r5).bind fun r7 => (some (r7, 0)))))))
abbrev rm_X10_wakes : Room := { frames := 3, cells := 0, slots := 0, locals := 70 }
theorem ok_X10_wakes : OKV RX10 yX10_wakes cX10_wakes 3 (some .int) 2 := ⟨by decide +kernel, qV_X10_wakes, qL_X10_wakes, qI_X10, qD_X10_wakes⟩
set_option maxHeartbeats 4000000 in
set_option maxRecDepth 100000 in
theorem c_X10_wakes (l : Launch) (D : va_G) (cI cZ cL cW : ClassId) (F : Nat) (a0 : Nat) (a1 : Nat) (a2 : Nat) (a3 : Nat) (a4 : Nat) (a5 : Nat) (a6 : Nat) (k_thrown : Int32) (k_w : (Nat → Int32)) (k_o : Int32) (k_isKept : (Nat → Int32)) (k_went : (Nat → Int32)) (k_wentMany : Int32) (k_waiting : (Nat → Int32)) (k_came : Int32) (k_depth : Int32) (k_isSilent : Int32) (k_x : Int64) (k_packed : (Nat → Int32)) (k_hits : Int32) (k_rues : Int32) (k_soonest : Int32) (k_inAll : (Nat → Int32)) (p1 : Int32) (p2 : Int32) (r : Int32) (k_thrown' : Int32) (hf : X10_wakes F p1 p2 k_thrown k_w k_o = some (r, k_thrown')) : CtrW l D (tyL cI cZ cL cW) nestW yX10_wakes cX10_wakes 3 (some .int) rm_X10_wakes [.ref a0, .int p1, .int p2] (MX10 cI cZ cL cW a0 a1 a2 a3 a4 a5 a6 k_thrown k_w k_o k_isKept k_went k_wentMany k_waiting k_came k_depth k_isSilent k_x k_packed k_hits k_rues k_soonest k_inAll) (MX10 cI cZ cL cW a0 a1 a2 a3 a4 a5 a6 (k_thrown') k_w k_o k_isKept k_went k_wentMany k_waiting k_came k_depth k_isSilent k_x k_packed k_hits k_rues k_soonest k_inAll) (some (.int r)) := by
  refine ofA RX10 (by decide) rfl (Nat.le_of_ble_eq_true rfl) ?_
  intro p e s m below meth c ls A C hr hlk hE hA hP hD hS hl
  generalize (List.toArray ([.ref a0, .int p1, .int p2] : List Value)) = args at C ⊢
  obtain ⟨hx, hb, hml, hown, ht⟩ := id C
  have hl : lv_has ls 3 [(0, .ref a0), (1, .int p1), (2, .int p2)] := hl
  refine lv_aload_n hx hb dX10_wakes_0 rfl (lv_at hl 0 rfl) ?_
  refine lv_iconst (v := 0) hx hb dX10_wakes_1 (by decide) ?_
  refine pf_X10 (v := .int 0) C hE hP hD hS 0 0 rfl (by decide) qF_X10_1 rfl rfl rfl (Nat.le_of_ble_eq_true rfl) dX10_wakes_2 (fun H locs (hP : va_P D vwCl (MX10 cI cZ cL cW a0 a1 a2 a3 a4 a5 a6 0 k_w k_o k_isKept k_went k_wentMany k_waiting k_came k_depth k_isSilent k_x k_packed k_hits k_rues k_soonest k_inAll) H) (hD : va_D A (MX10 cI cZ cL cW a0 a1 a2 a3 a4 a5 a6 0 k_w k_o k_isKept k_went k_wentMany k_waiting k_came k_depth k_isSilent k_x k_packed k_hits k_rues k_soonest k_inAll)) hS => ?_)
  refine lv_aload_n hx hb dX10_wakes_5 rfl (lv_at hl 0 rfl) ?_
  refine lv_iload_n hx hb dX10_wakes_6 rfl (lv_at hl 1 rfl) ?_
  obtain ⟨r1, h2, hf⟩ := bd_s hf
  refine iv_R (rest := []) (st1 := [.int r1]) C hE hP (c_X10_isHearer l D cI cZ cL cW F a0 a1 a2 a3 a4 a5 a6 0 k_w k_o k_isKept k_went k_wentMany k_waiting k_came k_depth k_isSilent k_x k_packed k_hits k_rues k_soonest k_inAll p1 r1  h2) ok_X10_isHearer qM_X10_222 rfl rfl ⟨(Nat.le_of_ble_eq_true rfl), (Nat.le_of_ble_eq_true rfl)⟩ rfl rfl hl.1 (Nat.le_of_ble_eq_true rfl) ⟨Nat.zero_le _, Nat.zero_le _⟩ dX10_wakes_7 rfl rfl ?_
  refine lv_if_eq (tgt := 33) hx hb dX10_wakes_10 (by decide) (fun c10 => ?_) (fun c10 => ?_)
  · have hf := it_p hf c10
    refine lv_iconst (v := (-1)) hx hb dX10_wakes_33 (by decide) ?_
    cases hf
    exact rw_i C hr hlk hP hD hS dX10_wakes_34 rfl
  · have hf := it_n hf c10
    refine lv_aload_n hx hb dX10_wakes_13 rfl (lv_at hl 0 rfl) ?_
    refine lv_iload_n hx hb dX10_wakes_14 rfl (lv_at hl 2 rfl) ?_
    obtain ⟨r3, h4, hf⟩ := bd_s hf
    refine iv_R (rest := []) (st1 := [.int r3]) C hE hP (c_X10_isHearer l D cI cZ cL cW F a0 a1 a2 a3 a4 a5 a6 0 k_w k_o k_isKept k_went k_wentMany k_waiting k_came k_depth k_isSilent k_x k_packed k_hits k_rues k_soonest k_inAll p2 r3  h4) ok_X10_isHearer qM_X10_222 rfl rfl ⟨(Nat.le_of_ble_eq_true rfl), (Nat.le_of_ble_eq_true rfl)⟩ rfl rfl hl.1 (Nat.le_of_ble_eq_true rfl) ⟨Nat.zero_le _, Nat.zero_le _⟩ dX10_wakes_15 rfl rfl ?_
    refine lv_if_eq (tgt := 33) hx hb dX10_wakes_18 (by decide) (fun c9 => ?_) (fun c9 => ?_)
    · have hf := it_p hf c9
      refine lv_iconst (v := (-1)) hx hb dX10_wakes_33 (by decide) ?_
      cases hf
      exact rw_i C hr hlk hP hD hS dX10_wakes_34 rfl
    · have hf := it_n hf c9
      refine lv_aload_n hx hb dX10_wakes_21 rfl (lv_at hl 0 rfl) ?_
      refine lv_iload_n hx hb dX10_wakes_22 rfl (lv_at hl 1 rfl) ?_
      refine lv_iload_n hx hb dX10_wakes_23 rfl (lv_at hl 2 rfl) ?_
      obtain ⟨r5, h6, hf⟩ := bd_s hf
      refine iv_R (rest := []) (st1 := [.int r5]) C hE hP (c_X10_doesWake l D cI cZ cL cW F a0 a1 a2 a3 a4 a5 a6 0 k_w k_o k_isKept k_went k_wentMany k_waiting k_came k_depth k_isSilent k_x k_packed k_hits k_rues k_soonest k_inAll p1 p2 r5  h6) ok_X10_doesWake qM_X10_280 rfl rfl ⟨(Nat.le_of_ble_eq_true rfl), (Nat.le_of_ble_eq_true rfl)⟩ rfl rfl hl.1 (Nat.le_of_ble_eq_true rfl) ⟨Nat.zero_le _, Nat.zero_le _⟩ dX10_wakes_24 rfl rfl ?_
      obtain ⟨r7, h8, hf⟩ := bd_s hf
      refine is_R (rest := []) (st1 := [.int r7]) C hE va_P_nil (c_X10_flag l D cI cZ cL cW F   r5 r7  h8) ok_X10_flag qM_X10_57 rfl rfl ⟨(Nat.le_of_ble_eq_true rfl), (Nat.le_of_ble_eq_true rfl)⟩ hl.1 (Nat.le_of_ble_eq_true rfl) ⟨Nat.zero_le _, Nat.zero_le _⟩ dX10_wakes_27 rfl rfl ?_
      refine lv_goto (tgt := 34) hx hb dX10_wakes_30 (by decide) ?_
      cases hf
      exact rw_i C hr hlk hP hD hS dX10_wakes_34 rfl
def X10_ring_L48 (F : Nat) : Nat → Int32 → Int32 → Int32 → Int32 → Int32 → Int32 → (Nat → Int32) → Int32 → Option (Int32)
  | 0, _, _, _, _, _, _, _, _ => none
  | n + 1, v1, v2, v3, v4, v5, v6, k_w, k_o => if ((k_w (Int32.toNatClampNeg 7)) : Int32) ≤ v6 then (some v4) else (if (((v2 >>> (v5 &&& 31)) &&& 1) : Int32) = 1 then ((X10_doesWake F v5 v6 k_w k_o).bind fun r3 => (if (r3 : Int32) = 0 then (X10_ring_L48 F n v1 v2 v3 v4 v5 (v6 + 1) k_w k_o) else (X10_ring_L48 F n v1 v2 v3 (v4 ||| (1 <<< (v6 &&& 31))) v5 (v6 + 1) k_w k_o))) else (X10_ring_L48 F n v1 v2 v3 v4 v5 (v6 + 1) k_w k_o))
def X10_ring_L33 (F : Nat) : Nat → Int32 → Int32 → Int32 → Int32 → Int32 → (Nat → Int32) → Int32 → Option (Int32)
  | 0, _, _, _, _, _, _, _ => none
  | n + 1, v1, v2, v3, v4, v5, k_w, k_o => if ((k_w (Int32.toNatClampNeg 7)) : Int32) ≤ v5 then (some v4) else ((X10_ring_L48 F F v1 v2 v3 v4 v5 0 k_w k_o).bind fun x8 => (X10_ring_L33 F n v1 v2 v3 x8 (v5 + 1) k_w k_o))
def X10_ring_L21 (F : Nat) : Nat → Int32 → Int32 → Int32 → Int32 → (Nat → Int32) → Int32 → Option (Int32 × Int32)
  | 0, _, _, _, _, _, _ => none
  | n + 1, v1, v2, v3, k_thrown, k_w, k_o => if (8 : Int32) < v3 then (some (0, k_thrown)) else ((X10_ring_L33 F F v1 v2 v3 0 0 k_w k_o).bind fun x11 => (if (((x11 >>> (v1 &&& 31)) &&& 1) : Int32) = 1 then (some (v3, k_thrown)) else (X10_ring_L21 F n v1 x11 (v3 + 1) k_thrown k_w k_o)))
def X10_ring (F : Nat) (p1 : Int32) (k_thrown : Int32) (k_w : (Nat → Int32)) (k_o : Int32) : Option (Int32 × Int32) := (X10_isHearer F p1 k_w).bind fun r1 => (if (r1 : Int32) = 0 then (some ((-1), 0)) else (X10_ring_L21 F F p1 (1 <<< (p1 &&& 31)) 1 0 k_w k_o))
abbrev rm_X10_ring : Room := { frames := 3, cells := 0, slots := 0, locals := 70 }
theorem ok_X10_ring : OKV RX10 yX10_ring cX10_ring 7 (some .int) 1 := ⟨by decide +kernel, qV_X10_ring, qL_X10_ring, qI_X10, qD_X10_ring⟩
set_option maxHeartbeats 4000000 in
set_option maxRecDepth 100000 in
theorem c_X10_ring (l : Launch) (D : va_G) (cI cZ cL cW : ClassId) (F : Nat) (a0 : Nat) (a1 : Nat) (a2 : Nat) (a3 : Nat) (a4 : Nat) (a5 : Nat) (a6 : Nat) (k_thrown : Int32) (k_w : (Nat → Int32)) (k_o : Int32) (k_isKept : (Nat → Int32)) (k_went : (Nat → Int32)) (k_wentMany : Int32) (k_waiting : (Nat → Int32)) (k_came : Int32) (k_depth : Int32) (k_isSilent : Int32) (k_x : Int64) (k_packed : (Nat → Int32)) (k_hits : Int32) (k_rues : Int32) (k_soonest : Int32) (k_inAll : (Nat → Int32)) (p1 : Int32) (r : Int32) (k_thrown' : Int32) (hf : X10_ring F p1 k_thrown k_w k_o = some (r, k_thrown')) : CtrW l D (tyL cI cZ cL cW) nestW yX10_ring cX10_ring 7 (some .int) rm_X10_ring [.ref a0, .int p1] (MX10 cI cZ cL cW a0 a1 a2 a3 a4 a5 a6 k_thrown k_w k_o k_isKept k_went k_wentMany k_waiting k_came k_depth k_isSilent k_x k_packed k_hits k_rues k_soonest k_inAll) (MX10 cI cZ cL cW a0 a1 a2 a3 a4 a5 a6 (k_thrown') k_w k_o k_isKept k_went k_wentMany k_waiting k_came k_depth k_isSilent k_x k_packed k_hits k_rues k_soonest k_inAll) (some (.int r)) := by
  refine ofA RX10 (by decide) rfl (Nat.le_of_ble_eq_true rfl) ?_
  intro p e s m below meth c ls A C hr hlk hE hA hP hD hS hl
  generalize (List.toArray ([.ref a0, .int p1] : List Value)) = args at C ⊢
  obtain ⟨hx, hb, hml, hown, ht⟩ := id C
  have hl : lv_has ls 7 [(0, .ref a0), (1, .int p1)] := hl
  have L48 : ∀ (Q : State → Prop) (H : Heap) (locs : List Loc) (n : Nat) (v1 : Int32) (v2 : Int32) (v3 : Int32) (v4 : Int32) (v5 : Int32) (v6 : Int32) (k_thrown : Int32) (k_w : (Nat → Int32)) (k_o : Int32) (k_isKept : (Nat → Int32)) (k_went : (Nat → Int32)) (k_wentMany : Int32) (k_waiting : (Nat → Int32)) (k_came : Int32) (k_depth : Int32) (k_isSilent : Int32) (k_x : Int64) (k_packed : (Nat → Int32)) (k_hits : Int32) (k_rues : Int32) (k_soonest : Int32) (k_inAll : (Nat → Int32)) (hP : va_P D vwCl (MX10 cI cZ cL cW a0 a1 a2 a3 a4 a5 a6 k_thrown k_w k_o k_isKept k_went k_wentMany k_waiting k_came k_depth k_isSilent k_x k_packed k_hits k_rues k_soonest k_inAll) H) (x4 : Int32) (ls : Array Slot), X10_ring_L48 F n v1 v2 v3 v4 v5 v6 k_w k_o = some x4 → lv_has ls 7 [(0, .ref a0), (1, .int v1), (2, .int v2), (3, .int v3), (4, .int v4), (5, .int v5), (6, .int v6)] → (∀ ls : Array Slot, lv_has ls 7 [(0, .ref a0), (1, .int v1), (2, .int v2), (3, .int v3), (4, .int x4), (5, .int v5)] → W p l e rm_X10_ring s m args below meth c H locs 0 0 Q (F0 m 96 ls [])) → W p l e rm_X10_ring s m args below meth c H locs 0 0 Q (F0 m 48 ls []) := by
    intro Q H locs n
    induction n with
    | zero => intro v1 v2 v3 v4 v5 v6 k_thrown k_w k_o k_isKept k_went k_wentMany k_waiting k_came k_depth k_isSilent k_x k_packed k_hits k_rues k_soonest k_inAll hP x4 ls hf hl hk; exact nn_s hf
    | succ n ih =>
      intro v1 v2 v3 v4 v5 v6 k_thrown k_w k_o k_isKept k_went k_wentMany k_waiting k_came k_depth k_isSilent k_x k_packed k_hits k_rues k_soonest k_inAll hP x4 ls hf hl hk
      refine lv_iload hx hb dX10_ring_48 (lv_at hl 6 rfl) ?_
      refine lv_aload_n hx hb dX10_ring_50 rfl (lv_at hl 0 rfl) ?_
      refine gf_X10 (v := .ref a1) C hE hP 0 1 rfl (by decide) qF_X10_17 rfl dX10_ring_51 ?_
      refine lv_bipush (v := 7) hx hb dX10_ring_54 (by decide) ?_
      refine va_iald hx hb hE.1 hP 1 0 rfl rfl (vp_l (by decide)) dX10_ring_56 ?_
      refine lv_icmp_ge (tgt := 96) hx hb dX10_ring_57 (by decide) (fun c7 => ?_) (fun c7 => ?_)
      · have hf := it_p hf c7
        cases hf
        exact hk ls (lv_sub hl [0, 1, 2, 3, 4, 5] rfl)
      · have hf := it_n hf c7
        refine lv_iload_n hx hb dX10_ring_60 rfl (lv_at hl 2 rfl) ?_
        refine lv_iload hx hb dX10_ring_61 (lv_at hl 5 rfl) ?_
        refine lv_ishr hx hb dX10_ring_63 ?_
        refine lv_iconst (v := 1) hx hb dX10_ring_64 (by decide) ?_
        refine lv_iand hx hb dX10_ring_65 ?_
        refine lv_iconst (v := 1) hx hb dX10_ring_66 (by decide) ?_
        refine lv_icmp_ne (tgt := 90) hx hb dX10_ring_67 (by decide) (fun c6 => ?_) (fun c6 => ?_)
        · have hf := it_n hf c6
          refine lv_iinc (v := (v6 + 1)) (lv' := [(6, .int (v6 + 1)), (0, .ref a0), (1, .int v1), (2, .int v2), (3, .int v3), (4, .int v4), (5, .int v5)]) hx hb dX10_ring_90 hl (k := 6) rfl rfl (by decide) rfl (fun ls hl => ?_)
          refine lv_goto (tgt := 48) hx hb dX10_ring_93 (by decide) ?_
          exact ih v1 v2 v3 v4 v5 (v6 + 1) k_thrown k_w k_o k_isKept k_went k_wentMany k_waiting k_came k_depth k_isSilent k_x k_packed k_hits k_rues k_soonest k_inAll hP _ ls hf (lv_sub hl [1, 2, 3, 4, 5, 6, 0] rfl) hk
        · have hf := it_p hf c6
          refine lv_aload_n hx hb dX10_ring_70 rfl (lv_at hl 0 rfl) ?_
          refine lv_iload hx hb dX10_ring_71 (lv_at hl 5 rfl) ?_
          refine lv_iload hx hb dX10_ring_73 (lv_at hl 6 rfl) ?_
          obtain ⟨r3, h4, hf⟩ := bd_s hf
          refine iv_R (rest := []) (st1 := [.int r3]) C hE hP (c_X10_doesWake l D cI cZ cL cW F a0 a1 a2 a3 a4 a5 a6 k_thrown k_w k_o k_isKept k_went k_wentMany k_waiting k_came k_depth k_isSilent k_x k_packed k_hits k_rues k_soonest k_inAll v5 v6 r3  h4) ok_X10_doesWake qM_X10_280 rfl rfl ⟨(Nat.le_of_ble_eq_true rfl), (Nat.le_of_ble_eq_true rfl)⟩ rfl rfl hl.1 (Nat.le_of_ble_eq_true rfl) ⟨Nat.zero_le _, Nat.zero_le _⟩ dX10_ring_75 rfl rfl ?_
          refine lv_if_eq (tgt := 90) hx hb dX10_ring_78 (by decide) (fun c5 => ?_) (fun c5 => ?_)
          · have hf := it_p hf c5
            refine lv_iinc (v := (v6 + 1)) (lv' := [(6, .int (v6 + 1)), (0, .ref a0), (1, .int v1), (2, .int v2), (3, .int v3), (4, .int v4), (5, .int v5)]) hx hb dX10_ring_90 hl (k := 6) rfl rfl (by decide) rfl (fun ls hl => ?_)
            refine lv_goto (tgt := 48) hx hb dX10_ring_93 (by decide) ?_
            exact ih v1 v2 v3 v4 v5 (v6 + 1) k_thrown k_w k_o k_isKept k_went k_wentMany k_waiting k_came k_depth k_isSilent k_x k_packed k_hits k_rues k_soonest k_inAll hP _ ls hf (lv_sub hl [1, 2, 3, 4, 5, 6, 0] rfl) hk
          · have hf := it_n hf c5
            refine lv_iload hx hb dX10_ring_81 (lv_at hl 4 rfl) ?_
            refine lv_iconst (v := 1) hx hb dX10_ring_83 (by decide) ?_
            refine lv_iload hx hb dX10_ring_84 (lv_at hl 6 rfl) ?_
            refine lv_ishl hx hb dX10_ring_86 ?_
            refine lv_ior hx hb dX10_ring_87 ?_
            refine lv_istore (lv' := [(4, .int (v4 ||| (1 <<< (v6 &&& 31)))), (0, .ref a0), (1, .int v1), (2, .int v2), (3, .int v3), (5, .int v5), (6, .int v6)]) hx hb dX10_ring_88 hl (by decide) rfl (fun ls hl => ?_)
            refine lv_iinc (v := (v6 + 1)) (lv' := [(6, .int (v6 + 1)), (4, .int (v4 ||| (1 <<< (v6 &&& 31)))), (0, .ref a0), (1, .int v1), (2, .int v2), (3, .int v3), (5, .int v5)]) hx hb dX10_ring_90 hl (k := 6) rfl rfl (by decide) rfl (fun ls hl => ?_)
            refine lv_goto (tgt := 48) hx hb dX10_ring_93 (by decide) ?_
            exact ih v1 v2 v3 (v4 ||| (1 <<< (v6 &&& 31))) v5 (v6 + 1) k_thrown k_w k_o k_isKept k_went k_wentMany k_waiting k_came k_depth k_isSilent k_x k_packed k_hits k_rues k_soonest k_inAll hP _ ls hf (lv_sub hl [2, 3, 4, 5, 1, 6, 0] rfl) hk
  have L33 : ∀ (Q : State → Prop) (H : Heap) (locs : List Loc) (n : Nat) (v1 : Int32) (v2 : Int32) (v3 : Int32) (v4 : Int32) (v5 : Int32) (k_thrown : Int32) (k_w : (Nat → Int32)) (k_o : Int32) (k_isKept : (Nat → Int32)) (k_went : (Nat → Int32)) (k_wentMany : Int32) (k_waiting : (Nat → Int32)) (k_came : Int32) (k_depth : Int32) (k_isSilent : Int32) (k_x : Int64) (k_packed : (Nat → Int32)) (k_hits : Int32) (k_rues : Int32) (k_soonest : Int32) (k_inAll : (Nat → Int32)) (hP : va_P D vwCl (MX10 cI cZ cL cW a0 a1 a2 a3 a4 a5 a6 k_thrown k_w k_o k_isKept k_went k_wentMany k_waiting k_came k_depth k_isSilent k_x k_packed k_hits k_rues k_soonest k_inAll) H) (x4 : Int32) (ls : Array Slot), X10_ring_L33 F n v1 v2 v3 v4 v5 k_w k_o = some x4 → lv_has ls 7 [(0, .ref a0), (1, .int v1), (2, .int v2), (3, .int v3), (4, .int v4), (5, .int v5)] → (∀ ls : Array Slot, lv_has ls 7 [(0, .ref a0), (1, .int v1), (3, .int v3), (4, .int x4)] → W p l e rm_X10_ring s m args below meth c H locs 0 0 Q (F0 m 102 ls [])) → W p l e rm_X10_ring s m args below meth c H locs 0 0 Q (F0 m 33 ls []) := by
    intro Q H locs n
    induction n with
    | zero => intro v1 v2 v3 v4 v5 k_thrown k_w k_o k_isKept k_went k_wentMany k_waiting k_came k_depth k_isSilent k_x k_packed k_hits k_rues k_soonest k_inAll hP x4 ls hf hl hk; exact nn_s hf
    | succ n ih =>
      intro v1 v2 v3 v4 v5 k_thrown k_w k_o k_isKept k_went k_wentMany k_waiting k_came k_depth k_isSilent k_x k_packed k_hits k_rues k_soonest k_inAll hP x4 ls hf hl hk
      refine lv_iload hx hb dX10_ring_33 (lv_at hl 5 rfl) ?_
      refine lv_aload_n hx hb dX10_ring_35 rfl (lv_at hl 0 rfl) ?_
      refine gf_X10 (v := .ref a1) C hE hP 0 1 rfl (by decide) qF_X10_17 rfl dX10_ring_36 ?_
      refine lv_bipush (v := 7) hx hb dX10_ring_39 (by decide) ?_
      refine va_iald hx hb hE.1 hP 1 0 rfl rfl (vp_l (by decide)) dX10_ring_41 ?_
      refine lv_icmp_ge (tgt := 102) hx hb dX10_ring_42 (by decide) (fun c10 => ?_) (fun c10 => ?_)
      · have hf := it_p hf c10
        cases hf
        exact hk ls (lv_sub hl [0, 1, 3, 4] rfl)
      · have hf := it_n hf c10
        refine lv_iconst (v := 0) hx hb dX10_ring_45 (by decide) ?_
        refine lv_istore (lv' := [(6, .int 0), (0, .ref a0), (1, .int v1), (2, .int v2), (3, .int v3), (4, .int v4), (5, .int v5)]) hx hb dX10_ring_46 hl (by decide) rfl (fun ls hl => ?_)
        obtain ⟨x8, h9, hf⟩ := bd_s hf
        refine L48 _ _ _ F v1 v2 v3 v4 v5 0 k_thrown k_w k_o k_isKept k_went k_wentMany k_waiting k_came k_depth k_isSilent k_x k_packed k_hits k_rues k_soonest k_inAll hP x8 ls h9 (lv_sub hl [1, 2, 3, 4, 5, 6, 0] rfl) (fun ls hl => ?_)
        refine lv_iinc (v := (v5 + 1)) (lv' := [(5, .int (v5 + 1)), (0, .ref a0), (1, .int v1), (2, .int v2), (3, .int v3), (4, .int x8)]) hx hb dX10_ring_96 hl (k := 5) rfl rfl (by decide) rfl (fun ls hl => ?_)
        refine lv_goto (tgt := 33) hx hb dX10_ring_99 (by decide) ?_
        exact ih v1 v2 v3 x8 (v5 + 1) k_thrown k_w k_o k_isKept k_went k_wentMany k_waiting k_came k_depth k_isSilent k_x k_packed k_hits k_rues k_soonest k_inAll hP _ ls hf (lv_sub hl [1, 2, 3, 4, 5, 0] rfl) hk
  have L21 : ∀ (n : Nat) (v1 : Int32) (v2 : Int32) (v3 : Int32) (k_thrown : Int32) (k_w : (Nat → Int32)) (k_o : Int32) (k_isKept : (Nat → Int32)) (k_went : (Nat → Int32)) (k_wentMany : Int32) (k_waiting : (Nat → Int32)) (k_came : Int32) (k_depth : Int32) (k_isSilent : Int32) (k_x : Int64) (k_packed : (Nat → Int32)) (k_hits : Int32) (k_rues : Int32) (k_soonest : Int32) (k_inAll : (Nat → Int32)) (H : Heap) (locs : List Loc) (ls : Array Slot), X10_ring_L21 F n v1 v2 v3 k_thrown k_w k_o = some (r, k_thrown') → va_P D vwCl (MX10 cI cZ cL cW a0 a1 a2 a3 a4 a5 a6 k_thrown k_w k_o k_isKept k_went k_wentMany k_waiting k_came k_depth k_isSilent k_x k_packed k_hits k_rues k_soonest k_inAll) H → va_D A (MX10 cI cZ cL cW a0 a1 a2 a3 a4 a5 a6 k_thrown k_w k_o k_isKept k_went k_wentMany k_waiting k_came k_depth k_isSilent k_x k_packed k_hits k_rues k_soonest k_inAll) → va_S A s.heap H locs → lv_has ls 7 [(0, .ref a0), (1, .int v1), (2, .int v2), (3, .int v3)] → W p l e rm_X10_ring s m args below meth c H locs 0 0 (MQ below (QA D A (MX10 cI cZ cL cW a0 a1 a2 a3 a4 a5 a6 (k_thrown') k_w k_o k_isKept k_went k_wentMany k_waiting k_came k_depth k_isSilent k_x k_packed k_hits k_rues k_soonest k_inAll) (some (.int r))) args s 0 0 A) (F0 m 21 ls []) := by
    intro n
    induction n with
    | zero => intro v1 v2 v3 k_thrown k_w k_o k_isKept k_went k_wentMany k_waiting k_came k_depth k_isSilent k_x k_packed k_hits k_rues k_soonest k_inAll H locs ls hf hP hD hS hl; exact nn_s hf
    | succ n ih =>
      intro v1 v2 v3 k_thrown k_w k_o k_isKept k_went k_wentMany k_waiting k_came k_depth k_isSilent k_x k_packed k_hits k_rues k_soonest k_inAll H locs ls hf hP hD hS hl
      refine lv_iload_n hx hb dX10_ring_21 rfl (lv_at hl 3 rfl) ?_
      refine lv_bipush (v := 8) hx hb dX10_ring_22 (by decide) ?_
      refine lv_icmp_gt (tgt := 123) hx hb dX10_ring_24 (by decide) (fun c14 => ?_) (fun c14 => ?_)
      · have hf := it_p hf c14
        refine lv_iconst (v := 0) hx hb dX10_ring_123 (by decide) ?_
        cases hf
        exact rw_i C hr hlk hP hD hS dX10_ring_124 rfl
      · have hf := it_n hf c14
        refine lv_iconst (v := 0) hx hb dX10_ring_27 (by decide) ?_
        refine lv_istore (lv' := [(4, .int 0), (0, .ref a0), (1, .int v1), (2, .int v2), (3, .int v3)]) hx hb dX10_ring_28 hl (by decide) rfl (fun ls hl => ?_)
        refine lv_iconst (v := 0) hx hb dX10_ring_30 (by decide) ?_
        refine lv_istore (lv' := [(5, .int 0), (4, .int 0), (0, .ref a0), (1, .int v1), (2, .int v2), (3, .int v3)]) hx hb dX10_ring_31 hl (by decide) rfl (fun ls hl => ?_)
        obtain ⟨x11, h12, hf⟩ := bd_s hf
        refine L33 _ _ _ F v1 v2 v3 0 0 k_thrown k_w k_o k_isKept k_went k_wentMany k_waiting k_came k_depth k_isSilent k_x k_packed k_hits k_rues k_soonest k_inAll hP x11 ls h12 (lv_sub hl [2, 3, 4, 5, 1, 0] rfl) (fun ls hl => ?_)
        refine lv_iload hx hb dX10_ring_102 (lv_at hl 3 rfl) ?_
        refine lv_iload_n hx hb dX10_ring_104 rfl (lv_at hl 1 rfl) ?_
        refine lv_ishr hx hb dX10_ring_105 ?_
        refine lv_iconst (v := 1) hx hb dX10_ring_106 (by decide) ?_
        refine lv_iand hx hb dX10_ring_107 ?_
        refine lv_iconst (v := 1) hx hb dX10_ring_108 (by decide) ?_
        refine lv_icmp_ne (tgt := 114) hx hb dX10_ring_109 (by decide) (fun c13 => ?_) (fun c13 => ?_)
        · have hf := it_n hf c13
          refine lv_iload hx hb dX10_ring_114 (lv_at hl 3 rfl) ?_
          refine lv_istore_n (lv' := [(2, .int x11), (0, .ref a0), (1, .int v1), (3, .int v3), (4, .int x11)]) hx hb dX10_ring_116 rfl hl (by decide) rfl (fun ls hl => ?_)
          refine lv_iinc (v := (v3 + 1)) (lv' := [(3, .int (v3 + 1)), (2, .int x11), (0, .ref a0), (1, .int v1), (4, .int x11)]) hx hb dX10_ring_117 hl (k := 3) rfl rfl (by decide) rfl (fun ls hl => ?_)
          refine lv_goto (tgt := 21) hx hb dX10_ring_120 (by decide) ?_
          exact ih v1 x11 (v3 + 1) k_thrown k_w k_o k_isKept k_went k_wentMany k_waiting k_came k_depth k_isSilent k_x k_packed k_hits k_rues k_soonest k_inAll _ _ ls hf hP hD hS (lv_sub hl [2, 3, 1, 0] rfl)
        · have hf := it_p hf c13
          refine lv_iload_n hx hb dX10_ring_112 rfl (lv_at hl 2 rfl) ?_
          cases hf
          exact rw_i C hr hlk hP hD hS dX10_ring_113 rfl
  refine lv_aload_n hx hb dX10_ring_0 rfl (lv_at hl 0 rfl) ?_
  refine lv_iconst (v := 0) hx hb dX10_ring_1 (by decide) ?_
  refine pf_X10 (v := .int 0) C hE hP hD hS 0 0 rfl (by decide) qF_X10_1 rfl rfl rfl (Nat.le_of_ble_eq_true rfl) dX10_ring_2 (fun H locs (hP : va_P D vwCl (MX10 cI cZ cL cW a0 a1 a2 a3 a4 a5 a6 0 k_w k_o k_isKept k_went k_wentMany k_waiting k_came k_depth k_isSilent k_x k_packed k_hits k_rues k_soonest k_inAll) H) (hD : va_D A (MX10 cI cZ cL cW a0 a1 a2 a3 a4 a5 a6 0 k_w k_o k_isKept k_went k_wentMany k_waiting k_came k_depth k_isSilent k_x k_packed k_hits k_rues k_soonest k_inAll)) hS => ?_)
  refine lv_aload_n hx hb dX10_ring_5 rfl (lv_at hl 0 rfl) ?_
  refine lv_iload_n hx hb dX10_ring_6 rfl (lv_at hl 1 rfl) ?_
  obtain ⟨r1, h2, hf⟩ := bd_s hf
  refine iv_R (rest := []) (st1 := [.int r1]) C hE hP (c_X10_isHearer l D cI cZ cL cW F a0 a1 a2 a3 a4 a5 a6 0 k_w k_o k_isKept k_went k_wentMany k_waiting k_came k_depth k_isSilent k_x k_packed k_hits k_rues k_soonest k_inAll p1 r1  h2) ok_X10_isHearer qM_X10_222 rfl rfl ⟨(Nat.le_of_ble_eq_true rfl), (Nat.le_of_ble_eq_true rfl)⟩ rfl rfl hl.1 (Nat.le_of_ble_eq_true rfl) ⟨Nat.zero_le _, Nat.zero_le _⟩ dX10_ring_7 rfl rfl ?_
  refine lv_if_ne (tgt := 15) hx hb dX10_ring_10 (by decide) (fun c15 => ?_) (fun c15 => ?_)
  · have hf := it_n hf c15
    refine lv_iconst (v := 1) hx hb dX10_ring_15 (by decide) ?_
    refine lv_iload_n hx hb dX10_ring_16 rfl (lv_at hl 1 rfl) ?_
    refine lv_ishl hx hb dX10_ring_17 ?_
    refine lv_istore_n (lv' := [(2, .int (1 <<< (p1 &&& 31))), (0, .ref a0), (1, .int p1)]) hx hb dX10_ring_18 rfl hl (by decide) rfl (fun ls hl => ?_)
    refine lv_iconst (v := 1) hx hb dX10_ring_19 (by decide) ?_
    refine lv_istore_n (lv' := [(3, .int 1), (2, .int (1 <<< (p1 &&& 31))), (0, .ref a0), (1, .int p1)]) hx hb dX10_ring_20 rfl hl (by decide) rfl (fun ls hl => ?_)
    exact L21 F p1 (1 <<< (p1 &&& 31)) 1 0 k_w k_o k_isKept k_went k_wentMany k_waiting k_came k_depth k_isSilent k_x k_packed k_hits k_rues k_soonest k_inAll _ _ ls hf hP hD hS (lv_sub hl [2, 3, 1, 0] rfl)
  · have hf := it_p hf c15
    refine lv_iconst (v := (-1)) hx hb dX10_ring_13 (by decide) ?_
    cases hf
    exact rw_i C hr hlk hP hD hS dX10_ring_14 rfl
def X10_isNewFrom_L2 (F : Nat) : Nat → Int32 → Int32 → (Nat → Int32) → Option (Int32)
  | 0, _, _, _ => none
  | n + 1, v2, v3, k_w => if (v2 : Int32) ≤ v3 then (some 1) else (if ((748 + v3) : Int32) < 0 ∨ 3392 ≤ (Int32.toNatClampNeg (748 + v3)) then none else (if ((748 + v2) : Int32) < 0 ∨ 3392 ≤ (Int32.toNatClampNeg (748 + v2)) then none else (if ((k_w (Int32.toNatClampNeg (748 + v3))) : Int32) = (k_w (Int32.toNatClampNeg (748 + v2))) then (some 0) else (X10_isNewFrom_L2 F n v2 (v3 + 1) k_w))))
def X10_isNewFrom (F : Nat) (p1 : Int32) (p2 : Int32) (k_w : (Nat → Int32)) : Option (Int32) := X10_isNewFrom_L2 F F p2 p1 k_w
abbrev rm_X10_isNewFrom : Room := { frames := 0, cells := 0, slots := 0, locals := 0 }
theorem ok_X10_isNewFrom : OKV RX10 yX10_isNewFrom cX10_isNewFrom 4 (some .boolean) 2 := ⟨by decide +kernel, qV_X10_isNewFrom, qL_X10_isNewFrom, qI_X10, qD_X10_isNewFrom⟩
set_option maxHeartbeats 4000000 in
set_option maxRecDepth 100000 in
theorem c_X10_isNewFrom (l : Launch) (D : va_G) (cI cZ cL cW : ClassId) (F : Nat) (a0 : Nat) (a1 : Nat) (a2 : Nat) (a3 : Nat) (a4 : Nat) (a5 : Nat) (a6 : Nat) (k_thrown : Int32) (k_w : (Nat → Int32)) (k_o : Int32) (k_isKept : (Nat → Int32)) (k_went : (Nat → Int32)) (k_wentMany : Int32) (k_waiting : (Nat → Int32)) (k_came : Int32) (k_depth : Int32) (k_isSilent : Int32) (k_x : Int64) (k_packed : (Nat → Int32)) (k_hits : Int32) (k_rues : Int32) (k_soonest : Int32) (k_inAll : (Nat → Int32)) (p1 : Int32) (p2 : Int32) (r : Int32) (hf : X10_isNewFrom F p1 p2 k_w = some r) : CtrR l D (tyL cI cZ cL cW) nestW yX10_isNewFrom cX10_isNewFrom 4 (some .boolean) rm_X10_isNewFrom [.ref a0, .int p1, .int p2] (MX10 cI cZ cL cW a0 a1 a2 a3 a4 a5 a6 k_thrown k_w k_o k_isKept k_went k_wentMany k_waiting k_came k_depth k_isSilent k_x k_packed k_hits k_rues k_soonest k_inAll) (some (.int r)) := by
  refine ofR RX10 (by decide) rfl (Nat.le_of_ble_eq_true rfl) ?_
  intro p e s m below meth c ls C hr hlk hE hP hl
  generalize (List.toArray ([.ref a0, .int p1, .int p2] : List Value)) = args at C ⊢
  obtain ⟨hx, hb, hml, hown, ht⟩ := id C
  have hl : lv_has ls 4 [(0, .ref a0), (1, .int p1), (2, .int p2)] := hl
  have L2 : ∀ (n : Nat) (v2 : Int32) (v3 : Int32) (ls : Array Slot), X10_isNewFrom_L2 F n v2 v3 k_w = some r → lv_has ls 4 [(0, .ref a0), (2, .int v2), (3, .int v3)] → W p l e rm_X10_isNewFrom s m args below meth c s.heap [] 0 0 (MQ below (QR (some (.int r))) args s 0 0 (fun _ => False)) (F0 m 2 ls []) := by
    intro n
    induction n with
    | zero => intro v2 v3 ls hf hl; exact nn_s hf
    | succ n ih =>
      intro v2 v3 ls hf hl
      refine lv_iload_n hx hb dX10_isNewFrom_2 rfl (lv_at hl 2 rfl) ?_
      refine lv_iload_n hx hb dX10_isNewFrom_3 rfl (lv_at hl 1 rfl) ?_
      refine lv_icmp_ge (tgt := 38) hx hb dX10_isNewFrom_4 (by decide) (fun c4 => ?_) (fun c4 => ?_)
      · have hf := it_p hf c4
        refine lv_iconst (v := 1) hx hb dX10_isNewFrom_38 (by decide) ?_
        exact rt_z C hr hlk (by decide) dX10_isNewFrom_39 (congrArg (fun o => o.map Value.int) hf)
      · have hf := it_n hf c4
        refine lv_aload_n hx hb dX10_isNewFrom_7 rfl (lv_at hl 0 rfl) ?_
        refine gf_X10 (v := .ref a1) C hE hP 0 1 rfl (by decide) qF_X10_17 rfl dX10_isNewFrom_8 ?_
        refine lv_sipush (v := 748) hx hb dX10_isNewFrom_11 (by decide) ?_
        refine lv_iload_n hx hb dX10_isNewFrom_14 rfl (lv_at hl 2 rfl) ?_
        refine lv_iadd hx hb dX10_isNewFrom_15 ?_
        obtain ⟨g3, hf⟩ := it_g hf
        refine va_iald hx hb hE.1 hP 1 0 rfl rfl g3 dX10_isNewFrom_16 ?_
        refine lv_aload_n hx hb dX10_isNewFrom_17 rfl (lv_at hl 0 rfl) ?_
        refine gf_X10 (v := .ref a1) C hE hP 0 1 rfl (by decide) qF_X10_17 rfl dX10_isNewFrom_18 ?_
        refine lv_sipush (v := 748) hx hb dX10_isNewFrom_21 (by decide) ?_
        refine lv_iload_n hx hb dX10_isNewFrom_24 rfl (lv_at hl 1 rfl) ?_
        refine lv_iadd hx hb dX10_isNewFrom_25 ?_
        obtain ⟨g2, hf⟩ := it_g hf
        refine va_iald hx hb hE.1 hP 1 0 rfl rfl g2 dX10_isNewFrom_26 ?_
        refine lv_icmp_ne (tgt := 32) hx hb dX10_isNewFrom_27 (by decide) (fun c1 => ?_) (fun c1 => ?_)
        · have hf := it_n hf c1
          refine lv_iinc (v := (v3 + 1)) (lv' := [(3, .int (v3 + 1)), (0, .ref a0), (2, .int v2)]) hx hb dX10_isNewFrom_32 hl (k := 2) rfl rfl (by decide) rfl (fun ls hl => ?_)
          refine lv_goto (tgt := 2) hx hb dX10_isNewFrom_35 (by decide) ?_
          exact ih v2 (v3 + 1) ls hf (lv_sub hl [1, 2, 0] rfl)
        · have hf := it_p hf c1
          refine lv_iconst (v := 0) hx hb dX10_isNewFrom_30 (by decide) ?_
          exact rt_z C hr hlk (by decide) dX10_isNewFrom_31 (congrArg (fun o => o.map Value.int) hf)
  refine lv_iload_n hx hb dX10_isNewFrom_0 rfl (lv_at hl 1 rfl) ?_
  refine lv_istore_n (lv' := [(3, .int p1), (0, .ref a0), (1, .int p1), (2, .int p2)]) hx hb dX10_isNewFrom_1 rfl hl (by decide) rfl (fun ls hl => ?_)
  exact L2 F p2 p1 ls hf (lv_sub hl [1, 3, 0] rfl)
def X10_distance_L30 (F : Nat) : Nat → Int32 → Int32 → (Nat → Int32) → Option (Int32)
  | 0, _, _, _ => none
  | n + 1, v1, v2, k_w => if (v2 : Int32) < 0 then (some v2) else (if ((748 + v2) : Int32) < 0 ∨ 3392 ≤ (Int32.toNatClampNeg (748 + v2)) then none else (if ((748 + v1) : Int32) < 0 ∨ 3392 ≤ (Int32.toNatClampNeg (748 + v1)) then none else (if ((k_w (Int32.toNatClampNeg (748 + v2))) : Int32) = (k_w (Int32.toNatClampNeg (748 + v1))) then (some v2) else (X10_distance_L30 F n v1 (v2 + (-1)) k_w))))
def X10_distance_L76 (F : Nat) : Nat → Int32 → Int32 → Int32 → Int32 → (Nat → Int32) → Option (Int32)
  | 0, _, _, _, _, _ => none
  | n + 1, v1, v2, v3, v4, k_w => if (v1 : Int32) ≤ v4 then (some v3) else ((X10_isNewFrom F (v2 + 1) v4 k_w).bind fun r9 => ((X10_flag F r9).bind fun r11 => (X10_distance_L76 F n v1 v2 (v3 + r11) (v4 + 1) k_w)))
def X10_distance (F : Nat) (p1 : Int32) (k_thrown : Int32) (k_w : (Nat → Int32)) : Option (Int32 × Int32) := (X10_isIn F p1.toInt64 0 (((k_w (Int32.toNatClampNeg 14)) - 1).toInt64)).bind fun r1 => (if (r1 : Int32) = 0 then (some ((-1), 0)) else ((X10_distance_L30 F F p1 (p1 - 1) k_w).bind fun x7 => (if (0 : Int32) ≤ x7 then ((X10_distance_L76 F F p1 x7 0 (x7 + 1) k_w).bind fun x14 => (some (x14, 0))) else (some ((-1), 0)))))
abbrev rm_X10_distance : Room := { frames := 1, cells := 0, slots := 0, locals := 25 }
theorem ok_X10_distance : OKV RX10 yX10_distance cX10_distance 5 (some .int) 1 := ⟨by decide +kernel, qV_X10_distance, qL_X10_distance, qI_X10, qD_X10_distance⟩
set_option maxHeartbeats 4000000 in
set_option maxRecDepth 100000 in
theorem c_X10_distance (l : Launch) (D : va_G) (cI cZ cL cW : ClassId) (F : Nat) (a0 : Nat) (a1 : Nat) (a2 : Nat) (a3 : Nat) (a4 : Nat) (a5 : Nat) (a6 : Nat) (k_thrown : Int32) (k_w : (Nat → Int32)) (k_o : Int32) (k_isKept : (Nat → Int32)) (k_went : (Nat → Int32)) (k_wentMany : Int32) (k_waiting : (Nat → Int32)) (k_came : Int32) (k_depth : Int32) (k_isSilent : Int32) (k_x : Int64) (k_packed : (Nat → Int32)) (k_hits : Int32) (k_rues : Int32) (k_soonest : Int32) (k_inAll : (Nat → Int32)) (p1 : Int32) (r : Int32) (k_thrown' : Int32) (hf : X10_distance F p1 k_thrown k_w = some (r, k_thrown')) : CtrW l D (tyL cI cZ cL cW) nestW yX10_distance cX10_distance 5 (some .int) rm_X10_distance [.ref a0, .int p1] (MX10 cI cZ cL cW a0 a1 a2 a3 a4 a5 a6 k_thrown k_w k_o k_isKept k_went k_wentMany k_waiting k_came k_depth k_isSilent k_x k_packed k_hits k_rues k_soonest k_inAll) (MX10 cI cZ cL cW a0 a1 a2 a3 a4 a5 a6 (k_thrown') k_w k_o k_isKept k_went k_wentMany k_waiting k_came k_depth k_isSilent k_x k_packed k_hits k_rues k_soonest k_inAll) (some (.int r)) := by
  refine ofA RX10 (by decide) rfl (Nat.le_of_ble_eq_true rfl) ?_
  intro p e s m below meth c ls A C hr hlk hE hA hP hD hS hl
  generalize (List.toArray ([.ref a0, .int p1] : List Value)) = args at C ⊢
  obtain ⟨hx, hb, hml, hown, ht⟩ := id C
  have hl : lv_has ls 5 [(0, .ref a0), (1, .int p1)] := hl
  have L30 : ∀ (Q : State → Prop) (H : Heap) (locs : List Loc) (n : Nat) (v1 : Int32) (v2 : Int32) (k_thrown : Int32) (k_w : (Nat → Int32)) (k_o : Int32) (k_isKept : (Nat → Int32)) (k_went : (Nat → Int32)) (k_wentMany : Int32) (k_waiting : (Nat → Int32)) (k_came : Int32) (k_depth : Int32) (k_isSilent : Int32) (k_x : Int64) (k_packed : (Nat → Int32)) (k_hits : Int32) (k_rues : Int32) (k_soonest : Int32) (k_inAll : (Nat → Int32)) (hP : va_P D vwCl (MX10 cI cZ cL cW a0 a1 a2 a3 a4 a5 a6 k_thrown k_w k_o k_isKept k_went k_wentMany k_waiting k_came k_depth k_isSilent k_x k_packed k_hits k_rues k_soonest k_inAll) H) (x2 : Int32) (ls : Array Slot), X10_distance_L30 F n v1 v2 k_w = some x2 → lv_has ls 5 [(0, .ref a0), (1, .int v1), (2, .int v2)] → (∀ ls : Array Slot, lv_has ls 5 [(0, .ref a0), (1, .int v1), (2, .int x2)] → W p l e rm_X10_distance s m args below meth c H locs 0 0 Q (F0 m 63 ls [])) → W p l e rm_X10_distance s m args below meth c H locs 0 0 Q (F0 m 30 ls []) := by
    intro Q H locs n
    induction n with
    | zero => intro v1 v2 k_thrown k_w k_o k_isKept k_went k_wentMany k_waiting k_came k_depth k_isSilent k_x k_packed k_hits k_rues k_soonest k_inAll hP x2 ls hf hl hk; exact nn_s hf
    | succ n ih =>
      intro v1 v2 k_thrown k_w k_o k_isKept k_went k_wentMany k_waiting k_came k_depth k_isSilent k_x k_packed k_hits k_rues k_soonest k_inAll hP x2 ls hf hl hk
      refine lv_iload_n hx hb dX10_distance_30 rfl (lv_at hl 2 rfl) ?_
      refine lv_if_lt (tgt := 63) hx hb dX10_distance_31 (by decide) (fun c6 => ?_) (fun c6 => ?_)
      · have hf := it_p hf c6
        cases hf
        exact hk ls (lv_sub hl [0, 1, 2] rfl)
      · have hf := it_n hf c6
        refine lv_aload_n hx hb dX10_distance_34 rfl (lv_at hl 0 rfl) ?_
        refine gf_X10 (v := .ref a1) C hE hP 0 1 rfl (by decide) qF_X10_17 rfl dX10_distance_35 ?_
        refine lv_sipush (v := 748) hx hb dX10_distance_38 (by decide) ?_
        refine lv_iload_n hx hb dX10_distance_41 rfl (lv_at hl 2 rfl) ?_
        refine lv_iadd hx hb dX10_distance_42 ?_
        obtain ⟨g5, hf⟩ := it_g hf
        refine va_iald hx hb hE.1 hP 1 0 rfl rfl g5 dX10_distance_43 ?_
        refine lv_aload_n hx hb dX10_distance_44 rfl (lv_at hl 0 rfl) ?_
        refine gf_X10 (v := .ref a1) C hE hP 0 1 rfl (by decide) qF_X10_17 rfl dX10_distance_45 ?_
        refine lv_sipush (v := 748) hx hb dX10_distance_48 (by decide) ?_
        refine lv_iload_n hx hb dX10_distance_51 rfl (lv_at hl 1 rfl) ?_
        refine lv_iadd hx hb dX10_distance_52 ?_
        obtain ⟨g4, hf⟩ := it_g hf
        refine va_iald hx hb hE.1 hP 1 0 rfl rfl g4 dX10_distance_53 ?_
        refine lv_icmp_eq (tgt := 63) hx hb dX10_distance_54 (by decide) (fun c3 => ?_) (fun c3 => ?_)
        · have hf := it_p hf c3
          cases hf
          exact hk ls (lv_sub hl [0, 1, 2] rfl)
        · have hf := it_n hf c3
          refine lv_iinc (v := (v2 + (-1))) (lv' := [(2, .int (v2 + (-1))), (0, .ref a0), (1, .int v1)]) hx hb dX10_distance_57 hl (k := 2) rfl rfl (by decide) rfl (fun ls hl => ?_)
          refine lv_goto (tgt := 30) hx hb dX10_distance_60 (by decide) ?_
          exact ih v1 (v2 + (-1)) k_thrown k_w k_o k_isKept k_went k_wentMany k_waiting k_came k_depth k_isSilent k_x k_packed k_hits k_rues k_soonest k_inAll hP _ ls hf (lv_sub hl [1, 2, 0] rfl) hk
  have L76 : ∀ (Q : State → Prop) (H : Heap) (locs : List Loc) (n : Nat) (v1 : Int32) (v2 : Int32) (v3 : Int32) (v4 : Int32) (k_thrown : Int32) (k_w : (Nat → Int32)) (k_o : Int32) (k_isKept : (Nat → Int32)) (k_went : (Nat → Int32)) (k_wentMany : Int32) (k_waiting : (Nat → Int32)) (k_came : Int32) (k_depth : Int32) (k_isSilent : Int32) (k_x : Int64) (k_packed : (Nat → Int32)) (k_hits : Int32) (k_rues : Int32) (k_soonest : Int32) (k_inAll : (Nat → Int32)) (hP : va_P D vwCl (MX10 cI cZ cL cW a0 a1 a2 a3 a4 a5 a6 k_thrown k_w k_o k_isKept k_went k_wentMany k_waiting k_came k_depth k_isSilent k_x k_packed k_hits k_rues k_soonest k_inAll) H) (x3 : Int32) (ls : Array Slot), X10_distance_L76 F n v1 v2 v3 v4 k_w = some x3 → lv_has ls 5 [(0, .ref a0), (1, .int v1), (2, .int v2), (3, .int v3), (4, .int v4)] → (∀ ls : Array Slot, lv_has ls 5 [(3, .int x3)] → W p l e rm_X10_distance s m args below meth c H locs 0 0 Q (F0 m 103 ls [])) → W p l e rm_X10_distance s m args below meth c H locs 0 0 Q (F0 m 76 ls []) := by
    intro Q H locs n
    induction n with
    | zero => intro v1 v2 v3 v4 k_thrown k_w k_o k_isKept k_went k_wentMany k_waiting k_came k_depth k_isSilent k_x k_packed k_hits k_rues k_soonest k_inAll hP x3 ls hf hl hk; exact nn_s hf
    | succ n ih =>
      intro v1 v2 v3 v4 k_thrown k_w k_o k_isKept k_went k_wentMany k_waiting k_came k_depth k_isSilent k_x k_packed k_hits k_rues k_soonest k_inAll hP x3 ls hf hl hk
      refine lv_iload hx hb dX10_distance_76 (lv_at hl 4 rfl) ?_
      refine lv_iload_n hx hb dX10_distance_78 rfl (lv_at hl 1 rfl) ?_
      refine lv_icmp_ge (tgt := 103) hx hb dX10_distance_79 (by decide) (fun c13 => ?_) (fun c13 => ?_)
      · have hf := it_p hf c13
        cases hf
        exact hk ls (lv_sub hl [3] rfl)
      · have hf := it_n hf c13
        refine lv_iload_n hx hb dX10_distance_82 rfl (lv_at hl 3 rfl) ?_
        refine lv_aload_n hx hb dX10_distance_83 rfl (lv_at hl 0 rfl) ?_
        refine lv_iload_n hx hb dX10_distance_84 rfl (lv_at hl 2 rfl) ?_
        refine lv_iconst (v := 1) hx hb dX10_distance_85 (by decide) ?_
        refine lv_iadd hx hb dX10_distance_86 ?_
        refine lv_iload hx hb dX10_distance_87 (lv_at hl 4 rfl) ?_
        obtain ⟨r9, h10, hf⟩ := bd_s hf
        refine iv_R (rest := [.int v3]) (st1 := [.int r9, .int v3]) C hE hP (c_X10_isNewFrom l D cI cZ cL cW F a0 a1 a2 a3 a4 a5 a6 k_thrown k_w k_o k_isKept k_went k_wentMany k_waiting k_came k_depth k_isSilent k_x k_packed k_hits k_rues k_soonest k_inAll (v2 + 1) v4 r9  h10) ok_X10_isNewFrom qM_X10_283 rfl rfl ⟨(Nat.le_of_ble_eq_true rfl), (Nat.le_of_ble_eq_true rfl)⟩ rfl rfl hl.1 (Nat.le_of_ble_eq_true rfl) ⟨Nat.zero_le _, Nat.zero_le _⟩ dX10_distance_89 rfl rfl ?_
        obtain ⟨r11, h12, hf⟩ := bd_s hf
        refine is_R (rest := [.int v3]) (st1 := [.int r11, .int v3]) C hE va_P_nil (c_X10_flag l D cI cZ cL cW F   r9 r11  h12) ok_X10_flag qM_X10_57 rfl rfl ⟨(Nat.le_of_ble_eq_true rfl), (Nat.le_of_ble_eq_true rfl)⟩ hl.1 (Nat.le_of_ble_eq_true rfl) ⟨Nat.zero_le _, Nat.zero_le _⟩ dX10_distance_92 rfl rfl ?_
        refine lv_iadd hx hb dX10_distance_95 ?_
        refine lv_istore_n (lv' := [(3, .int (v3 + r11)), (0, .ref a0), (1, .int v1), (2, .int v2), (4, .int v4)]) hx hb dX10_distance_96 rfl hl (by decide) rfl (fun ls hl => ?_)
        refine lv_iinc (v := (v4 + 1)) (lv' := [(4, .int (v4 + 1)), (3, .int (v3 + r11)), (0, .ref a0), (1, .int v1), (2, .int v2)]) hx hb dX10_distance_97 hl (k := 4) rfl rfl (by decide) rfl (fun ls hl => ?_)
        refine lv_goto (tgt := 76) hx hb dX10_distance_100 (by decide) ?_
        exact ih v1 v2 (v3 + r11) (v4 + 1) k_thrown k_w k_o k_isKept k_went k_wentMany k_waiting k_came k_depth k_isSilent k_x k_packed k_hits k_rues k_soonest k_inAll hP _ ls hf (lv_sub hl [2, 3, 4, 1, 0] rfl) hk
  refine lv_aload_n hx hb dX10_distance_0 rfl (lv_at hl 0 rfl) ?_
  refine lv_iconst (v := 0) hx hb dX10_distance_1 (by decide) ?_
  refine pf_X10 (v := .int 0) C hE hP hD hS 0 0 rfl (by decide) qF_X10_1 rfl rfl rfl (Nat.le_of_ble_eq_true rfl) dX10_distance_2 (fun H locs (hP : va_P D vwCl (MX10 cI cZ cL cW a0 a1 a2 a3 a4 a5 a6 0 k_w k_o k_isKept k_went k_wentMany k_waiting k_came k_depth k_isSilent k_x k_packed k_hits k_rues k_soonest k_inAll) H) (hD : va_D A (MX10 cI cZ cL cW a0 a1 a2 a3 a4 a5 a6 0 k_w k_o k_isKept k_went k_wentMany k_waiting k_came k_depth k_isSilent k_x k_packed k_hits k_rues k_soonest k_inAll)) hS => ?_)
  refine lv_iload_n hx hb dX10_distance_5 rfl (lv_at hl 1 rfl) ?_
  refine lv_i2l hx hb dX10_distance_6 rfl ?_
  refine lv_lconst (v := 0) hx hb dX10_distance_7 (by decide) ?_
  refine lv_aload_n hx hb dX10_distance_8 rfl (lv_at hl 0 rfl) ?_
  refine gf_X10 (v := .ref a1) C hE hP 0 1 rfl (by decide) qF_X10_17 rfl dX10_distance_9 ?_
  refine lv_bipush (v := 14) hx hb dX10_distance_12 (by decide) ?_
  refine va_iald hx hb hE.1 hP 1 0 rfl rfl (vp_l (by decide)) dX10_distance_14 ?_
  refine lv_iconst (v := 1) hx hb dX10_distance_15 (by decide) ?_
  refine lv_isub hx hb dX10_distance_16 ?_
  refine lv_i2l hx hb dX10_distance_17 rfl ?_
  obtain ⟨r1, h2, hf⟩ := bd_s hf
  refine is_R (rest := []) (st1 := [.int r1]) C hE va_P_nil (c_X10_isIn l D cI cZ cL cW F   p1.toInt64 0 (((k_w (Int32.toNatClampNeg 14)) - 1).toInt64) r1  h2) ok_X10_isIn qM_X10_49 rfl rfl ⟨(Nat.le_of_ble_eq_true rfl), (Nat.le_of_ble_eq_true rfl)⟩ hl.1 (Nat.le_of_ble_eq_true rfl) ⟨Nat.zero_le _, Nat.zero_le _⟩ dX10_distance_18 rfl rfl ?_
  refine lv_if_ne (tgt := 26) hx hb dX10_distance_21 (by decide) (fun c17 => ?_) (fun c17 => ?_)
  · have hf := it_n hf c17
    refine lv_iload_n hx hb dX10_distance_26 rfl (lv_at hl 1 rfl) ?_
    refine lv_iconst (v := 1) hx hb dX10_distance_27 (by decide) ?_
    refine lv_isub hx hb dX10_distance_28 ?_
    refine lv_istore_n (lv' := [(2, .int (p1 - 1)), (0, .ref a0), (1, .int p1)]) hx hb dX10_distance_29 rfl hl (by decide) rfl (fun ls hl => ?_)
    obtain ⟨x7, h8, hf⟩ := bd_s hf
    refine L30 _ _ _ F p1 (p1 - 1) 0 k_w k_o k_isKept k_went k_wentMany k_waiting k_came k_depth k_isSilent k_x k_packed k_hits k_rues k_soonest k_inAll hP x7 ls h8 (lv_sub hl [1, 2, 0] rfl) (fun ls hl => ?_)
    refine lv_iload_n hx hb dX10_distance_63 rfl (lv_at hl 2 rfl) ?_
    refine lv_if_ge (tgt := 69) hx hb dX10_distance_64 (by decide) (fun c16 => ?_) (fun c16 => ?_)
    · have hf := it_p hf c16
      refine lv_iconst (v := 0) hx hb dX10_distance_69 (by decide) ?_
      refine lv_istore_n (lv' := [(3, .int 0), (0, .ref a0), (1, .int p1), (2, .int x7)]) hx hb dX10_distance_70 rfl hl (by decide) rfl (fun ls hl => ?_)
      refine lv_iload_n hx hb dX10_distance_71 rfl (lv_at hl 3 rfl) ?_
      refine lv_iconst (v := 1) hx hb dX10_distance_72 (by decide) ?_
      refine lv_iadd hx hb dX10_distance_73 ?_
      refine lv_istore (lv' := [(4, .int (x7 + 1)), (3, .int 0), (0, .ref a0), (1, .int p1), (2, .int x7)]) hx hb dX10_distance_74 hl (by decide) rfl (fun ls hl => ?_)
      obtain ⟨x14, h15, hf⟩ := bd_s hf
      refine L76 _ _ _ F p1 x7 0 (x7 + 1) 0 k_w k_o k_isKept k_went k_wentMany k_waiting k_came k_depth k_isSilent k_x k_packed k_hits k_rues k_soonest k_inAll hP x14 ls h15 (lv_sub hl [2, 3, 4, 1, 0] rfl) (fun ls hl => ?_)
      refine lv_iload_n hx hb dX10_distance_103 rfl (lv_at hl 0 rfl) ?_
      cases hf
      exact rw_i C hr hlk hP hD hS dX10_distance_104 rfl
    · have hf := it_n hf c16
      refine lv_iconst (v := (-1)) hx hb dX10_distance_67 (by decide) ?_
      cases hf
      exact rw_i C hr hlk hP hD hS dX10_distance_68 rfl
  · have hf := it_p hf c17
    refine lv_iconst (v := (-1)) hx hb dX10_distance_24 (by decide) ?_
    cases hf
    exact rw_i C hr hlk hP hD hS dX10_distance_25 rfl
def X10_nextOf_L4 (F : Nat) : Nat → Int32 → Int32 → (Nat → Int32) → Option (Int32)
  | 0, _, _, _ => none
  | n + 1, v1, v3, k_w => if ((k_w (Int32.toNatClampNeg 14)) : Int32) ≤ v3 then (some 100) else (if ((748 + v3) : Int32) < 0 ∨ 3392 ≤ (Int32.toNatClampNeg (748 + v3)) then none else (if ((k_w (Int32.toNatClampNeg (748 + v3))) : Int32) = v1 then (some v3) else (X10_nextOf_L4 F n v1 (v3 + 1) k_w)))
def X10_nextOf (F : Nat) (p1 : Int32) (p2 : Int32) (k_w : (Nat → Int32)) : Option (Int32) := X10_nextOf_L4 F F p1 (p2 + 1) k_w
abbrev rm_X10_nextOf : Room := { frames := 0, cells := 0, slots := 0, locals := 0 }
theorem ok_X10_nextOf : OKV RX10 yX10_nextOf cX10_nextOf 4 (some .int) 2 := ⟨by decide +kernel, qV_X10_nextOf, qL_X10_nextOf, qI_X10, qD_X10_nextOf⟩
set_option maxHeartbeats 4000000 in
set_option maxRecDepth 100000 in
theorem c_X10_nextOf (l : Launch) (D : va_G) (cI cZ cL cW : ClassId) (F : Nat) (a0 : Nat) (a1 : Nat) (a2 : Nat) (a3 : Nat) (a4 : Nat) (a5 : Nat) (a6 : Nat) (k_thrown : Int32) (k_w : (Nat → Int32)) (k_o : Int32) (k_isKept : (Nat → Int32)) (k_went : (Nat → Int32)) (k_wentMany : Int32) (k_waiting : (Nat → Int32)) (k_came : Int32) (k_depth : Int32) (k_isSilent : Int32) (k_x : Int64) (k_packed : (Nat → Int32)) (k_hits : Int32) (k_rues : Int32) (k_soonest : Int32) (k_inAll : (Nat → Int32)) (p1 : Int32) (p2 : Int32) (r : Int32) (hf : X10_nextOf F p1 p2 k_w = some r) : CtrR l D (tyL cI cZ cL cW) nestW yX10_nextOf cX10_nextOf 4 (some .int) rm_X10_nextOf [.ref a0, .int p1, .int p2] (MX10 cI cZ cL cW a0 a1 a2 a3 a4 a5 a6 k_thrown k_w k_o k_isKept k_went k_wentMany k_waiting k_came k_depth k_isSilent k_x k_packed k_hits k_rues k_soonest k_inAll) (some (.int r)) := by
  refine ofR RX10 (by decide) rfl (Nat.le_of_ble_eq_true rfl) ?_
  intro p e s m below meth c ls C hr hlk hE hP hl
  generalize (List.toArray ([.ref a0, .int p1, .int p2] : List Value)) = args at C ⊢
  obtain ⟨hx, hb, hml, hown, ht⟩ := id C
  have hl : lv_has ls 4 [(0, .ref a0), (1, .int p1), (2, .int p2)] := hl
  have L4 : ∀ (n : Nat) (v1 : Int32) (v3 : Int32) (ls : Array Slot), X10_nextOf_L4 F n v1 v3 k_w = some r → lv_has ls 4 [(0, .ref a0), (1, .int v1), (3, .int v3)] → W p l e rm_X10_nextOf s m args below meth c s.heap [] 0 0 (MQ below (QR (some (.int r))) args s 0 0 (fun _ => False)) (F0 m 4 ls []) := by
    intro n
    induction n with
    | zero => intro v1 v3 ls hf hl; exact nn_s hf
    | succ n ih =>
      intro v1 v3 ls hf hl
      refine lv_iload_n hx hb dX10_nextOf_4 rfl (lv_at hl 2 rfl) ?_
      refine lv_aload_n hx hb dX10_nextOf_5 rfl (lv_at hl 0 rfl) ?_
      refine gf_X10 (v := .ref a1) C hE hP 0 1 rfl (by decide) qF_X10_17 rfl dX10_nextOf_6 ?_
      refine lv_bipush (v := 14) hx hb dX10_nextOf_9 (by decide) ?_
      refine va_iald hx hb hE.1 hP 1 0 rfl rfl (vp_l (by decide)) dX10_nextOf_11 ?_
      refine lv_icmp_ge (tgt := 37) hx hb dX10_nextOf_12 (by decide) (fun c3 => ?_) (fun c3 => ?_)
      · have hf := it_p hf c3
        refine lv_bipush (v := 100) hx hb dX10_nextOf_37 (by decide) ?_
        exact rt_i C hr hlk dX10_nextOf_39 (congrArg (fun o => o.map Value.int) hf)
      · have hf := it_n hf c3
        refine lv_aload_n hx hb dX10_nextOf_15 rfl (lv_at hl 0 rfl) ?_
        refine gf_X10 (v := .ref a1) C hE hP 0 1 rfl (by decide) qF_X10_17 rfl dX10_nextOf_16 ?_
        refine lv_sipush (v := 748) hx hb dX10_nextOf_19 (by decide) ?_
        refine lv_iload_n hx hb dX10_nextOf_22 rfl (lv_at hl 2 rfl) ?_
        refine lv_iadd hx hb dX10_nextOf_23 ?_
        obtain ⟨g2, hf⟩ := it_g hf
        refine va_iald hx hb hE.1 hP 1 0 rfl rfl g2 dX10_nextOf_24 ?_
        refine lv_iload_n hx hb dX10_nextOf_25 rfl (lv_at hl 1 rfl) ?_
        refine lv_icmp_ne (tgt := 31) hx hb dX10_nextOf_26 (by decide) (fun c1 => ?_) (fun c1 => ?_)
        · have hf := it_n hf c1
          refine lv_iinc (v := (v3 + 1)) (lv' := [(3, .int (v3 + 1)), (0, .ref a0), (1, .int v1)]) hx hb dX10_nextOf_31 hl (k := 2) rfl rfl (by decide) rfl (fun ls hl => ?_)
          refine lv_goto (tgt := 4) hx hb dX10_nextOf_34 (by decide) ?_
          exact ih v1 (v3 + 1) ls hf (lv_sub hl [1, 2, 0] rfl)
        · have hf := it_p hf c1
          refine lv_iload_n hx hb dX10_nextOf_29 rfl (lv_at hl 2 rfl) ?_
          exact rt_i C hr hlk dX10_nextOf_30 (congrArg (fun o => o.map Value.int) hf)
  refine lv_iload_n hx hb dX10_nextOf_0 rfl (lv_at hl 2 rfl) ?_
  refine lv_iconst (v := 1) hx hb dX10_nextOf_1 (by decide) ?_
  refine lv_iadd hx hb dX10_nextOf_2 ?_
  refine lv_istore_n (lv' := [(3, .int (p2 + 1)), (0, .ref a0), (1, .int p1), (2, .int p2)]) hx hb dX10_nextOf_3 rfl hl (by decide) rfl (fun ls hl => ?_)
  exact L4 F p1 (p2 + 1) ls hf (lv_sub hl [1, 2, 0] rfl)
def X10_goesFarthest_L4 (F : Nat) : Nat → Int32 → Int32 → Int32 → (Nat → Int32) → Int32 → Option (Int32)
  | 0, _, _, _, _, _ => none
  | n + 1, v1, v2, v3, k_w, k_o => if ((k_o + 0) : Int32) < 0 ∨ 3392 ≤ (Int32.toNatClampNeg (k_o + 0)) then none else (if ((k_w (Int32.toNatClampNeg (k_o + 0))) : Int32) ≤ v3 then (some v2) else ((X10_of F v3 0 k_w k_o).bind fun r1 => ((X10_nextOf F r1 v1 k_w).bind fun r3 => ((X10_of F v2 0 k_w k_o).bind fun r5 => ((X10_nextOf F r5 v1 k_w).bind fun r7 => (if (r7 : Int32) < r3 then (X10_goesFarthest_L4 F n v1 v3 (v3 + 1) k_w k_o) else (if (r3 : Int32) = r7 then ((X10_of F v3 0 k_w k_o).bind fun r9 => ((X10_of F v2 0 k_w k_o).bind fun r11 => (if (r11 : Int32) ≤ r9 then (X10_goesFarthest_L4 F n v1 v2 (v3 + 1) k_w k_o) else (X10_goesFarthest_L4 F n v1 v3 (v3 + 1) k_w k_o)))) else (X10_goesFarthest_L4 F n v1 v2 (v3 + 1) k_w k_o))))))))
def X10_goesFarthest (F : Nat) (p1 : Int32) (k_w : (Nat → Int32)) (k_o : Int32) (k_went : (Nat → Int32)) (k_wentMany : Int32) : Option ((Nat → Int32) × (Nat → Int32) × Int32) := (X10_goesFarthest_L4 F F p1 0 1 k_w k_o).bind fun x18 => (if ((k_o + 10) : Int32) < 0 ∨ 3392 ≤ (Int32.toNatClampNeg (k_o + 10)) then none else (if ((k_o + 10) : Int32) < 0 ∨ 3392 ≤ (Int32.toNatClampNeg (k_o + 10)) then none else ((X10_of F x18 0 (upd k_w (Int32.toNatClampNeg (k_o + 10)) ((k_w (Int32.toNatClampNeg (k_o + 10))) + 1)) k_o).bind fun r20 => (if ((k_wentMany - k_wentMany / 128 * 128) : Int32) < 0 ∨ 128 ≤ (Int32.toNatClampNeg (k_wentMany - k_wentMany / 128 * 128)) then none else ((X10_goes F x18 (upd k_w (Int32.toNatClampNeg (k_o + 10)) ((k_w (Int32.toNatClampNeg (k_o + 10))) + 1)) k_o).bind fun k_w_22 => (some (k_w_22, (upd k_went (Int32.toNatClampNeg (k_wentMany - k_wentMany / 128 * 128)) r20), (k_wentMany + 1))))))))
abbrev rm_X10_goesFarthest : Room := { frames := 1, cells := 0, slots := 0, locals := 23 }
theorem ok_X10_goesFarthest : OKV RX10 yX10_goesFarthest cX10_goesFarthest 6 none 1 := ⟨by decide +kernel, qV_X10_goesFarthest, qL_X10_goesFarthest, qI_X10, qD_X10_goesFarthest⟩
set_option maxHeartbeats 4000000 in
set_option maxRecDepth 100000 in
theorem c_X10_goesFarthest (l : Launch) (D : va_G) (cI cZ cL cW : ClassId) (F : Nat) (a0 : Nat) (a1 : Nat) (a2 : Nat) (a3 : Nat) (a4 : Nat) (a5 : Nat) (a6 : Nat) (k_thrown : Int32) (k_w : (Nat → Int32)) (k_o : Int32) (k_isKept : (Nat → Int32)) (k_went : (Nat → Int32)) (k_wentMany : Int32) (k_waiting : (Nat → Int32)) (k_came : Int32) (k_depth : Int32) (k_isSilent : Int32) (k_x : Int64) (k_packed : (Nat → Int32)) (k_hits : Int32) (k_rues : Int32) (k_soonest : Int32) (k_inAll : (Nat → Int32)) (p1 : Int32) (k_w' : (Nat → Int32)) (k_went' : (Nat → Int32)) (k_wentMany' : Int32) (hf : X10_goesFarthest F p1 k_w k_o k_went k_wentMany = some (k_w', k_went', k_wentMany')) : CtrW l D (tyL cI cZ cL cW) nestW yX10_goesFarthest cX10_goesFarthest 6 none rm_X10_goesFarthest [.ref a0, .int p1] (MX10 cI cZ cL cW a0 a1 a2 a3 a4 a5 a6 k_thrown k_w k_o k_isKept k_went k_wentMany k_waiting k_came k_depth k_isSilent k_x k_packed k_hits k_rues k_soonest k_inAll) (MX10 cI cZ cL cW a0 a1 a2 a3 a4 a5 a6 k_thrown (k_w') k_o k_isKept (k_went') (k_wentMany') k_waiting k_came k_depth k_isSilent k_x k_packed k_hits k_rues k_soonest k_inAll) none := by
  refine ofA RX10 (by decide) rfl (Nat.le_of_ble_eq_true rfl) ?_
  intro p e s m below meth c ls A C hr hlk hE hA hP hD hS hl
  generalize (List.toArray ([.ref a0, .int p1] : List Value)) = args at C ⊢
  obtain ⟨hx, hb, hml, hown, ht⟩ := id C
  have hl : lv_has ls 6 [(0, .ref a0), (1, .int p1)] := hl
  have L4 : ∀ (Q : State → Prop) (H : Heap) (locs : List Loc) (n : Nat) (v1 : Int32) (v2 : Int32) (v3 : Int32) (k_thrown : Int32) (k_w : (Nat → Int32)) (k_o : Int32) (k_isKept : (Nat → Int32)) (k_went : (Nat → Int32)) (k_wentMany : Int32) (k_waiting : (Nat → Int32)) (k_came : Int32) (k_depth : Int32) (k_isSilent : Int32) (k_x : Int64) (k_packed : (Nat → Int32)) (k_hits : Int32) (k_rues : Int32) (k_soonest : Int32) (k_inAll : (Nat → Int32)) (hP : va_P D vwCl (MX10 cI cZ cL cW a0 a1 a2 a3 a4 a5 a6 k_thrown k_w k_o k_isKept k_went k_wentMany k_waiting k_came k_depth k_isSilent k_x k_packed k_hits k_rues k_soonest k_inAll) H) (x2 : Int32) (ls : Array Slot), X10_goesFarthest_L4 F n v1 v2 v3 k_w k_o = some x2 → lv_has ls 6 [(0, .ref a0), (1, .int v1), (2, .int v2), (3, .int v3)] → (∀ ls : Array Slot, lv_has ls 6 [(0, .ref a0), (2, .int x2)] → W p l e rm_X10_goesFarthest s m args below meth c H locs 0 0 Q (F0 m 82 ls [])) → W p l e rm_X10_goesFarthest s m args below meth c H locs 0 0 Q (F0 m 4 ls []) := by
    intro Q H locs n
    induction n with
    | zero => intro v1 v2 v3 k_thrown k_w k_o k_isKept k_went k_wentMany k_waiting k_came k_depth k_isSilent k_x k_packed k_hits k_rues k_soonest k_inAll hP x2 ls hf hl hk; exact nn_s hf
    | succ n ih =>
      intro v1 v2 v3 k_thrown k_w k_o k_isKept k_went k_wentMany k_waiting k_came k_depth k_isSilent k_x k_packed k_hits k_rues k_soonest k_inAll hP x2 ls hf hl hk
      refine lv_iload_n hx hb dX10_goesFarthest_4 rfl (lv_at hl 3 rfl) ?_
      refine lv_aload_n hx hb dX10_goesFarthest_5 rfl (lv_at hl 0 rfl) ?_
      refine gf_X10 (v := .ref a1) C hE hP 0 1 rfl (by decide) qF_X10_17 rfl dX10_goesFarthest_6 ?_
      refine lv_aload_n hx hb dX10_goesFarthest_9 rfl (lv_at hl 0 rfl) ?_
      refine gf_X10 (v := .int k_o) C hE hP 0 2 rfl (by decide) qF_X10_41 rfl dX10_goesFarthest_10 ?_
      refine lv_iconst (v := 0) hx hb dX10_goesFarthest_13 (by decide) ?_
      refine lv_iadd hx hb dX10_goesFarthest_14 ?_
      obtain ⟨g17, hf⟩ := it_g hf
      refine va_iald hx hb hE.1 hP 1 0 rfl rfl g17 dX10_goesFarthest_15 ?_
      refine lv_icmp_ge (tgt := 82) hx hb dX10_goesFarthest_16 (by decide) (fun c16 => ?_) (fun c16 => ?_)
      · have hf := it_p hf c16
        cases hf
        exact hk ls (lv_sub hl [0, 2] rfl)
      · have hf := it_n hf c16
        refine lv_aload_n hx hb dX10_goesFarthest_19 rfl (lv_at hl 0 rfl) ?_
        refine lv_aload_n hx hb dX10_goesFarthest_20 rfl (lv_at hl 0 rfl) ?_
        refine lv_iload_n hx hb dX10_goesFarthest_21 rfl (lv_at hl 3 rfl) ?_
        refine lv_iconst (v := 0) hx hb dX10_goesFarthest_22 (by decide) ?_
        obtain ⟨r1, h2, hf⟩ := bd_s hf
        refine iv_R (rest := [.ref a0]) (st1 := [.int r1, .ref a0]) C hE hP (c_X10_of l D cI cZ cL cW F a0 a1 a2 a3 a4 a5 a6 k_thrown k_w k_o k_isKept k_went k_wentMany k_waiting k_came k_depth k_isSilent k_x k_packed k_hits k_rues k_soonest k_inAll v3 0 r1  h2) ok_X10_of qM_X10_44 rfl rfl ⟨(Nat.le_of_ble_eq_true rfl), (Nat.le_of_ble_eq_true rfl)⟩ rfl rfl hl.1 (Nat.le_of_ble_eq_true rfl) ⟨Nat.zero_le _, Nat.zero_le _⟩ dX10_goesFarthest_23 rfl rfl ?_
        refine lv_iload_n hx hb dX10_goesFarthest_26 rfl (lv_at hl 1 rfl) ?_
        obtain ⟨r3, h4, hf⟩ := bd_s hf
        refine iv_R (rest := []) (st1 := [.int r3]) C hE hP (c_X10_nextOf l D cI cZ cL cW F a0 a1 a2 a3 a4 a5 a6 k_thrown k_w k_o k_isKept k_went k_wentMany k_waiting k_came k_depth k_isSilent k_x k_packed k_hits k_rues k_soonest k_inAll r1 v1 r3  h4) ok_X10_nextOf qM_X10_286 rfl rfl ⟨(Nat.le_of_ble_eq_true rfl), (Nat.le_of_ble_eq_true rfl)⟩ rfl rfl hl.1 (Nat.le_of_ble_eq_true rfl) ⟨Nat.zero_le _, Nat.zero_le _⟩ dX10_goesFarthest_27 rfl rfl ?_
        refine lv_istore (lv' := [(4, .int r3), (0, .ref a0), (1, .int v1), (2, .int v2), (3, .int v3)]) hx hb dX10_goesFarthest_30 hl (by decide) rfl (fun ls hl => ?_)
        refine lv_aload_n hx hb dX10_goesFarthest_32 rfl (lv_at hl 1 rfl) ?_
        refine lv_aload_n hx hb dX10_goesFarthest_33 rfl (lv_at hl 1 rfl) ?_
        refine lv_iload_n hx hb dX10_goesFarthest_34 rfl (lv_at hl 3 rfl) ?_
        refine lv_iconst (v := 0) hx hb dX10_goesFarthest_35 (by decide) ?_
        obtain ⟨r5, h6, hf⟩ := bd_s hf
        refine iv_R (rest := [.ref a0]) (st1 := [.int r5, .ref a0]) C hE hP (c_X10_of l D cI cZ cL cW F a0 a1 a2 a3 a4 a5 a6 k_thrown k_w k_o k_isKept k_went k_wentMany k_waiting k_came k_depth k_isSilent k_x k_packed k_hits k_rues k_soonest k_inAll v2 0 r5  h6) ok_X10_of qM_X10_44 rfl rfl ⟨(Nat.le_of_ble_eq_true rfl), (Nat.le_of_ble_eq_true rfl)⟩ rfl rfl hl.1 (Nat.le_of_ble_eq_true rfl) ⟨Nat.zero_le _, Nat.zero_le _⟩ dX10_goesFarthest_36 rfl rfl ?_
        refine lv_iload_n hx hb dX10_goesFarthest_39 rfl (lv_at hl 2 rfl) ?_
        obtain ⟨r7, h8, hf⟩ := bd_s hf
        refine iv_R (rest := []) (st1 := [.int r7]) C hE hP (c_X10_nextOf l D cI cZ cL cW F a0 a1 a2 a3 a4 a5 a6 k_thrown k_w k_o k_isKept k_went k_wentMany k_waiting k_came k_depth k_isSilent k_x k_packed k_hits k_rues k_soonest k_inAll r5 v1 r7  h8) ok_X10_nextOf qM_X10_286 rfl rfl ⟨(Nat.le_of_ble_eq_true rfl), (Nat.le_of_ble_eq_true rfl)⟩ rfl rfl hl.1 (Nat.le_of_ble_eq_true rfl) ⟨Nat.zero_le _, Nat.zero_le _⟩ dX10_goesFarthest_40 rfl rfl ?_
        refine lv_istore (lv' := [(5, .int r7), (4, .int r3), (0, .ref a0), (1, .int v1), (2, .int v2), (3, .int v3)]) hx hb dX10_goesFarthest_43 hl (by decide) rfl (fun ls hl => ?_)
        refine lv_iload hx hb dX10_goesFarthest_45 (lv_at hl 1 rfl) ?_
        refine lv_iload hx hb dX10_goesFarthest_47 (lv_at hl 0 rfl) ?_
        refine lv_icmp_gt (tgt := 74) hx hb dX10_goesFarthest_49 (by decide) (fun c15 => ?_) (fun c15 => ?_)
        · have hf := it_p hf c15
          refine lv_iload_n hx hb dX10_goesFarthest_74 rfl (lv_at hl 5 rfl) ?_
          refine lv_istore_n (lv' := [(2, .int v3), (5, .int r7), (4, .int r3), (0, .ref a0), (1, .int v1), (3, .int v3)]) hx hb dX10_goesFarthest_75 rfl hl (by decide) rfl (fun ls hl => ?_)
          refine lv_iinc (v := (v3 + 1)) (lv' := [(3, .int (v3 + 1)), (2, .int v3), (5, .int r7), (4, .int r3), (0, .ref a0), (1, .int v1)]) hx hb dX10_goesFarthest_76 hl (k := 5) rfl rfl (by decide) rfl (fun ls hl => ?_)
          refine lv_goto (tgt := 4) hx hb dX10_goesFarthest_79 (by decide) ?_
          exact ih v1 v3 (v3 + 1) k_thrown k_w k_o k_isKept k_went k_wentMany k_waiting k_came k_depth k_isSilent k_x k_packed k_hits k_rues k_soonest k_inAll hP _ ls hf (lv_sub hl [4, 5, 1, 0] rfl) hk
        · have hf := it_n hf c15
          refine lv_iload hx hb dX10_goesFarthest_52 (lv_at hl 1 rfl) ?_
          refine lv_iload hx hb dX10_goesFarthest_54 (lv_at hl 0 rfl) ?_
          refine lv_icmp_ne (tgt := 76) hx hb dX10_goesFarthest_56 (by decide) (fun c14 => ?_) (fun c14 => ?_)
          · have hf := it_n hf c14
            refine lv_iinc (v := (v3 + 1)) (lv' := [(3, .int (v3 + 1)), (5, .int r7), (4, .int r3), (0, .ref a0), (1, .int v1), (2, .int v2)]) hx hb dX10_goesFarthest_76 hl (k := 5) rfl rfl (by decide) rfl (fun ls hl => ?_)
            refine lv_goto (tgt := 4) hx hb dX10_goesFarthest_79 (by decide) ?_
            exact ih v1 v2 (v3 + 1) k_thrown k_w k_o k_isKept k_went k_wentMany k_waiting k_came k_depth k_isSilent k_x k_packed k_hits k_rues k_soonest k_inAll hP _ ls hf (lv_sub hl [3, 4, 5, 0] rfl) hk
          · have hf := it_p hf c14
            refine lv_aload_n hx hb dX10_goesFarthest_59 rfl (lv_at hl 2 rfl) ?_
            refine lv_iload_n hx hb dX10_goesFarthest_60 rfl (lv_at hl 5 rfl) ?_
            refine lv_iconst (v := 0) hx hb dX10_goesFarthest_61 (by decide) ?_
            obtain ⟨r9, h10, hf⟩ := bd_s hf
            refine iv_R (rest := []) (st1 := [.int r9]) C hE hP (c_X10_of l D cI cZ cL cW F a0 a1 a2 a3 a4 a5 a6 k_thrown k_w k_o k_isKept k_went k_wentMany k_waiting k_came k_depth k_isSilent k_x k_packed k_hits k_rues k_soonest k_inAll v3 0 r9  h10) ok_X10_of qM_X10_44 rfl rfl ⟨(Nat.le_of_ble_eq_true rfl), (Nat.le_of_ble_eq_true rfl)⟩ rfl rfl hl.1 (Nat.le_of_ble_eq_true rfl) ⟨Nat.zero_le _, Nat.zero_le _⟩ dX10_goesFarthest_62 rfl rfl ?_
            refine lv_aload_n hx hb dX10_goesFarthest_65 rfl (lv_at hl 2 rfl) ?_
            refine lv_iload_n hx hb dX10_goesFarthest_66 rfl (lv_at hl 4 rfl) ?_
            refine lv_iconst (v := 0) hx hb dX10_goesFarthest_67 (by decide) ?_
            obtain ⟨r11, h12, hf⟩ := bd_s hf
            refine iv_R (rest := [.int r9]) (st1 := [.int r11, .int r9]) C hE hP (c_X10_of l D cI cZ cL cW F a0 a1 a2 a3 a4 a5 a6 k_thrown k_w k_o k_isKept k_went k_wentMany k_waiting k_came k_depth k_isSilent k_x k_packed k_hits k_rues k_soonest k_inAll v2 0 r11  h12) ok_X10_of qM_X10_44 rfl rfl ⟨(Nat.le_of_ble_eq_true rfl), (Nat.le_of_ble_eq_true rfl)⟩ rfl rfl hl.1 (Nat.le_of_ble_eq_true rfl) ⟨Nat.zero_le _, Nat.zero_le _⟩ dX10_goesFarthest_68 rfl rfl ?_
            refine lv_icmp_ge (tgt := 76) hx hb dX10_goesFarthest_71 (by decide) (fun c13 => ?_) (fun c13 => ?_)
            · have hf := it_p hf c13
              refine lv_iinc (v := (v3 + 1)) (lv' := [(3, .int (v3 + 1)), (5, .int r7), (4, .int r3), (0, .ref a0), (1, .int v1), (2, .int v2)]) hx hb dX10_goesFarthest_76 hl (k := 5) rfl rfl (by decide) rfl (fun ls hl => ?_)
              refine lv_goto (tgt := 4) hx hb dX10_goesFarthest_79 (by decide) ?_
              exact ih v1 v2 (v3 + 1) k_thrown k_w k_o k_isKept k_went k_wentMany k_waiting k_came k_depth k_isSilent k_x k_packed k_hits k_rues k_soonest k_inAll hP _ ls hf (lv_sub hl [3, 4, 5, 0] rfl) hk
            · have hf := it_n hf c13
              refine lv_iload_n hx hb dX10_goesFarthest_74 rfl (lv_at hl 5 rfl) ?_
              refine lv_istore_n (lv' := [(2, .int v3), (5, .int r7), (4, .int r3), (0, .ref a0), (1, .int v1), (3, .int v3)]) hx hb dX10_goesFarthest_75 rfl hl (by decide) rfl (fun ls hl => ?_)
              refine lv_iinc (v := (v3 + 1)) (lv' := [(3, .int (v3 + 1)), (2, .int v3), (5, .int r7), (4, .int r3), (0, .ref a0), (1, .int v1)]) hx hb dX10_goesFarthest_76 hl (k := 5) rfl rfl (by decide) rfl (fun ls hl => ?_)
              refine lv_goto (tgt := 4) hx hb dX10_goesFarthest_79 (by decide) ?_
              exact ih v1 v3 (v3 + 1) k_thrown k_w k_o k_isKept k_went k_wentMany k_waiting k_came k_depth k_isSilent k_x k_packed k_hits k_rues k_soonest k_inAll hP _ ls hf (lv_sub hl [4, 5, 1, 0] rfl) hk
  refine lv_iconst (v := 0) hx hb dX10_goesFarthest_0 (by decide) ?_
  refine lv_istore_n (lv' := [(2, .int 0), (0, .ref a0), (1, .int p1)]) hx hb dX10_goesFarthest_1 rfl hl (by decide) rfl (fun ls hl => ?_)
  refine lv_iconst (v := 1) hx hb dX10_goesFarthest_2 (by decide) ?_
  refine lv_istore_n (lv' := [(3, .int 1), (2, .int 0), (0, .ref a0), (1, .int p1)]) hx hb dX10_goesFarthest_3 rfl hl (by decide) rfl (fun ls hl => ?_)
  obtain ⟨x18, h19, hf⟩ := bd_s hf
  refine L4 _ _ _ F p1 0 1 k_thrown k_w k_o k_isKept k_went k_wentMany k_waiting k_came k_depth k_isSilent k_x k_packed k_hits k_rues k_soonest k_inAll hP x18 ls h19 (lv_sub hl [2, 3, 1, 0] rfl) (fun ls hl => ?_)
  refine lv_aload_n hx hb dX10_goesFarthest_82 rfl (lv_at hl 0 rfl) ?_
  refine gf_X10 (v := .ref a1) C hE hP 0 1 rfl (by decide) qF_X10_17 rfl dX10_goesFarthest_83 ?_
  refine lv_aload_n hx hb dX10_goesFarthest_86 rfl (lv_at hl 0 rfl) ?_
  refine gf_X10 (v := .int k_o) C hE hP 0 2 rfl (by decide) qF_X10_41 rfl dX10_goesFarthest_87 ?_
  refine lv_bipush (v := 10) hx hb dX10_goesFarthest_90 (by decide) ?_
  refine lv_iadd hx hb dX10_goesFarthest_92 ?_
  refine lv_dup2_11 hx hb dX10_goesFarthest_93 rfl rfl ?_
  obtain ⟨g26, hf⟩ := it_g hf
  refine va_iald hx hb hE.1 hP 1 0 rfl rfl g26 dX10_goesFarthest_94 ?_
  refine lv_iconst (v := 1) hx hb dX10_goesFarthest_95 (by decide) ?_
  refine lv_iadd hx hb dX10_goesFarthest_96 ?_
  obtain ⟨g25, hf⟩ := it_g hf
  refine va_iast hx hb hE.1 hP hD hS 1 0 rfl rfl g25 dX10_goesFarthest_97 (fun H locs (hP : va_P D vwCl (MX10 cI cZ cL cW a0 a1 a2 a3 a4 a5 a6 k_thrown (upd k_w (Int32.toNatClampNeg (k_o + 10)) ((k_w (Int32.toNatClampNeg (k_o + 10))) + 1)) k_o k_isKept k_went k_wentMany k_waiting k_came k_depth k_isSilent k_x k_packed k_hits k_rues k_soonest k_inAll) H) (hD : va_D A (MX10 cI cZ cL cW a0 a1 a2 a3 a4 a5 a6 k_thrown (upd k_w (Int32.toNatClampNeg (k_o + 10)) ((k_w (Int32.toNatClampNeg (k_o + 10))) + 1)) k_o k_isKept k_went k_wentMany k_waiting k_came k_depth k_isSilent k_x k_packed k_hits k_rues k_soonest k_inAll)) hS => ?_)
  refine lv_aload_n hx hb dX10_goesFarthest_98 rfl (lv_at hl 0 rfl) ?_
  refine gf_X10 (v := .ref a3) C hE hP 0 4 rfl (by decide) qF_X10_25 rfl dX10_goesFarthest_99 ?_
  refine lv_aload_n hx hb dX10_goesFarthest_102 rfl (lv_at hl 0 rfl) ?_
  refine gf_X10 (v := .int k_wentMany) C hE hP 0 5 rfl (by decide) qF_X10_95 rfl dX10_goesFarthest_103 ?_
  refine lv_sipush (v := 128) hx hb dX10_goesFarthest_106 (by decide) ?_
  refine lv_irem hx hb dX10_goesFarthest_109 (by decide) ?_
  refine lv_aload_n hx hb dX10_goesFarthest_110 rfl (lv_at hl 0 rfl) ?_
  refine lv_iload_n hx hb dX10_goesFarthest_111 rfl (lv_at hl 1 rfl) ?_
  refine lv_iconst (v := 0) hx hb dX10_goesFarthest_112 (by decide) ?_
  obtain ⟨r20, h21, hf⟩ := bd_s hf
  refine iv_R (rest := [.int (k_wentMany - k_wentMany / 128 * 128), .ref a3]) (st1 := [.int r20, .int (k_wentMany - k_wentMany / 128 * 128), .ref a3]) C hE hP (c_X10_of l D cI cZ cL cW F a0 a1 a2 a3 a4 a5 a6 k_thrown (upd k_w (Int32.toNatClampNeg (k_o + 10)) ((k_w (Int32.toNatClampNeg (k_o + 10))) + 1)) k_o k_isKept k_went k_wentMany k_waiting k_came k_depth k_isSilent k_x k_packed k_hits k_rues k_soonest k_inAll x18 0 r20  h21) ok_X10_of qM_X10_44 rfl rfl ⟨(Nat.le_of_ble_eq_true rfl), (Nat.le_of_ble_eq_true rfl)⟩ rfl rfl hl.1 (Nat.le_of_ble_eq_true rfl) ⟨Nat.zero_le _, Nat.zero_le _⟩ dX10_goesFarthest_113 rfl rfl ?_
  obtain ⟨g24, hf⟩ := it_g hf
  refine va_iast hx hb hE.1 hP hD hS 3 0 rfl rfl g24 dX10_goesFarthest_116 (fun H locs (hP : va_P D vwCl (MX10 cI cZ cL cW a0 a1 a2 a3 a4 a5 a6 k_thrown (upd k_w (Int32.toNatClampNeg (k_o + 10)) ((k_w (Int32.toNatClampNeg (k_o + 10))) + 1)) k_o k_isKept (upd k_went (Int32.toNatClampNeg (k_wentMany - k_wentMany / 128 * 128)) r20) k_wentMany k_waiting k_came k_depth k_isSilent k_x k_packed k_hits k_rues k_soonest k_inAll) H) (hD : va_D A (MX10 cI cZ cL cW a0 a1 a2 a3 a4 a5 a6 k_thrown (upd k_w (Int32.toNatClampNeg (k_o + 10)) ((k_w (Int32.toNatClampNeg (k_o + 10))) + 1)) k_o k_isKept (upd k_went (Int32.toNatClampNeg (k_wentMany - k_wentMany / 128 * 128)) r20) k_wentMany k_waiting k_came k_depth k_isSilent k_x k_packed k_hits k_rues k_soonest k_inAll)) hS => ?_)
  refine lv_aload_n hx hb dX10_goesFarthest_117 rfl (lv_at hl 0 rfl) ?_
  refine lv_dup hx hb dX10_goesFarthest_118 rfl ?_
  refine gf_X10 (v := .int k_wentMany) C hE hP 0 5 rfl (by decide) qF_X10_95 rfl dX10_goesFarthest_119 ?_
  refine lv_iconst (v := 1) hx hb dX10_goesFarthest_122 (by decide) ?_
  refine lv_iadd hx hb dX10_goesFarthest_123 ?_
  refine pf_X10 (v := .int (k_wentMany + 1)) C hE hP hD hS 0 5 rfl (by decide) qF_X10_95 rfl rfl rfl (Nat.le_of_ble_eq_true rfl) dX10_goesFarthest_124 (fun H locs (hP : va_P D vwCl (MX10 cI cZ cL cW a0 a1 a2 a3 a4 a5 a6 k_thrown (upd k_w (Int32.toNatClampNeg (k_o + 10)) ((k_w (Int32.toNatClampNeg (k_o + 10))) + 1)) k_o k_isKept (upd k_went (Int32.toNatClampNeg (k_wentMany - k_wentMany / 128 * 128)) r20) (k_wentMany + 1) k_waiting k_came k_depth k_isSilent k_x k_packed k_hits k_rues k_soonest k_inAll) H) (hD : va_D A (MX10 cI cZ cL cW a0 a1 a2 a3 a4 a5 a6 k_thrown (upd k_w (Int32.toNatClampNeg (k_o + 10)) ((k_w (Int32.toNatClampNeg (k_o + 10))) + 1)) k_o k_isKept (upd k_went (Int32.toNatClampNeg (k_wentMany - k_wentMany / 128 * 128)) r20) (k_wentMany + 1) k_waiting k_came k_depth k_isSilent k_x k_packed k_hits k_rues k_soonest k_inAll)) hS => ?_)
  refine lv_aload_n hx hb dX10_goesFarthest_127 rfl (lv_at hl 0 rfl) ?_
  refine lv_iload_n hx hb dX10_goesFarthest_128 rfl (lv_at hl 1 rfl) ?_
  obtain ⟨k_w_22, h23, hf⟩ := bd_s hf
  refine iv_A (rest := []) (st1 := []) C hE hP hD hS hA (c_X10_goes l D cI cZ cL cW F a0 a1 a2 a3 a4 a5 a6 k_thrown (upd k_w (Int32.toNatClampNeg (k_o + 10)) ((k_w (Int32.toNatClampNeg (k_o + 10))) + 1)) k_o k_isKept (upd k_went (Int32.toNatClampNeg (k_wentMany - k_wentMany / 128 * 128)) r20) (k_wentMany + 1) k_waiting k_came k_depth k_isSilent k_x k_packed k_hits k_rues k_soonest k_inAll x18  k_w_22 h23) ok_X10_goes qM_X10_101 rfl rfl ⟨(Nat.le_of_ble_eq_true rfl), (Nat.le_of_ble_eq_true rfl)⟩ rfl rfl hl.1 (Nat.le_of_ble_eq_true rfl) ⟨Nat.zero_le _, Nat.zero_le _⟩ dX10_goesFarthest_129 rfl rfl (fun H locs (hP : va_P D vwCl (MX10 cI cZ cL cW a0 a1 a2 a3 a4 a5 a6 k_thrown k_w_22 k_o k_isKept (upd k_went (Int32.toNatClampNeg (k_wentMany - k_wentMany / 128 * 128)) r20) (k_wentMany + 1) k_waiting k_came k_depth k_isSilent k_x k_packed k_hits k_rues k_soonest k_inAll) H) (hD : va_D A (MX10 cI cZ cL cW a0 a1 a2 a3 a4 a5 a6 k_thrown k_w_22 k_o k_isKept (upd k_went (Int32.toNatClampNeg (k_wentMany - k_wentMany / 128 * 128)) r20) (k_wentMany + 1) k_waiting k_came k_depth k_isSilent k_x k_packed k_hits k_rues k_soonest k_inAll)) hS => ?_)
  cases hf
  exact rw_v C hr hlk hP hD hS dX10_goesFarthest_132
def X10_isRued (F : Nat) (p1 : Int32) (p2 : Int32) (k_w : (Nat → Int32)) (k_rues : Int32) (k_soonest : Int32) : Option (Int32 × Int32) := (X10_nextOf F p1 p2 k_w).bind fun r1 => (if (r1 : Int32) = 100 then (some (k_rues, k_soonest)) else (if (k_soonest : Int32) = (-1) then (some ((k_rues + 1), (r1 - p2))) else ((X10_lesser F k_soonest (r1 - p2)).bind fun r3 => (some ((k_rues + 1), r3)))))
abbrev rm_X10_isRued : Room := { frames := 1, cells := 0, slots := 0, locals := 23 }
theorem ok_X10_isRued : OKV RX10 yX10_isRued cX10_isRued 4 none 2 := ⟨by decide +kernel, qV_X10_isRued, qL_X10_isRued, qI_X10, qD_X10_isRued⟩
set_option maxHeartbeats 4000000 in
set_option maxRecDepth 100000 in
theorem c_X10_isRued (l : Launch) (D : va_G) (cI cZ cL cW : ClassId) (F : Nat) (a0 : Nat) (a1 : Nat) (a2 : Nat) (a3 : Nat) (a4 : Nat) (a5 : Nat) (a6 : Nat) (k_thrown : Int32) (k_w : (Nat → Int32)) (k_o : Int32) (k_isKept : (Nat → Int32)) (k_went : (Nat → Int32)) (k_wentMany : Int32) (k_waiting : (Nat → Int32)) (k_came : Int32) (k_depth : Int32) (k_isSilent : Int32) (k_x : Int64) (k_packed : (Nat → Int32)) (k_hits : Int32) (k_rues : Int32) (k_soonest : Int32) (k_inAll : (Nat → Int32)) (p1 : Int32) (p2 : Int32) (k_rues' : Int32) (k_soonest' : Int32) (hf : X10_isRued F p1 p2 k_w k_rues k_soonest = some (k_rues', k_soonest')) : CtrW l D (tyL cI cZ cL cW) nestW yX10_isRued cX10_isRued 4 none rm_X10_isRued [.ref a0, .int p1, .int p2] (MX10 cI cZ cL cW a0 a1 a2 a3 a4 a5 a6 k_thrown k_w k_o k_isKept k_went k_wentMany k_waiting k_came k_depth k_isSilent k_x k_packed k_hits k_rues k_soonest k_inAll) (MX10 cI cZ cL cW a0 a1 a2 a3 a4 a5 a6 k_thrown k_w k_o k_isKept k_went k_wentMany k_waiting k_came k_depth k_isSilent k_x k_packed k_hits (k_rues') (k_soonest') k_inAll) none := by
  refine ofA RX10 (by decide) rfl (Nat.le_of_ble_eq_true rfl) ?_
  intro p e s m below meth c ls A C hr hlk hE hA hP hD hS hl
  generalize (List.toArray ([.ref a0, .int p1, .int p2] : List Value)) = args at C ⊢
  obtain ⟨hx, hb, hml, hown, ht⟩ := id C
  have hl : lv_has ls 4 [(0, .ref a0), (1, .int p1), (2, .int p2)] := hl
  refine lv_aload_n hx hb dX10_isRued_0 rfl (lv_at hl 0 rfl) ?_
  refine lv_iload_n hx hb dX10_isRued_1 rfl (lv_at hl 1 rfl) ?_
  refine lv_iload_n hx hb dX10_isRued_2 rfl (lv_at hl 2 rfl) ?_
  obtain ⟨r1, h2, hf⟩ := bd_s hf
  refine iv_R (rest := []) (st1 := [.int r1]) C hE hP (c_X10_nextOf l D cI cZ cL cW F a0 a1 a2 a3 a4 a5 a6 k_thrown k_w k_o k_isKept k_went k_wentMany k_waiting k_came k_depth k_isSilent k_x k_packed k_hits k_rues k_soonest k_inAll p1 p2 r1  h2) ok_X10_nextOf qM_X10_286 rfl rfl ⟨(Nat.le_of_ble_eq_true rfl), (Nat.le_of_ble_eq_true rfl)⟩ rfl rfl hl.1 (Nat.le_of_ble_eq_true rfl) ⟨Nat.zero_le _, Nat.zero_le _⟩ dX10_isRued_3 rfl rfl ?_
  refine lv_istore_n (lv' := [(3, .int r1), (0, .ref a0), (1, .int p1), (2, .int p2)]) hx hb dX10_isRued_6 rfl hl (by decide) rfl (fun ls hl => ?_)
  refine lv_iload_n hx hb dX10_isRued_7 rfl (lv_at hl 0 rfl) ?_
  refine lv_bipush (v := 100) hx hb dX10_isRued_8 (by decide) ?_
  refine lv_icmp_ne (tgt := 14) hx hb dX10_isRued_10 (by decide) (fun c6 => ?_) (fun c6 => ?_)
  · have hf := it_n hf c6
    refine lv_aload_n hx hb dX10_isRued_14 rfl (lv_at hl 1 rfl) ?_
    refine lv_dup hx hb dX10_isRued_15 rfl ?_
    refine gf_X10 (v := .int k_rues) C hE hP 0 13 rfl (by decide) qF_X10_289 rfl dX10_isRued_16 ?_
    refine lv_iconst (v := 1) hx hb dX10_isRued_19 (by decide) ?_
    refine lv_iadd hx hb dX10_isRued_20 ?_
    refine pf_X10 (v := .int (k_rues + 1)) C hE hP hD hS 0 13 rfl (by decide) qF_X10_289 rfl rfl rfl (Nat.le_of_ble_eq_true rfl) dX10_isRued_21 (fun H locs (hP : va_P D vwCl (MX10 cI cZ cL cW a0 a1 a2 a3 a4 a5 a6 k_thrown k_w k_o k_isKept k_went k_wentMany k_waiting k_came k_depth k_isSilent k_x k_packed k_hits (k_rues + 1) k_soonest k_inAll) H) (hD : va_D A (MX10 cI cZ cL cW a0 a1 a2 a3 a4 a5 a6 k_thrown k_w k_o k_isKept k_went k_wentMany k_waiting k_came k_depth k_isSilent k_x k_packed k_hits (k_rues + 1) k_soonest k_inAll)) hS => ?_)
    refine lv_aload_n hx hb dX10_isRued_24 rfl (lv_at hl 1 rfl) ?_
    refine lv_aload_n hx hb dX10_isRued_25 rfl (lv_at hl 1 rfl) ?_
    refine gf_X10 (v := .int k_soonest) C hE hP 0 14 rfl (by decide) qF_X10_292 rfl dX10_isRued_26 ?_
    refine lv_iconst (v := (-1)) hx hb dX10_isRued_29 (by decide) ?_
    refine lv_icmp_ne (tgt := 39) hx hb dX10_isRued_30 (by decide) (fun c5 => ?_) (fun c5 => ?_)
    · have hf := it_n hf c5
      refine lv_aload_n hx hb dX10_isRued_39 rfl (lv_at hl 1 rfl) ?_
      refine gf_X10 (v := .int k_soonest) C hE hP 0 14 rfl (by decide) qF_X10_292 rfl dX10_isRued_40 ?_
      refine lv_iload_n hx hb dX10_isRued_43 rfl (lv_at hl 0 rfl) ?_
      refine lv_iload_n hx hb dX10_isRued_44 rfl (lv_at hl 3 rfl) ?_
      refine lv_isub hx hb dX10_isRued_45 ?_
      obtain ⟨r3, h4, hf⟩ := bd_s hf
      refine is_R (rest := [.ref a0]) (st1 := [.int r3, .ref a0]) C hE va_P_nil (c_X10_lesser l D cI cZ cL cW F   k_soonest (r1 - p2) r3  h4) ok_X10_lesser qM_X10_7 rfl rfl ⟨(Nat.le_of_ble_eq_true rfl), (Nat.le_of_ble_eq_true rfl)⟩ hl.1 (Nat.le_of_ble_eq_true rfl) ⟨Nat.zero_le _, Nat.zero_le _⟩ dX10_isRued_46 rfl rfl ?_
      refine pf_X10 (v := .int r3) C hE hP hD hS 0 14 rfl (by decide) qF_X10_292 rfl rfl rfl (Nat.le_of_ble_eq_true rfl) dX10_isRued_49 (fun H locs (hP : va_P D vwCl (MX10 cI cZ cL cW a0 a1 a2 a3 a4 a5 a6 k_thrown k_w k_o k_isKept k_went k_wentMany k_waiting k_came k_depth k_isSilent k_x k_packed k_hits (k_rues + 1) r3 k_inAll) H) (hD : va_D A (MX10 cI cZ cL cW a0 a1 a2 a3 a4 a5 a6 k_thrown k_w k_o k_isKept k_went k_wentMany k_waiting k_came k_depth k_isSilent k_x k_packed k_hits (k_rues + 1) r3 k_inAll)) hS => ?_)
      cases hf
      exact rw_v C hr hlk hP hD hS dX10_isRued_52
    · have hf := it_p hf c5
      refine lv_iload_n hx hb dX10_isRued_33 rfl (lv_at hl 0 rfl) ?_
      refine lv_iload_n hx hb dX10_isRued_34 rfl (lv_at hl 3 rfl) ?_
      refine lv_isub hx hb dX10_isRued_35 ?_
      refine lv_goto (tgt := 49) hx hb dX10_isRued_36 (by decide) ?_
      refine pf_X10 (v := .int (r1 - p2)) C hE hP hD hS 0 14 rfl (by decide) qF_X10_292 rfl rfl rfl (Nat.le_of_ble_eq_true rfl) dX10_isRued_49 (fun H locs (hP : va_P D vwCl (MX10 cI cZ cL cW a0 a1 a2 a3 a4 a5 a6 k_thrown k_w k_o k_isKept k_went k_wentMany k_waiting k_came k_depth k_isSilent k_x k_packed k_hits (k_rues + 1) (r1 - p2) k_inAll) H) (hD : va_D A (MX10 cI cZ cL cW a0 a1 a2 a3 a4 a5 a6 k_thrown k_w k_o k_isKept k_went k_wentMany k_waiting k_came k_depth k_isSilent k_x k_packed k_hits (k_rues + 1) (r1 - p2) k_inAll)) hS => ?_)
      cases hf
      exact rw_v C hr hlk hP hD hS dX10_isRued_52
  · have hf := it_p hf c6
    cases hf
    exact rw_v C hr hlk hP hD hS dX10_isRued_13
def X10_goesThrough_L166 (F : Nat) : Nat → Int32 → Int32 → Int32 → Int32 → (Nat → Int32) → (Nat → Int32) → Int32 → Int32 → Int32 → Option (Int32 × Int32)
  | 0, _, _, _, _, _, _, _, _, _ => none
  | n + 1, v1, v2, v3, v7, k_w, k_went, k_wentMany, k_rues, k_soonest => if (k_wentMany : Int32) ≤ v7 then (some (k_rues, k_soonest)) else (if (v7 : Int32) < 0 ∨ 128 ≤ (Int32.toNatClampNeg v7) then none else ((X10_isRued F (k_went (Int32.toNatClampNeg v7)) v3 k_w k_rues k_soonest).bind fun (k_rues_16, k_soonest_17) => (X10_goesThrough_L166 F n v1 v2 v3 (v7 + 1) k_w k_went k_wentMany k_rues_16 k_soonest_17)))
def X10_goesThrough_L58 (F : Nat) : Nat → Int32 → Int32 → Int32 → (Nat → Int32) → Int32 → (Nat → Int32) → Int32 → (Nat → Int32) → Int32 → Int32 → Int32 → Int32 → Int32 → Int32 → Option ((Nat → Int32) × (Nat → Int32) × Int32 × (Nat → Int32) × Int32 × Int32 × Int32 × Int32)
  | 0, _, _, _, _, _, _, _, _, _, _, _, _, _, _ => none
  | n + 1, v1, v2, v3, k_w, k_o, k_went, k_wentMany, k_waiting, k_came, k_depth, k_isSilent, k_hits, k_rues, k_soonest => if ((k_w (Int32.toNatClampNeg 14)) : Int32) ≤ v3 then (some (k_w, k_went, k_wentMany, k_waiting, k_came, k_hits, k_rues, k_soonest)) else (if ((748 + v3) : Int32) < 0 ∨ 3392 ≤ (Int32.toNatClampNeg (748 + v3)) then none else ((X10_entryOf F (k_w (Int32.toNatClampNeg (748 + v3))) k_w k_o).bind fun r5 => (if (r5 : Int32) = (-1) then ((X10_flag F 0).bind fun r7 => (if (v1 : Int32) = 5 then (if (v2 : Int32) ≤ 0 then ((X10_puts F (k_w (Int32.toNatClampNeg (748 + v3))) 0 1 (-1) k_w k_o k_went k_wentMany k_waiting k_came k_depth k_isSilent).bind fun (r24, k_w_25, k_went_26, k_wentMany_27, k_waiting_28, k_came_29) => ((X10_goesThrough_L166 F F v1 v2 v3 k_wentMany k_w_25 k_went_26 k_wentMany_27 k_rues k_soonest).bind fun (k31, k32) => (X10_goesThrough_L58 F n v1 v2 (v3 + 1) k_w_25 k_o k_went_26 k_wentMany_27 k_waiting_28 k_came_29 k_depth k_isSilent (k_hits + r7) k31 k32))) else (if ((k_o + 0) : Int32) < 0 ∨ 3392 ≤ (Int32.toNatClampNeg (k_o + 0)) then none else (if ((k_w (Int32.toNatClampNeg (k_o + 0))) : Int32) = v2 then ((X10_goesFarthest F v3 k_w k_o k_went k_wentMany).bind fun (k_w_44, k_went_45, k_wentMany_46) => ((X10_puts F (k_w (Int32.toNatClampNeg (748 + v3))) 0 1 (-1) k_w_44 k_o k_went_45 k_wentMany_46 k_waiting k_came k_depth k_isSilent).bind fun (r48, k_w_49, k_went_50, k_wentMany_51, k_waiting_52, k_came_53) => ((X10_goesThrough_L166 F F v1 v2 v3 k_wentMany k_w_49 k_went_50 k_wentMany_51 k_rues k_soonest).bind fun (k55, k56) => (X10_goesThrough_L58 F n v1 v2 (v3 + 1) k_w_49 k_o k_went_50 k_wentMany_51 k_waiting_52 k_came_53 k_depth k_isSilent (k_hits + r7) k55 k56)))) else ((X10_puts F (k_w (Int32.toNatClampNeg (748 + v3))) 0 1 (-1) k_w k_o k_went k_wentMany k_waiting k_came k_depth k_isSilent).bind fun (r34, k_w_35, k_went_36, k_wentMany_37, k_waiting_38, k_came_39) => ((X10_goesThrough_L166 F F v1 v2 v3 k_wentMany k_w_35 k_went_36 k_wentMany_37 k_rues k_soonest).bind fun (k41, k42) => (X10_goesThrough_L58 F n v1 v2 (v3 + 1) k_w_35 k_o k_went_36 k_wentMany_37 k_waiting_38 k_came_39 k_depth k_isSilent (k_hits + r7) k41 k42)))))) else ((X10_puts F (k_w (Int32.toNatClampNeg (748 + v3))) 0 1 (-1) k_w k_o k_went k_wentMany k_waiting k_came k_depth k_isSilent).bind fun (r9, k_w_10, k_went_11, k_wentMany_12, k_waiting_13, k_came_14) => ((X10_goesThrough_L166 F F v1 v2 v3 k_wentMany k_w_10 k_went_11 k_wentMany_12 k_rues k_soonest).bind fun (k21, k22) => (X10_goesThrough_L58 F n v1 v2 (v3 + 1) k_w_10 k_o k_went_11 k_wentMany_12 k_waiting_13 k_came_14 k_depth k_isSilent (k_hits + r7) k21 k22))))) else ((X10_flag F 1).bind fun r62 => (if (v1 : Int32) = 5 then ((X10_puts F (k_w (Int32.toNatClampNeg (748 + v3))) 0 1 (-1) k_w k_o k_went k_wentMany k_waiting k_came k_depth k_isSilent).bind fun (r74, k_w_75, k_went_76, k_wentMany_77, k_waiting_78, k_came_79) => ((X10_goesThrough_L166 F F v1 v2 v3 k_wentMany k_w_75 k_went_76 k_wentMany_77 k_rues k_soonest).bind fun (k81, k82) => (X10_goesThrough_L58 F n v1 v2 (v3 + 1) k_w_75 k_o k_went_76 k_wentMany_77 k_waiting_78 k_came_79 k_depth k_isSilent (k_hits + r62) k81 k82))) else ((X10_puts F (k_w (Int32.toNatClampNeg (748 + v3))) 0 1 (-1) k_w k_o k_went k_wentMany k_waiting k_came k_depth k_isSilent).bind fun (r64, k_w_65, k_went_66, k_wentMany_67, k_waiting_68, k_came_69) => ((X10_goesThrough_L166 F F v1 v2 v3 k_wentMany k_w_65 k_went_66 k_wentMany_67 k_rues k_soonest).bind fun (k71, k72) => (X10_goesThrough_L58 F n v1 v2 (v3 + 1) k_w_65 k_o k_went_66 k_wentMany_67 k_waiting_68 k_came_69 k_depth k_isSilent (k_hits + r62) k71 k72))))))))
def X10_goesThrough (F : Nat) (p1 : Int32) (p2 : Int32) (k_w : (Nat → Int32)) (k_o : Int32) (k_went : (Nat → Int32)) (k_wentMany : Int32) (k_waiting : (Nat → Int32)) (k_came : Int32) (k_depth : Int32) (k_isSilent : Int32) (k_hits : Int32) (k_rues : Int32) (k_soonest : Int32) : Option ((Nat → Int32) × Int32 × (Nat → Int32) × Int32 × (Nat → Int32) × Int32 × Int32 × Int32 × Int32 × Int32) := (X10_begins F p2 999 k_w 2544).bind fun k_w_1 => ((X10_lesser F p1 4).bind fun r3 => (if ((2544 + 2) : Int32) < 0 ∨ 3392 ≤ (Int32.toNatClampNeg (2544 + 2)) then none else ((X10_goesThrough_L58 F F p1 p2 0 (upd k_w_1 (Int32.toNatClampNeg (2544 + 2)) r3) 2544 k_went 0 k_waiting k_came k_depth 1 0 0 (-1)).bind fun (k88, k89, k90, k91, k92, k93, k94, k95) => (some (k88, 2544, k89, k90, k91, k92, 1, k93, k94, k95)))))
abbrev rm_X10_goesThrough : Room := { frames := 7, cells := 0, slots := 0, locals := 165 }
theorem ok_X10_goesThrough : OKV RX10 yX10_goesThrough cX10_goesThrough 8 none 2 := ⟨by decide +kernel, qV_X10_goesThrough, qL_X10_goesThrough, qI_X10, qD_X10_goesThrough⟩
set_option maxHeartbeats 4000000 in
set_option maxRecDepth 100000 in
theorem c_X10_goesThrough (l : Launch) (D : va_G) (cI cZ cL cW : ClassId) (F : Nat) (a0 : Nat) (a1 : Nat) (a2 : Nat) (a3 : Nat) (a4 : Nat) (a5 : Nat) (a6 : Nat) (k_thrown : Int32) (k_w : (Nat → Int32)) (k_o : Int32) (k_isKept : (Nat → Int32)) (k_went : (Nat → Int32)) (k_wentMany : Int32) (k_waiting : (Nat → Int32)) (k_came : Int32) (k_depth : Int32) (k_isSilent : Int32) (k_x : Int64) (k_packed : (Nat → Int32)) (k_hits : Int32) (k_rues : Int32) (k_soonest : Int32) (k_inAll : (Nat → Int32)) (p1 : Int32) (p2 : Int32) (k_w' : (Nat → Int32)) (k_o' : Int32) (k_went' : (Nat → Int32)) (k_wentMany' : Int32) (k_waiting' : (Nat → Int32)) (k_came' : Int32) (k_isSilent' : Int32) (k_hits' : Int32) (k_rues' : Int32) (k_soonest' : Int32) (hf : X10_goesThrough F p1 p2 k_w k_o k_went k_wentMany k_waiting k_came k_depth k_isSilent k_hits k_rues k_soonest = some (k_w', k_o', k_went', k_wentMany', k_waiting', k_came', k_isSilent', k_hits', k_rues', k_soonest')) : CtrW l D (tyL cI cZ cL cW) nestW yX10_goesThrough cX10_goesThrough 8 none rm_X10_goesThrough [.ref a0, .int p1, .int p2] (MX10 cI cZ cL cW a0 a1 a2 a3 a4 a5 a6 k_thrown k_w k_o k_isKept k_went k_wentMany k_waiting k_came k_depth k_isSilent k_x k_packed k_hits k_rues k_soonest k_inAll) (MX10 cI cZ cL cW a0 a1 a2 a3 a4 a5 a6 k_thrown (k_w') (k_o') k_isKept (k_went') (k_wentMany') (k_waiting') (k_came') k_depth (k_isSilent') k_x k_packed (k_hits') (k_rues') (k_soonest') k_inAll) none := by
  refine ofA RX10 (by decide) rfl (Nat.le_of_ble_eq_true rfl) ?_
  intro p e s m below meth c ls A C hr hlk hE hA hP hD hS hl
  generalize (List.toArray ([.ref a0, .int p1, .int p2] : List Value)) = args at C ⊢
  obtain ⟨hx, hb, hml, hown, ht⟩ := id C
  have hl : lv_has ls 8 [(0, .ref a0), (1, .int p1), (2, .int p2)] := hl
  have L166 : ∀ (Q : State → Prop) (n : Nat) (v1 : Int32) (v2 : Int32) (v3 : Int32) (v7 : Int32) (k_thrown : Int32) (k_w : (Nat → Int32)) (k_o : Int32) (k_isKept : (Nat → Int32)) (k_went : (Nat → Int32)) (k_wentMany : Int32) (k_waiting : (Nat → Int32)) (k_came : Int32) (k_depth : Int32) (k_isSilent : Int32) (k_x : Int64) (k_packed : (Nat → Int32)) (k_hits : Int32) (k_rues : Int32) (k_soonest : Int32) (k_inAll : (Nat → Int32)) (k_rues' : Int32) (k_soonest' : Int32) (H : Heap) (locs : List Loc) (ls : Array Slot), X10_goesThrough_L166 F n v1 v2 v3 v7 k_w k_went k_wentMany k_rues k_soonest = some (k_rues', k_soonest') → va_P D vwCl (MX10 cI cZ cL cW a0 a1 a2 a3 a4 a5 a6 k_thrown k_w k_o k_isKept k_went k_wentMany k_waiting k_came k_depth k_isSilent k_x k_packed k_hits k_rues k_soonest k_inAll) H → va_D A (MX10 cI cZ cL cW a0 a1 a2 a3 a4 a5 a6 k_thrown k_w k_o k_isKept k_went k_wentMany k_waiting k_came k_depth k_isSilent k_x k_packed k_hits k_rues k_soonest k_inAll) → va_S A s.heap H locs → lv_has ls 8 [(0, .ref a0), (1, .int v1), (2, .int v2), (3, .int v3), (7, .int v7)] → (∀ (H : Heap) (locs : List Loc) (ls : Array Slot), va_P D vwCl (MX10 cI cZ cL cW a0 a1 a2 a3 a4 a5 a6 k_thrown k_w k_o k_isKept k_went k_wentMany k_waiting k_came k_depth k_isSilent k_x k_packed k_hits (k_rues') (k_soonest') k_inAll) H → va_D A (MX10 cI cZ cL cW a0 a1 a2 a3 a4 a5 a6 k_thrown k_w k_o k_isKept k_went k_wentMany k_waiting k_came k_depth k_isSilent k_x k_packed k_hits (k_rues') (k_soonest') k_inAll) → va_S A s.heap H locs → lv_has ls 8 [(0, .ref a0), (1, .int v1), (2, .int v2), (3, .int v3)] → W p l e rm_X10_goesThrough s m args below meth c H locs 0 0 Q (F0 m 193 ls [])) → W p l e rm_X10_goesThrough s m args below meth c H locs 0 0 Q (F0 m 166 ls []) := by
    intro Q n
    induction n with
    | zero => intro v1 v2 v3 v7 k_thrown k_w k_o k_isKept k_went k_wentMany k_waiting k_came k_depth k_isSilent k_x k_packed k_hits k_rues k_soonest k_inAll k_rues' k_soonest' H locs ls hf hP hD hS hl hk; exact nn_s hf
    | succ n ih =>
      intro v1 v2 v3 v7 k_thrown k_w k_o k_isKept k_went k_wentMany k_waiting k_came k_depth k_isSilent k_x k_packed k_hits k_rues k_soonest k_inAll k_rues' k_soonest' H locs ls hf hP hD hS hl hk
      refine lv_iload hx hb dX10_goesThrough_166 (lv_at hl 4 rfl) ?_
      refine lv_aload_n hx hb dX10_goesThrough_168 rfl (lv_at hl 0 rfl) ?_
      refine gf_X10 (v := .int k_wentMany) C hE hP 0 5 rfl (by decide) qF_X10_95 rfl dX10_goesThrough_169 ?_
      refine lv_icmp_ge (tgt := 193) hx hb dX10_goesThrough_172 (by decide) (fun c20 => ?_) (fun c20 => ?_)
      · have hf := it_p hf c20
        cases hf
        exact hk _ _ ls hP hD hS (lv_sub hl [0, 1, 2, 3] rfl)
      · have hf := it_n hf c20
        refine lv_aload_n hx hb dX10_goesThrough_175 rfl (lv_at hl 0 rfl) ?_
        refine lv_aload_n hx hb dX10_goesThrough_176 rfl (lv_at hl 0 rfl) ?_
        refine gf_X10 (v := .ref a3) C hE hP 0 4 rfl (by decide) qF_X10_25 rfl dX10_goesThrough_177 ?_
        refine lv_iload hx hb dX10_goesThrough_180 (lv_at hl 4 rfl) ?_
        obtain ⟨g19, hf⟩ := it_g hf
        refine va_iald hx hb hE.1 hP 3 0 rfl rfl g19 dX10_goesThrough_182 ?_
        refine lv_iload_n hx hb dX10_goesThrough_183 rfl (lv_at hl 3 rfl) ?_
        obtain ⟨⟨k_rues_16, k_soonest_17⟩, h18, hf⟩ := bd_s hf
        refine iv_A (rest := []) (st1 := []) C hE hP hD hS hA (c_X10_isRued l D cI cZ cL cW F a0 a1 a2 a3 a4 a5 a6 k_thrown k_w k_o k_isKept k_went k_wentMany k_waiting k_came k_depth k_isSilent k_x k_packed k_hits k_rues k_soonest k_inAll (k_went (Int32.toNatClampNeg v7)) v3  k_rues_16 k_soonest_17 h18) ok_X10_isRued qM_X10_301 rfl rfl ⟨(Nat.le_of_ble_eq_true rfl), (Nat.le_of_ble_eq_true rfl)⟩ rfl rfl hl.1 (Nat.le_of_ble_eq_true rfl) ⟨Nat.zero_le _, Nat.zero_le _⟩ dX10_goesThrough_184 rfl rfl (fun H locs (hP : va_P D vwCl (MX10 cI cZ cL cW a0 a1 a2 a3 a4 a5 a6 k_thrown k_w k_o k_isKept k_went k_wentMany k_waiting k_came k_depth k_isSilent k_x k_packed k_hits k_rues_16 k_soonest_17 k_inAll) H) (hD : va_D A (MX10 cI cZ cL cW a0 a1 a2 a3 a4 a5 a6 k_thrown k_w k_o k_isKept k_went k_wentMany k_waiting k_came k_depth k_isSilent k_x k_packed k_hits k_rues_16 k_soonest_17 k_inAll)) hS => ?_)
        refine lv_iinc (v := (v7 + 1)) (lv' := [(7, .int (v7 + 1)), (0, .ref a0), (1, .int v1), (2, .int v2), (3, .int v3)]) hx hb dX10_goesThrough_187 hl (k := 4) rfl rfl (by decide) rfl (fun ls hl => ?_)
        refine lv_goto (tgt := 166) hx hb dX10_goesThrough_190 (by decide) ?_
        exact ih v1 v2 v3 (v7 + 1) k_thrown k_w k_o k_isKept k_went k_wentMany k_waiting k_came k_depth k_isSilent k_x k_packed k_hits k_rues_16 k_soonest_17 k_inAll _ _ _ _ ls hf hP hD hS (lv_sub hl [1, 2, 3, 4, 0] rfl) hk
  have L58 : ∀ (Q : State → Prop) (n : Nat) (v1 : Int32) (v2 : Int32) (v3 : Int32) (k_thrown : Int32) (k_w : (Nat → Int32)) (k_o : Int32) (k_isKept : (Nat → Int32)) (k_went : (Nat → Int32)) (k_wentMany : Int32) (k_waiting : (Nat → Int32)) (k_came : Int32) (k_depth : Int32) (k_isSilent : Int32) (k_x : Int64) (k_packed : (Nat → Int32)) (k_hits : Int32) (k_rues : Int32) (k_soonest : Int32) (k_inAll : (Nat → Int32)) (k_w' : (Nat → Int32)) (k_went' : (Nat → Int32)) (k_wentMany' : Int32) (k_waiting' : (Nat → Int32)) (k_came' : Int32) (k_hits' : Int32) (k_rues' : Int32) (k_soonest' : Int32) (H : Heap) (locs : List Loc) (ls : Array Slot), X10_goesThrough_L58 F n v1 v2 v3 k_w k_o k_went k_wentMany k_waiting k_came k_depth k_isSilent k_hits k_rues k_soonest = some (k_w', k_went', k_wentMany', k_waiting', k_came', k_hits', k_rues', k_soonest') → va_P D vwCl (MX10 cI cZ cL cW a0 a1 a2 a3 a4 a5 a6 k_thrown k_w k_o k_isKept k_went k_wentMany k_waiting k_came k_depth k_isSilent k_x k_packed k_hits k_rues k_soonest k_inAll) H → va_D A (MX10 cI cZ cL cW a0 a1 a2 a3 a4 a5 a6 k_thrown k_w k_o k_isKept k_went k_wentMany k_waiting k_came k_depth k_isSilent k_x k_packed k_hits k_rues k_soonest k_inAll) → va_S A s.heap H locs → lv_has ls 8 [(0, .ref a0), (1, .int v1), (2, .int v2), (3, .int v3)] → (∀ (H : Heap) (locs : List Loc) (ls : Array Slot), va_P D vwCl (MX10 cI cZ cL cW a0 a1 a2 a3 a4 a5 a6 k_thrown (k_w') k_o k_isKept (k_went') (k_wentMany') (k_waiting') (k_came') k_depth k_isSilent k_x k_packed (k_hits') (k_rues') (k_soonest') k_inAll) H → va_D A (MX10 cI cZ cL cW a0 a1 a2 a3 a4 a5 a6 k_thrown (k_w') k_o k_isKept (k_went') (k_wentMany') (k_waiting') (k_came') k_depth k_isSilent k_x k_packed (k_hits') (k_rues') (k_soonest') k_inAll) → va_S A s.heap H locs → lv_has ls 8 [] → W p l e rm_X10_goesThrough s m args below meth c H locs 0 0 Q (F0 m 199 ls [])) → W p l e rm_X10_goesThrough s m args below meth c H locs 0 0 Q (F0 m 58 ls []) := by
    intro Q n
    induction n with
    | zero => intro v1 v2 v3 k_thrown k_w k_o k_isKept k_went k_wentMany k_waiting k_came k_depth k_isSilent k_x k_packed k_hits k_rues k_soonest k_inAll k_w' k_went' k_wentMany' k_waiting' k_came' k_hits' k_rues' k_soonest' H locs ls hf hP hD hS hl hk; exact nn_s hf
    | succ n ih =>
      intro v1 v2 v3 k_thrown k_w k_o k_isKept k_went k_wentMany k_waiting k_came k_depth k_isSilent k_x k_packed k_hits k_rues k_soonest k_inAll k_w' k_went' k_wentMany' k_waiting' k_came' k_hits' k_rues' k_soonest' H locs ls hf hP hD hS hl hk
      refine lv_iload_n hx hb dX10_goesThrough_58 rfl (lv_at hl 3 rfl) ?_
      refine lv_aload_n hx hb dX10_goesThrough_59 rfl (lv_at hl 0 rfl) ?_
      refine gf_X10 (v := .ref a1) C hE hP 0 1 rfl (by decide) qF_X10_17 rfl dX10_goesThrough_60 ?_
      refine lv_bipush (v := 14) hx hb dX10_goesThrough_63 (by decide) ?_
      refine va_iald hx hb hE.1 hP 1 0 rfl rfl (vp_l (by decide)) dX10_goesThrough_65 ?_
      refine lv_icmp_ge (tgt := 199) hx hb dX10_goesThrough_66 (by decide) (fun c87 => ?_) (fun c87 => ?_)
      · have hf := it_p hf c87
        cases hf
        exact hk _ _ ls hP hD hS (lv_sub hl [] rfl)
      · have hf := it_n hf c87
        refine lv_aload_n hx hb dX10_goesThrough_69 rfl (lv_at hl 0 rfl) ?_
        refine gf_X10 (v := .ref a1) C hE hP 0 1 rfl (by decide) qF_X10_17 rfl dX10_goesThrough_70 ?_
        refine lv_sipush (v := 748) hx hb dX10_goesThrough_73 (by decide) ?_
        refine lv_iload_n hx hb dX10_goesThrough_76 rfl (lv_at hl 3 rfl) ?_
        refine lv_iadd hx hb dX10_goesThrough_77 ?_
        obtain ⟨g86, hf⟩ := it_g hf
        refine va_iald hx hb hE.1 hP 1 0 rfl rfl g86 dX10_goesThrough_78 ?_
        refine lv_istore (lv' := [(4, .int (k_w (Int32.toNatClampNeg (748 + v3)))), (0, .ref a0), (1, .int v1), (2, .int v2), (3, .int v3)]) hx hb dX10_goesThrough_79 hl (by decide) rfl (fun ls hl => ?_)
        refine lv_aload_n hx hb dX10_goesThrough_81 rfl (lv_at hl 1 rfl) ?_
        refine gf_X10 (v := .int k_wentMany) C hE hP 0 5 rfl (by decide) qF_X10_95 rfl dX10_goesThrough_82 ?_
        refine lv_istore (lv' := [(5, .int k_wentMany), (4, .int (k_w (Int32.toNatClampNeg (748 + v3)))), (0, .ref a0), (1, .int v1), (2, .int v2), (3, .int v3)]) hx hb dX10_goesThrough_85 hl (by decide) rfl (fun ls hl => ?_)
        refine lv_aload_n hx hb dX10_goesThrough_87 rfl (lv_at hl 2 rfl) ?_
        refine lv_iload hx hb dX10_goesThrough_88 (lv_at hl 1 rfl) ?_
        obtain ⟨r5, h6, hf⟩ := bd_s hf
        refine iv_R (rest := []) (st1 := [.int r5]) C hE hP (c_X10_entryOf l D cI cZ cL cW F a0 a1 a2 a3 a4 a5 a6 k_thrown k_w k_o k_isKept k_went k_wentMany k_waiting k_came k_depth k_isSilent k_x k_packed k_hits k_rues k_soonest k_inAll (k_w (Int32.toNatClampNeg (748 + v3))) r5  h6) ok_X10_entryOf qM_X10_118 rfl rfl ⟨(Nat.le_of_ble_eq_true rfl), (Nat.le_of_ble_eq_true rfl)⟩ rfl rfl hl.1 (Nat.le_of_ble_eq_true rfl) ⟨Nat.zero_le _, Nat.zero_le _⟩ dX10_goesThrough_90 rfl rfl ?_
        refine lv_iconst (v := (-1)) hx hb dX10_goesThrough_93 (by decide) ?_
        refine lv_icmp_eq (tgt := 101) hx hb dX10_goesThrough_94 (by decide) (fun c85 => ?_) (fun c85 => ?_)
        · have hf := it_p hf c85
          refine lv_iconst (v := 0) hx hb dX10_goesThrough_101 (by decide) ?_
          refine lv_istore (lv' := [(6, .int 0), (5, .int k_wentMany), (4, .int (k_w (Int32.toNatClampNeg (748 + v3)))), (0, .ref a0), (1, .int v1), (2, .int v2), (3, .int v3)]) hx hb dX10_goesThrough_102 hl (by decide) rfl (fun ls hl => ?_)
          refine lv_aload_n hx hb dX10_goesThrough_104 rfl (lv_at hl 3 rfl) ?_
          refine lv_dup hx hb dX10_goesThrough_105 rfl ?_
          refine gf_X10 (v := .int k_hits) C hE hP 0 12 rfl (by decide) qF_X10_295 rfl dX10_goesThrough_106 ?_
          refine lv_iload hx hb dX10_goesThrough_109 (lv_at hl 0 rfl) ?_
          obtain ⟨r7, h8, hf⟩ := bd_s hf
          refine is_R (rest := [.int k_hits, .ref a0]) (st1 := [.int r7, .int k_hits, .ref a0]) C hE va_P_nil (c_X10_flag l D cI cZ cL cW F   0 r7  h8) ok_X10_flag qM_X10_57 rfl rfl ⟨(Nat.le_of_ble_eq_true rfl), (Nat.le_of_ble_eq_true rfl)⟩ hl.1 (Nat.le_of_ble_eq_true rfl) ⟨Nat.zero_le _, Nat.zero_le _⟩ dX10_goesThrough_111 rfl rfl ?_
          refine lv_iadd hx hb dX10_goesThrough_114 ?_
          refine pf_X10 (v := .int (k_hits + r7)) C hE hP hD hS 0 12 rfl (by decide) qF_X10_295 rfl rfl rfl (Nat.le_of_ble_eq_true rfl) dX10_goesThrough_115 (fun H locs (hP : va_P D vwCl (MX10 cI cZ cL cW a0 a1 a2 a3 a4 a5 a6 k_thrown k_w k_o k_isKept k_went k_wentMany k_waiting k_came k_depth k_isSilent k_x k_packed (k_hits + r7) k_rues k_soonest k_inAll) H) (hD : va_D A (MX10 cI cZ cL cW a0 a1 a2 a3 a4 a5 a6 k_thrown k_w k_o k_isKept k_went k_wentMany k_waiting k_came k_depth k_isSilent k_x k_packed (k_hits + r7) k_rues k_soonest k_inAll)) hS => ?_)
          refine lv_iload_n hx hb dX10_goesThrough_118 rfl (lv_at hl 4 rfl) ?_
          refine lv_iconst (v := 5) hx hb dX10_goesThrough_119 (by decide) ?_
          refine lv_icmp_ne (tgt := 152) hx hb dX10_goesThrough_120 (by decide) (fun c61 => ?_) (fun c61 => ?_)
          · have hf := it_n hf c61
            refine lv_aload_n hx hb dX10_goesThrough_152 rfl (lv_at hl 3 rfl) ?_
            refine lv_iload hx hb dX10_goesThrough_153 (lv_at hl 2 rfl) ?_
            refine lv_iconst (v := 0) hx hb dX10_goesThrough_155 (by decide) ?_
            refine lv_iconst (v := 1) hx hb dX10_goesThrough_156 (by decide) ?_
            refine lv_iconst (v := (-1)) hx hb dX10_goesThrough_157 (by decide) ?_
            obtain ⟨⟨r9, k_w_10, k_went_11, k_wentMany_12, k_waiting_13, k_came_14⟩, h15, hf⟩ := bd_s hf
            refine iv_A (rest := []) (st1 := [.int r9]) C hE hP hD hS hA (c_X10_puts l D cI cZ cL cW F a0 a1 a2 a3 a4 a5 a6 k_thrown k_w k_o k_isKept k_went k_wentMany k_waiting k_came k_depth k_isSilent k_x k_packed (k_hits + r7) k_rues k_soonest k_inAll (k_w (Int32.toNatClampNeg (748 + v3))) 0 1 (-1) r9 k_w_10 k_went_11 k_wentMany_12 k_waiting_13 k_came_14 h15) ok_X10_puts qM_X10_133 rfl rfl ⟨(Nat.le_of_ble_eq_true rfl), (Nat.le_of_ble_eq_true rfl)⟩ rfl rfl hl.1 (Nat.le_of_ble_eq_true rfl) ⟨Nat.zero_le _, Nat.zero_le _⟩ dX10_goesThrough_158 rfl rfl (fun H locs (hP : va_P D vwCl (MX10 cI cZ cL cW a0 a1 a2 a3 a4 a5 a6 k_thrown k_w_10 k_o k_isKept k_went_11 k_wentMany_12 k_waiting_13 k_came_14 k_depth k_isSilent k_x k_packed (k_hits + r7) k_rues k_soonest k_inAll) H) (hD : va_D A (MX10 cI cZ cL cW a0 a1 a2 a3 a4 a5 a6 k_thrown k_w_10 k_o k_isKept k_went_11 k_wentMany_12 k_waiting_13 k_came_14 k_depth k_isSilent k_x k_packed (k_hits + r7) k_rues k_soonest k_inAll)) hS => ?_)
            refine lv_pop hx hb dX10_goesThrough_161 rfl ?_
            refine lv_iload hx hb dX10_goesThrough_162 (lv_at hl 1 rfl) ?_
            refine lv_istore (lv' := [(7, .int k_wentMany), (6, .int 0), (5, .int k_wentMany), (4, .int (k_w (Int32.toNatClampNeg (748 + v3)))), (0, .ref a0), (1, .int v1), (2, .int v2), (3, .int v3)]) hx hb dX10_goesThrough_164 hl (by decide) rfl (fun ls hl => ?_)
            obtain ⟨⟨k21, k22⟩, h23, hf⟩ := bd_s hf
            refine L166 _ F v1 v2 v3 k_wentMany k_thrown k_w_10 k_o k_isKept k_went_11 k_wentMany_12 k_waiting_13 k_came_14 k_depth k_isSilent k_x k_packed (k_hits + r7) k_rues k_soonest k_inAll k21 k22 _ _ ls h23 hP hD hS (lv_sub hl [4, 5, 6, 7, 0] rfl) (fun H locs ls hP hD hS hl => ?_)
            refine lv_iinc (v := (v3 + 1)) (lv' := [(3, .int (v3 + 1)), (0, .ref a0), (1, .int v1), (2, .int v2)]) hx hb dX10_goesThrough_193 hl (k := 3) rfl rfl (by decide) rfl (fun ls hl => ?_)
            refine lv_goto (tgt := 58) hx hb dX10_goesThrough_196 (by decide) ?_
            exact ih v1 v2 (v3 + 1) k_thrown k_w_10 k_o k_isKept k_went_11 k_wentMany_12 k_waiting_13 k_came_14 k_depth k_isSilent k_x k_packed (k_hits + r7) k21 k22 k_inAll _ _ _ _ _ _ _ _ _ _ ls hf hP hD hS (lv_sub hl [1, 2, 3, 0] rfl) hk
          · have hf := it_p hf c61
            refine lv_iload hx hb dX10_goesThrough_123 (lv_at hl 0 rfl) ?_
            refine lv_if_ne (tgt := 152) hx hb dX10_goesThrough_125 (by decide) (fun c => absurd c (by decide)) (fun c => ?_)
            refine lv_iload_n hx hb dX10_goesThrough_128 rfl (lv_at hl 5 rfl) ?_
            refine lv_if_le (tgt := 152) hx hb dX10_goesThrough_129 (by decide) (fun c60 => ?_) (fun c60 => ?_)
            · have hf := it_p hf c60
              refine lv_aload_n hx hb dX10_goesThrough_152 rfl (lv_at hl 3 rfl) ?_
              refine lv_iload hx hb dX10_goesThrough_153 (lv_at hl 2 rfl) ?_
              refine lv_iconst (v := 0) hx hb dX10_goesThrough_155 (by decide) ?_
              refine lv_iconst (v := 1) hx hb dX10_goesThrough_156 (by decide) ?_
              refine lv_iconst (v := (-1)) hx hb dX10_goesThrough_157 (by decide) ?_
              obtain ⟨⟨r24, k_w_25, k_went_26, k_wentMany_27, k_waiting_28, k_came_29⟩, h30, hf⟩ := bd_s hf
              refine iv_A (rest := []) (st1 := [.int r24]) C hE hP hD hS hA (c_X10_puts l D cI cZ cL cW F a0 a1 a2 a3 a4 a5 a6 k_thrown k_w k_o k_isKept k_went k_wentMany k_waiting k_came k_depth k_isSilent k_x k_packed (k_hits + r7) k_rues k_soonest k_inAll (k_w (Int32.toNatClampNeg (748 + v3))) 0 1 (-1) r24 k_w_25 k_went_26 k_wentMany_27 k_waiting_28 k_came_29 h30) ok_X10_puts qM_X10_133 rfl rfl ⟨(Nat.le_of_ble_eq_true rfl), (Nat.le_of_ble_eq_true rfl)⟩ rfl rfl hl.1 (Nat.le_of_ble_eq_true rfl) ⟨Nat.zero_le _, Nat.zero_le _⟩ dX10_goesThrough_158 rfl rfl (fun H locs (hP : va_P D vwCl (MX10 cI cZ cL cW a0 a1 a2 a3 a4 a5 a6 k_thrown k_w_25 k_o k_isKept k_went_26 k_wentMany_27 k_waiting_28 k_came_29 k_depth k_isSilent k_x k_packed (k_hits + r7) k_rues k_soonest k_inAll) H) (hD : va_D A (MX10 cI cZ cL cW a0 a1 a2 a3 a4 a5 a6 k_thrown k_w_25 k_o k_isKept k_went_26 k_wentMany_27 k_waiting_28 k_came_29 k_depth k_isSilent k_x k_packed (k_hits + r7) k_rues k_soonest k_inAll)) hS => ?_)
              refine lv_pop hx hb dX10_goesThrough_161 rfl ?_
              refine lv_iload hx hb dX10_goesThrough_162 (lv_at hl 1 rfl) ?_
              refine lv_istore (lv' := [(7, .int k_wentMany), (6, .int 0), (5, .int k_wentMany), (4, .int (k_w (Int32.toNatClampNeg (748 + v3)))), (0, .ref a0), (1, .int v1), (2, .int v2), (3, .int v3)]) hx hb dX10_goesThrough_164 hl (by decide) rfl (fun ls hl => ?_)
              obtain ⟨⟨k31, k32⟩, h33, hf⟩ := bd_s hf
              refine L166 _ F v1 v2 v3 k_wentMany k_thrown k_w_25 k_o k_isKept k_went_26 k_wentMany_27 k_waiting_28 k_came_29 k_depth k_isSilent k_x k_packed (k_hits + r7) k_rues k_soonest k_inAll k31 k32 _ _ ls h33 hP hD hS (lv_sub hl [4, 5, 6, 7, 0] rfl) (fun H locs ls hP hD hS hl => ?_)
              refine lv_iinc (v := (v3 + 1)) (lv' := [(3, .int (v3 + 1)), (0, .ref a0), (1, .int v1), (2, .int v2)]) hx hb dX10_goesThrough_193 hl (k := 3) rfl rfl (by decide) rfl (fun ls hl => ?_)
              refine lv_goto (tgt := 58) hx hb dX10_goesThrough_196 (by decide) ?_
              exact ih v1 v2 (v3 + 1) k_thrown k_w_25 k_o k_isKept k_went_26 k_wentMany_27 k_waiting_28 k_came_29 k_depth k_isSilent k_x k_packed (k_hits + r7) k31 k32 k_inAll _ _ _ _ _ _ _ _ _ _ ls hf hP hD hS (lv_sub hl [1, 2, 3, 0] rfl) hk
            · have hf := it_n hf c60
              refine lv_aload_n hx hb dX10_goesThrough_132 rfl (lv_at hl 3 rfl) ?_
              refine gf_X10 (v := .ref a1) C hE hP 0 1 rfl (by decide) qF_X10_17 rfl dX10_goesThrough_133 ?_
              refine lv_aload_n hx hb dX10_goesThrough_136 rfl (lv_at hl 3 rfl) ?_
              refine gf_X10 (v := .int k_o) C hE hP 0 2 rfl (by decide) qF_X10_41 rfl dX10_goesThrough_137 ?_
              refine lv_iconst (v := 0) hx hb dX10_goesThrough_140 (by decide) ?_
              refine lv_iadd hx hb dX10_goesThrough_141 ?_
              obtain ⟨g59, hf⟩ := it_g hf
              refine va_iald hx hb hE.1 hP 1 0 rfl rfl g59 dX10_goesThrough_142 ?_
              refine lv_iload_n hx hb dX10_goesThrough_143 rfl (lv_at hl 5 rfl) ?_
              refine lv_icmp_ne (tgt := 152) hx hb dX10_goesThrough_144 (by decide) (fun c58 => ?_) (fun c58 => ?_)
              · have hf := it_n hf c58
                refine lv_aload_n hx hb dX10_goesThrough_152 rfl (lv_at hl 3 rfl) ?_
                refine lv_iload hx hb dX10_goesThrough_153 (lv_at hl 2 rfl) ?_
                refine lv_iconst (v := 0) hx hb dX10_goesThrough_155 (by decide) ?_
                refine lv_iconst (v := 1) hx hb dX10_goesThrough_156 (by decide) ?_
                refine lv_iconst (v := (-1)) hx hb dX10_goesThrough_157 (by decide) ?_
                obtain ⟨⟨r34, k_w_35, k_went_36, k_wentMany_37, k_waiting_38, k_came_39⟩, h40, hf⟩ := bd_s hf
                refine iv_A (rest := []) (st1 := [.int r34]) C hE hP hD hS hA (c_X10_puts l D cI cZ cL cW F a0 a1 a2 a3 a4 a5 a6 k_thrown k_w k_o k_isKept k_went k_wentMany k_waiting k_came k_depth k_isSilent k_x k_packed (k_hits + r7) k_rues k_soonest k_inAll (k_w (Int32.toNatClampNeg (748 + v3))) 0 1 (-1) r34 k_w_35 k_went_36 k_wentMany_37 k_waiting_38 k_came_39 h40) ok_X10_puts qM_X10_133 rfl rfl ⟨(Nat.le_of_ble_eq_true rfl), (Nat.le_of_ble_eq_true rfl)⟩ rfl rfl hl.1 (Nat.le_of_ble_eq_true rfl) ⟨Nat.zero_le _, Nat.zero_le _⟩ dX10_goesThrough_158 rfl rfl (fun H locs (hP : va_P D vwCl (MX10 cI cZ cL cW a0 a1 a2 a3 a4 a5 a6 k_thrown k_w_35 k_o k_isKept k_went_36 k_wentMany_37 k_waiting_38 k_came_39 k_depth k_isSilent k_x k_packed (k_hits + r7) k_rues k_soonest k_inAll) H) (hD : va_D A (MX10 cI cZ cL cW a0 a1 a2 a3 a4 a5 a6 k_thrown k_w_35 k_o k_isKept k_went_36 k_wentMany_37 k_waiting_38 k_came_39 k_depth k_isSilent k_x k_packed (k_hits + r7) k_rues k_soonest k_inAll)) hS => ?_)
                refine lv_pop hx hb dX10_goesThrough_161 rfl ?_
                refine lv_iload hx hb dX10_goesThrough_162 (lv_at hl 1 rfl) ?_
                refine lv_istore (lv' := [(7, .int k_wentMany), (6, .int 0), (5, .int k_wentMany), (4, .int (k_w (Int32.toNatClampNeg (748 + v3)))), (0, .ref a0), (1, .int v1), (2, .int v2), (3, .int v3)]) hx hb dX10_goesThrough_164 hl (by decide) rfl (fun ls hl => ?_)
                obtain ⟨⟨k41, k42⟩, h43, hf⟩ := bd_s hf
                refine L166 _ F v1 v2 v3 k_wentMany k_thrown k_w_35 k_o k_isKept k_went_36 k_wentMany_37 k_waiting_38 k_came_39 k_depth k_isSilent k_x k_packed (k_hits + r7) k_rues k_soonest k_inAll k41 k42 _ _ ls h43 hP hD hS (lv_sub hl [4, 5, 6, 7, 0] rfl) (fun H locs ls hP hD hS hl => ?_)
                refine lv_iinc (v := (v3 + 1)) (lv' := [(3, .int (v3 + 1)), (0, .ref a0), (1, .int v1), (2, .int v2)]) hx hb dX10_goesThrough_193 hl (k := 3) rfl rfl (by decide) rfl (fun ls hl => ?_)
                refine lv_goto (tgt := 58) hx hb dX10_goesThrough_196 (by decide) ?_
                exact ih v1 v2 (v3 + 1) k_thrown k_w_35 k_o k_isKept k_went_36 k_wentMany_37 k_waiting_38 k_came_39 k_depth k_isSilent k_x k_packed (k_hits + r7) k41 k42 k_inAll _ _ _ _ _ _ _ _ _ _ ls hf hP hD hS (lv_sub hl [1, 2, 3, 0] rfl) hk
              · have hf := it_p hf c58
                refine lv_aload_n hx hb dX10_goesThrough_147 rfl (lv_at hl 3 rfl) ?_
                refine lv_iload_n hx hb dX10_goesThrough_148 rfl (lv_at hl 6 rfl) ?_
                obtain ⟨⟨k_w_44, k_went_45, k_wentMany_46⟩, h47, hf⟩ := bd_s hf
                refine iv_A (rest := []) (st1 := []) C hE hP hD hS hA (c_X10_goesFarthest l D cI cZ cL cW F a0 a1 a2 a3 a4 a5 a6 k_thrown k_w k_o k_isKept k_went k_wentMany k_waiting k_came k_depth k_isSilent k_x k_packed (k_hits + r7) k_rues k_soonest k_inAll v3  k_w_44 k_went_45 k_wentMany_46 h47) ok_X10_goesFarthest qM_X10_298 rfl rfl ⟨(Nat.le_of_ble_eq_true rfl), (Nat.le_of_ble_eq_true rfl)⟩ rfl rfl hl.1 (Nat.le_of_ble_eq_true rfl) ⟨Nat.zero_le _, Nat.zero_le _⟩ dX10_goesThrough_149 rfl rfl (fun H locs (hP : va_P D vwCl (MX10 cI cZ cL cW a0 a1 a2 a3 a4 a5 a6 k_thrown k_w_44 k_o k_isKept k_went_45 k_wentMany_46 k_waiting k_came k_depth k_isSilent k_x k_packed (k_hits + r7) k_rues k_soonest k_inAll) H) (hD : va_D A (MX10 cI cZ cL cW a0 a1 a2 a3 a4 a5 a6 k_thrown k_w_44 k_o k_isKept k_went_45 k_wentMany_46 k_waiting k_came k_depth k_isSilent k_x k_packed (k_hits + r7) k_rues k_soonest k_inAll)) hS => ?_)
                refine lv_aload_n hx hb dX10_goesThrough_152 rfl (lv_at hl 3 rfl) ?_
                refine lv_iload hx hb dX10_goesThrough_153 (lv_at hl 2 rfl) ?_
                refine lv_iconst (v := 0) hx hb dX10_goesThrough_155 (by decide) ?_
                refine lv_iconst (v := 1) hx hb dX10_goesThrough_156 (by decide) ?_
                refine lv_iconst (v := (-1)) hx hb dX10_goesThrough_157 (by decide) ?_
                obtain ⟨⟨r48, k_w_49, k_went_50, k_wentMany_51, k_waiting_52, k_came_53⟩, h54, hf⟩ := bd_s hf
                refine iv_A (rest := []) (st1 := [.int r48]) C hE hP hD hS hA (c_X10_puts l D cI cZ cL cW F a0 a1 a2 a3 a4 a5 a6 k_thrown k_w_44 k_o k_isKept k_went_45 k_wentMany_46 k_waiting k_came k_depth k_isSilent k_x k_packed (k_hits + r7) k_rues k_soonest k_inAll (k_w (Int32.toNatClampNeg (748 + v3))) 0 1 (-1) r48 k_w_49 k_went_50 k_wentMany_51 k_waiting_52 k_came_53 h54) ok_X10_puts qM_X10_133 rfl rfl ⟨(Nat.le_of_ble_eq_true rfl), (Nat.le_of_ble_eq_true rfl)⟩ rfl rfl hl.1 (Nat.le_of_ble_eq_true rfl) ⟨Nat.zero_le _, Nat.zero_le _⟩ dX10_goesThrough_158 rfl rfl (fun H locs (hP : va_P D vwCl (MX10 cI cZ cL cW a0 a1 a2 a3 a4 a5 a6 k_thrown k_w_49 k_o k_isKept k_went_50 k_wentMany_51 k_waiting_52 k_came_53 k_depth k_isSilent k_x k_packed (k_hits + r7) k_rues k_soonest k_inAll) H) (hD : va_D A (MX10 cI cZ cL cW a0 a1 a2 a3 a4 a5 a6 k_thrown k_w_49 k_o k_isKept k_went_50 k_wentMany_51 k_waiting_52 k_came_53 k_depth k_isSilent k_x k_packed (k_hits + r7) k_rues k_soonest k_inAll)) hS => ?_)
                refine lv_pop hx hb dX10_goesThrough_161 rfl ?_
                refine lv_iload hx hb dX10_goesThrough_162 (lv_at hl 1 rfl) ?_
                refine lv_istore (lv' := [(7, .int k_wentMany), (6, .int 0), (5, .int k_wentMany), (4, .int (k_w (Int32.toNatClampNeg (748 + v3)))), (0, .ref a0), (1, .int v1), (2, .int v2), (3, .int v3)]) hx hb dX10_goesThrough_164 hl (by decide) rfl (fun ls hl => ?_)
                obtain ⟨⟨k55, k56⟩, h57, hf⟩ := bd_s hf
                refine L166 _ F v1 v2 v3 k_wentMany k_thrown k_w_49 k_o k_isKept k_went_50 k_wentMany_51 k_waiting_52 k_came_53 k_depth k_isSilent k_x k_packed (k_hits + r7) k_rues k_soonest k_inAll k55 k56 _ _ ls h57 hP hD hS (lv_sub hl [4, 5, 6, 7, 0] rfl) (fun H locs ls hP hD hS hl => ?_)
                refine lv_iinc (v := (v3 + 1)) (lv' := [(3, .int (v3 + 1)), (0, .ref a0), (1, .int v1), (2, .int v2)]) hx hb dX10_goesThrough_193 hl (k := 3) rfl rfl (by decide) rfl (fun ls hl => ?_)
                refine lv_goto (tgt := 58) hx hb dX10_goesThrough_196 (by decide) ?_
                exact ih v1 v2 (v3 + 1) k_thrown k_w_49 k_o k_isKept k_went_50 k_wentMany_51 k_waiting_52 k_came_53 k_depth k_isSilent k_x k_packed (k_hits + r7) k55 k56 k_inAll _ _ _ _ _ _ _ _ _ _ ls hf hP hD hS (lv_sub hl [1, 2, 3, 0] rfl) hk
        · have hf := it_n hf c85
          refine lv_iconst (v := 1) hx hb dX10_goesThrough_97 (by decide) ?_
          refine lv_goto (tgt := 102) hx hb dX10_goesThrough_98 (by decide) ?_
          refine lv_istore (lv' := [(6, .int 1), (5, .int k_wentMany), (4, .int (k_w (Int32.toNatClampNeg (748 + v3)))), (0, .ref a0), (1, .int v1), (2, .int v2), (3, .int v3)]) hx hb dX10_goesThrough_102 hl (by decide) rfl (fun ls hl => ?_)
          refine lv_aload_n hx hb dX10_goesThrough_104 rfl (lv_at hl 3 rfl) ?_
          refine lv_dup hx hb dX10_goesThrough_105 rfl ?_
          refine gf_X10 (v := .int k_hits) C hE hP 0 12 rfl (by decide) qF_X10_295 rfl dX10_goesThrough_106 ?_
          refine lv_iload hx hb dX10_goesThrough_109 (lv_at hl 0 rfl) ?_
          obtain ⟨r62, h63, hf⟩ := bd_s hf
          refine is_R (rest := [.int k_hits, .ref a0]) (st1 := [.int r62, .int k_hits, .ref a0]) C hE va_P_nil (c_X10_flag l D cI cZ cL cW F   1 r62  h63) ok_X10_flag qM_X10_57 rfl rfl ⟨(Nat.le_of_ble_eq_true rfl), (Nat.le_of_ble_eq_true rfl)⟩ hl.1 (Nat.le_of_ble_eq_true rfl) ⟨Nat.zero_le _, Nat.zero_le _⟩ dX10_goesThrough_111 rfl rfl ?_
          refine lv_iadd hx hb dX10_goesThrough_114 ?_
          refine pf_X10 (v := .int (k_hits + r62)) C hE hP hD hS 0 12 rfl (by decide) qF_X10_295 rfl rfl rfl (Nat.le_of_ble_eq_true rfl) dX10_goesThrough_115 (fun H locs (hP : va_P D vwCl (MX10 cI cZ cL cW a0 a1 a2 a3 a4 a5 a6 k_thrown k_w k_o k_isKept k_went k_wentMany k_waiting k_came k_depth k_isSilent k_x k_packed (k_hits + r62) k_rues k_soonest k_inAll) H) (hD : va_D A (MX10 cI cZ cL cW a0 a1 a2 a3 a4 a5 a6 k_thrown k_w k_o k_isKept k_went k_wentMany k_waiting k_came k_depth k_isSilent k_x k_packed (k_hits + r62) k_rues k_soonest k_inAll)) hS => ?_)
          refine lv_iload_n hx hb dX10_goesThrough_118 rfl (lv_at hl 4 rfl) ?_
          refine lv_iconst (v := 5) hx hb dX10_goesThrough_119 (by decide) ?_
          refine lv_icmp_ne (tgt := 152) hx hb dX10_goesThrough_120 (by decide) (fun c84 => ?_) (fun c84 => ?_)
          · have hf := it_n hf c84
            refine lv_aload_n hx hb dX10_goesThrough_152 rfl (lv_at hl 3 rfl) ?_
            refine lv_iload hx hb dX10_goesThrough_153 (lv_at hl 2 rfl) ?_
            refine lv_iconst (v := 0) hx hb dX10_goesThrough_155 (by decide) ?_
            refine lv_iconst (v := 1) hx hb dX10_goesThrough_156 (by decide) ?_
            refine lv_iconst (v := (-1)) hx hb dX10_goesThrough_157 (by decide) ?_
            obtain ⟨⟨r64, k_w_65, k_went_66, k_wentMany_67, k_waiting_68, k_came_69⟩, h70, hf⟩ := bd_s hf
            refine iv_A (rest := []) (st1 := [.int r64]) C hE hP hD hS hA (c_X10_puts l D cI cZ cL cW F a0 a1 a2 a3 a4 a5 a6 k_thrown k_w k_o k_isKept k_went k_wentMany k_waiting k_came k_depth k_isSilent k_x k_packed (k_hits + r62) k_rues k_soonest k_inAll (k_w (Int32.toNatClampNeg (748 + v3))) 0 1 (-1) r64 k_w_65 k_went_66 k_wentMany_67 k_waiting_68 k_came_69 h70) ok_X10_puts qM_X10_133 rfl rfl ⟨(Nat.le_of_ble_eq_true rfl), (Nat.le_of_ble_eq_true rfl)⟩ rfl rfl hl.1 (Nat.le_of_ble_eq_true rfl) ⟨Nat.zero_le _, Nat.zero_le _⟩ dX10_goesThrough_158 rfl rfl (fun H locs (hP : va_P D vwCl (MX10 cI cZ cL cW a0 a1 a2 a3 a4 a5 a6 k_thrown k_w_65 k_o k_isKept k_went_66 k_wentMany_67 k_waiting_68 k_came_69 k_depth k_isSilent k_x k_packed (k_hits + r62) k_rues k_soonest k_inAll) H) (hD : va_D A (MX10 cI cZ cL cW a0 a1 a2 a3 a4 a5 a6 k_thrown k_w_65 k_o k_isKept k_went_66 k_wentMany_67 k_waiting_68 k_came_69 k_depth k_isSilent k_x k_packed (k_hits + r62) k_rues k_soonest k_inAll)) hS => ?_)
            refine lv_pop hx hb dX10_goesThrough_161 rfl ?_
            refine lv_iload hx hb dX10_goesThrough_162 (lv_at hl 1 rfl) ?_
            refine lv_istore (lv' := [(7, .int k_wentMany), (6, .int 1), (5, .int k_wentMany), (4, .int (k_w (Int32.toNatClampNeg (748 + v3)))), (0, .ref a0), (1, .int v1), (2, .int v2), (3, .int v3)]) hx hb dX10_goesThrough_164 hl (by decide) rfl (fun ls hl => ?_)
            obtain ⟨⟨k71, k72⟩, h73, hf⟩ := bd_s hf
            refine L166 _ F v1 v2 v3 k_wentMany k_thrown k_w_65 k_o k_isKept k_went_66 k_wentMany_67 k_waiting_68 k_came_69 k_depth k_isSilent k_x k_packed (k_hits + r62) k_rues k_soonest k_inAll k71 k72 _ _ ls h73 hP hD hS (lv_sub hl [4, 5, 6, 7, 0] rfl) (fun H locs ls hP hD hS hl => ?_)
            refine lv_iinc (v := (v3 + 1)) (lv' := [(3, .int (v3 + 1)), (0, .ref a0), (1, .int v1), (2, .int v2)]) hx hb dX10_goesThrough_193 hl (k := 3) rfl rfl (by decide) rfl (fun ls hl => ?_)
            refine lv_goto (tgt := 58) hx hb dX10_goesThrough_196 (by decide) ?_
            exact ih v1 v2 (v3 + 1) k_thrown k_w_65 k_o k_isKept k_went_66 k_wentMany_67 k_waiting_68 k_came_69 k_depth k_isSilent k_x k_packed (k_hits + r62) k71 k72 k_inAll _ _ _ _ _ _ _ _ _ _ ls hf hP hD hS (lv_sub hl [1, 2, 3, 0] rfl) hk
          · have hf := it_p hf c84
            refine lv_iload hx hb dX10_goesThrough_123 (lv_at hl 0 rfl) ?_
            refine lv_if_ne (tgt := 152) hx hb dX10_goesThrough_125 (by decide) (fun c => ?_) (fun c => absurd c (by decide))
            refine lv_aload_n hx hb dX10_goesThrough_152 rfl (lv_at hl 3 rfl) ?_
            refine lv_iload hx hb dX10_goesThrough_153 (lv_at hl 2 rfl) ?_
            refine lv_iconst (v := 0) hx hb dX10_goesThrough_155 (by decide) ?_
            refine lv_iconst (v := 1) hx hb dX10_goesThrough_156 (by decide) ?_
            refine lv_iconst (v := (-1)) hx hb dX10_goesThrough_157 (by decide) ?_
            obtain ⟨⟨r74, k_w_75, k_went_76, k_wentMany_77, k_waiting_78, k_came_79⟩, h80, hf⟩ := bd_s hf
            refine iv_A (rest := []) (st1 := [.int r74]) C hE hP hD hS hA (c_X10_puts l D cI cZ cL cW F a0 a1 a2 a3 a4 a5 a6 k_thrown k_w k_o k_isKept k_went k_wentMany k_waiting k_came k_depth k_isSilent k_x k_packed (k_hits + r62) k_rues k_soonest k_inAll (k_w (Int32.toNatClampNeg (748 + v3))) 0 1 (-1) r74 k_w_75 k_went_76 k_wentMany_77 k_waiting_78 k_came_79 h80) ok_X10_puts qM_X10_133 rfl rfl ⟨(Nat.le_of_ble_eq_true rfl), (Nat.le_of_ble_eq_true rfl)⟩ rfl rfl hl.1 (Nat.le_of_ble_eq_true rfl) ⟨Nat.zero_le _, Nat.zero_le _⟩ dX10_goesThrough_158 rfl rfl (fun H locs (hP : va_P D vwCl (MX10 cI cZ cL cW a0 a1 a2 a3 a4 a5 a6 k_thrown k_w_75 k_o k_isKept k_went_76 k_wentMany_77 k_waiting_78 k_came_79 k_depth k_isSilent k_x k_packed (k_hits + r62) k_rues k_soonest k_inAll) H) (hD : va_D A (MX10 cI cZ cL cW a0 a1 a2 a3 a4 a5 a6 k_thrown k_w_75 k_o k_isKept k_went_76 k_wentMany_77 k_waiting_78 k_came_79 k_depth k_isSilent k_x k_packed (k_hits + r62) k_rues k_soonest k_inAll)) hS => ?_)
            refine lv_pop hx hb dX10_goesThrough_161 rfl ?_
            refine lv_iload hx hb dX10_goesThrough_162 (lv_at hl 1 rfl) ?_
            refine lv_istore (lv' := [(7, .int k_wentMany), (6, .int 1), (5, .int k_wentMany), (4, .int (k_w (Int32.toNatClampNeg (748 + v3)))), (0, .ref a0), (1, .int v1), (2, .int v2), (3, .int v3)]) hx hb dX10_goesThrough_164 hl (by decide) rfl (fun ls hl => ?_)
            obtain ⟨⟨k81, k82⟩, h83, hf⟩ := bd_s hf
            refine L166 _ F v1 v2 v3 k_wentMany k_thrown k_w_75 k_o k_isKept k_went_76 k_wentMany_77 k_waiting_78 k_came_79 k_depth k_isSilent k_x k_packed (k_hits + r62) k_rues k_soonest k_inAll k81 k82 _ _ ls h83 hP hD hS (lv_sub hl [4, 5, 6, 7, 0] rfl) (fun H locs ls hP hD hS hl => ?_)
            refine lv_iinc (v := (v3 + 1)) (lv' := [(3, .int (v3 + 1)), (0, .ref a0), (1, .int v1), (2, .int v2)]) hx hb dX10_goesThrough_193 hl (k := 3) rfl rfl (by decide) rfl (fun ls hl => ?_)
            refine lv_goto (tgt := 58) hx hb dX10_goesThrough_196 (by decide) ?_
            exact ih v1 v2 (v3 + 1) k_thrown k_w_75 k_o k_isKept k_went_76 k_wentMany_77 k_waiting_78 k_came_79 k_depth k_isSilent k_x k_packed (k_hits + r62) k81 k82 k_inAll _ _ _ _ _ _ _ _ _ _ ls hf hP hD hS (lv_sub hl [1, 2, 3, 0] rfl) hk
  refine lv_aload_n hx hb dX10_goesThrough_0 rfl (lv_at hl 0 rfl) ?_
  refine lv_sipush (v := 2544) hx hb dX10_goesThrough_1 (by decide) ?_
  refine pf_X10 (v := .int 2544) C hE hP hD hS 0 2 rfl (by decide) qF_X10_41 rfl rfl rfl (Nat.le_of_ble_eq_true rfl) dX10_goesThrough_4 (fun H locs (hP : va_P D vwCl (MX10 cI cZ cL cW a0 a1 a2 a3 a4 a5 a6 k_thrown k_w 2544 k_isKept k_went k_wentMany k_waiting k_came k_depth k_isSilent k_x k_packed k_hits k_rues k_soonest k_inAll) H) (hD : va_D A (MX10 cI cZ cL cW a0 a1 a2 a3 a4 a5 a6 k_thrown k_w 2544 k_isKept k_went k_wentMany k_waiting k_came k_depth k_isSilent k_x k_packed k_hits k_rues k_soonest k_inAll)) hS => ?_)
  refine lv_aload_n hx hb dX10_goesThrough_7 rfl (lv_at hl 0 rfl) ?_
  refine lv_iconst (v := 1) hx hb dX10_goesThrough_8 (by decide) ?_
  refine pf_X10 (v := .int 1) C hE hP hD hS 0 9 rfl (by decide) qF_X10_105 rfl (by decide) (by decide) (Nat.le_of_ble_eq_true rfl) dX10_goesThrough_9 (fun H locs (hP : va_P D vwCl (MX10 cI cZ cL cW a0 a1 a2 a3 a4 a5 a6 k_thrown k_w 2544 k_isKept k_went k_wentMany k_waiting k_came k_depth 1 k_x k_packed k_hits k_rues k_soonest k_inAll) H) (hD : va_D A (MX10 cI cZ cL cW a0 a1 a2 a3 a4 a5 a6 k_thrown k_w 2544 k_isKept k_went k_wentMany k_waiting k_came k_depth 1 k_x k_packed k_hits k_rues k_soonest k_inAll)) hS => ?_)
  refine lv_aload_n hx hb dX10_goesThrough_12 rfl (lv_at hl 0 rfl) ?_
  refine lv_iconst (v := 0) hx hb dX10_goesThrough_13 (by decide) ?_
  refine pf_X10 (v := .int 0) C hE hP hD hS 0 5 rfl (by decide) qF_X10_95 rfl rfl rfl (Nat.le_of_ble_eq_true rfl) dX10_goesThrough_14 (fun H locs (hP : va_P D vwCl (MX10 cI cZ cL cW a0 a1 a2 a3 a4 a5 a6 k_thrown k_w 2544 k_isKept k_went 0 k_waiting k_came k_depth 1 k_x k_packed k_hits k_rues k_soonest k_inAll) H) (hD : va_D A (MX10 cI cZ cL cW a0 a1 a2 a3 a4 a5 a6 k_thrown k_w 2544 k_isKept k_went 0 k_waiting k_came k_depth 1 k_x k_packed k_hits k_rues k_soonest k_inAll)) hS => ?_)
  refine lv_aload_n hx hb dX10_goesThrough_17 rfl (lv_at hl 0 rfl) ?_
  refine lv_iconst (v := 0) hx hb dX10_goesThrough_18 (by decide) ?_
  refine pf_X10 (v := .int 0) C hE hP hD hS 0 13 rfl (by decide) qF_X10_289 rfl rfl rfl (Nat.le_of_ble_eq_true rfl) dX10_goesThrough_19 (fun H locs (hP : va_P D vwCl (MX10 cI cZ cL cW a0 a1 a2 a3 a4 a5 a6 k_thrown k_w 2544 k_isKept k_went 0 k_waiting k_came k_depth 1 k_x k_packed k_hits 0 k_soonest k_inAll) H) (hD : va_D A (MX10 cI cZ cL cW a0 a1 a2 a3 a4 a5 a6 k_thrown k_w 2544 k_isKept k_went 0 k_waiting k_came k_depth 1 k_x k_packed k_hits 0 k_soonest k_inAll)) hS => ?_)
  refine lv_aload_n hx hb dX10_goesThrough_22 rfl (lv_at hl 0 rfl) ?_
  refine lv_iconst (v := (-1)) hx hb dX10_goesThrough_23 (by decide) ?_
  refine pf_X10 (v := .int (-1)) C hE hP hD hS 0 14 rfl (by decide) qF_X10_292 rfl rfl rfl (Nat.le_of_ble_eq_true rfl) dX10_goesThrough_24 (fun H locs (hP : va_P D vwCl (MX10 cI cZ cL cW a0 a1 a2 a3 a4 a5 a6 k_thrown k_w 2544 k_isKept k_went 0 k_waiting k_came k_depth 1 k_x k_packed k_hits 0 (-1) k_inAll) H) (hD : va_D A (MX10 cI cZ cL cW a0 a1 a2 a3 a4 a5 a6 k_thrown k_w 2544 k_isKept k_went 0 k_waiting k_came k_depth 1 k_x k_packed k_hits 0 (-1) k_inAll)) hS => ?_)
  refine lv_aload_n hx hb dX10_goesThrough_27 rfl (lv_at hl 0 rfl) ?_
  refine lv_iload_n hx hb dX10_goesThrough_28 rfl (lv_at hl 2 rfl) ?_
  refine lv_sipush (v := 999) hx hb dX10_goesThrough_29 (by decide) ?_
  obtain ⟨k_w_1, h2, hf⟩ := bd_s hf
  refine iv_A (rest := []) (st1 := []) C hE hP hD hS hA (c_X10_begins l D cI cZ cL cW F a0 a1 a2 a3 a4 a5 a6 k_thrown k_w 2544 k_isKept k_went 0 k_waiting k_came k_depth 1 k_x k_packed k_hits 0 (-1) k_inAll p2 999  k_w_1 h2) ok_X10_begins qM_X10_37 rfl rfl ⟨(Nat.le_of_ble_eq_true rfl), (Nat.le_of_ble_eq_true rfl)⟩ rfl rfl hl.1 (Nat.le_of_ble_eq_true rfl) ⟨Nat.zero_le _, Nat.zero_le _⟩ dX10_goesThrough_32 rfl rfl (fun H locs (hP : va_P D vwCl (MX10 cI cZ cL cW a0 a1 a2 a3 a4 a5 a6 k_thrown k_w_1 2544 k_isKept k_went 0 k_waiting k_came k_depth 1 k_x k_packed k_hits 0 (-1) k_inAll) H) (hD : va_D A (MX10 cI cZ cL cW a0 a1 a2 a3 a4 a5 a6 k_thrown k_w_1 2544 k_isKept k_went 0 k_waiting k_came k_depth 1 k_x k_packed k_hits 0 (-1) k_inAll)) hS => ?_)
  refine lv_aload_n hx hb dX10_goesThrough_35 rfl (lv_at hl 0 rfl) ?_
  refine gf_X10 (v := .ref a1) C hE hP 0 1 rfl (by decide) qF_X10_17 rfl dX10_goesThrough_36 ?_
  refine lv_aload_n hx hb dX10_goesThrough_39 rfl (lv_at hl 0 rfl) ?_
  refine gf_X10 (v := .int 2544) C hE hP 0 2 rfl (by decide) qF_X10_41 rfl dX10_goesThrough_40 ?_
  refine lv_iconst (v := 2) hx hb dX10_goesThrough_43 (by decide) ?_
  refine lv_iadd hx hb dX10_goesThrough_44 ?_
  refine lv_iload_n hx hb dX10_goesThrough_45 rfl (lv_at hl 1 rfl) ?_
  refine lv_iconst (v := 4) hx hb dX10_goesThrough_46 (by decide) ?_
  obtain ⟨r3, h4, hf⟩ := bd_s hf
  refine is_R (rest := [.int (2544 + 2), .ref a1]) (st1 := [.int r3, .int (2544 + 2), .ref a1]) C hE va_P_nil (c_X10_lesser l D cI cZ cL cW F   p1 4 r3  h4) ok_X10_lesser qM_X10_7 rfl rfl ⟨(Nat.le_of_ble_eq_true rfl), (Nat.le_of_ble_eq_true rfl)⟩ hl.1 (Nat.le_of_ble_eq_true rfl) ⟨Nat.zero_le _, Nat.zero_le _⟩ dX10_goesThrough_47 rfl rfl ?_
  obtain ⟨g97, hf⟩ := it_g hf
  refine va_iast hx hb hE.1 hP hD hS 1 0 rfl rfl g97 dX10_goesThrough_50 (fun H locs (hP : va_P D vwCl (MX10 cI cZ cL cW a0 a1 a2 a3 a4 a5 a6 k_thrown (upd k_w_1 (Int32.toNatClampNeg (2544 + 2)) r3) 2544 k_isKept k_went 0 k_waiting k_came k_depth 1 k_x k_packed k_hits 0 (-1) k_inAll) H) (hD : va_D A (MX10 cI cZ cL cW a0 a1 a2 a3 a4 a5 a6 k_thrown (upd k_w_1 (Int32.toNatClampNeg (2544 + 2)) r3) 2544 k_isKept k_went 0 k_waiting k_came k_depth 1 k_x k_packed k_hits 0 (-1) k_inAll)) hS => ?_)
  refine lv_aload_n hx hb dX10_goesThrough_51 rfl (lv_at hl 0 rfl) ?_
  refine lv_iconst (v := 0) hx hb dX10_goesThrough_52 (by decide) ?_
  refine pf_X10 (v := .int 0) C hE hP hD hS 0 12 rfl (by decide) qF_X10_295 rfl rfl rfl (Nat.le_of_ble_eq_true rfl) dX10_goesThrough_53 (fun H locs (hP : va_P D vwCl (MX10 cI cZ cL cW a0 a1 a2 a3 a4 a5 a6 k_thrown (upd k_w_1 (Int32.toNatClampNeg (2544 + 2)) r3) 2544 k_isKept k_went 0 k_waiting k_came k_depth 1 k_x k_packed 0 0 (-1) k_inAll) H) (hD : va_D A (MX10 cI cZ cL cW a0 a1 a2 a3 a4 a5 a6 k_thrown (upd k_w_1 (Int32.toNatClampNeg (2544 + 2)) r3) 2544 k_isKept k_went 0 k_waiting k_came k_depth 1 k_x k_packed 0 0 (-1) k_inAll)) hS => ?_)
  refine lv_iconst (v := 0) hx hb dX10_goesThrough_56 (by decide) ?_
  refine lv_istore_n (lv' := [(3, .int 0), (0, .ref a0), (1, .int p1), (2, .int p2)]) hx hb dX10_goesThrough_57 rfl hl (by decide) rfl (fun ls hl => ?_)
  obtain ⟨⟨k88, k89, k90, k91, k92, k93, k94, k95⟩, h96, hf⟩ := bd_s hf
  refine L58 _ F p1 p2 0 k_thrown (upd k_w_1 (Int32.toNatClampNeg (2544 + 2)) r3) 2544 k_isKept k_went 0 k_waiting k_came k_depth 1 k_x k_packed 0 0 (-1) k_inAll k88 k89 k90 k91 k92 k93 k94 k95 _ _ ls h96 hP hD hS (lv_sub hl [1, 2, 3, 0] rfl) (fun H locs ls hP hD hS hl => ?_)
  cases hf
  exact rw_v C hr hlk hP hD hS dX10_goesThrough_199
def X10_isWay (F : Nat) (p1 : Int32) : Option (Int32) := (X10_isIn F p1.toInt64 0 5).bind fun r1 => (if ¬ (r1 = 0 ∨ r1 = 1) then none else (some r1))
abbrev rm_X10_isWay : Room := { frames := 1, cells := 0, slots := 0, locals := 25 }
theorem ok_X10_isWay : OKS yX10_isWay cX10_isWay 1 (some .boolean) 1 := ⟨by decide +kernel, qS_X10_isWay, qI_X10, qD_X10_isWay⟩
set_option maxHeartbeats 4000000 in
set_option maxRecDepth 100000 in
theorem c_X10_isWay (l : Launch) (D : va_G) (cI cZ cL cW : ClassId) (F : Nat) (p1 : Int32) (r : Int32) (hf : X10_isWay F p1 = some r) : CtrR l D (tyL cI cZ cL cW) nestW yX10_isWay cX10_isWay 1 (some .boolean) rm_X10_isWay [.int p1] ([] : va_W) (some (.int r)) := by
  refine ofR RX10 (by decide) rfl (Nat.le_of_ble_eq_true rfl) ?_
  intro p e s m below meth c ls C hr hlk hE hP hl
  generalize (List.toArray ([.int p1] : List Value)) = args at C ⊢
  obtain ⟨hx, hb, hml, hown, ht⟩ := id C
  have hl : lv_has ls 1 [(0, .int p1)] := hl
  refine lv_iload_n hx hb dX10_isWay_0 rfl (lv_at hl 0 rfl) ?_
  refine lv_i2l hx hb dX10_isWay_1 rfl ?_
  refine lv_lconst (v := 0) hx hb dX10_isWay_2 (by decide) ?_
  refine lv_ldc2 (v := 5) hx hb hown (ht _ qJ_X10_304) dX10_isWay_3 ?_
  obtain ⟨r1, h2, hf⟩ := bd_s hf
  refine is_R (rest := []) (st1 := [.int r1]) C hE va_P_nil (c_X10_isIn l D cI cZ cL cW F   p1.toInt64 0 5 r1  h2) ok_X10_isIn qM_X10_49 rfl rfl ⟨(Nat.le_of_ble_eq_true rfl), (Nat.le_of_ble_eq_true rfl)⟩ hl.1 (Nat.le_of_ble_eq_true rfl) ⟨Nat.zero_le _, Nat.zero_le _⟩ dX10_isWay_6 rfl rfl ?_
  obtain ⟨g3, hf⟩ := it_g hf
  exact rt_z C hr hlk (zb_n g3) dX10_isWay_9 (congrArg (fun o => o.map Value.int) hf)
def X10_replay (F : Nat) (p1 : Int32) (p2 : Int32) (p3 : Int32) (k_thrown : Int32) (k_w : (Nat → Int32)) (k_o : Int32) (k_went : (Nat → Int32)) (k_wentMany : Int32) (k_waiting : (Nat → Int32)) (k_came : Int32) (k_depth : Int32) (k_isSilent : Int32) (k_hits : Int32) (k_rues : Int32) (k_soonest : Int32) : Option (Int32 × Int32 × (Nat → Int32) × Int32 × (Nat → Int32) × Int32 × (Nat → Int32) × Int32 × Int32 × Int32 × Int32 × Int32) := (X10_isWay F p1).bind fun r1 => (if (r1 : Int32) = 0 then (some ((-1), 0, k_w, k_o, k_went, k_wentMany, k_waiting, k_came, k_isSilent, k_hits, k_rues, k_soonest)) else ((X10_isIn F p2.toInt64 0 60).bind fun r3 => (if (r3 : Int32) = 0 then (some ((-1), 0, k_w, k_o, k_went, k_wentMany, k_waiting, k_came, k_isSilent, k_hits, k_rues, k_soonest)) else ((X10_isIn F p3.toInt64 0 2).bind fun r5 => (if (r5 : Int32) = 0 then (some ((-1), 0, k_w, k_o, k_went, k_wentMany, k_waiting, k_came, k_isSilent, k_hits, k_rues, k_soonest)) else ((X10_goesThrough F p1 p2 k_w k_o k_went k_wentMany k_waiting k_came k_depth k_isSilent k_hits k_rues k_soonest).bind fun (k_w_7, k_o_8, k_went_9, k_wentMany_10, k_waiting_11, k_came_12, k_isSilent_13, k_hits_14, k_rues_15, k_soonest_16) => (if (p3 : Int32) = 0 then ((X10_comesBack F k_o_8 k_isSilent_13).bind fun (k_o_27, k_isSilent_28) => (some (k_hits_14, 0, k_w_7, k_o_27, k_went_9, k_wentMany_10, k_waiting_11, k_came_12, k_isSilent_28, k_hits_14, k_rues_15, k_soonest_16))) else (if (p3 : Int32) = 1 then (if ((k_o_8 + 10) : Int32) < 0 ∨ 3392 ≤ (Int32.toNatClampNeg (k_o_8 + 10)) then none else ((X10_comesBack F k_o_8 k_isSilent_13).bind fun (k_o_22, k_isSilent_23) => (some ((k_w_7 (Int32.toNatClampNeg (k_o_8 + 10))), 0, k_w_7, k_o_22, k_went_9, k_wentMany_10, k_waiting_11, k_came_12, k_isSilent_23, k_hits_14, k_rues_15, k_soonest_16)))) else (if ((k_o_8 + 0) : Int32) < 0 ∨ 3392 ≤ (Int32.toNatClampNeg (k_o_8 + 0)) then none else ((X10_comesBack F k_o_8 k_isSilent_13).bind fun (k_o_18, k_isSilent_19) => (some ((k_w_7 (Int32.toNatClampNeg (k_o_8 + 0))), 0, k_w_7, k_o_18, k_went_9, k_wentMany_10, k_waiting_11, k_came_12, k_isSilent_19, k_hits_14, k_rues_15, k_soonest_16))))))))))))
abbrev rm_X10_replay : Room := { frames := 8, cells := 0, slots := 0, locals := 192 }
theorem ok_X10_replay : OKV RX10 yX10_replay cX10_replay 5 (some .int) 3 := ⟨by decide +kernel, qV_X10_replay, qL_X10_replay, qI_X10, qD_X10_replay⟩
set_option maxHeartbeats 4000000 in
set_option maxRecDepth 100000 in
theorem c_X10_replay (l : Launch) (D : va_G) (cI cZ cL cW : ClassId) (F : Nat) (a0 : Nat) (a1 : Nat) (a2 : Nat) (a3 : Nat) (a4 : Nat) (a5 : Nat) (a6 : Nat) (k_thrown : Int32) (k_w : (Nat → Int32)) (k_o : Int32) (k_isKept : (Nat → Int32)) (k_went : (Nat → Int32)) (k_wentMany : Int32) (k_waiting : (Nat → Int32)) (k_came : Int32) (k_depth : Int32) (k_isSilent : Int32) (k_x : Int64) (k_packed : (Nat → Int32)) (k_hits : Int32) (k_rues : Int32) (k_soonest : Int32) (k_inAll : (Nat → Int32)) (p1 : Int32) (p2 : Int32) (p3 : Int32) (r : Int32) (k_thrown' : Int32) (k_w' : (Nat → Int32)) (k_o' : Int32) (k_went' : (Nat → Int32)) (k_wentMany' : Int32) (k_waiting' : (Nat → Int32)) (k_came' : Int32) (k_isSilent' : Int32) (k_hits' : Int32) (k_rues' : Int32) (k_soonest' : Int32) (hf : X10_replay F p1 p2 p3 k_thrown k_w k_o k_went k_wentMany k_waiting k_came k_depth k_isSilent k_hits k_rues k_soonest = some (r, k_thrown', k_w', k_o', k_went', k_wentMany', k_waiting', k_came', k_isSilent', k_hits', k_rues', k_soonest')) : CtrW l D (tyL cI cZ cL cW) nestW yX10_replay cX10_replay 5 (some .int) rm_X10_replay [.ref a0, .int p1, .int p2, .int p3] (MX10 cI cZ cL cW a0 a1 a2 a3 a4 a5 a6 k_thrown k_w k_o k_isKept k_went k_wentMany k_waiting k_came k_depth k_isSilent k_x k_packed k_hits k_rues k_soonest k_inAll) (MX10 cI cZ cL cW a0 a1 a2 a3 a4 a5 a6 (k_thrown') (k_w') (k_o') k_isKept (k_went') (k_wentMany') (k_waiting') (k_came') k_depth (k_isSilent') k_x k_packed (k_hits') (k_rues') (k_soonest') k_inAll) (some (.int r)) := by
  refine ofA RX10 (by decide) rfl (Nat.le_of_ble_eq_true rfl) ?_
  intro p e s m below meth c ls A C hr hlk hE hA hP hD hS hl
  generalize (List.toArray ([.ref a0, .int p1, .int p2, .int p3] : List Value)) = args at C ⊢
  obtain ⟨hx, hb, hml, hown, ht⟩ := id C
  have hl : lv_has ls 5 [(0, .ref a0), (1, .int p1), (2, .int p2), (3, .int p3)] := hl
  refine lv_aload_n hx hb dX10_replay_0 rfl (lv_at hl 0 rfl) ?_
  refine lv_iconst (v := 0) hx hb dX10_replay_1 (by decide) ?_
  refine pf_X10 (v := .int 0) C hE hP hD hS 0 0 rfl (by decide) qF_X10_1 rfl rfl rfl (Nat.le_of_ble_eq_true rfl) dX10_replay_2 (fun H locs (hP : va_P D vwCl (MX10 cI cZ cL cW a0 a1 a2 a3 a4 a5 a6 0 k_w k_o k_isKept k_went k_wentMany k_waiting k_came k_depth k_isSilent k_x k_packed k_hits k_rues k_soonest k_inAll) H) (hD : va_D A (MX10 cI cZ cL cW a0 a1 a2 a3 a4 a5 a6 0 k_w k_o k_isKept k_went k_wentMany k_waiting k_came k_depth k_isSilent k_x k_packed k_hits k_rues k_soonest k_inAll)) hS => ?_)
  refine lv_iload_n hx hb dX10_replay_5 rfl (lv_at hl 1 rfl) ?_
  obtain ⟨r1, h2, hf⟩ := bd_s hf
  refine is_R (rest := []) (st1 := [.int r1]) C hE va_P_nil (c_X10_isWay l D cI cZ cL cW F   p1 r1  h2) ok_X10_isWay qM_X10_306 rfl rfl ⟨(Nat.le_of_ble_eq_true rfl), (Nat.le_of_ble_eq_true rfl)⟩ hl.1 (Nat.le_of_ble_eq_true rfl) ⟨Nat.zero_le _, Nat.zero_le _⟩ dX10_replay_6 rfl rfl ?_
  refine lv_if_eq (tgt := 36) hx hb dX10_replay_9 (by decide) (fun c33 => ?_) (fun c33 => ?_)
  · have hf := it_p hf c33
    refine lv_iconst (v := (-1)) hx hb dX10_replay_36 (by decide) ?_
    cases hf
    exact rw_i C hr hlk hP hD hS dX10_replay_37 rfl
  · have hf := it_n hf c33
    refine lv_iload_n hx hb dX10_replay_12 rfl (lv_at hl 2 rfl) ?_
    refine lv_i2l hx hb dX10_replay_13 rfl ?_
    refine lv_lconst (v := 0) hx hb dX10_replay_14 (by decide) ?_
    refine lv_ldc2 (v := 60) hx hb hown (ht _ qJ_X10_240) dX10_replay_15 ?_
    obtain ⟨r3, h4, hf⟩ := bd_s hf
    refine is_R (rest := []) (st1 := [.int r3]) C hE va_P_nil (c_X10_isIn l D cI cZ cL cW F   p2.toInt64 0 60 r3  h4) ok_X10_isIn qM_X10_49 rfl rfl ⟨(Nat.le_of_ble_eq_true rfl), (Nat.le_of_ble_eq_true rfl)⟩ hl.1 (Nat.le_of_ble_eq_true rfl) ⟨Nat.zero_le _, Nat.zero_le _⟩ dX10_replay_18 rfl rfl ?_
    refine lv_if_eq (tgt := 36) hx hb dX10_replay_21 (by decide) (fun c32 => ?_) (fun c32 => ?_)
    · have hf := it_p hf c32
      refine lv_iconst (v := (-1)) hx hb dX10_replay_36 (by decide) ?_
      cases hf
      exact rw_i C hr hlk hP hD hS dX10_replay_37 rfl
    · have hf := it_n hf c32
      refine lv_iload_n hx hb dX10_replay_24 rfl (lv_at hl 3 rfl) ?_
      refine lv_i2l hx hb dX10_replay_25 rfl ?_
      refine lv_lconst (v := 0) hx hb dX10_replay_26 (by decide) ?_
      refine lv_ldc2 (v := 2) hx hb hown (ht _ qJ_X10_260) dX10_replay_27 ?_
      obtain ⟨r5, h6, hf⟩ := bd_s hf
      refine is_R (rest := []) (st1 := [.int r5]) C hE va_P_nil (c_X10_isIn l D cI cZ cL cW F   p3.toInt64 0 2 r5  h6) ok_X10_isIn qM_X10_49 rfl rfl ⟨(Nat.le_of_ble_eq_true rfl), (Nat.le_of_ble_eq_true rfl)⟩ hl.1 (Nat.le_of_ble_eq_true rfl) ⟨Nat.zero_le _, Nat.zero_le _⟩ dX10_replay_30 rfl rfl ?_
      refine lv_if_ne (tgt := 38) hx hb dX10_replay_33 (by decide) (fun c31 => ?_) (fun c31 => ?_)
      · have hf := it_n hf c31
        refine lv_aload_n hx hb dX10_replay_38 rfl (lv_at hl 0 rfl) ?_
        refine lv_iload_n hx hb dX10_replay_39 rfl (lv_at hl 1 rfl) ?_
        refine lv_iload_n hx hb dX10_replay_40 rfl (lv_at hl 2 rfl) ?_
        obtain ⟨⟨k_w_7, k_o_8, k_went_9, k_wentMany_10, k_waiting_11, k_came_12, k_isSilent_13, k_hits_14, k_rues_15, k_soonest_16⟩, h17, hf⟩ := bd_s hf
        refine iv_A (rest := []) (st1 := []) C hE hP hD hS hA (c_X10_goesThrough l D cI cZ cL cW F a0 a1 a2 a3 a4 a5 a6 0 k_w k_o k_isKept k_went k_wentMany k_waiting k_came k_depth k_isSilent k_x k_packed k_hits k_rues k_soonest k_inAll p1 p2  k_w_7 k_o_8 k_went_9 k_wentMany_10 k_waiting_11 k_came_12 k_isSilent_13 k_hits_14 k_rues_15 k_soonest_16 h17) ok_X10_goesThrough qM_X10_309 rfl rfl ⟨(Nat.le_of_ble_eq_true rfl), (Nat.le_of_ble_eq_true rfl)⟩ rfl rfl hl.1 (Nat.le_of_ble_eq_true rfl) ⟨Nat.zero_le _, Nat.zero_le _⟩ dX10_replay_41 rfl rfl (fun H locs (hP : va_P D vwCl (MX10 cI cZ cL cW a0 a1 a2 a3 a4 a5 a6 0 k_w_7 k_o_8 k_isKept k_went_9 k_wentMany_10 k_waiting_11 k_came_12 k_depth k_isSilent_13 k_x k_packed k_hits_14 k_rues_15 k_soonest_16 k_inAll) H) (hD : va_D A (MX10 cI cZ cL cW a0 a1 a2 a3 a4 a5 a6 0 k_w_7 k_o_8 k_isKept k_went_9 k_wentMany_10 k_waiting_11 k_came_12 k_depth k_isSilent_13 k_x k_packed k_hits_14 k_rues_15 k_soonest_16 k_inAll)) hS => ?_)
        refine lv_iload_n hx hb dX10_replay_44 rfl (lv_at hl 3 rfl) ?_
        refine lv_if_ne (tgt := 55) hx hb dX10_replay_45 (by decide) (fun c30 => ?_) (fun c30 => ?_)
        · have hf := it_n hf c30
          refine lv_iload_n hx hb dX10_replay_55 rfl (lv_at hl 3 rfl) ?_
          refine lv_iconst (v := 1) hx hb dX10_replay_56 (by decide) ?_
          refine lv_icmp_ne (tgt := 75) hx hb dX10_replay_57 (by decide) (fun c26 => ?_) (fun c26 => ?_)
          · have hf := it_n hf c26
            refine lv_aload_n hx hb dX10_replay_75 rfl (lv_at hl 0 rfl) ?_
            refine gf_X10 (v := .ref a1) C hE hP 0 1 rfl (by decide) qF_X10_17 rfl dX10_replay_76 ?_
            refine lv_aload_n hx hb dX10_replay_79 rfl (lv_at hl 0 rfl) ?_
            refine gf_X10 (v := .int k_o_8) C hE hP 0 2 rfl (by decide) qF_X10_41 rfl dX10_replay_80 ?_
            refine lv_iconst (v := 0) hx hb dX10_replay_83 (by decide) ?_
            refine lv_iadd hx hb dX10_replay_84 ?_
            obtain ⟨g21, hf⟩ := it_g hf
            refine va_iald hx hb hE.1 hP 1 0 rfl rfl g21 dX10_replay_85 ?_
            refine lv_istore (lv' := [(4, .int (k_w_7 (Int32.toNatClampNeg (k_o_8 + 0)))), (0, .ref a0), (1, .int p1), (2, .int p2), (3, .int p3)]) hx hb dX10_replay_86 hl (by decide) rfl (fun ls hl => ?_)
            refine lv_aload_n hx hb dX10_replay_88 rfl (lv_at hl 1 rfl) ?_
            obtain ⟨⟨k_o_18, k_isSilent_19⟩, h20, hf⟩ := bd_s hf
            refine iv_A (rest := []) (st1 := []) C hE hP hD hS hA (c_X10_comesBack l D cI cZ cL cW F a0 a1 a2 a3 a4 a5 a6 0 k_w_7 k_o_8 k_isKept k_went_9 k_wentMany_10 k_waiting_11 k_came_12 k_depth k_isSilent_13 k_x k_packed k_hits_14 k_rues_15 k_soonest_16 k_inAll   k_o_18 k_isSilent_19 h20) ok_X10_comesBack qM_X10_268 rfl rfl ⟨(Nat.le_of_ble_eq_true rfl), (Nat.le_of_ble_eq_true rfl)⟩ rfl rfl hl.1 (Nat.le_of_ble_eq_true rfl) ⟨Nat.zero_le _, Nat.zero_le _⟩ dX10_replay_89 rfl rfl (fun H locs (hP : va_P D vwCl (MX10 cI cZ cL cW a0 a1 a2 a3 a4 a5 a6 0 k_w_7 k_o_18 k_isKept k_went_9 k_wentMany_10 k_waiting_11 k_came_12 k_depth k_isSilent_19 k_x k_packed k_hits_14 k_rues_15 k_soonest_16 k_inAll) H) (hD : va_D A (MX10 cI cZ cL cW a0 a1 a2 a3 a4 a5 a6 0 k_w_7 k_o_18 k_isKept k_went_9 k_wentMany_10 k_waiting_11 k_came_12 k_depth k_isSilent_19 k_x k_packed k_hits_14 k_rues_15 k_soonest_16 k_inAll)) hS => ?_)
            refine lv_iload hx hb dX10_replay_92 (lv_at hl 0 rfl) ?_
            cases hf
            exact rw_i C hr hlk hP hD hS dX10_replay_94 rfl
          · have hf := it_p hf c26
            refine lv_aload_n hx hb dX10_replay_60 rfl (lv_at hl 0 rfl) ?_
            refine gf_X10 (v := .ref a1) C hE hP 0 1 rfl (by decide) qF_X10_17 rfl dX10_replay_61 ?_
            refine lv_aload_n hx hb dX10_replay_64 rfl (lv_at hl 0 rfl) ?_
            refine gf_X10 (v := .int k_o_8) C hE hP 0 2 rfl (by decide) qF_X10_41 rfl dX10_replay_65 ?_
            refine lv_bipush (v := 10) hx hb dX10_replay_68 (by decide) ?_
            refine lv_iadd hx hb dX10_replay_70 ?_
            obtain ⟨g25, hf⟩ := it_g hf
            refine va_iald hx hb hE.1 hP 1 0 rfl rfl g25 dX10_replay_71 ?_
            refine lv_goto (tgt := 86) hx hb dX10_replay_72 (by decide) ?_
            refine lv_istore (lv' := [(4, .int (k_w_7 (Int32.toNatClampNeg (k_o_8 + 10)))), (0, .ref a0), (1, .int p1), (2, .int p2), (3, .int p3)]) hx hb dX10_replay_86 hl (by decide) rfl (fun ls hl => ?_)
            refine lv_aload_n hx hb dX10_replay_88 rfl (lv_at hl 1 rfl) ?_
            obtain ⟨⟨k_o_22, k_isSilent_23⟩, h24, hf⟩ := bd_s hf
            refine iv_A (rest := []) (st1 := []) C hE hP hD hS hA (c_X10_comesBack l D cI cZ cL cW F a0 a1 a2 a3 a4 a5 a6 0 k_w_7 k_o_8 k_isKept k_went_9 k_wentMany_10 k_waiting_11 k_came_12 k_depth k_isSilent_13 k_x k_packed k_hits_14 k_rues_15 k_soonest_16 k_inAll   k_o_22 k_isSilent_23 h24) ok_X10_comesBack qM_X10_268 rfl rfl ⟨(Nat.le_of_ble_eq_true rfl), (Nat.le_of_ble_eq_true rfl)⟩ rfl rfl hl.1 (Nat.le_of_ble_eq_true rfl) ⟨Nat.zero_le _, Nat.zero_le _⟩ dX10_replay_89 rfl rfl (fun H locs (hP : va_P D vwCl (MX10 cI cZ cL cW a0 a1 a2 a3 a4 a5 a6 0 k_w_7 k_o_22 k_isKept k_went_9 k_wentMany_10 k_waiting_11 k_came_12 k_depth k_isSilent_23 k_x k_packed k_hits_14 k_rues_15 k_soonest_16 k_inAll) H) (hD : va_D A (MX10 cI cZ cL cW a0 a1 a2 a3 a4 a5 a6 0 k_w_7 k_o_22 k_isKept k_went_9 k_wentMany_10 k_waiting_11 k_came_12 k_depth k_isSilent_23 k_x k_packed k_hits_14 k_rues_15 k_soonest_16 k_inAll)) hS => ?_)
            refine lv_iload hx hb dX10_replay_92 (lv_at hl 0 rfl) ?_
            cases hf
            exact rw_i C hr hlk hP hD hS dX10_replay_94 rfl
        · have hf := it_p hf c30
          refine lv_aload_n hx hb dX10_replay_48 rfl (lv_at hl 0 rfl) ?_
          refine gf_X10 (v := .int k_hits_14) C hE hP 0 12 rfl (by decide) qF_X10_295 rfl dX10_replay_49 ?_
          refine lv_goto (tgt := 86) hx hb dX10_replay_52 (by decide) ?_
          refine lv_istore (lv' := [(4, .int k_hits_14), (0, .ref a0), (1, .int p1), (2, .int p2), (3, .int p3)]) hx hb dX10_replay_86 hl (by decide) rfl (fun ls hl => ?_)
          refine lv_aload_n hx hb dX10_replay_88 rfl (lv_at hl 1 rfl) ?_
          obtain ⟨⟨k_o_27, k_isSilent_28⟩, h29, hf⟩ := bd_s hf
          refine iv_A (rest := []) (st1 := []) C hE hP hD hS hA (c_X10_comesBack l D cI cZ cL cW F a0 a1 a2 a3 a4 a5 a6 0 k_w_7 k_o_8 k_isKept k_went_9 k_wentMany_10 k_waiting_11 k_came_12 k_depth k_isSilent_13 k_x k_packed k_hits_14 k_rues_15 k_soonest_16 k_inAll   k_o_27 k_isSilent_28 h29) ok_X10_comesBack qM_X10_268 rfl rfl ⟨(Nat.le_of_ble_eq_true rfl), (Nat.le_of_ble_eq_true rfl)⟩ rfl rfl hl.1 (Nat.le_of_ble_eq_true rfl) ⟨Nat.zero_le _, Nat.zero_le _⟩ dX10_replay_89 rfl rfl (fun H locs (hP : va_P D vwCl (MX10 cI cZ cL cW a0 a1 a2 a3 a4 a5 a6 0 k_w_7 k_o_27 k_isKept k_went_9 k_wentMany_10 k_waiting_11 k_came_12 k_depth k_isSilent_28 k_x k_packed k_hits_14 k_rues_15 k_soonest_16 k_inAll) H) (hD : va_D A (MX10 cI cZ cL cW a0 a1 a2 a3 a4 a5 a6 0 k_w_7 k_o_27 k_isKept k_went_9 k_wentMany_10 k_waiting_11 k_came_12 k_depth k_isSilent_28 k_x k_packed k_hits_14 k_rues_15 k_soonest_16 k_inAll)) hS => ?_)
          refine lv_iload hx hb dX10_replay_92 (lv_at hl 0 rfl) ?_
          cases hf
          exact rw_i C hr hlk hP hD hS dX10_replay_94 rfl
      · have hf := it_p hf c31
        refine lv_iconst (v := (-1)) hx hb dX10_replay_36 (by decide) ?_
        cases hf
        exact rw_i C hr hlk hP hD hS dX10_replay_37 rfl
def X10_replayed (F : Nat) (p1 : Int32) (p2 : Int32) (p3 : Int32) (k_thrown : Int32) (k_w : (Nat → Int32)) (k_o : Int32) (k_went : (Nat → Int32)) (k_wentMany : Int32) (k_waiting : (Nat → Int32)) (k_came : Int32) (k_depth : Int32) (k_isSilent : Int32) (k_hits : Int32) (k_rues : Int32) (k_soonest : Int32) : Option (Int32 × Int32 × (Nat → Int32) × Int32 × (Nat → Int32) × Int32 × (Nat → Int32) × Int32 × Int32 × Int32 × Int32 × Int32) := (X10_isWay F p1).bind fun r1 => (if (r1 : Int32) = 0 then (some ((-1), 0, k_w, k_o, k_went, k_wentMany, k_waiting, k_came, k_isSilent, k_hits, k_rues, k_soonest)) else ((X10_isIn F p2.toInt64 0 60).bind fun r3 => (if (r3 : Int32) = 0 then (some ((-1), 0, k_w, k_o, k_went, k_wentMany, k_waiting, k_came, k_isSilent, k_hits, k_rues, k_soonest)) else ((X10_goesThrough F p1 p2 k_w k_o k_went k_wentMany k_waiting k_came k_depth k_isSilent k_hits k_rues k_soonest).bind fun (k_w_5, k_o_6, k_went_7, k_wentMany_8, k_waiting_9, k_came_10, k_isSilent_11, k_hits_12, k_rues_13, k_soonest_14) => (if ((k_o_6 + 0) : Int32) < 0 ∨ 3392 ≤ (Int32.toNatClampNeg (k_o_6 + 0)) then none else ((X10_isIn F p3.toInt64 0 (((k_w_5 (Int32.toNatClampNeg (k_o_6 + 0))) - 1).toInt64)).bind fun r16 => (if (r16 : Int32) = 0 then ((X10_comesBack F k_o_6 k_isSilent_11).bind fun (k_o_18, k_isSilent_19) => (some ((-1), 0, k_w_5, k_o_18, k_went_7, k_wentMany_8, k_waiting_9, k_came_10, k_isSilent_19, k_hits_12, k_rues_13, k_soonest_14))) else ((X10_keyAt F 0 p3 k_w_5 k_o_6).bind fun r21 => ((X10_comesBack F k_o_6 k_isSilent_11).bind fun (k_o_23, k_isSilent_24) => (some (r21, 0, k_w_5, k_o_23, k_went_7, k_wentMany_8, k_waiting_9, k_came_10, k_isSilent_24, k_hits_12, k_rues_13, k_soonest_14)))))))))))
abbrev rm_X10_replayed : Room := { frames := 8, cells := 0, slots := 0, locals := 192 }
theorem ok_X10_replayed : OKV RX10 yX10_replayed cX10_replayed 5 (some .int) 3 := ⟨by decide +kernel, qV_X10_replayed, qL_X10_replayed, qI_X10, qD_X10_replayed⟩
set_option maxHeartbeats 4000000 in
set_option maxRecDepth 100000 in
theorem c_X10_replayed (l : Launch) (D : va_G) (cI cZ cL cW : ClassId) (F : Nat) (a0 : Nat) (a1 : Nat) (a2 : Nat) (a3 : Nat) (a4 : Nat) (a5 : Nat) (a6 : Nat) (k_thrown : Int32) (k_w : (Nat → Int32)) (k_o : Int32) (k_isKept : (Nat → Int32)) (k_went : (Nat → Int32)) (k_wentMany : Int32) (k_waiting : (Nat → Int32)) (k_came : Int32) (k_depth : Int32) (k_isSilent : Int32) (k_x : Int64) (k_packed : (Nat → Int32)) (k_hits : Int32) (k_rues : Int32) (k_soonest : Int32) (k_inAll : (Nat → Int32)) (p1 : Int32) (p2 : Int32) (p3 : Int32) (r : Int32) (k_thrown' : Int32) (k_w' : (Nat → Int32)) (k_o' : Int32) (k_went' : (Nat → Int32)) (k_wentMany' : Int32) (k_waiting' : (Nat → Int32)) (k_came' : Int32) (k_isSilent' : Int32) (k_hits' : Int32) (k_rues' : Int32) (k_soonest' : Int32) (hf : X10_replayed F p1 p2 p3 k_thrown k_w k_o k_went k_wentMany k_waiting k_came k_depth k_isSilent k_hits k_rues k_soonest = some (r, k_thrown', k_w', k_o', k_went', k_wentMany', k_waiting', k_came', k_isSilent', k_hits', k_rues', k_soonest')) : CtrW l D (tyL cI cZ cL cW) nestW yX10_replayed cX10_replayed 5 (some .int) rm_X10_replayed [.ref a0, .int p1, .int p2, .int p3] (MX10 cI cZ cL cW a0 a1 a2 a3 a4 a5 a6 k_thrown k_w k_o k_isKept k_went k_wentMany k_waiting k_came k_depth k_isSilent k_x k_packed k_hits k_rues k_soonest k_inAll) (MX10 cI cZ cL cW a0 a1 a2 a3 a4 a5 a6 (k_thrown') (k_w') (k_o') k_isKept (k_went') (k_wentMany') (k_waiting') (k_came') k_depth (k_isSilent') k_x k_packed (k_hits') (k_rues') (k_soonest') k_inAll) (some (.int r)) := by
  refine ofA RX10 (by decide) rfl (Nat.le_of_ble_eq_true rfl) ?_
  intro p e s m below meth c ls A C hr hlk hE hA hP hD hS hl
  generalize (List.toArray ([.ref a0, .int p1, .int p2, .int p3] : List Value)) = args at C ⊢
  obtain ⟨hx, hb, hml, hown, ht⟩ := id C
  have hl : lv_has ls 5 [(0, .ref a0), (1, .int p1), (2, .int p2), (3, .int p3)] := hl
  refine lv_aload_n hx hb dX10_replayed_0 rfl (lv_at hl 0 rfl) ?_
  refine lv_iconst (v := 0) hx hb dX10_replayed_1 (by decide) ?_
  refine pf_X10 (v := .int 0) C hE hP hD hS 0 0 rfl (by decide) qF_X10_1 rfl rfl rfl (Nat.le_of_ble_eq_true rfl) dX10_replayed_2 (fun H locs (hP : va_P D vwCl (MX10 cI cZ cL cW a0 a1 a2 a3 a4 a5 a6 0 k_w k_o k_isKept k_went k_wentMany k_waiting k_came k_depth k_isSilent k_x k_packed k_hits k_rues k_soonest k_inAll) H) (hD : va_D A (MX10 cI cZ cL cW a0 a1 a2 a3 a4 a5 a6 0 k_w k_o k_isKept k_went k_wentMany k_waiting k_came k_depth k_isSilent k_x k_packed k_hits k_rues k_soonest k_inAll)) hS => ?_)
  refine lv_iload_n hx hb dX10_replayed_5 rfl (lv_at hl 1 rfl) ?_
  obtain ⟨r1, h2, hf⟩ := bd_s hf
  refine is_R (rest := []) (st1 := [.int r1]) C hE va_P_nil (c_X10_isWay l D cI cZ cL cW F   p1 r1  h2) ok_X10_isWay qM_X10_306 rfl rfl ⟨(Nat.le_of_ble_eq_true rfl), (Nat.le_of_ble_eq_true rfl)⟩ hl.1 (Nat.le_of_ble_eq_true rfl) ⟨Nat.zero_le _, Nat.zero_le _⟩ dX10_replayed_6 rfl rfl ?_
  refine lv_if_eq (tgt := 24) hx hb dX10_replayed_9 (by decide) (fun c29 => ?_) (fun c29 => ?_)
  · have hf := it_p hf c29
    refine lv_iconst (v := (-1)) hx hb dX10_replayed_24 (by decide) ?_
    cases hf
    exact rw_i C hr hlk hP hD hS dX10_replayed_25 rfl
  · have hf := it_n hf c29
    refine lv_iload_n hx hb dX10_replayed_12 rfl (lv_at hl 2 rfl) ?_
    refine lv_i2l hx hb dX10_replayed_13 rfl ?_
    refine lv_lconst (v := 0) hx hb dX10_replayed_14 (by decide) ?_
    refine lv_ldc2 (v := 60) hx hb hown (ht _ qJ_X10_240) dX10_replayed_15 ?_
    obtain ⟨r3, h4, hf⟩ := bd_s hf
    refine is_R (rest := []) (st1 := [.int r3]) C hE va_P_nil (c_X10_isIn l D cI cZ cL cW F   p2.toInt64 0 60 r3  h4) ok_X10_isIn qM_X10_49 rfl rfl ⟨(Nat.le_of_ble_eq_true rfl), (Nat.le_of_ble_eq_true rfl)⟩ hl.1 (Nat.le_of_ble_eq_true rfl) ⟨Nat.zero_le _, Nat.zero_le _⟩ dX10_replayed_18 rfl rfl ?_
    refine lv_if_ne (tgt := 26) hx hb dX10_replayed_21 (by decide) (fun c28 => ?_) (fun c28 => ?_)
    · have hf := it_n hf c28
      refine lv_aload_n hx hb dX10_replayed_26 rfl (lv_at hl 0 rfl) ?_
      refine lv_iload_n hx hb dX10_replayed_27 rfl (lv_at hl 1 rfl) ?_
      refine lv_iload_n hx hb dX10_replayed_28 rfl (lv_at hl 2 rfl) ?_
      obtain ⟨⟨k_w_5, k_o_6, k_went_7, k_wentMany_8, k_waiting_9, k_came_10, k_isSilent_11, k_hits_12, k_rues_13, k_soonest_14⟩, h15, hf⟩ := bd_s hf
      refine iv_A (rest := []) (st1 := []) C hE hP hD hS hA (c_X10_goesThrough l D cI cZ cL cW F a0 a1 a2 a3 a4 a5 a6 0 k_w k_o k_isKept k_went k_wentMany k_waiting k_came k_depth k_isSilent k_x k_packed k_hits k_rues k_soonest k_inAll p1 p2  k_w_5 k_o_6 k_went_7 k_wentMany_8 k_waiting_9 k_came_10 k_isSilent_11 k_hits_12 k_rues_13 k_soonest_14 h15) ok_X10_goesThrough qM_X10_309 rfl rfl ⟨(Nat.le_of_ble_eq_true rfl), (Nat.le_of_ble_eq_true rfl)⟩ rfl rfl hl.1 (Nat.le_of_ble_eq_true rfl) ⟨Nat.zero_le _, Nat.zero_le _⟩ dX10_replayed_29 rfl rfl (fun H locs (hP : va_P D vwCl (MX10 cI cZ cL cW a0 a1 a2 a3 a4 a5 a6 0 k_w_5 k_o_6 k_isKept k_went_7 k_wentMany_8 k_waiting_9 k_came_10 k_depth k_isSilent_11 k_x k_packed k_hits_12 k_rues_13 k_soonest_14 k_inAll) H) (hD : va_D A (MX10 cI cZ cL cW a0 a1 a2 a3 a4 a5 a6 0 k_w_5 k_o_6 k_isKept k_went_7 k_wentMany_8 k_waiting_9 k_came_10 k_depth k_isSilent_11 k_x k_packed k_hits_12 k_rues_13 k_soonest_14 k_inAll)) hS => ?_)
      refine lv_iload_n hx hb dX10_replayed_32 rfl (lv_at hl 3 rfl) ?_
      refine lv_i2l hx hb dX10_replayed_33 rfl ?_
      refine lv_lconst (v := 0) hx hb dX10_replayed_34 (by decide) ?_
      refine lv_aload_n hx hb dX10_replayed_35 rfl (lv_at hl 0 rfl) ?_
      refine gf_X10 (v := .ref a1) C hE hP 0 1 rfl (by decide) qF_X10_17 rfl dX10_replayed_36 ?_
      refine lv_aload_n hx hb dX10_replayed_39 rfl (lv_at hl 0 rfl) ?_
      refine gf_X10 (v := .int k_o_6) C hE hP 0 2 rfl (by decide) qF_X10_41 rfl dX10_replayed_40 ?_
      refine lv_iconst (v := 0) hx hb dX10_replayed_43 (by decide) ?_
      refine lv_iadd hx hb dX10_replayed_44 ?_
      obtain ⟨g27, hf⟩ := it_g hf
      refine va_iald hx hb hE.1 hP 1 0 rfl rfl g27 dX10_replayed_45 ?_
      refine lv_iconst (v := 1) hx hb dX10_replayed_46 (by decide) ?_
      refine lv_isub hx hb dX10_replayed_47 ?_
      refine lv_i2l hx hb dX10_replayed_48 rfl ?_
      obtain ⟨r16, h17, hf⟩ := bd_s hf
      refine is_R (rest := []) (st1 := [.int r16]) C hE va_P_nil (c_X10_isIn l D cI cZ cL cW F   p3.toInt64 0 (((k_w_5 (Int32.toNatClampNeg (k_o_6 + 0))) - 1).toInt64) r16  h17) ok_X10_isIn qM_X10_49 rfl rfl ⟨(Nat.le_of_ble_eq_true rfl), (Nat.le_of_ble_eq_true rfl)⟩ hl.1 (Nat.le_of_ble_eq_true rfl) ⟨Nat.zero_le _, Nat.zero_le _⟩ dX10_replayed_49 rfl rfl ?_
      refine lv_if_eq (tgt := 64) hx hb dX10_replayed_52 (by decide) (fun c26 => ?_) (fun c26 => ?_)
      · have hf := it_p hf c26
        refine lv_iconst (v := (-1)) hx hb dX10_replayed_64 (by decide) ?_
        refine lv_istore (lv' := [(4, .int (-1)), (0, .ref a0), (1, .int p1), (2, .int p2), (3, .int p3)]) hx hb dX10_replayed_65 hl (by decide) rfl (fun ls hl => ?_)
        refine lv_aload_n hx hb dX10_replayed_67 rfl (lv_at hl 1 rfl) ?_
        obtain ⟨⟨k_o_18, k_isSilent_19⟩, h20, hf⟩ := bd_s hf
        refine iv_A (rest := []) (st1 := []) C hE hP hD hS hA (c_X10_comesBack l D cI cZ cL cW F a0 a1 a2 a3 a4 a5 a6 0 k_w_5 k_o_6 k_isKept k_went_7 k_wentMany_8 k_waiting_9 k_came_10 k_depth k_isSilent_11 k_x k_packed k_hits_12 k_rues_13 k_soonest_14 k_inAll   k_o_18 k_isSilent_19 h20) ok_X10_comesBack qM_X10_268 rfl rfl ⟨(Nat.le_of_ble_eq_true rfl), (Nat.le_of_ble_eq_true rfl)⟩ rfl rfl hl.1 (Nat.le_of_ble_eq_true rfl) ⟨Nat.zero_le _, Nat.zero_le _⟩ dX10_replayed_68 rfl rfl (fun H locs (hP : va_P D vwCl (MX10 cI cZ cL cW a0 a1 a2 a3 a4 a5 a6 0 k_w_5 k_o_18 k_isKept k_went_7 k_wentMany_8 k_waiting_9 k_came_10 k_depth k_isSilent_19 k_x k_packed k_hits_12 k_rues_13 k_soonest_14 k_inAll) H) (hD : va_D A (MX10 cI cZ cL cW a0 a1 a2 a3 a4 a5 a6 0 k_w_5 k_o_18 k_isKept k_went_7 k_wentMany_8 k_waiting_9 k_came_10 k_depth k_isSilent_19 k_x k_packed k_hits_12 k_rues_13 k_soonest_14 k_inAll)) hS => ?_)
        refine lv_iload hx hb dX10_replayed_71 (lv_at hl 0 rfl) ?_
        cases hf
        exact rw_i C hr hlk hP hD hS dX10_replayed_73 rfl
      · have hf := it_n hf c26
        refine lv_aload_n hx hb dX10_replayed_55 rfl (lv_at hl 0 rfl) ?_
        refine lv_iconst (v := 0) hx hb dX10_replayed_56 (by decide) ?_
        refine lv_iload_n hx hb dX10_replayed_57 rfl (lv_at hl 3 rfl) ?_
        obtain ⟨r21, h22, hf⟩ := bd_s hf
        refine iv_R (rest := []) (st1 := [.int r21]) C hE hP (c_X10_keyAt l D cI cZ cL cW F a0 a1 a2 a3 a4 a5 a6 0 k_w_5 k_o_6 k_isKept k_went_7 k_wentMany_8 k_waiting_9 k_came_10 k_depth k_isSilent_11 k_x k_packed k_hits_12 k_rues_13 k_soonest_14 k_inAll 0 p3 r21  h22) ok_X10_keyAt qM_X10_251 rfl rfl ⟨(Nat.le_of_ble_eq_true rfl), (Nat.le_of_ble_eq_true rfl)⟩ rfl rfl hl.1 (Nat.le_of_ble_eq_true rfl) ⟨Nat.zero_le _, Nat.zero_le _⟩ dX10_replayed_58 rfl rfl ?_
        refine lv_goto (tgt := 65) hx hb dX10_replayed_61 (by decide) ?_
        refine lv_istore (lv' := [(4, .int r21), (0, .ref a0), (1, .int p1), (2, .int p2), (3, .int p3)]) hx hb dX10_replayed_65 hl (by decide) rfl (fun ls hl => ?_)
        refine lv_aload_n hx hb dX10_replayed_67 rfl (lv_at hl 1 rfl) ?_
        obtain ⟨⟨k_o_23, k_isSilent_24⟩, h25, hf⟩ := bd_s hf
        refine iv_A (rest := []) (st1 := []) C hE hP hD hS hA (c_X10_comesBack l D cI cZ cL cW F a0 a1 a2 a3 a4 a5 a6 0 k_w_5 k_o_6 k_isKept k_went_7 k_wentMany_8 k_waiting_9 k_came_10 k_depth k_isSilent_11 k_x k_packed k_hits_12 k_rues_13 k_soonest_14 k_inAll   k_o_23 k_isSilent_24 h25) ok_X10_comesBack qM_X10_268 rfl rfl ⟨(Nat.le_of_ble_eq_true rfl), (Nat.le_of_ble_eq_true rfl)⟩ rfl rfl hl.1 (Nat.le_of_ble_eq_true rfl) ⟨Nat.zero_le _, Nat.zero_le _⟩ dX10_replayed_68 rfl rfl (fun H locs (hP : va_P D vwCl (MX10 cI cZ cL cW a0 a1 a2 a3 a4 a5 a6 0 k_w_5 k_o_23 k_isKept k_went_7 k_wentMany_8 k_waiting_9 k_came_10 k_depth k_isSilent_24 k_x k_packed k_hits_12 k_rues_13 k_soonest_14 k_inAll) H) (hD : va_D A (MX10 cI cZ cL cW a0 a1 a2 a3 a4 a5 a6 0 k_w_5 k_o_23 k_isKept k_went_7 k_wentMany_8 k_waiting_9 k_came_10 k_depth k_isSilent_24 k_x k_packed k_hits_12 k_rues_13 k_soonest_14 k_inAll)) hS => ?_)
        refine lv_iload hx hb dX10_replayed_71 (lv_at hl 0 rfl) ?_
        cases hf
        exact rw_i C hr hlk hP hD hS dX10_replayed_73 rfl
    · have hf := it_p hf c28
      refine lv_iconst (v := (-1)) hx hb dX10_replayed_24 (by decide) ?_
      cases hf
      exact rw_i C hr hlk hP hD hS dX10_replayed_25 rfl
def X10_hitsOf (F : Nat) (p1 : Int32) (p2 : Int32) (k_w : (Nat → Int32)) (k_o : Int32) (k_went : (Nat → Int32)) (k_wentMany : Int32) (k_waiting : (Nat → Int32)) (k_came : Int32) (k_depth : Int32) (k_isSilent : Int32) (k_hits : Int32) (k_rues : Int32) (k_soonest : Int32) : Option (Int32 × (Nat → Int32) × Int32 × (Nat → Int32) × Int32 × (Nat → Int32) × Int32 × Int32 × Int32 × Int32 × Int32) := (X10_goesThrough F p1 p2 k_w k_o k_went k_wentMany k_waiting k_came k_depth k_isSilent k_hits k_rues k_soonest).bind fun (k_w_1, k_o_2, k_went_3, k_wentMany_4, k_waiting_5, k_came_6, k_isSilent_7, k_hits_8, k_rues_9, k_soonest_10) => ((X10_comesBack F k_o_2 k_isSilent_7).bind fun (k_o_12, k_isSilent_13) => (some (k_hits_8, k_w_1, k_o_12, k_went_3, k_wentMany_4, k_waiting_5, k_came_6, k_isSilent_13, k_hits_8, k_rues_9, k_soonest_10)))
abbrev rm_X10_hitsOf : Room := { frames := 8, cells := 0, slots := 0, locals := 192 }
theorem ok_X10_hitsOf : OKV RX10 yX10_hitsOf cX10_hitsOf 3 (some .int) 2 := ⟨by decide +kernel, qV_X10_hitsOf, qL_X10_hitsOf, qI_X10, qD_X10_hitsOf⟩
set_option maxHeartbeats 4000000 in
set_option maxRecDepth 100000 in
theorem c_X10_hitsOf (l : Launch) (D : va_G) (cI cZ cL cW : ClassId) (F : Nat) (a0 : Nat) (a1 : Nat) (a2 : Nat) (a3 : Nat) (a4 : Nat) (a5 : Nat) (a6 : Nat) (k_thrown : Int32) (k_w : (Nat → Int32)) (k_o : Int32) (k_isKept : (Nat → Int32)) (k_went : (Nat → Int32)) (k_wentMany : Int32) (k_waiting : (Nat → Int32)) (k_came : Int32) (k_depth : Int32) (k_isSilent : Int32) (k_x : Int64) (k_packed : (Nat → Int32)) (k_hits : Int32) (k_rues : Int32) (k_soonest : Int32) (k_inAll : (Nat → Int32)) (p1 : Int32) (p2 : Int32) (r : Int32) (k_w' : (Nat → Int32)) (k_o' : Int32) (k_went' : (Nat → Int32)) (k_wentMany' : Int32) (k_waiting' : (Nat → Int32)) (k_came' : Int32) (k_isSilent' : Int32) (k_hits' : Int32) (k_rues' : Int32) (k_soonest' : Int32) (hf : X10_hitsOf F p1 p2 k_w k_o k_went k_wentMany k_waiting k_came k_depth k_isSilent k_hits k_rues k_soonest = some (r, k_w', k_o', k_went', k_wentMany', k_waiting', k_came', k_isSilent', k_hits', k_rues', k_soonest')) : CtrW l D (tyL cI cZ cL cW) nestW yX10_hitsOf cX10_hitsOf 3 (some .int) rm_X10_hitsOf [.ref a0, .int p1, .int p2] (MX10 cI cZ cL cW a0 a1 a2 a3 a4 a5 a6 k_thrown k_w k_o k_isKept k_went k_wentMany k_waiting k_came k_depth k_isSilent k_x k_packed k_hits k_rues k_soonest k_inAll) (MX10 cI cZ cL cW a0 a1 a2 a3 a4 a5 a6 k_thrown (k_w') (k_o') k_isKept (k_went') (k_wentMany') (k_waiting') (k_came') k_depth (k_isSilent') k_x k_packed (k_hits') (k_rues') (k_soonest') k_inAll) (some (.int r)) := by
  refine ofA RX10 (by decide) rfl (Nat.le_of_ble_eq_true rfl) ?_
  intro p e s m below meth c ls A C hr hlk hE hA hP hD hS hl
  generalize (List.toArray ([.ref a0, .int p1, .int p2] : List Value)) = args at C ⊢
  obtain ⟨hx, hb, hml, hown, ht⟩ := id C
  have hl : lv_has ls 3 [(0, .ref a0), (1, .int p1), (2, .int p2)] := hl
  refine lv_aload_n hx hb dX10_hitsOf_0 rfl (lv_at hl 0 rfl) ?_
  refine lv_iload_n hx hb dX10_hitsOf_1 rfl (lv_at hl 1 rfl) ?_
  refine lv_iload_n hx hb dX10_hitsOf_2 rfl (lv_at hl 2 rfl) ?_
  obtain ⟨⟨k_w_1, k_o_2, k_went_3, k_wentMany_4, k_waiting_5, k_came_6, k_isSilent_7, k_hits_8, k_rues_9, k_soonest_10⟩, h11, hf⟩ := bd_s hf
  refine iv_A (rest := []) (st1 := []) C hE hP hD hS hA (c_X10_goesThrough l D cI cZ cL cW F a0 a1 a2 a3 a4 a5 a6 k_thrown k_w k_o k_isKept k_went k_wentMany k_waiting k_came k_depth k_isSilent k_x k_packed k_hits k_rues k_soonest k_inAll p1 p2  k_w_1 k_o_2 k_went_3 k_wentMany_4 k_waiting_5 k_came_6 k_isSilent_7 k_hits_8 k_rues_9 k_soonest_10 h11) ok_X10_goesThrough qM_X10_309 rfl rfl ⟨(Nat.le_of_ble_eq_true rfl), (Nat.le_of_ble_eq_true rfl)⟩ rfl rfl hl.1 (Nat.le_of_ble_eq_true rfl) ⟨Nat.zero_le _, Nat.zero_le _⟩ dX10_hitsOf_3 rfl rfl (fun H locs (hP : va_P D vwCl (MX10 cI cZ cL cW a0 a1 a2 a3 a4 a5 a6 k_thrown k_w_1 k_o_2 k_isKept k_went_3 k_wentMany_4 k_waiting_5 k_came_6 k_depth k_isSilent_7 k_x k_packed k_hits_8 k_rues_9 k_soonest_10 k_inAll) H) (hD : va_D A (MX10 cI cZ cL cW a0 a1 a2 a3 a4 a5 a6 k_thrown k_w_1 k_o_2 k_isKept k_went_3 k_wentMany_4 k_waiting_5 k_came_6 k_depth k_isSilent_7 k_x k_packed k_hits_8 k_rues_9 k_soonest_10 k_inAll)) hS => ?_)
  refine lv_aload_n hx hb dX10_hitsOf_6 rfl (lv_at hl 0 rfl) ?_
  obtain ⟨⟨k_o_12, k_isSilent_13⟩, h14, hf⟩ := bd_s hf
  refine iv_A (rest := []) (st1 := []) C hE hP hD hS hA (c_X10_comesBack l D cI cZ cL cW F a0 a1 a2 a3 a4 a5 a6 k_thrown k_w_1 k_o_2 k_isKept k_went_3 k_wentMany_4 k_waiting_5 k_came_6 k_depth k_isSilent_7 k_x k_packed k_hits_8 k_rues_9 k_soonest_10 k_inAll   k_o_12 k_isSilent_13 h14) ok_X10_comesBack qM_X10_268 rfl rfl ⟨(Nat.le_of_ble_eq_true rfl), (Nat.le_of_ble_eq_true rfl)⟩ rfl rfl hl.1 (Nat.le_of_ble_eq_true rfl) ⟨Nat.zero_le _, Nat.zero_le _⟩ dX10_hitsOf_7 rfl rfl (fun H locs (hP : va_P D vwCl (MX10 cI cZ cL cW a0 a1 a2 a3 a4 a5 a6 k_thrown k_w_1 k_o_12 k_isKept k_went_3 k_wentMany_4 k_waiting_5 k_came_6 k_depth k_isSilent_13 k_x k_packed k_hits_8 k_rues_9 k_soonest_10 k_inAll) H) (hD : va_D A (MX10 cI cZ cL cW a0 a1 a2 a3 a4 a5 a6 k_thrown k_w_1 k_o_12 k_isKept k_went_3 k_wentMany_4 k_waiting_5 k_came_6 k_depth k_isSilent_13 k_x k_packed k_hits_8 k_rues_9 k_soonest_10 k_inAll)) hS => ?_)
  refine lv_aload_n hx hb dX10_hitsOf_10 rfl (lv_at hl 0 rfl) ?_
  refine gf_X10 (v := .int k_hits_8) C hE hP 0 12 rfl (by decide) qF_X10_295 rfl dX10_hitsOf_11 ?_
  cases hf
  exact rw_i C hr hlk hP hD hS dX10_hitsOf_14 rfl
def X10_least_L20 (F : Nat) : Nat → Int32 → Int32 → Int32 → Int32 → (Nat → Int32) → Int32 → (Nat → Int32) → Int32 → (Nat → Int32) → Int32 → Int32 → Int32 → Int32 → Int32 → Int32 → Option (Int32 × Int32 × (Nat → Int32) × Int32 × (Nat → Int32) × Int32 × (Nat → Int32) × Int32 × Int32 × Int32 × Int32 × Int32)
  | 0, _, _, _, _, _, _, _, _, _, _, _, _, _, _, _ => none
  | n + 1, v1, v2, v3, k_thrown, k_w, k_o, k_went, k_wentMany, k_waiting, k_came, k_depth, k_isSilent, k_hits, k_rues, k_soonest => if (60 : Int32) < v3 then (some ((-1), k_thrown, k_w, k_o, k_went, k_wentMany, k_waiting, k_came, k_isSilent, k_hits, k_rues, k_soonest)) else ((X10_hitsOf F v1 v3 k_w k_o k_went k_wentMany k_waiting k_came k_depth k_isSilent k_hits k_rues k_soonest).bind fun (r3, k_w_4, k_o_5, k_went_6, k_wentMany_7, k_waiting_8, k_came_9, k_isSilent_10, k_hits_11, k_rues_12, k_soonest_13) => (if (r3 : Int32) < v2 then (X10_least_L20 F n v1 v2 (v3 + 1) k_thrown k_w_4 k_o_5 k_went_6 k_wentMany_7 k_waiting_8 k_came_9 k_depth k_isSilent_10 k_hits_11 k_rues_12 k_soonest_13) else (some (v3, k_thrown, k_w_4, k_o_5, k_went_6, k_wentMany_7, k_waiting_8, k_came_9, k_isSilent_10, k_hits_11, k_rues_12, k_soonest_13))))
def X10_least (F : Nat) (p1 : Int32) (p2 : Int32) (k_thrown : Int32) (k_w : (Nat → Int32)) (k_o : Int32) (k_went : (Nat → Int32)) (k_wentMany : Int32) (k_waiting : (Nat → Int32)) (k_came : Int32) (k_depth : Int32) (k_isSilent : Int32) (k_hits : Int32) (k_rues : Int32) (k_soonest : Int32) : Option (Int32 × Int32 × (Nat → Int32) × Int32 × (Nat → Int32) × Int32 × (Nat → Int32) × Int32 × Int32 × Int32 × Int32 × Int32) := (X10_isWay F p1).bind fun r1 => (if (r1 : Int32) = 0 then (some ((-1), 0, k_w, k_o, k_went, k_wentMany, k_waiting, k_came, k_isSilent, k_hits, k_rues, k_soonest)) else (if (0 : Int32) ≤ p2 then (X10_least_L20 F F p1 p2 0 0 k_w k_o k_went k_wentMany k_waiting k_came k_depth k_isSilent k_hits k_rues k_soonest) else (some ((-1), 0, k_w, k_o, k_went, k_wentMany, k_waiting, k_came, k_isSilent, k_hits, k_rues, k_soonest))))
abbrev rm_X10_least : Room := { frames := 9, cells := 0, slots := 0, locals := 214 }
theorem ok_X10_least : OKV RX10 yX10_least cX10_least 4 (some .int) 2 := ⟨by decide +kernel, qV_X10_least, qL_X10_least, qI_X10, qD_X10_least⟩
set_option maxHeartbeats 4000000 in
set_option maxRecDepth 100000 in
theorem c_X10_least (l : Launch) (D : va_G) (cI cZ cL cW : ClassId) (F : Nat) (a0 : Nat) (a1 : Nat) (a2 : Nat) (a3 : Nat) (a4 : Nat) (a5 : Nat) (a6 : Nat) (k_thrown : Int32) (k_w : (Nat → Int32)) (k_o : Int32) (k_isKept : (Nat → Int32)) (k_went : (Nat → Int32)) (k_wentMany : Int32) (k_waiting : (Nat → Int32)) (k_came : Int32) (k_depth : Int32) (k_isSilent : Int32) (k_x : Int64) (k_packed : (Nat → Int32)) (k_hits : Int32) (k_rues : Int32) (k_soonest : Int32) (k_inAll : (Nat → Int32)) (p1 : Int32) (p2 : Int32) (r : Int32) (k_thrown' : Int32) (k_w' : (Nat → Int32)) (k_o' : Int32) (k_went' : (Nat → Int32)) (k_wentMany' : Int32) (k_waiting' : (Nat → Int32)) (k_came' : Int32) (k_isSilent' : Int32) (k_hits' : Int32) (k_rues' : Int32) (k_soonest' : Int32) (hf : X10_least F p1 p2 k_thrown k_w k_o k_went k_wentMany k_waiting k_came k_depth k_isSilent k_hits k_rues k_soonest = some (r, k_thrown', k_w', k_o', k_went', k_wentMany', k_waiting', k_came', k_isSilent', k_hits', k_rues', k_soonest')) : CtrW l D (tyL cI cZ cL cW) nestW yX10_least cX10_least 4 (some .int) rm_X10_least [.ref a0, .int p1, .int p2] (MX10 cI cZ cL cW a0 a1 a2 a3 a4 a5 a6 k_thrown k_w k_o k_isKept k_went k_wentMany k_waiting k_came k_depth k_isSilent k_x k_packed k_hits k_rues k_soonest k_inAll) (MX10 cI cZ cL cW a0 a1 a2 a3 a4 a5 a6 (k_thrown') (k_w') (k_o') k_isKept (k_went') (k_wentMany') (k_waiting') (k_came') k_depth (k_isSilent') k_x k_packed (k_hits') (k_rues') (k_soonest') k_inAll) (some (.int r)) := by
  refine ofA RX10 (by decide) rfl (Nat.le_of_ble_eq_true rfl) ?_
  intro p e s m below meth c ls A C hr hlk hE hA hP hD hS hl
  generalize (List.toArray ([.ref a0, .int p1, .int p2] : List Value)) = args at C ⊢
  obtain ⟨hx, hb, hml, hown, ht⟩ := id C
  have hl : lv_has ls 4 [(0, .ref a0), (1, .int p1), (2, .int p2)] := hl
  have L20 : ∀ (n : Nat) (v1 : Int32) (v2 : Int32) (v3 : Int32) (k_thrown : Int32) (k_w : (Nat → Int32)) (k_o : Int32) (k_isKept : (Nat → Int32)) (k_went : (Nat → Int32)) (k_wentMany : Int32) (k_waiting : (Nat → Int32)) (k_came : Int32) (k_depth : Int32) (k_isSilent : Int32) (k_x : Int64) (k_packed : (Nat → Int32)) (k_hits : Int32) (k_rues : Int32) (k_soonest : Int32) (k_inAll : (Nat → Int32)) (H : Heap) (locs : List Loc) (ls : Array Slot), X10_least_L20 F n v1 v2 v3 k_thrown k_w k_o k_went k_wentMany k_waiting k_came k_depth k_isSilent k_hits k_rues k_soonest = some (r, k_thrown', k_w', k_o', k_went', k_wentMany', k_waiting', k_came', k_isSilent', k_hits', k_rues', k_soonest') → va_P D vwCl (MX10 cI cZ cL cW a0 a1 a2 a3 a4 a5 a6 k_thrown k_w k_o k_isKept k_went k_wentMany k_waiting k_came k_depth k_isSilent k_x k_packed k_hits k_rues k_soonest k_inAll) H → va_D A (MX10 cI cZ cL cW a0 a1 a2 a3 a4 a5 a6 k_thrown k_w k_o k_isKept k_went k_wentMany k_waiting k_came k_depth k_isSilent k_x k_packed k_hits k_rues k_soonest k_inAll) → va_S A s.heap H locs → lv_has ls 4 [(0, .ref a0), (1, .int v1), (2, .int v2), (3, .int v3)] → W p l e rm_X10_least s m args below meth c H locs 0 0 (MQ below (QA D A (MX10 cI cZ cL cW a0 a1 a2 a3 a4 a5 a6 (k_thrown') (k_w') (k_o') k_isKept (k_went') (k_wentMany') (k_waiting') (k_came') k_depth (k_isSilent') k_x k_packed (k_hits') (k_rues') (k_soonest') k_inAll) (some (.int r))) args s 0 0 A) (F0 m 20 ls []) := by
    intro n
    induction n with
    | zero => intro v1 v2 v3 k_thrown k_w k_o k_isKept k_went k_wentMany k_waiting k_came k_depth k_isSilent k_x k_packed k_hits k_rues k_soonest k_inAll H locs ls hf hP hD hS hl; exact nn_s hf
    | succ n ih =>
      intro v1 v2 v3 k_thrown k_w k_o k_isKept k_went k_wentMany k_waiting k_came k_depth k_isSilent k_x k_packed k_hits k_rues k_soonest k_inAll H locs ls hf hP hD hS hl
      refine lv_iload_n hx hb dX10_least_20 rfl (lv_at hl 3 rfl) ?_
      refine lv_bipush (v := 60) hx hb dX10_least_21 (by decide) ?_
      refine lv_icmp_gt (tgt := 44) hx hb dX10_least_23 (by decide) (fun c16 => ?_) (fun c16 => ?_)
      · have hf := it_p hf c16
        refine lv_iconst (v := (-1)) hx hb dX10_least_44 (by decide) ?_
        cases hf
        exact rw_i C hr hlk hP hD hS dX10_least_45 rfl
      · have hf := it_n hf c16
        refine lv_aload_n hx hb dX10_least_26 rfl (lv_at hl 0 rfl) ?_
        refine lv_iload_n hx hb dX10_least_27 rfl (lv_at hl 1 rfl) ?_
        refine lv_iload_n hx hb dX10_least_28 rfl (lv_at hl 3 rfl) ?_
        obtain ⟨⟨r3, k_w_4, k_o_5, k_went_6, k_wentMany_7, k_waiting_8, k_came_9, k_isSilent_10, k_hits_11, k_rues_12, k_soonest_13⟩, h14, hf⟩ := bd_s hf
        refine iv_A (rest := []) (st1 := [.int r3]) C hE hP hD hS hA (c_X10_hitsOf l D cI cZ cL cW F a0 a1 a2 a3 a4 a5 a6 k_thrown k_w k_o k_isKept k_went k_wentMany k_waiting k_came k_depth k_isSilent k_x k_packed k_hits k_rues k_soonest k_inAll v1 v3 r3 k_w_4 k_o_5 k_went_6 k_wentMany_7 k_waiting_8 k_came_9 k_isSilent_10 k_hits_11 k_rues_12 k_soonest_13 h14) ok_X10_hitsOf qM_X10_312 rfl rfl ⟨(Nat.le_of_ble_eq_true rfl), (Nat.le_of_ble_eq_true rfl)⟩ rfl rfl hl.1 (Nat.le_of_ble_eq_true rfl) ⟨Nat.zero_le _, Nat.zero_le _⟩ dX10_least_29 rfl rfl (fun H locs (hP : va_P D vwCl (MX10 cI cZ cL cW a0 a1 a2 a3 a4 a5 a6 k_thrown k_w_4 k_o_5 k_isKept k_went_6 k_wentMany_7 k_waiting_8 k_came_9 k_depth k_isSilent_10 k_x k_packed k_hits_11 k_rues_12 k_soonest_13 k_inAll) H) (hD : va_D A (MX10 cI cZ cL cW a0 a1 a2 a3 a4 a5 a6 k_thrown k_w_4 k_o_5 k_isKept k_went_6 k_wentMany_7 k_waiting_8 k_came_9 k_depth k_isSilent_10 k_x k_packed k_hits_11 k_rues_12 k_soonest_13 k_inAll)) hS => ?_)
        refine lv_iload_n hx hb dX10_least_32 rfl (lv_at hl 2 rfl) ?_
        refine lv_icmp_lt (tgt := 38) hx hb dX10_least_33 (by decide) (fun c15 => ?_) (fun c15 => ?_)
        · have hf := it_p hf c15
          refine lv_iinc (v := (v3 + 1)) (lv' := [(3, .int (v3 + 1)), (0, .ref a0), (1, .int v1), (2, .int v2)]) hx hb dX10_least_38 hl (k := 3) rfl rfl (by decide) rfl (fun ls hl => ?_)
          refine lv_goto (tgt := 20) hx hb dX10_least_41 (by decide) ?_
          exact ih v1 v2 (v3 + 1) k_thrown k_w_4 k_o_5 k_isKept k_went_6 k_wentMany_7 k_waiting_8 k_came_9 k_depth k_isSilent_10 k_x k_packed k_hits_11 k_rues_12 k_soonest_13 k_inAll _ _ ls hf hP hD hS (lv_sub hl [1, 2, 3, 0] rfl)
        · have hf := it_n hf c15
          refine lv_iload_n hx hb dX10_least_36 rfl (lv_at hl 3 rfl) ?_
          cases hf
          exact rw_i C hr hlk hP hD hS dX10_least_37 rfl
  refine lv_aload_n hx hb dX10_least_0 rfl (lv_at hl 0 rfl) ?_
  refine lv_iconst (v := 0) hx hb dX10_least_1 (by decide) ?_
  refine pf_X10 (v := .int 0) C hE hP hD hS 0 0 rfl (by decide) qF_X10_1 rfl rfl rfl (Nat.le_of_ble_eq_true rfl) dX10_least_2 (fun H locs (hP : va_P D vwCl (MX10 cI cZ cL cW a0 a1 a2 a3 a4 a5 a6 0 k_w k_o k_isKept k_went k_wentMany k_waiting k_came k_depth k_isSilent k_x k_packed k_hits k_rues k_soonest k_inAll) H) (hD : va_D A (MX10 cI cZ cL cW a0 a1 a2 a3 a4 a5 a6 0 k_w k_o k_isKept k_went k_wentMany k_waiting k_came k_depth k_isSilent k_x k_packed k_hits k_rues k_soonest k_inAll)) hS => ?_)
  refine lv_iload_n hx hb dX10_least_5 rfl (lv_at hl 1 rfl) ?_
  obtain ⟨r1, h2, hf⟩ := bd_s hf
  refine is_R (rest := []) (st1 := [.int r1]) C hE va_P_nil (c_X10_isWay l D cI cZ cL cW F   p1 r1  h2) ok_X10_isWay qM_X10_306 rfl rfl ⟨(Nat.le_of_ble_eq_true rfl), (Nat.le_of_ble_eq_true rfl)⟩ hl.1 (Nat.le_of_ble_eq_true rfl) ⟨Nat.zero_le _, Nat.zero_le _⟩ dX10_least_6 rfl rfl ?_
  refine lv_if_eq (tgt := 16) hx hb dX10_least_9 (by decide) (fun c18 => ?_) (fun c18 => ?_)
  · have hf := it_p hf c18
    refine lv_iconst (v := (-1)) hx hb dX10_least_16 (by decide) ?_
    cases hf
    exact rw_i C hr hlk hP hD hS dX10_least_17 rfl
  · have hf := it_n hf c18
    refine lv_iload_n hx hb dX10_least_12 rfl (lv_at hl 2 rfl) ?_
    refine lv_if_ge (tgt := 18) hx hb dX10_least_13 (by decide) (fun c17 => ?_) (fun c17 => ?_)
    · have hf := it_p hf c17
      refine lv_iconst (v := 0) hx hb dX10_least_18 (by decide) ?_
      refine lv_istore_n (lv' := [(3, .int 0), (0, .ref a0), (1, .int p1), (2, .int p2)]) hx hb dX10_least_19 rfl hl (by decide) rfl (fun ls hl => ?_)
      exact L20 F p1 p2 0 0 k_w k_o k_isKept k_went k_wentMany k_waiting k_came k_depth k_isSilent k_x k_packed k_hits k_rues k_soonest k_inAll _ _ ls hf hP hD hS (lv_sub hl [1, 2, 3, 0] rfl)
    · have hf := it_n hf c17
      refine lv_iconst (v := (-1)) hx hb dX10_least_16 (by decide) ?_
      cases hf
      exact rw_i C hr hlk hP hD hS dX10_least_17 rfl
