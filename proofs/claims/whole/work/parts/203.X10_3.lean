def X10_logs_L49 (F : Nat) : Nat → Int32 → Int32 → Int32 → Int32 → Int32 → (Nat → Int32) → Int32 → Option ((Nat → Int32))
  | 0, _, _, _, _, _, _, _ => none
  | n + 1, v1, v2, v3, v4, v5, k_w, k_o => if (v5 : Int32) < 5 then (some k_w) else (if ((((k_o + 548) + v5) - 5) : Int32) < 0 ∨ 3392 ≤ (Int32.toNatClampNeg (((k_o + 548) + v5) - 5)) then none else (if (((k_o + 548) + v5) : Int32) < 0 ∨ 3392 ≤ (Int32.toNatClampNeg ((k_o + 548) + v5)) then none else (X10_logs_L49 F n v1 v2 v3 v4 (v5 + (-1)) (upd k_w (Int32.toNatClampNeg ((k_o + 548) + v5)) (k_w (Int32.toNatClampNeg (((k_o + 548) + v5) - 5)))) k_o)))
def X10_logs (F : Nat) (p1 : Int32) (p2 : Int32) (p3 : Int32) (p4 : Int32) (k_w : (Nat → Int32)) (k_o : Int32) (k_depth : Int32) : Option ((Nat → Int32)) := if ((k_o + 18) : Int32) < 0 ∨ 3392 ≤ (Int32.toNatClampNeg (k_o + 18)) then none else ((X10_lesser F 40 ((k_w (Int32.toNatClampNeg (k_o + 18))) + 1)).bind fun r1 => (if ((k_o + 18) : Int32) < 0 ∨ 3392 ≤ (Int32.toNatClampNeg (k_o + 18)) then none else (if ((k_o + 18) : Int32) < 0 ∨ 3392 ≤ (Int32.toNatClampNeg (k_o + 18)) then none else ((X10_logs_L49 F F p1 p2 p3 p4 ((5 * ((upd k_w (Int32.toNatClampNeg (k_o + 18)) r1) (Int32.toNatClampNeg (k_o + 18)))) - 1) (upd k_w (Int32.toNatClampNeg (k_o + 18)) r1) k_o).bind fun k6 => (if ((k_o + 548) : Int32) < 0 ∨ 3392 ≤ (Int32.toNatClampNeg (k_o + 548)) then none else (if (((k_o + 548) + 1) : Int32) < 0 ∨ 3392 ≤ (Int32.toNatClampNeg ((k_o + 548) + 1)) then none else (if (((k_o + 548) + 2) : Int32) < 0 ∨ 3392 ≤ (Int32.toNatClampNeg ((k_o + 548) + 2)) then none else (if (((k_o + 548) + 3) : Int32) < 0 ∨ 3392 ≤ (Int32.toNatClampNeg ((k_o + 548) + 3)) then none else (if (((k_o + 548) + 4) : Int32) < 0 ∨ 3392 ≤ (Int32.toNatClampNeg ((k_o + 548) + 4)) then none else (some (upd (upd (upd (upd (upd k6 (Int32.toNatClampNeg (k_o + 548)) p1) (Int32.toNatClampNeg ((k_o + 548) + 1)) p2) (Int32.toNatClampNeg ((k_o + 548) + 2)) (k_depth - 1)) (Int32.toNatClampNeg ((k_o + 548) + 3)) p3) (Int32.toNatClampNeg ((k_o + 548) + 4)) p4)))))))))))
abbrev rm_X10_logs : Room := { frames := 1, cells := 0, slots := 0, locals := 21 }
theorem ok_X10_logs : OKV RX10 yX10_logs cX10_logs 6 none 4 := ⟨by decide +kernel, qV_X10_logs, qL_X10_logs, qI_X10, qD_X10_logs⟩
set_option maxHeartbeats 4000000 in
set_option maxRecDepth 100000 in
theorem c_X10_logs (l : Launch) (D : va_G) (cI cZ cL cW : ClassId) (F : Nat) (a0 : Nat) (a1 : Nat) (a2 : Nat) (a3 : Nat) (a4 : Nat) (a5 : Nat) (a6 : Nat) (k_thrown : Int32) (k_w : (Nat → Int32)) (k_o : Int32) (k_isKept : (Nat → Int32)) (k_went : (Nat → Int32)) (k_wentMany : Int32) (k_waiting : (Nat → Int32)) (k_came : Int32) (k_depth : Int32) (k_isSilent : Int32) (k_x : Int64) (k_packed : (Nat → Int32)) (k_hits : Int32) (k_rues : Int32) (k_soonest : Int32) (k_inAll : (Nat → Int32)) (p1 : Int32) (p2 : Int32) (p3 : Int32) (p4 : Int32) (k_w' : (Nat → Int32)) (hf : X10_logs F p1 p2 p3 p4 k_w k_o k_depth = some (k_w')) : CtrW l D (tyL cI cZ cL cW) nestW yX10_logs cX10_logs 6 none rm_X10_logs [.ref a0, .int p1, .int p2, .int p3, .int p4] (MX10 cI cZ cL cW a0 a1 a2 a3 a4 a5 a6 k_thrown k_w k_o k_isKept k_went k_wentMany k_waiting k_came k_depth k_isSilent k_x k_packed k_hits k_rues k_soonest k_inAll) (MX10 cI cZ cL cW a0 a1 a2 a3 a4 a5 a6 k_thrown (k_w') k_o k_isKept k_went k_wentMany k_waiting k_came k_depth k_isSilent k_x k_packed k_hits k_rues k_soonest k_inAll) none := by
  refine ofA RX10 (by decide) rfl (Nat.le_of_ble_eq_true rfl) ?_
  intro p e s m below meth c ls A C hr hlk hE hA hP hD hS hl
  generalize (List.toArray ([.ref a0, .int p1, .int p2, .int p3, .int p4] : List Value)) = args at C ⊢
  obtain ⟨hx, hb, hml, hown, ht⟩ := id C
  have hl : lv_has ls 6 [(0, .ref a0), (1, .int p1), (2, .int p2), (3, .int p3), (4, .int p4)] := hl
  have L49 : ∀ (Q : State → Prop) (n : Nat) (v1 : Int32) (v2 : Int32) (v3 : Int32) (v4 : Int32) (v5 : Int32) (k_thrown : Int32) (k_w : (Nat → Int32)) (k_o : Int32) (k_isKept : (Nat → Int32)) (k_went : (Nat → Int32)) (k_wentMany : Int32) (k_waiting : (Nat → Int32)) (k_came : Int32) (k_depth : Int32) (k_isSilent : Int32) (k_x : Int64) (k_packed : (Nat → Int32)) (k_hits : Int32) (k_rues : Int32) (k_soonest : Int32) (k_inAll : (Nat → Int32)) (k_w' : (Nat → Int32)) (H : Heap) (locs : List Loc) (ls : Array Slot), X10_logs_L49 F n v1 v2 v3 v4 v5 k_w k_o = some (k_w') → va_P D vwCl (MX10 cI cZ cL cW a0 a1 a2 a3 a4 a5 a6 k_thrown k_w k_o k_isKept k_went k_wentMany k_waiting k_came k_depth k_isSilent k_x k_packed k_hits k_rues k_soonest k_inAll) H → va_D A (MX10 cI cZ cL cW a0 a1 a2 a3 a4 a5 a6 k_thrown k_w k_o k_isKept k_went k_wentMany k_waiting k_came k_depth k_isSilent k_x k_packed k_hits k_rues k_soonest k_inAll) → va_S A s.heap H locs → lv_has ls 6 [(0, .ref a0), (1, .int v1), (2, .int v2), (3, .int v3), (4, .int v4), (5, .int v5)] → (∀ (H : Heap) (locs : List Loc) (ls : Array Slot), va_P D vwCl (MX10 cI cZ cL cW a0 a1 a2 a3 a4 a5 a6 k_thrown (k_w') k_o k_isKept k_went k_wentMany k_waiting k_came k_depth k_isSilent k_x k_packed k_hits k_rues k_soonest k_inAll) H → va_D A (MX10 cI cZ cL cW a0 a1 a2 a3 a4 a5 a6 k_thrown (k_w') k_o k_isKept k_went k_wentMany k_waiting k_came k_depth k_isSilent k_x k_packed k_hits k_rues k_soonest k_inAll) → va_S A s.heap H locs → lv_has ls 6 [(0, .ref a0), (1, .int v1), (2, .int v2), (3, .int v3), (4, .int v4)] → W p l e rm_X10_logs s m args below meth c H locs 0 0 Q (F0 m 95 ls [])) → W p l e rm_X10_logs s m args below meth c H locs 0 0 Q (F0 m 49 ls []) := by
    intro Q n
    induction n with
    | zero => intro v1 v2 v3 v4 v5 k_thrown k_w k_o k_isKept k_went k_wentMany k_waiting k_came k_depth k_isSilent k_x k_packed k_hits k_rues k_soonest k_inAll k_w' H locs ls hf hP hD hS hl hk; exact nn_s hf
    | succ n ih =>
      intro v1 v2 v3 v4 v5 k_thrown k_w k_o k_isKept k_went k_wentMany k_waiting k_came k_depth k_isSilent k_x k_packed k_hits k_rues k_soonest k_inAll k_w' H locs ls hf hP hD hS hl hk
      refine lv_iload hx hb dX10_logs_49 (lv_at hl 5 rfl) ?_
      refine lv_iconst (v := 5) hx hb dX10_logs_51 (by decide) ?_
      refine lv_icmp_lt (tgt := 95) hx hb dX10_logs_52 (by decide) (fun c5 => ?_) (fun c5 => ?_)
      · have hf := it_p hf c5
        cases hf
        exact hk _ _ ls hP hD hS (lv_sub hl [0, 1, 2, 3, 4] rfl)
      · have hf := it_n hf c5
        refine lv_aload_n hx hb dX10_logs_55 rfl (lv_at hl 0 rfl) ?_
        refine gf_X10 (v := .ref a1) C hE hP 0 1 rfl (by decide) qF_X10_17 rfl dX10_logs_56 ?_
        refine lv_aload_n hx hb dX10_logs_59 rfl (lv_at hl 0 rfl) ?_
        refine gf_X10 (v := .int k_o) C hE hP 0 2 rfl (by decide) qF_X10_41 rfl dX10_logs_60 ?_
        refine lv_sipush (v := 548) hx hb dX10_logs_63 (by decide) ?_
        refine lv_iadd hx hb dX10_logs_66 ?_
        refine lv_iload hx hb dX10_logs_67 (lv_at hl 5 rfl) ?_
        refine lv_iadd hx hb dX10_logs_69 ?_
        refine lv_aload_n hx hb dX10_logs_70 rfl (lv_at hl 0 rfl) ?_
        refine gf_X10 (v := .ref a1) C hE hP 0 1 rfl (by decide) qF_X10_17 rfl dX10_logs_71 ?_
        refine lv_aload_n hx hb dX10_logs_74 rfl (lv_at hl 0 rfl) ?_
        refine gf_X10 (v := .int k_o) C hE hP 0 2 rfl (by decide) qF_X10_41 rfl dX10_logs_75 ?_
        refine lv_sipush (v := 548) hx hb dX10_logs_78 (by decide) ?_
        refine lv_iadd hx hb dX10_logs_81 ?_
        refine lv_iload hx hb dX10_logs_82 (lv_at hl 5 rfl) ?_
        refine lv_iadd hx hb dX10_logs_84 ?_
        refine lv_iconst (v := 5) hx hb dX10_logs_85 (by decide) ?_
        refine lv_isub hx hb dX10_logs_86 ?_
        obtain ⟨g4, hf⟩ := it_g hf
        refine va_iald hx hb hE.1 hP 1 0 rfl rfl g4 dX10_logs_87 ?_
        obtain ⟨g3, hf⟩ := it_g hf
        refine va_iast hx hb hE.1 hP hD hS 1 0 rfl rfl g3 dX10_logs_88 (fun H locs (hP : va_P D vwCl (MX10 cI cZ cL cW a0 a1 a2 a3 a4 a5 a6 k_thrown (upd k_w (Int32.toNatClampNeg ((k_o + 548) + v5)) (k_w (Int32.toNatClampNeg (((k_o + 548) + v5) - 5)))) k_o k_isKept k_went k_wentMany k_waiting k_came k_depth k_isSilent k_x k_packed k_hits k_rues k_soonest k_inAll) H) (hD : va_D A (MX10 cI cZ cL cW a0 a1 a2 a3 a4 a5 a6 k_thrown (upd k_w (Int32.toNatClampNeg ((k_o + 548) + v5)) (k_w (Int32.toNatClampNeg (((k_o + 548) + v5) - 5)))) k_o k_isKept k_went k_wentMany k_waiting k_came k_depth k_isSilent k_x k_packed k_hits k_rues k_soonest k_inAll)) hS => ?_)
        refine lv_iinc (v := (v5 + (-1))) (lv' := [(5, .int (v5 + (-1))), (0, .ref a0), (1, .int v1), (2, .int v2), (3, .int v3), (4, .int v4)]) hx hb dX10_logs_89 hl (k := 5) rfl rfl (by decide) rfl (fun ls hl => ?_)
        refine lv_goto (tgt := 49) hx hb dX10_logs_92 (by decide) ?_
        exact ih v1 v2 v3 v4 (v5 + (-1)) k_thrown (upd k_w (Int32.toNatClampNeg ((k_o + 548) + v5)) (k_w (Int32.toNatClampNeg (((k_o + 548) + v5) - 5)))) k_o k_isKept k_went k_wentMany k_waiting k_came k_depth k_isSilent k_x k_packed k_hits k_rues k_soonest k_inAll _ _ _ ls hf hP hD hS (lv_sub hl [1, 2, 3, 4, 5, 0] rfl) hk
  refine lv_aload_n hx hb dX10_logs_0 rfl (lv_at hl 0 rfl) ?_
  refine gf_X10 (v := .ref a1) C hE hP 0 1 rfl (by decide) qF_X10_17 rfl dX10_logs_1 ?_
  refine lv_aload_n hx hb dX10_logs_4 rfl (lv_at hl 0 rfl) ?_
  refine gf_X10 (v := .int k_o) C hE hP 0 2 rfl (by decide) qF_X10_41 rfl dX10_logs_5 ?_
  refine lv_bipush (v := 18) hx hb dX10_logs_8 (by decide) ?_
  refine lv_iadd hx hb dX10_logs_10 ?_
  refine lv_bipush (v := 40) hx hb dX10_logs_11 (by decide) ?_
  refine lv_aload_n hx hb dX10_logs_13 rfl (lv_at hl 0 rfl) ?_
  refine gf_X10 (v := .ref a1) C hE hP 0 1 rfl (by decide) qF_X10_17 rfl dX10_logs_14 ?_
  refine lv_aload_n hx hb dX10_logs_17 rfl (lv_at hl 0 rfl) ?_
  refine gf_X10 (v := .int k_o) C hE hP 0 2 rfl (by decide) qF_X10_41 rfl dX10_logs_18 ?_
  refine lv_bipush (v := 18) hx hb dX10_logs_21 (by decide) ?_
  refine lv_iadd hx hb dX10_logs_23 ?_
  obtain ⟨g15, hf⟩ := it_g hf
  refine va_iald hx hb hE.1 hP 1 0 rfl rfl g15 dX10_logs_24 ?_
  refine lv_iconst (v := 1) hx hb dX10_logs_25 (by decide) ?_
  refine lv_iadd hx hb dX10_logs_26 ?_
  obtain ⟨r1, h2, hf⟩ := bd_s hf
  refine is_R (rest := [.int (k_o + 18), .ref a1]) (st1 := [.int r1, .int (k_o + 18), .ref a1]) C hE va_P_nil (c_X10_lesser l D cI cZ cL cW F   40 ((k_w (Int32.toNatClampNeg (k_o + 18))) + 1) r1  h2) ok_X10_lesser qM_X10_7 rfl rfl ⟨(Nat.le_of_ble_eq_true rfl), (Nat.le_of_ble_eq_true rfl)⟩ hl.1 (Nat.le_of_ble_eq_true rfl) ⟨Nat.zero_le _, Nat.zero_le _⟩ dX10_logs_27 rfl rfl ?_
  obtain ⟨g14, hf⟩ := it_g hf
  refine va_iast hx hb hE.1 hP hD hS 1 0 rfl rfl g14 dX10_logs_30 (fun H locs (hP : va_P D vwCl (MX10 cI cZ cL cW a0 a1 a2 a3 a4 a5 a6 k_thrown (upd k_w (Int32.toNatClampNeg (k_o + 18)) r1) k_o k_isKept k_went k_wentMany k_waiting k_came k_depth k_isSilent k_x k_packed k_hits k_rues k_soonest k_inAll) H) (hD : va_D A (MX10 cI cZ cL cW a0 a1 a2 a3 a4 a5 a6 k_thrown (upd k_w (Int32.toNatClampNeg (k_o + 18)) r1) k_o k_isKept k_went k_wentMany k_waiting k_came k_depth k_isSilent k_x k_packed k_hits k_rues k_soonest k_inAll)) hS => ?_)
  refine lv_iconst (v := 5) hx hb dX10_logs_31 (by decide) ?_
  refine lv_aload_n hx hb dX10_logs_32 rfl (lv_at hl 0 rfl) ?_
  refine gf_X10 (v := .ref a1) C hE hP 0 1 rfl (by decide) qF_X10_17 rfl dX10_logs_33 ?_
  refine lv_aload_n hx hb dX10_logs_36 rfl (lv_at hl 0 rfl) ?_
  refine gf_X10 (v := .int k_o) C hE hP 0 2 rfl (by decide) qF_X10_41 rfl dX10_logs_37 ?_
  refine lv_bipush (v := 18) hx hb dX10_logs_40 (by decide) ?_
  refine lv_iadd hx hb dX10_logs_42 ?_
  obtain ⟨g13, hf⟩ := it_g hf
  refine va_iald hx hb hE.1 hP 1 0 rfl rfl g13 dX10_logs_43 ?_
  refine lv_imul hx hb dX10_logs_44 ?_
  refine lv_iconst (v := 1) hx hb dX10_logs_45 (by decide) ?_
  refine lv_isub hx hb dX10_logs_46 ?_
  refine lv_istore (lv' := [(5, .int ((5 * ((upd k_w (Int32.toNatClampNeg (k_o + 18)) r1) (Int32.toNatClampNeg (k_o + 18)))) - 1)), (0, .ref a0), (1, .int p1), (2, .int p2), (3, .int p3), (4, .int p4)]) hx hb dX10_logs_47 hl (by decide) rfl (fun ls hl => ?_)
  obtain ⟨k6, h7, hf⟩ := bd_s hf
  refine L49 _ F p1 p2 p3 p4 ((5 * ((upd k_w (Int32.toNatClampNeg (k_o + 18)) r1) (Int32.toNatClampNeg (k_o + 18)))) - 1) k_thrown (upd k_w (Int32.toNatClampNeg (k_o + 18)) r1) k_o k_isKept k_went k_wentMany k_waiting k_came k_depth k_isSilent k_x k_packed k_hits k_rues k_soonest k_inAll k6 _ _ ls h7 hP hD hS (lv_sub hl [1, 2, 3, 4, 5, 0] rfl) (fun H locs ls hP hD hS hl => ?_)
  refine lv_aload_n hx hb dX10_logs_95 rfl (lv_at hl 0 rfl) ?_
  refine gf_X10 (v := .ref a1) C hE hP 0 1 rfl (by decide) qF_X10_17 rfl dX10_logs_96 ?_
  refine lv_aload_n hx hb dX10_logs_99 rfl (lv_at hl 0 rfl) ?_
  refine gf_X10 (v := .int k_o) C hE hP 0 2 rfl (by decide) qF_X10_41 rfl dX10_logs_100 ?_
  refine lv_sipush (v := 548) hx hb dX10_logs_103 (by decide) ?_
  refine lv_iadd hx hb dX10_logs_106 ?_
  refine lv_iload_n hx hb dX10_logs_107 rfl (lv_at hl 1 rfl) ?_
  obtain ⟨g12, hf⟩ := it_g hf
  refine va_iast hx hb hE.1 hP hD hS 1 0 rfl rfl g12 dX10_logs_108 (fun H locs (hP : va_P D vwCl (MX10 cI cZ cL cW a0 a1 a2 a3 a4 a5 a6 k_thrown (upd k6 (Int32.toNatClampNeg (k_o + 548)) p1) k_o k_isKept k_went k_wentMany k_waiting k_came k_depth k_isSilent k_x k_packed k_hits k_rues k_soonest k_inAll) H) (hD : va_D A (MX10 cI cZ cL cW a0 a1 a2 a3 a4 a5 a6 k_thrown (upd k6 (Int32.toNatClampNeg (k_o + 548)) p1) k_o k_isKept k_went k_wentMany k_waiting k_came k_depth k_isSilent k_x k_packed k_hits k_rues k_soonest k_inAll)) hS => ?_)
  refine lv_aload_n hx hb dX10_logs_109 rfl (lv_at hl 0 rfl) ?_
  refine gf_X10 (v := .ref a1) C hE hP 0 1 rfl (by decide) qF_X10_17 rfl dX10_logs_110 ?_
  refine lv_aload_n hx hb dX10_logs_113 rfl (lv_at hl 0 rfl) ?_
  refine gf_X10 (v := .int k_o) C hE hP 0 2 rfl (by decide) qF_X10_41 rfl dX10_logs_114 ?_
  refine lv_sipush (v := 548) hx hb dX10_logs_117 (by decide) ?_
  refine lv_iadd hx hb dX10_logs_120 ?_
  refine lv_iconst (v := 1) hx hb dX10_logs_121 (by decide) ?_
  refine lv_iadd hx hb dX10_logs_122 ?_
  refine lv_iload_n hx hb dX10_logs_123 rfl (lv_at hl 2 rfl) ?_
  obtain ⟨g11, hf⟩ := it_g hf
  refine va_iast hx hb hE.1 hP hD hS 1 0 rfl rfl g11 dX10_logs_124 (fun H locs (hP : va_P D vwCl (MX10 cI cZ cL cW a0 a1 a2 a3 a4 a5 a6 k_thrown (upd (upd k6 (Int32.toNatClampNeg (k_o + 548)) p1) (Int32.toNatClampNeg ((k_o + 548) + 1)) p2) k_o k_isKept k_went k_wentMany k_waiting k_came k_depth k_isSilent k_x k_packed k_hits k_rues k_soonest k_inAll) H) (hD : va_D A (MX10 cI cZ cL cW a0 a1 a2 a3 a4 a5 a6 k_thrown (upd (upd k6 (Int32.toNatClampNeg (k_o + 548)) p1) (Int32.toNatClampNeg ((k_o + 548) + 1)) p2) k_o k_isKept k_went k_wentMany k_waiting k_came k_depth k_isSilent k_x k_packed k_hits k_rues k_soonest k_inAll)) hS => ?_)
  refine lv_aload_n hx hb dX10_logs_125 rfl (lv_at hl 0 rfl) ?_
  refine gf_X10 (v := .ref a1) C hE hP 0 1 rfl (by decide) qF_X10_17 rfl dX10_logs_126 ?_
  refine lv_aload_n hx hb dX10_logs_129 rfl (lv_at hl 0 rfl) ?_
  refine gf_X10 (v := .int k_o) C hE hP 0 2 rfl (by decide) qF_X10_41 rfl dX10_logs_130 ?_
  refine lv_sipush (v := 548) hx hb dX10_logs_133 (by decide) ?_
  refine lv_iadd hx hb dX10_logs_136 ?_
  refine lv_iconst (v := 2) hx hb dX10_logs_137 (by decide) ?_
  refine lv_iadd hx hb dX10_logs_138 ?_
  refine lv_aload_n hx hb dX10_logs_139 rfl (lv_at hl 0 rfl) ?_
  refine gf_X10 (v := .int k_depth) C hE hP 0 8 rfl (by decide) qF_X10_112 rfl dX10_logs_140 ?_
  refine lv_iconst (v := 1) hx hb dX10_logs_143 (by decide) ?_
  refine lv_isub hx hb dX10_logs_144 ?_
  obtain ⟨g10, hf⟩ := it_g hf
  refine va_iast hx hb hE.1 hP hD hS 1 0 rfl rfl g10 dX10_logs_145 (fun H locs (hP : va_P D vwCl (MX10 cI cZ cL cW a0 a1 a2 a3 a4 a5 a6 k_thrown (upd (upd (upd k6 (Int32.toNatClampNeg (k_o + 548)) p1) (Int32.toNatClampNeg ((k_o + 548) + 1)) p2) (Int32.toNatClampNeg ((k_o + 548) + 2)) (k_depth - 1)) k_o k_isKept k_went k_wentMany k_waiting k_came k_depth k_isSilent k_x k_packed k_hits k_rues k_soonest k_inAll) H) (hD : va_D A (MX10 cI cZ cL cW a0 a1 a2 a3 a4 a5 a6 k_thrown (upd (upd (upd k6 (Int32.toNatClampNeg (k_o + 548)) p1) (Int32.toNatClampNeg ((k_o + 548) + 1)) p2) (Int32.toNatClampNeg ((k_o + 548) + 2)) (k_depth - 1)) k_o k_isKept k_went k_wentMany k_waiting k_came k_depth k_isSilent k_x k_packed k_hits k_rues k_soonest k_inAll)) hS => ?_)
  refine lv_aload_n hx hb dX10_logs_146 rfl (lv_at hl 0 rfl) ?_
  refine gf_X10 (v := .ref a1) C hE hP 0 1 rfl (by decide) qF_X10_17 rfl dX10_logs_147 ?_
  refine lv_aload_n hx hb dX10_logs_150 rfl (lv_at hl 0 rfl) ?_
  refine gf_X10 (v := .int k_o) C hE hP 0 2 rfl (by decide) qF_X10_41 rfl dX10_logs_151 ?_
  refine lv_sipush (v := 548) hx hb dX10_logs_154 (by decide) ?_
  refine lv_iadd hx hb dX10_logs_157 ?_
  refine lv_iconst (v := 3) hx hb dX10_logs_158 (by decide) ?_
  refine lv_iadd hx hb dX10_logs_159 ?_
  refine lv_iload_n hx hb dX10_logs_160 rfl (lv_at hl 3 rfl) ?_
  obtain ⟨g9, hf⟩ := it_g hf
  refine va_iast hx hb hE.1 hP hD hS 1 0 rfl rfl g9 dX10_logs_161 (fun H locs (hP : va_P D vwCl (MX10 cI cZ cL cW a0 a1 a2 a3 a4 a5 a6 k_thrown (upd (upd (upd (upd k6 (Int32.toNatClampNeg (k_o + 548)) p1) (Int32.toNatClampNeg ((k_o + 548) + 1)) p2) (Int32.toNatClampNeg ((k_o + 548) + 2)) (k_depth - 1)) (Int32.toNatClampNeg ((k_o + 548) + 3)) p3) k_o k_isKept k_went k_wentMany k_waiting k_came k_depth k_isSilent k_x k_packed k_hits k_rues k_soonest k_inAll) H) (hD : va_D A (MX10 cI cZ cL cW a0 a1 a2 a3 a4 a5 a6 k_thrown (upd (upd (upd (upd k6 (Int32.toNatClampNeg (k_o + 548)) p1) (Int32.toNatClampNeg ((k_o + 548) + 1)) p2) (Int32.toNatClampNeg ((k_o + 548) + 2)) (k_depth - 1)) (Int32.toNatClampNeg ((k_o + 548) + 3)) p3) k_o k_isKept k_went k_wentMany k_waiting k_came k_depth k_isSilent k_x k_packed k_hits k_rues k_soonest k_inAll)) hS => ?_)
  refine lv_aload_n hx hb dX10_logs_162 rfl (lv_at hl 0 rfl) ?_
  refine gf_X10 (v := .ref a1) C hE hP 0 1 rfl (by decide) qF_X10_17 rfl dX10_logs_163 ?_
  refine lv_aload_n hx hb dX10_logs_166 rfl (lv_at hl 0 rfl) ?_
  refine gf_X10 (v := .int k_o) C hE hP 0 2 rfl (by decide) qF_X10_41 rfl dX10_logs_167 ?_
  refine lv_sipush (v := 548) hx hb dX10_logs_170 (by decide) ?_
  refine lv_iadd hx hb dX10_logs_173 ?_
  refine lv_iconst (v := 4) hx hb dX10_logs_174 (by decide) ?_
  refine lv_iadd hx hb dX10_logs_175 ?_
  refine lv_iload hx hb dX10_logs_176 (lv_at hl 4 rfl) ?_
  obtain ⟨g8, hf⟩ := it_g hf
  refine va_iast hx hb hE.1 hP hD hS 1 0 rfl rfl g8 dX10_logs_178 (fun H locs (hP : va_P D vwCl (MX10 cI cZ cL cW a0 a1 a2 a3 a4 a5 a6 k_thrown (upd (upd (upd (upd (upd k6 (Int32.toNatClampNeg (k_o + 548)) p1) (Int32.toNatClampNeg ((k_o + 548) + 1)) p2) (Int32.toNatClampNeg ((k_o + 548) + 2)) (k_depth - 1)) (Int32.toNatClampNeg ((k_o + 548) + 3)) p3) (Int32.toNatClampNeg ((k_o + 548) + 4)) p4) k_o k_isKept k_went k_wentMany k_waiting k_came k_depth k_isSilent k_x k_packed k_hits k_rues k_soonest k_inAll) H) (hD : va_D A (MX10 cI cZ cL cW a0 a1 a2 a3 a4 a5 a6 k_thrown (upd (upd (upd (upd (upd k6 (Int32.toNatClampNeg (k_o + 548)) p1) (Int32.toNatClampNeg ((k_o + 548) + 1)) p2) (Int32.toNatClampNeg ((k_o + 548) + 2)) (k_depth - 1)) (Int32.toNatClampNeg ((k_o + 548) + 3)) p3) (Int32.toNatClampNeg ((k_o + 548) + 4)) p4) k_o k_isKept k_went k_wentMany k_waiting k_came k_depth k_isSilent k_x k_packed k_hits k_rues k_soonest k_inAll)) hS => ?_)
  cases hf
  exact rw_v C hr hlk hP hD hS dX10_logs_179
def X10_done_L125 (F : Nat) : Nat → Int32 → Int32 → Int32 → Int32 → Int32 → Int32 → Int32 → (Nat → Int32) → Int32 → (Nat → Int32) → Int32 → (Nat → Int32) → Int32 → Int32 → Int32 → Option (Int32 × (Nat → Int32) × (Nat → Int32) × Int32 × (Nat → Int32) × Int32)
  | 0, _, _, _, _, _, _, _, _, _, _, _, _, _, _, _ => none
  | n + 1, v1, v2, v3, v4, v5, v6, v7, k_w, k_o, k_went, k_wentMany, k_waiting, k_came, k_depth, k_isSilent => if ((k_o + 7) : Int32) < 0 ∨ 3392 ≤ (Int32.toNatClampNeg (k_o + 7)) then none else (if ((k_w (Int32.toNatClampNeg (k_o + 7))) : Int32) ≤ v7 then (some (v6, k_w, k_went, k_wentMany, k_waiting, k_came)) else ((X10_isHeardBy F v7 v3 v4 k_w k_o).bind fun r1 => (if (r1 : Int32) = 0 then (X10_done_L125 F n v1 v2 v3 v4 v5 v6 (v7 + 1) k_w k_o k_went k_wentMany k_waiting k_came k_depth k_isSilent) else ((X10_hearerAt F v7 k_o).bind fun r3 => (if ((r3 + 7) : Int32) < 0 ∨ 3392 ≤ (Int32.toNatClampNeg (r3 + 7)) then none else (if ((r3 + 7) : Int32) < 0 ∨ 3392 ≤ (Int32.toNatClampNeg (r3 + 7)) then none else ((X10_hearerAt F v7 k_o).bind fun r5 => (if ((r5 + 8) : Int32) < 0 ∨ 3392 ≤ (Int32.toNatClampNeg (r5 + 8)) then none else ((X10_acts F v7 v4 v5 (upd k_w (Int32.toNatClampNeg (r3 + 7)) ((k_w (Int32.toNatClampNeg (r3 + 7))) + 1)) k_o k_went k_wentMany k_waiting k_came k_depth k_isSilent).bind fun (r7, k_w_8, k_went_9, k_wentMany_10, k_waiting_11, k_came_12) => ((X10_flag F r7).bind fun r14 => (if ((r5 + 8) : Int32) < 0 ∨ 3392 ≤ (Int32.toNatClampNeg (r5 + 8)) then none else (X10_done_L125 F n v1 v2 v3 v4 v5 (v6 + 1) (v7 + 1) (upd k_w_8 (Int32.toNatClampNeg (r5 + 8)) (((upd k_w (Int32.toNatClampNeg (r3 + 7)) ((k_w (Int32.toNatClampNeg (r3 + 7))) + 1)) (Int32.toNatClampNeg (r5 + 8))) + r14)) k_o k_went_9 k_wentMany_10 k_waiting_11 k_came_12 k_depth k_isSilent))))))))))))
def X10_done_L2 (F : Nat) : Nat → Int32 → Int32 → (Nat → Int32) → Int32 → (Nat → Int32) → Int32 → (Nat → Int32) → Int32 → Int32 → Int32 → Option ((Nat → Int32) × (Nat → Int32) × Int32 × (Nat → Int32) × Int32 × Int32)
  | 0, _, _, _, _, _, _, _, _, _, _ => none
  | n + 1, v1, v2, k_w, k_o, k_went, k_wentMany, k_waiting, k_came, k_depth, k_isSilent => if (k_came : Int32) ≤ v2 then (some (k_w, k_went, k_wentMany, k_waiting, k_came, k_depth)) else (if (100 : Int32) ≤ v2 then (some (k_w, k_went, k_wentMany, k_waiting, k_came, k_depth)) else (if ((5 * v2) : Int32) < 0 ∨ 500 ≤ (Int32.toNatClampNeg (5 * v2)) then none else (if (((5 * v2) + 1) : Int32) < 0 ∨ 500 ≤ (Int32.toNatClampNeg ((5 * v2) + 1)) then none else (if ((k_waiting (Int32.toNatClampNeg (5 * v2))) : Int32) = 5 then (if (((5 * v2) + 4) : Int32) < 0 ∨ 500 ≤ (Int32.toNatClampNeg ((5 * v2) + 4)) then none else (if ((k_o + 17) : Int32) < 0 ∨ 3392 ≤ (Int32.toNatClampNeg (k_o + 17)) then none else (if ((((k_waiting (Int32.toNatClampNeg ((5 * v2) + 4))) + 1) - 1) : Int32) ≤ (k_w (Int32.toNatClampNeg (k_o + 17))) then ((X10_done_L125 F F v1 v2 (k_waiting (Int32.toNatClampNeg (5 * v2))) (k_waiting (Int32.toNatClampNeg ((5 * v2) + 1))) 0 0 0 k_w k_o k_went k_wentMany k_waiting k_came ((k_waiting (Int32.toNatClampNeg ((5 * v2) + 4))) + 1) k_isSilent).bind fun (x23, k24, k25, k26, k27, k28) => (if (((5 * v2) + 3) : Int32) < 0 ∨ 500 ≤ (Int32.toNatClampNeg ((5 * v2) + 3)) then none else ((X10_logs F (k_waiting (Int32.toNatClampNeg (5 * v2))) (k_waiting (Int32.toNatClampNeg ((5 * v2) + 1))) (k27 (Int32.toNatClampNeg ((5 * v2) + 3))) x23 k24 k_o ((k_waiting (Int32.toNatClampNeg ((5 * v2) + 4))) + 1)).bind fun k_w_30 => (X10_done_L2 F n v1 (v2 + 1) k_w_30 k_o k25 k26 k27 k28 ((k_waiting (Int32.toNatClampNeg ((5 * v2) + 4))) + 1) k_isSilent)))) else (if ((k_o + 17) : Int32) < 0 ∨ 3392 ≤ (Int32.toNatClampNeg (k_o + 17)) then none else ((X10_done_L125 F F v1 v2 (k_waiting (Int32.toNatClampNeg (5 * v2))) (k_waiting (Int32.toNatClampNeg ((5 * v2) + 1))) 0 0 0 (upd k_w (Int32.toNatClampNeg (k_o + 17)) (((k_waiting (Int32.toNatClampNeg ((5 * v2) + 4))) + 1) - 1)) k_o k_went k_wentMany k_waiting k_came ((k_waiting (Int32.toNatClampNeg ((5 * v2) + 4))) + 1) k_isSilent).bind fun (x33, k34, k35, k36, k37, k38) => (if (((5 * v2) + 3) : Int32) < 0 ∨ 500 ≤ (Int32.toNatClampNeg ((5 * v2) + 3)) then none else ((X10_logs F (k_waiting (Int32.toNatClampNeg (5 * v2))) (k_waiting (Int32.toNatClampNeg ((5 * v2) + 1))) (k37 (Int32.toNatClampNeg ((5 * v2) + 3))) x33 k34 k_o ((k_waiting (Int32.toNatClampNeg ((5 * v2) + 4))) + 1)).bind fun k_w_40 => (X10_done_L2 F n v1 (v2 + 1) k_w_40 k_o k35 k36 k37 k38 ((k_waiting (Int32.toNatClampNeg ((5 * v2) + 4))) + 1) k_isSilent)))))))) else (if ((k_waiting (Int32.toNatClampNeg (5 * v2))) : Int32) = 6 then (if (((5 * v2) + 4) : Int32) < 0 ∨ 500 ≤ (Int32.toNatClampNeg ((5 * v2) + 4)) then none else (if ((k_o + 17) : Int32) < 0 ∨ 3392 ≤ (Int32.toNatClampNeg (k_o + 17)) then none else (if ((((k_waiting (Int32.toNatClampNeg ((5 * v2) + 4))) + 1) - 1) : Int32) ≤ (k_w (Int32.toNatClampNeg (k_o + 17))) then ((X10_done_L125 F F v1 v2 (k_waiting (Int32.toNatClampNeg (5 * v2))) (k_waiting (Int32.toNatClampNeg ((5 * v2) + 1))) 0 0 0 k_w k_o k_went k_wentMany k_waiting k_came ((k_waiting (Int32.toNatClampNeg ((5 * v2) + 4))) + 1) k_isSilent).bind fun (x72, k73, k74, k75, k76, k77) => (if (((5 * v2) + 3) : Int32) < 0 ∨ 500 ≤ (Int32.toNatClampNeg ((5 * v2) + 3)) then none else ((X10_logs F (k_waiting (Int32.toNatClampNeg (5 * v2))) (k_waiting (Int32.toNatClampNeg ((5 * v2) + 1))) (k76 (Int32.toNatClampNeg ((5 * v2) + 3))) x72 k73 k_o ((k_waiting (Int32.toNatClampNeg ((5 * v2) + 4))) + 1)).bind fun k_w_79 => (X10_done_L2 F n v1 (v2 + 1) k_w_79 k_o k74 k75 k76 k77 ((k_waiting (Int32.toNatClampNeg ((5 * v2) + 4))) + 1) k_isSilent)))) else (if ((k_o + 17) : Int32) < 0 ∨ 3392 ≤ (Int32.toNatClampNeg (k_o + 17)) then none else ((X10_done_L125 F F v1 v2 (k_waiting (Int32.toNatClampNeg (5 * v2))) (k_waiting (Int32.toNatClampNeg ((5 * v2) + 1))) 0 0 0 (upd k_w (Int32.toNatClampNeg (k_o + 17)) (((k_waiting (Int32.toNatClampNeg ((5 * v2) + 4))) + 1) - 1)) k_o k_went k_wentMany k_waiting k_came ((k_waiting (Int32.toNatClampNeg ((5 * v2) + 4))) + 1) k_isSilent).bind fun (x82, k83, k84, k85, k86, k87) => (if (((5 * v2) + 3) : Int32) < 0 ∨ 500 ≤ (Int32.toNatClampNeg ((5 * v2) + 3)) then none else ((X10_logs F (k_waiting (Int32.toNatClampNeg (5 * v2))) (k_waiting (Int32.toNatClampNeg ((5 * v2) + 1))) (k86 (Int32.toNatClampNeg ((5 * v2) + 3))) x82 k83 k_o ((k_waiting (Int32.toNatClampNeg ((5 * v2) + 4))) + 1)).bind fun k_w_89 => (X10_done_L2 F n v1 (v2 + 1) k_w_89 k_o k84 k85 k86 k87 ((k_waiting (Int32.toNatClampNeg ((5 * v2) + 4))) + 1) k_isSilent)))))))) else (if (((5 * v2) + 2) : Int32) < 0 ∨ 500 ≤ (Int32.toNatClampNeg ((5 * v2) + 2)) then none else (if (((5 * v2) + 4) : Int32) < 0 ∨ 500 ≤ (Int32.toNatClampNeg ((5 * v2) + 4)) then none else (if ((k_o + 17) : Int32) < 0 ∨ 3392 ≤ (Int32.toNatClampNeg (k_o + 17)) then none else (if ((((k_waiting (Int32.toNatClampNeg ((5 * v2) + 4))) + 1) - 1) : Int32) ≤ (k_w (Int32.toNatClampNeg (k_o + 17))) then ((X10_done_L125 F F v1 v2 (k_waiting (Int32.toNatClampNeg (5 * v2))) (k_waiting (Int32.toNatClampNeg ((5 * v2) + 1))) (k_waiting (Int32.toNatClampNeg ((5 * v2) + 2))) 0 0 k_w k_o k_went k_wentMany k_waiting k_came ((k_waiting (Int32.toNatClampNeg ((5 * v2) + 4))) + 1) k_isSilent).bind fun (x47, k48, k49, k50, k51, k52) => (if (((5 * v2) + 3) : Int32) < 0 ∨ 500 ≤ (Int32.toNatClampNeg ((5 * v2) + 3)) then none else ((X10_logs F (k_waiting (Int32.toNatClampNeg (5 * v2))) (k_waiting (Int32.toNatClampNeg ((5 * v2) + 1))) (k51 (Int32.toNatClampNeg ((5 * v2) + 3))) x47 k48 k_o ((k_waiting (Int32.toNatClampNeg ((5 * v2) + 4))) + 1)).bind fun k_w_54 => (X10_done_L2 F n v1 (v2 + 1) k_w_54 k_o k49 k50 k51 k52 ((k_waiting (Int32.toNatClampNeg ((5 * v2) + 4))) + 1) k_isSilent)))) else (if ((k_o + 17) : Int32) < 0 ∨ 3392 ≤ (Int32.toNatClampNeg (k_o + 17)) then none else ((X10_done_L125 F F v1 v2 (k_waiting (Int32.toNatClampNeg (5 * v2))) (k_waiting (Int32.toNatClampNeg ((5 * v2) + 1))) (k_waiting (Int32.toNatClampNeg ((5 * v2) + 2))) 0 0 (upd k_w (Int32.toNatClampNeg (k_o + 17)) (((k_waiting (Int32.toNatClampNeg ((5 * v2) + 4))) + 1) - 1)) k_o k_went k_wentMany k_waiting k_came ((k_waiting (Int32.toNatClampNeg ((5 * v2) + 4))) + 1) k_isSilent).bind fun (x57, k58, k59, k60, k61, k62) => (if (((5 * v2) + 3) : Int32) < 0 ∨ 500 ≤ (Int32.toNatClampNeg ((5 * v2) + 3)) then none else ((X10_logs F (k_waiting (Int32.toNatClampNeg (5 * v2))) (k_waiting (Int32.toNatClampNeg ((5 * v2) + 1))) (k61 (Int32.toNatClampNeg ((5 * v2) + 3))) x57 k58 k_o ((k_waiting (Int32.toNatClampNeg ((5 * v2) + 4))) + 1)).bind fun k_w_64 => (X10_done_L2 F n v1 (v2 + 1) k_w_64 k_o k59 k60 k61 k62 ((k_waiting (Int32.toNatClampNeg ((5 * v2) + 4))) + 1) k_isSilent))))))))))))))
def X10_done (F : Nat) (p1 : Int32) (k_w : (Nat → Int32)) (k_o : Int32) (k_went : (Nat → Int32)) (k_wentMany : Int32) (k_waiting : (Nat → Int32)) (k_came : Int32) (k_depth : Int32) (k_isSilent : Int32) : Option (Int32 × (Nat → Int32) × (Nat → Int32) × Int32 × (Nat → Int32) × Int32 × Int32) := (X10_done_L2 F F p1 0 k_w k_o k_went k_wentMany k_waiting k_came k_depth k_isSilent).bind fun (k102, k103, k104, k105, k106, k107) => (if (k106 : Int32) ≤ 100 then (some (p1, k102, k103, k104, k105, k106, k107)) else (if ((k_o + 13) : Int32) < 0 ∨ 3392 ≤ (Int32.toNatClampNeg (k_o + 13)) then none else (if ((k_o + 13) : Int32) < 0 ∨ 3392 ≤ (Int32.toNatClampNeg (k_o + 13)) then none else (some (p1, (upd k102 (Int32.toNatClampNeg (k_o + 13)) ((k102 (Int32.toNatClampNeg (k_o + 13))) + (k106 - 100))), k103, k104, k105, k106, k107)))))
abbrev rm_X10_done : Room := { frames := 9, cells := 0, slots := 0, locals := 209 }
theorem ok_X10_done : OKV RX10 yX10_done cX10_done 8 (some .int) 1 := ⟨by decide +kernel, qV_X10_done, qL_X10_done, qI_X10, qD_X10_done⟩
set_option maxHeartbeats 4000000 in
set_option maxRecDepth 100000 in
theorem c_X10_done (l : Launch) (D : va_G) (cI cZ cL cW : ClassId) (F : Nat) (a0 : Nat) (a1 : Nat) (a2 : Nat) (a3 : Nat) (a4 : Nat) (a5 : Nat) (a6 : Nat) (k_thrown : Int32) (k_w : (Nat → Int32)) (k_o : Int32) (k_isKept : (Nat → Int32)) (k_went : (Nat → Int32)) (k_wentMany : Int32) (k_waiting : (Nat → Int32)) (k_came : Int32) (k_depth : Int32) (k_isSilent : Int32) (k_x : Int64) (k_packed : (Nat → Int32)) (k_hits : Int32) (k_rues : Int32) (k_soonest : Int32) (k_inAll : (Nat → Int32)) (p1 : Int32) (r : Int32) (k_w' : (Nat → Int32)) (k_went' : (Nat → Int32)) (k_wentMany' : Int32) (k_waiting' : (Nat → Int32)) (k_came' : Int32) (k_depth' : Int32) (hf : X10_done F p1 k_w k_o k_went k_wentMany k_waiting k_came k_depth k_isSilent = some (r, k_w', k_went', k_wentMany', k_waiting', k_came', k_depth')) : CtrW l D (tyL cI cZ cL cW) nestW yX10_done cX10_done 8 (some .int) rm_X10_done [.ref a0, .int p1] (MX10 cI cZ cL cW a0 a1 a2 a3 a4 a5 a6 k_thrown k_w k_o k_isKept k_went k_wentMany k_waiting k_came k_depth k_isSilent k_x k_packed k_hits k_rues k_soonest k_inAll) (MX10 cI cZ cL cW a0 a1 a2 a3 a4 a5 a6 k_thrown (k_w') k_o k_isKept (k_went') (k_wentMany') (k_waiting') (k_came') (k_depth') k_isSilent k_x k_packed k_hits k_rues k_soonest k_inAll) (some (.int r)) := by
  refine ofA RX10 (by decide) rfl (Nat.le_of_ble_eq_true rfl) ?_
  intro p e s m below meth c ls A C hr hlk hE hA hP hD hS hl
  generalize (List.toArray ([.ref a0, .int p1] : List Value)) = args at C ⊢
  obtain ⟨hx, hb, hml, hown, ht⟩ := id C
  have hl : lv_has ls 8 [(0, .ref a0), (1, .int p1)] := hl
  have L125 : ∀ (Q : State → Prop) (n : Nat) (v1 : Int32) (v2 : Int32) (v3 : Int32) (v4 : Int32) (v5 : Int32) (v6 : Int32) (v7 : Int32) (k_thrown : Int32) (k_w : (Nat → Int32)) (k_o : Int32) (k_isKept : (Nat → Int32)) (k_went : (Nat → Int32)) (k_wentMany : Int32) (k_waiting : (Nat → Int32)) (k_came : Int32) (k_depth : Int32) (k_isSilent : Int32) (k_x : Int64) (k_packed : (Nat → Int32)) (k_hits : Int32) (k_rues : Int32) (k_soonest : Int32) (k_inAll : (Nat → Int32)) (x6 : Int32) (k_w' : (Nat → Int32)) (k_went' : (Nat → Int32)) (k_wentMany' : Int32) (k_waiting' : (Nat → Int32)) (k_came' : Int32) (H : Heap) (locs : List Loc) (ls : Array Slot), X10_done_L125 F n v1 v2 v3 v4 v5 v6 v7 k_w k_o k_went k_wentMany k_waiting k_came k_depth k_isSilent = some (x6, k_w', k_went', k_wentMany', k_waiting', k_came') → va_P D vwCl (MX10 cI cZ cL cW a0 a1 a2 a3 a4 a5 a6 k_thrown k_w k_o k_isKept k_went k_wentMany k_waiting k_came k_depth k_isSilent k_x k_packed k_hits k_rues k_soonest k_inAll) H → va_D A (MX10 cI cZ cL cW a0 a1 a2 a3 a4 a5 a6 k_thrown k_w k_o k_isKept k_went k_wentMany k_waiting k_came k_depth k_isSilent k_x k_packed k_hits k_rues k_soonest k_inAll) → va_S A s.heap H locs → lv_has ls 8 [(0, .ref a0), (1, .int v1), (2, .int v2), (3, .int v3), (4, .int v4), (5, .int v5), (6, .int v6), (7, .int v7)] → (∀ (H : Heap) (locs : List Loc) (ls : Array Slot), va_P D vwCl (MX10 cI cZ cL cW a0 a1 a2 a3 a4 a5 a6 k_thrown (k_w') k_o k_isKept (k_went') (k_wentMany') (k_waiting') (k_came') k_depth k_isSilent k_x k_packed k_hits k_rues k_soonest k_inAll) H → va_D A (MX10 cI cZ cL cW a0 a1 a2 a3 a4 a5 a6 k_thrown (k_w') k_o k_isKept (k_went') (k_wentMany') (k_waiting') (k_came') k_depth k_isSilent k_x k_packed k_hits k_rues k_soonest k_inAll) → va_S A s.heap H locs → lv_has ls 8 [(0, .ref a0), (1, .int v1), (2, .int v2), (3, .int v3), (4, .int v4), (6, .int x6)] → W p l e rm_X10_done s m args below meth c H locs 0 0 Q (F0 m 214 ls [])) → W p l e rm_X10_done s m args below meth c H locs 0 0 Q (F0 m 125 ls []) := by
    intro Q n
    induction n with
    | zero => intro v1 v2 v3 v4 v5 v6 v7 k_thrown k_w k_o k_isKept k_went k_wentMany k_waiting k_came k_depth k_isSilent k_x k_packed k_hits k_rues k_soonest k_inAll x6 k_w' k_went' k_wentMany' k_waiting' k_came' H locs ls hf hP hD hS hl hk; exact nn_s hf
    | succ n ih =>
      intro v1 v2 v3 v4 v5 v6 v7 k_thrown k_w k_o k_isKept k_went k_wentMany k_waiting k_came k_depth k_isSilent k_x k_packed k_hits k_rues k_soonest k_inAll x6 k_w' k_went' k_wentMany' k_waiting' k_came' H locs ls hf hP hD hS hl hk
      refine lv_iload hx hb dX10_done_125 (lv_at hl 7 rfl) ?_
      refine lv_aload_n hx hb dX10_done_127 rfl (lv_at hl 0 rfl) ?_
      refine gf_X10 (v := .ref a1) C hE hP 0 1 rfl (by decide) qF_X10_17 rfl dX10_done_128 ?_
      refine lv_aload_n hx hb dX10_done_131 rfl (lv_at hl 0 rfl) ?_
      refine gf_X10 (v := .int k_o) C hE hP 0 2 rfl (by decide) qF_X10_41 rfl dX10_done_132 ?_
      refine lv_bipush (v := 7) hx hb dX10_done_135 (by decide) ?_
      refine lv_iadd hx hb dX10_done_137 ?_
      obtain ⟨g22, hf⟩ := it_g hf
      refine va_iald hx hb hE.1 hP 1 0 rfl rfl g22 dX10_done_138 ?_
      refine lv_icmp_ge (tgt := 214) hx hb dX10_done_139 (by decide) (fun c21 => ?_) (fun c21 => ?_)
      · have hf := it_p hf c21
        cases hf
        exact hk _ _ ls hP hD hS (lv_sub hl [0, 1, 2, 3, 4, 6] rfl)
      · have hf := it_n hf c21
        refine lv_aload_n hx hb dX10_done_142 rfl (lv_at hl 0 rfl) ?_
        refine lv_iload hx hb dX10_done_143 (lv_at hl 7 rfl) ?_
        refine lv_iload_n hx hb dX10_done_145 rfl (lv_at hl 3 rfl) ?_
        refine lv_iload hx hb dX10_done_146 (lv_at hl 4 rfl) ?_
        obtain ⟨r1, h2, hf⟩ := bd_s hf
        refine iv_R (rest := []) (st1 := [.int r1]) C hE hP (c_X10_isHeardBy l D cI cZ cL cW F a0 a1 a2 a3 a4 a5 a6 k_thrown k_w k_o k_isKept k_went k_wentMany k_waiting k_came k_depth k_isSilent k_x k_packed k_hits k_rues k_soonest k_inAll v7 v3 v4 r1  h2) ok_X10_isHeardBy qM_X10_150 rfl rfl ⟨(Nat.le_of_ble_eq_true rfl), (Nat.le_of_ble_eq_true rfl)⟩ rfl rfl hl.1 (Nat.le_of_ble_eq_true rfl) ⟨Nat.zero_le _, Nat.zero_le _⟩ dX10_done_148 rfl rfl ?_
        refine lv_if_ne (tgt := 157) hx hb dX10_done_151 (by decide) (fun c20 => ?_) (fun c20 => ?_)
        · have hf := it_n hf c20
          refine lv_iinc (v := (v6 + 1)) (lv' := [(6, .int (v6 + 1)), (0, .ref a0), (1, .int v1), (2, .int v2), (3, .int v3), (4, .int v4), (5, .int v5), (7, .int v7)]) hx hb dX10_done_157 hl (k := 6) rfl rfl (by decide) rfl (fun ls hl => ?_)
          refine lv_aload_n hx hb dX10_done_160 rfl (lv_at hl 1 rfl) ?_
          refine gf_X10 (v := .ref a1) C hE hP 0 1 rfl (by decide) qF_X10_17 rfl dX10_done_161 ?_
          refine lv_aload_n hx hb dX10_done_164 rfl (lv_at hl 1 rfl) ?_
          refine lv_iload hx hb dX10_done_165 (lv_at hl 7 rfl) ?_
          obtain ⟨r3, h4, hf⟩ := bd_s hf
          refine iv_R (rest := [.ref a1]) (st1 := [.int r3, .ref a1]) C hE hP (c_X10_hearerAt l D cI cZ cL cW F a0 a1 a2 a3 a4 a5 a6 k_thrown k_w k_o k_isKept k_went k_wentMany k_waiting k_came k_depth k_isSilent k_x k_packed k_hits k_rues k_soonest k_inAll v7 r3  h4) ok_X10_hearerAt qM_X10_115 rfl rfl ⟨(Nat.le_of_ble_eq_true rfl), (Nat.le_of_ble_eq_true rfl)⟩ rfl rfl hl.1 (Nat.le_of_ble_eq_true rfl) ⟨Nat.zero_le _, Nat.zero_le _⟩ dX10_done_167 rfl rfl ?_
          refine lv_bipush (v := 7) hx hb dX10_done_170 (by decide) ?_
          refine lv_iadd hx hb dX10_done_172 ?_
          refine lv_dup2_11 hx hb dX10_done_173 rfl rfl ?_
          obtain ⟨g19, hf⟩ := it_g hf
          refine va_iald hx hb hE.1 hP 1 0 rfl rfl g19 dX10_done_174 ?_
          refine lv_iconst (v := 1) hx hb dX10_done_175 (by decide) ?_
          refine lv_iadd hx hb dX10_done_176 ?_
          obtain ⟨g18, hf⟩ := it_g hf
          refine va_iast hx hb hE.1 hP hD hS 1 0 rfl rfl g18 dX10_done_177 (fun H locs (hP : va_P D vwCl (MX10 cI cZ cL cW a0 a1 a2 a3 a4 a5 a6 k_thrown (upd k_w (Int32.toNatClampNeg (r3 + 7)) ((k_w (Int32.toNatClampNeg (r3 + 7))) + 1)) k_o k_isKept k_went k_wentMany k_waiting k_came k_depth k_isSilent k_x k_packed k_hits k_rues k_soonest k_inAll) H) (hD : va_D A (MX10 cI cZ cL cW a0 a1 a2 a3 a4 a5 a6 k_thrown (upd k_w (Int32.toNatClampNeg (r3 + 7)) ((k_w (Int32.toNatClampNeg (r3 + 7))) + 1)) k_o k_isKept k_went k_wentMany k_waiting k_came k_depth k_isSilent k_x k_packed k_hits k_rues k_soonest k_inAll)) hS => ?_)
          refine lv_aload_n hx hb dX10_done_178 rfl (lv_at hl 1 rfl) ?_
          refine gf_X10 (v := .ref a1) C hE hP 0 1 rfl (by decide) qF_X10_17 rfl dX10_done_179 ?_
          refine lv_aload_n hx hb dX10_done_182 rfl (lv_at hl 1 rfl) ?_
          refine lv_iload hx hb dX10_done_183 (lv_at hl 7 rfl) ?_
          obtain ⟨r5, h6, hf⟩ := bd_s hf
          refine iv_R (rest := [.ref a1]) (st1 := [.int r5, .ref a1]) C hE hP (c_X10_hearerAt l D cI cZ cL cW F a0 a1 a2 a3 a4 a5 a6 k_thrown (upd k_w (Int32.toNatClampNeg (r3 + 7)) ((k_w (Int32.toNatClampNeg (r3 + 7))) + 1)) k_o k_isKept k_went k_wentMany k_waiting k_came k_depth k_isSilent k_x k_packed k_hits k_rues k_soonest k_inAll v7 r5  h6) ok_X10_hearerAt qM_X10_115 rfl rfl ⟨(Nat.le_of_ble_eq_true rfl), (Nat.le_of_ble_eq_true rfl)⟩ rfl rfl hl.1 (Nat.le_of_ble_eq_true rfl) ⟨Nat.zero_le _, Nat.zero_le _⟩ dX10_done_185 rfl rfl ?_
          refine lv_bipush (v := 8) hx hb dX10_done_188 (by decide) ?_
          refine lv_iadd hx hb dX10_done_190 ?_
          refine lv_dup2_11 hx hb dX10_done_191 rfl rfl ?_
          obtain ⟨g17, hf⟩ := it_g hf
          refine va_iald hx hb hE.1 hP 1 0 rfl rfl g17 dX10_done_192 ?_
          refine lv_aload_n hx hb dX10_done_193 rfl (lv_at hl 1 rfl) ?_
          refine lv_iload hx hb dX10_done_194 (lv_at hl 7 rfl) ?_
          refine lv_iload hx hb dX10_done_196 (lv_at hl 5 rfl) ?_
          refine lv_iload hx hb dX10_done_198 (lv_at hl 6 rfl) ?_
          obtain ⟨⟨r7, k_w_8, k_went_9, k_wentMany_10, k_waiting_11, k_came_12⟩, h13, hf⟩ := bd_s hf
          refine iv_A (rest := [.int ((upd k_w (Int32.toNatClampNeg (r3 + 7)) ((k_w (Int32.toNatClampNeg (r3 + 7))) + 1)) (Int32.toNatClampNeg (r5 + 8))), .int (r5 + 8), .ref a1]) (st1 := [.int r7, .int ((upd k_w (Int32.toNatClampNeg (r3 + 7)) ((k_w (Int32.toNatClampNeg (r3 + 7))) + 1)) (Int32.toNatClampNeg (r5 + 8))), .int (r5 + 8), .ref a1]) C hE hP hD hS hA (c_X10_acts l D cI cZ cL cW F a0 a1 a2 a3 a4 a5 a6 k_thrown (upd k_w (Int32.toNatClampNeg (r3 + 7)) ((k_w (Int32.toNatClampNeg (r3 + 7))) + 1)) k_o k_isKept k_went k_wentMany k_waiting k_came k_depth k_isSilent k_x k_packed k_hits k_rues k_soonest k_inAll v7 v4 v5 r7 k_w_8 k_went_9 k_wentMany_10 k_waiting_11 k_came_12 h13) ok_X10_acts qM_X10_153 rfl rfl ⟨(Nat.le_of_ble_eq_true rfl), (Nat.le_of_ble_eq_true rfl)⟩ rfl rfl hl.1 (Nat.le_of_ble_eq_true rfl) ⟨Nat.zero_le _, Nat.zero_le _⟩ dX10_done_200 rfl rfl (fun H locs (hP : va_P D vwCl (MX10 cI cZ cL cW a0 a1 a2 a3 a4 a5 a6 k_thrown k_w_8 k_o k_isKept k_went_9 k_wentMany_10 k_waiting_11 k_came_12 k_depth k_isSilent k_x k_packed k_hits k_rues k_soonest k_inAll) H) (hD : va_D A (MX10 cI cZ cL cW a0 a1 a2 a3 a4 a5 a6 k_thrown k_w_8 k_o k_isKept k_went_9 k_wentMany_10 k_waiting_11 k_came_12 k_depth k_isSilent k_x k_packed k_hits k_rues k_soonest k_inAll)) hS => ?_)
          obtain ⟨r14, h15, hf⟩ := bd_s hf
          refine is_R (rest := [.int ((upd k_w (Int32.toNatClampNeg (r3 + 7)) ((k_w (Int32.toNatClampNeg (r3 + 7))) + 1)) (Int32.toNatClampNeg (r5 + 8))), .int (r5 + 8), .ref a1]) (st1 := [.int r14, .int ((upd k_w (Int32.toNatClampNeg (r3 + 7)) ((k_w (Int32.toNatClampNeg (r3 + 7))) + 1)) (Int32.toNatClampNeg (r5 + 8))), .int (r5 + 8), .ref a1]) C hE va_P_nil (c_X10_flag l D cI cZ cL cW F   r7 r14  h15) ok_X10_flag qM_X10_57 rfl rfl ⟨(Nat.le_of_ble_eq_true rfl), (Nat.le_of_ble_eq_true rfl)⟩ hl.1 (Nat.le_of_ble_eq_true rfl) ⟨Nat.zero_le _, Nat.zero_le _⟩ dX10_done_203 rfl rfl ?_
          refine lv_iadd hx hb dX10_done_206 ?_
          obtain ⟨g16, hf⟩ := it_g hf
          refine va_iast hx hb hE.1 hP hD hS 1 0 rfl rfl g16 dX10_done_207 (fun H locs (hP : va_P D vwCl (MX10 cI cZ cL cW a0 a1 a2 a3 a4 a5 a6 k_thrown (upd k_w_8 (Int32.toNatClampNeg (r5 + 8)) (((upd k_w (Int32.toNatClampNeg (r3 + 7)) ((k_w (Int32.toNatClampNeg (r3 + 7))) + 1)) (Int32.toNatClampNeg (r5 + 8))) + r14)) k_o k_isKept k_went_9 k_wentMany_10 k_waiting_11 k_came_12 k_depth k_isSilent k_x k_packed k_hits k_rues k_soonest k_inAll) H) (hD : va_D A (MX10 cI cZ cL cW a0 a1 a2 a3 a4 a5 a6 k_thrown (upd k_w_8 (Int32.toNatClampNeg (r5 + 8)) (((upd k_w (Int32.toNatClampNeg (r3 + 7)) ((k_w (Int32.toNatClampNeg (r3 + 7))) + 1)) (Int32.toNatClampNeg (r5 + 8))) + r14)) k_o k_isKept k_went_9 k_wentMany_10 k_waiting_11 k_came_12 k_depth k_isSilent k_x k_packed k_hits k_rues k_soonest k_inAll)) hS => ?_)
          refine lv_iinc (v := (v7 + 1)) (lv' := [(7, .int (v7 + 1)), (6, .int (v6 + 1)), (0, .ref a0), (1, .int v1), (2, .int v2), (3, .int v3), (4, .int v4), (5, .int v5)]) hx hb dX10_done_208 hl (k := 7) rfl rfl (by decide) rfl (fun ls hl => ?_)
          refine lv_goto (tgt := 125) hx hb dX10_done_211 (by decide) ?_
          exact ih v1 v2 v3 v4 v5 (v6 + 1) (v7 + 1) k_thrown (upd k_w_8 (Int32.toNatClampNeg (r5 + 8)) (((upd k_w (Int32.toNatClampNeg (r3 + 7)) ((k_w (Int32.toNatClampNeg (r3 + 7))) + 1)) (Int32.toNatClampNeg (r5 + 8))) + r14)) k_o k_isKept k_went_9 k_wentMany_10 k_waiting_11 k_came_12 k_depth k_isSilent k_x k_packed k_hits k_rues k_soonest k_inAll _ _ _ _ _ _ _ _ ls hf hP hD hS (lv_sub hl [2, 3, 4, 5, 6, 7, 1, 0] rfl) hk
        · have hf := it_p hf c20
          refine lv_goto (tgt := 208) hx hb dX10_done_154 (by decide) ?_
          refine lv_iinc (v := (v7 + 1)) (lv' := [(7, .int (v7 + 1)), (0, .ref a0), (1, .int v1), (2, .int v2), (3, .int v3), (4, .int v4), (5, .int v5), (6, .int v6)]) hx hb dX10_done_208 hl (k := 7) rfl rfl (by decide) rfl (fun ls hl => ?_)
          refine lv_goto (tgt := 125) hx hb dX10_done_211 (by decide) ?_
          exact ih v1 v2 v3 v4 v5 v6 (v7 + 1) k_thrown k_w k_o k_isKept k_went k_wentMany k_waiting k_came k_depth k_isSilent k_x k_packed k_hits k_rues k_soonest k_inAll _ _ _ _ _ _ _ _ ls hf hP hD hS (lv_sub hl [1, 2, 3, 4, 5, 6, 7, 0] rfl) hk
  have L2 : ∀ (Q : State → Prop) (n : Nat) (v1 : Int32) (v2 : Int32) (k_thrown : Int32) (k_w : (Nat → Int32)) (k_o : Int32) (k_isKept : (Nat → Int32)) (k_went : (Nat → Int32)) (k_wentMany : Int32) (k_waiting : (Nat → Int32)) (k_came : Int32) (k_depth : Int32) (k_isSilent : Int32) (k_x : Int64) (k_packed : (Nat → Int32)) (k_hits : Int32) (k_rues : Int32) (k_soonest : Int32) (k_inAll : (Nat → Int32)) (k_w' : (Nat → Int32)) (k_went' : (Nat → Int32)) (k_wentMany' : Int32) (k_waiting' : (Nat → Int32)) (k_came' : Int32) (k_depth' : Int32) (H : Heap) (locs : List Loc) (ls : Array Slot), X10_done_L2 F n v1 v2 k_w k_o k_went k_wentMany k_waiting k_came k_depth k_isSilent = some (k_w', k_went', k_wentMany', k_waiting', k_came', k_depth') → va_P D vwCl (MX10 cI cZ cL cW a0 a1 a2 a3 a4 a5 a6 k_thrown k_w k_o k_isKept k_went k_wentMany k_waiting k_came k_depth k_isSilent k_x k_packed k_hits k_rues k_soonest k_inAll) H → va_D A (MX10 cI cZ cL cW a0 a1 a2 a3 a4 a5 a6 k_thrown k_w k_o k_isKept k_went k_wentMany k_waiting k_came k_depth k_isSilent k_x k_packed k_hits k_rues k_soonest k_inAll) → va_S A s.heap H locs → lv_has ls 8 [(0, .ref a0), (1, .int v1), (2, .int v2)] → (∀ (H : Heap) (locs : List Loc) (ls : Array Slot), va_P D vwCl (MX10 cI cZ cL cW a0 a1 a2 a3 a4 a5 a6 k_thrown (k_w') k_o k_isKept (k_went') (k_wentMany') (k_waiting') (k_came') (k_depth') k_isSilent k_x k_packed k_hits k_rues k_soonest k_inAll) H → va_D A (MX10 cI cZ cL cW a0 a1 a2 a3 a4 a5 a6 k_thrown (k_w') k_o k_isKept (k_went') (k_wentMany') (k_waiting') (k_came') (k_depth') k_isSilent k_x k_packed k_hits k_rues k_soonest k_inAll) → va_S A s.heap H locs → lv_has ls 8 [(0, .ref a0), (1, .int v1)] → W p l e rm_X10_done s m args below meth c H locs 0 0 Q (F0 m 239 ls [])) → W p l e rm_X10_done s m args below meth c H locs 0 0 Q (F0 m 2 ls []) := by
    intro Q n
    induction n with
    | zero => intro v1 v2 k_thrown k_w k_o k_isKept k_went k_wentMany k_waiting k_came k_depth k_isSilent k_x k_packed k_hits k_rues k_soonest k_inAll k_w' k_went' k_wentMany' k_waiting' k_came' k_depth' H locs ls hf hP hD hS hl hk; exact nn_s hf
    | succ n ih =>
      intro v1 v2 k_thrown k_w k_o k_isKept k_went k_wentMany k_waiting k_came k_depth k_isSilent k_x k_packed k_hits k_rues k_soonest k_inAll k_w' k_went' k_wentMany' k_waiting' k_came' k_depth' H locs ls hf hP hD hS hl hk
      refine lv_iload_n hx hb dX10_done_2 rfl (lv_at hl 2 rfl) ?_
      refine lv_aload_n hx hb dX10_done_3 rfl (lv_at hl 0 rfl) ?_
      refine gf_X10 (v := .int k_came) C hE hP 0 7 rfl (by decide) qF_X10_109 rfl dX10_done_4 ?_
      refine lv_icmp_ge (tgt := 239) hx hb dX10_done_7 (by decide) (fun c101 => ?_) (fun c101 => ?_)
      · have hf := it_p hf c101
        cases hf
        exact hk _ _ ls hP hD hS (lv_sub hl [0, 1] rfl)
      · have hf := it_n hf c101
        refine lv_iload_n hx hb dX10_done_10 rfl (lv_at hl 2 rfl) ?_
        refine lv_bipush (v := 100) hx hb dX10_done_11 (by decide) ?_
        refine lv_icmp_ge (tgt := 239) hx hb dX10_done_13 (by decide) (fun c100 => ?_) (fun c100 => ?_)
        · have hf := it_p hf c100
          cases hf
          exact hk _ _ ls hP hD hS (lv_sub hl [0, 1] rfl)
        · have hf := it_n hf c100
          refine lv_aload_n hx hb dX10_done_16 rfl (lv_at hl 0 rfl) ?_
          refine gf_X10 (v := .ref a4) C hE hP 0 6 rfl (by decide) qF_X10_28 rfl dX10_done_17 ?_
          refine lv_iconst (v := 5) hx hb dX10_done_20 (by decide) ?_
          refine lv_iload_n hx hb dX10_done_21 rfl (lv_at hl 2 rfl) ?_
          refine lv_imul hx hb dX10_done_22 ?_
          obtain ⟨g99, hf⟩ := it_g hf
          refine va_iald hx hb hE.1 hP 4 0 rfl rfl g99 dX10_done_23 ?_
          refine lv_istore_n (lv' := [(3, .int (k_waiting (Int32.toNatClampNeg (5 * v2)))), (0, .ref a0), (1, .int v1), (2, .int v2)]) hx hb dX10_done_24 rfl hl (by decide) rfl (fun ls hl => ?_)
          refine lv_aload_n hx hb dX10_done_25 rfl (lv_at hl 1 rfl) ?_
          refine gf_X10 (v := .ref a4) C hE hP 0 6 rfl (by decide) qF_X10_28 rfl dX10_done_26 ?_
          refine lv_iconst (v := 5) hx hb dX10_done_29 (by decide) ?_
          refine lv_iload_n hx hb dX10_done_30 rfl (lv_at hl 3 rfl) ?_
          refine lv_imul hx hb dX10_done_31 ?_
          refine lv_iconst (v := 1) hx hb dX10_done_32 (by decide) ?_
          refine lv_iadd hx hb dX10_done_33 ?_
          obtain ⟨g98, hf⟩ := it_g hf
          refine va_iald hx hb hE.1 hP 4 0 rfl rfl g98 dX10_done_34 ?_
          refine lv_istore (lv' := [(4, .int (k_waiting (Int32.toNatClampNeg ((5 * v2) + 1)))), (3, .int (k_waiting (Int32.toNatClampNeg (5 * v2)))), (0, .ref a0), (1, .int v1), (2, .int v2)]) hx hb dX10_done_35 hl (by decide) rfl (fun ls hl => ?_)
          refine lv_iload_n hx hb dX10_done_37 rfl (lv_at hl 1 rfl) ?_
          refine lv_iconst (v := 5) hx hb dX10_done_38 (by decide) ?_
          refine lv_icmp_eq (tgt := 48) hx hb dX10_done_39 (by decide) (fun c97 => ?_) (fun c97 => ?_)
          · have hf := it_p hf c97
            refine lv_iconst (v := 0) hx hb dX10_done_48 (by decide) ?_
            refine lv_goto (tgt := 62) hx hb dX10_done_49 (by decide) ?_
            refine lv_istore (lv' := [(5, .int 0), (4, .int (k_waiting (Int32.toNatClampNeg ((5 * v2) + 1)))), (3, .int (k_waiting (Int32.toNatClampNeg (5 * v2)))), (0, .ref a0), (1, .int v1), (2, .int v2)]) hx hb dX10_done_62 hl (by decide) rfl (fun ls hl => ?_)
            refine lv_aload_n hx hb dX10_done_64 rfl (lv_at hl 3 rfl) ?_
            refine lv_aload_n hx hb dX10_done_65 rfl (lv_at hl 3 rfl) ?_
            refine gf_X10 (v := .ref a4) C hE hP 0 6 rfl (by decide) qF_X10_28 rfl dX10_done_66 ?_
            refine lv_iconst (v := 5) hx hb dX10_done_69 (by decide) ?_
            refine lv_iload_n hx hb dX10_done_70 rfl (lv_at hl 5 rfl) ?_
            refine lv_imul hx hb dX10_done_71 ?_
            refine lv_iconst (v := 4) hx hb dX10_done_72 (by decide) ?_
            refine lv_iadd hx hb dX10_done_73 ?_
            obtain ⟨g46, hf⟩ := it_g hf
            refine va_iald hx hb hE.1 hP 4 0 rfl rfl g46 dX10_done_74 ?_
            refine lv_iconst (v := 1) hx hb dX10_done_75 (by decide) ?_
            refine lv_iadd hx hb dX10_done_76 ?_
            refine pf_X10 (v := .int ((k_waiting (Int32.toNatClampNeg ((5 * v2) + 4))) + 1)) C hE hP hD hS 0 8 rfl (by decide) qF_X10_112 rfl rfl rfl (Nat.le_of_ble_eq_true rfl) dX10_done_77 (fun H locs (hP : va_P D vwCl (MX10 cI cZ cL cW a0 a1 a2 a3 a4 a5 a6 k_thrown k_w k_o k_isKept k_went k_wentMany k_waiting k_came ((k_waiting (Int32.toNatClampNeg ((5 * v2) + 4))) + 1) k_isSilent k_x k_packed k_hits k_rues k_soonest k_inAll) H) (hD : va_D A (MX10 cI cZ cL cW a0 a1 a2 a3 a4 a5 a6 k_thrown k_w k_o k_isKept k_went k_wentMany k_waiting k_came ((k_waiting (Int32.toNatClampNeg ((5 * v2) + 4))) + 1) k_isSilent k_x k_packed k_hits k_rues k_soonest k_inAll)) hS => ?_)
            refine lv_aload_n hx hb dX10_done_80 rfl (lv_at hl 3 rfl) ?_
            refine gf_X10 (v := .int ((k_waiting (Int32.toNatClampNeg ((5 * v2) + 4))) + 1)) C hE hP 0 8 rfl (by decide) qF_X10_112 rfl dX10_done_81 ?_
            refine lv_iconst (v := 1) hx hb dX10_done_84 (by decide) ?_
            refine lv_isub hx hb dX10_done_85 ?_
            refine lv_aload_n hx hb dX10_done_86 rfl (lv_at hl 3 rfl) ?_
            refine gf_X10 (v := .ref a1) C hE hP 0 1 rfl (by decide) qF_X10_17 rfl dX10_done_87 ?_
            refine lv_aload_n hx hb dX10_done_90 rfl (lv_at hl 3 rfl) ?_
            refine gf_X10 (v := .int k_o) C hE hP 0 2 rfl (by decide) qF_X10_41 rfl dX10_done_91 ?_
            refine lv_bipush (v := 17) hx hb dX10_done_94 (by decide) ?_
            refine lv_iadd hx hb dX10_done_96 ?_
            obtain ⟨g45, hf⟩ := it_g hf
            refine va_iald hx hb hE.1 hP 1 0 rfl rfl g45 dX10_done_97 ?_
            refine lv_icmp_le (tgt := 119) hx hb dX10_done_98 (by decide) (fun c44 => ?_) (fun c44 => ?_)
            · have hf := it_p hf c44
              refine lv_iconst (v := 0) hx hb dX10_done_119 (by decide) ?_
              refine lv_istore (lv' := [(6, .int 0), (5, .int 0), (4, .int (k_waiting (Int32.toNatClampNeg ((5 * v2) + 1)))), (3, .int (k_waiting (Int32.toNatClampNeg (5 * v2)))), (0, .ref a0), (1, .int v1), (2, .int v2)]) hx hb dX10_done_120 hl (by decide) rfl (fun ls hl => ?_)
              refine lv_iconst (v := 0) hx hb dX10_done_122 (by decide) ?_
              refine lv_istore (lv' := [(7, .int 0), (6, .int 0), (5, .int 0), (4, .int (k_waiting (Int32.toNatClampNeg ((5 * v2) + 1)))), (3, .int (k_waiting (Int32.toNatClampNeg (5 * v2)))), (0, .ref a0), (1, .int v1), (2, .int v2)]) hx hb dX10_done_123 hl (by decide) rfl (fun ls hl => ?_)
              obtain ⟨⟨x23, k24, k25, k26, k27, k28⟩, h29, hf⟩ := bd_s hf
              refine L125 _ F v1 v2 (k_waiting (Int32.toNatClampNeg (5 * v2))) (k_waiting (Int32.toNatClampNeg ((5 * v2) + 1))) 0 0 0 k_thrown k_w k_o k_isKept k_went k_wentMany k_waiting k_came ((k_waiting (Int32.toNatClampNeg ((5 * v2) + 4))) + 1) k_isSilent k_x k_packed k_hits k_rues k_soonest k_inAll x23 k24 k25 k26 k27 k28 _ _ ls h29 hP hD hS (lv_sub hl [5, 6, 7, 4, 3, 2, 1, 0] rfl) (fun H locs ls hP hD hS hl => ?_)
              refine lv_aload_n hx hb dX10_done_214 rfl (lv_at hl 0 rfl) ?_
              refine lv_iload_n hx hb dX10_done_215 rfl (lv_at hl 3 rfl) ?_
              refine lv_iload hx hb dX10_done_216 (lv_at hl 4 rfl) ?_
              refine lv_aload_n hx hb dX10_done_218 rfl (lv_at hl 0 rfl) ?_
              refine gf_X10 (v := .ref a4) C hE hP 0 6 rfl (by decide) qF_X10_28 rfl dX10_done_219 ?_
              refine lv_iconst (v := 5) hx hb dX10_done_222 (by decide) ?_
              refine lv_iload_n hx hb dX10_done_223 rfl (lv_at hl 2 rfl) ?_
              refine lv_imul hx hb dX10_done_224 ?_
              refine lv_iconst (v := 3) hx hb dX10_done_225 (by decide) ?_
              refine lv_iadd hx hb dX10_done_226 ?_
              obtain ⟨g32, hf⟩ := it_g hf
              refine va_iald hx hb hE.1 hP 4 0 rfl rfl g32 dX10_done_227 ?_
              refine lv_iload hx hb dX10_done_228 (lv_at hl 5 rfl) ?_
              obtain ⟨k_w_30, h31, hf⟩ := bd_s hf
              refine iv_A (rest := []) (st1 := []) C hE hP hD hS hA (c_X10_logs l D cI cZ cL cW F a0 a1 a2 a3 a4 a5 a6 k_thrown k24 k_o k_isKept k25 k26 k27 k28 ((k_waiting (Int32.toNatClampNeg ((5 * v2) + 4))) + 1) k_isSilent k_x k_packed k_hits k_rues k_soonest k_inAll (k_waiting (Int32.toNatClampNeg (5 * v2))) (k_waiting (Int32.toNatClampNeg ((5 * v2) + 1))) (k27 (Int32.toNatClampNeg ((5 * v2) + 3))) x23  k_w_30 h31) ok_X10_logs qM_X10_156 rfl rfl ⟨(Nat.le_of_ble_eq_true rfl), (Nat.le_of_ble_eq_true rfl)⟩ rfl rfl hl.1 (Nat.le_of_ble_eq_true rfl) ⟨Nat.zero_le _, Nat.zero_le _⟩ dX10_done_230 rfl rfl (fun H locs (hP : va_P D vwCl (MX10 cI cZ cL cW a0 a1 a2 a3 a4 a5 a6 k_thrown k_w_30 k_o k_isKept k25 k26 k27 k28 ((k_waiting (Int32.toNatClampNeg ((5 * v2) + 4))) + 1) k_isSilent k_x k_packed k_hits k_rues k_soonest k_inAll) H) (hD : va_D A (MX10 cI cZ cL cW a0 a1 a2 a3 a4 a5 a6 k_thrown k_w_30 k_o k_isKept k25 k26 k27 k28 ((k_waiting (Int32.toNatClampNeg ((5 * v2) + 4))) + 1) k_isSilent k_x k_packed k_hits k_rues k_soonest k_inAll)) hS => ?_)
              refine lv_iinc (v := (v2 + 1)) (lv' := [(2, .int (v2 + 1)), (0, .ref a0), (1, .int v1), (3, .int (k_waiting (Int32.toNatClampNeg (5 * v2)))), (4, .int (k_waiting (Int32.toNatClampNeg ((5 * v2) + 1)))), (6, .int x23)]) hx hb dX10_done_233 hl (k := 2) rfl rfl (by decide) rfl (fun ls hl => ?_)
              refine lv_goto (tgt := 2) hx hb dX10_done_236 (by decide) ?_
              exact ih v1 (v2 + 1) k_thrown k_w_30 k_o k_isKept k25 k26 k27 k28 ((k_waiting (Int32.toNatClampNeg ((5 * v2) + 4))) + 1) k_isSilent k_x k_packed k_hits k_rues k_soonest k_inAll _ _ _ _ _ _ _ _ ls hf hP hD hS (lv_sub hl [1, 2, 0] rfl) hk
            · have hf := it_n hf c44
              refine lv_aload_n hx hb dX10_done_101 rfl (lv_at hl 3 rfl) ?_
              refine gf_X10 (v := .ref a1) C hE hP 0 1 rfl (by decide) qF_X10_17 rfl dX10_done_102 ?_
              refine lv_aload_n hx hb dX10_done_105 rfl (lv_at hl 3 rfl) ?_
              refine gf_X10 (v := .int k_o) C hE hP 0 2 rfl (by decide) qF_X10_41 rfl dX10_done_106 ?_
              refine lv_bipush (v := 17) hx hb dX10_done_109 (by decide) ?_
              refine lv_iadd hx hb dX10_done_111 ?_
              refine lv_aload_n hx hb dX10_done_112 rfl (lv_at hl 3 rfl) ?_
              refine gf_X10 (v := .int ((k_waiting (Int32.toNatClampNeg ((5 * v2) + 4))) + 1)) C hE hP 0 8 rfl (by decide) qF_X10_112 rfl dX10_done_113 ?_
              refine lv_iconst (v := 1) hx hb dX10_done_116 (by decide) ?_
              refine lv_isub hx hb dX10_done_117 ?_
              obtain ⟨g43, hf⟩ := it_g hf
              refine va_iast hx hb hE.1 hP hD hS 1 0 rfl rfl g43 dX10_done_118 (fun H locs (hP : va_P D vwCl (MX10 cI cZ cL cW a0 a1 a2 a3 a4 a5 a6 k_thrown (upd k_w (Int32.toNatClampNeg (k_o + 17)) (((k_waiting (Int32.toNatClampNeg ((5 * v2) + 4))) + 1) - 1)) k_o k_isKept k_went k_wentMany k_waiting k_came ((k_waiting (Int32.toNatClampNeg ((5 * v2) + 4))) + 1) k_isSilent k_x k_packed k_hits k_rues k_soonest k_inAll) H) (hD : va_D A (MX10 cI cZ cL cW a0 a1 a2 a3 a4 a5 a6 k_thrown (upd k_w (Int32.toNatClampNeg (k_o + 17)) (((k_waiting (Int32.toNatClampNeg ((5 * v2) + 4))) + 1) - 1)) k_o k_isKept k_went k_wentMany k_waiting k_came ((k_waiting (Int32.toNatClampNeg ((5 * v2) + 4))) + 1) k_isSilent k_x k_packed k_hits k_rues k_soonest k_inAll)) hS => ?_)
              refine lv_iconst (v := 0) hx hb dX10_done_119 (by decide) ?_
              refine lv_istore (lv' := [(6, .int 0), (5, .int 0), (4, .int (k_waiting (Int32.toNatClampNeg ((5 * v2) + 1)))), (3, .int (k_waiting (Int32.toNatClampNeg (5 * v2)))), (0, .ref a0), (1, .int v1), (2, .int v2)]) hx hb dX10_done_120 hl (by decide) rfl (fun ls hl => ?_)
              refine lv_iconst (v := 0) hx hb dX10_done_122 (by decide) ?_
              refine lv_istore (lv' := [(7, .int 0), (6, .int 0), (5, .int 0), (4, .int (k_waiting (Int32.toNatClampNeg ((5 * v2) + 1)))), (3, .int (k_waiting (Int32.toNatClampNeg (5 * v2)))), (0, .ref a0), (1, .int v1), (2, .int v2)]) hx hb dX10_done_123 hl (by decide) rfl (fun ls hl => ?_)
              obtain ⟨⟨x33, k34, k35, k36, k37, k38⟩, h39, hf⟩ := bd_s hf
              refine L125 _ F v1 v2 (k_waiting (Int32.toNatClampNeg (5 * v2))) (k_waiting (Int32.toNatClampNeg ((5 * v2) + 1))) 0 0 0 k_thrown (upd k_w (Int32.toNatClampNeg (k_o + 17)) (((k_waiting (Int32.toNatClampNeg ((5 * v2) + 4))) + 1) - 1)) k_o k_isKept k_went k_wentMany k_waiting k_came ((k_waiting (Int32.toNatClampNeg ((5 * v2) + 4))) + 1) k_isSilent k_x k_packed k_hits k_rues k_soonest k_inAll x33 k34 k35 k36 k37 k38 _ _ ls h39 hP hD hS (lv_sub hl [5, 6, 7, 4, 3, 2, 1, 0] rfl) (fun H locs ls hP hD hS hl => ?_)
              refine lv_aload_n hx hb dX10_done_214 rfl (lv_at hl 0 rfl) ?_
              refine lv_iload_n hx hb dX10_done_215 rfl (lv_at hl 3 rfl) ?_
              refine lv_iload hx hb dX10_done_216 (lv_at hl 4 rfl) ?_
              refine lv_aload_n hx hb dX10_done_218 rfl (lv_at hl 0 rfl) ?_
              refine gf_X10 (v := .ref a4) C hE hP 0 6 rfl (by decide) qF_X10_28 rfl dX10_done_219 ?_
              refine lv_iconst (v := 5) hx hb dX10_done_222 (by decide) ?_
              refine lv_iload_n hx hb dX10_done_223 rfl (lv_at hl 2 rfl) ?_
              refine lv_imul hx hb dX10_done_224 ?_
              refine lv_iconst (v := 3) hx hb dX10_done_225 (by decide) ?_
              refine lv_iadd hx hb dX10_done_226 ?_
              obtain ⟨g42, hf⟩ := it_g hf
              refine va_iald hx hb hE.1 hP 4 0 rfl rfl g42 dX10_done_227 ?_
              refine lv_iload hx hb dX10_done_228 (lv_at hl 5 rfl) ?_
              obtain ⟨k_w_40, h41, hf⟩ := bd_s hf
              refine iv_A (rest := []) (st1 := []) C hE hP hD hS hA (c_X10_logs l D cI cZ cL cW F a0 a1 a2 a3 a4 a5 a6 k_thrown k34 k_o k_isKept k35 k36 k37 k38 ((k_waiting (Int32.toNatClampNeg ((5 * v2) + 4))) + 1) k_isSilent k_x k_packed k_hits k_rues k_soonest k_inAll (k_waiting (Int32.toNatClampNeg (5 * v2))) (k_waiting (Int32.toNatClampNeg ((5 * v2) + 1))) (k37 (Int32.toNatClampNeg ((5 * v2) + 3))) x33  k_w_40 h41) ok_X10_logs qM_X10_156 rfl rfl ⟨(Nat.le_of_ble_eq_true rfl), (Nat.le_of_ble_eq_true rfl)⟩ rfl rfl hl.1 (Nat.le_of_ble_eq_true rfl) ⟨Nat.zero_le _, Nat.zero_le _⟩ dX10_done_230 rfl rfl (fun H locs (hP : va_P D vwCl (MX10 cI cZ cL cW a0 a1 a2 a3 a4 a5 a6 k_thrown k_w_40 k_o k_isKept k35 k36 k37 k38 ((k_waiting (Int32.toNatClampNeg ((5 * v2) + 4))) + 1) k_isSilent k_x k_packed k_hits k_rues k_soonest k_inAll) H) (hD : va_D A (MX10 cI cZ cL cW a0 a1 a2 a3 a4 a5 a6 k_thrown k_w_40 k_o k_isKept k35 k36 k37 k38 ((k_waiting (Int32.toNatClampNeg ((5 * v2) + 4))) + 1) k_isSilent k_x k_packed k_hits k_rues k_soonest k_inAll)) hS => ?_)
              refine lv_iinc (v := (v2 + 1)) (lv' := [(2, .int (v2 + 1)), (0, .ref a0), (1, .int v1), (3, .int (k_waiting (Int32.toNatClampNeg (5 * v2)))), (4, .int (k_waiting (Int32.toNatClampNeg ((5 * v2) + 1)))), (6, .int x33)]) hx hb dX10_done_233 hl (k := 2) rfl rfl (by decide) rfl (fun ls hl => ?_)
              refine lv_goto (tgt := 2) hx hb dX10_done_236 (by decide) ?_
              exact ih v1 (v2 + 1) k_thrown k_w_40 k_o k_isKept k35 k36 k37 k38 ((k_waiting (Int32.toNatClampNeg ((5 * v2) + 4))) + 1) k_isSilent k_x k_packed k_hits k_rues k_soonest k_inAll _ _ _ _ _ _ _ _ ls hf hP hD hS (lv_sub hl [1, 2, 0] rfl) hk
          · have hf := it_n hf c97
            refine lv_iload_n hx hb dX10_done_42 rfl (lv_at hl 1 rfl) ?_
            refine lv_bipush (v := 6) hx hb dX10_done_43 (by decide) ?_
            refine lv_icmp_ne (tgt := 52) hx hb dX10_done_45 (by decide) (fun c96 => ?_) (fun c96 => ?_)
            · have hf := it_n hf c96
              refine lv_aload_n hx hb dX10_done_52 rfl (lv_at hl 2 rfl) ?_
              refine gf_X10 (v := .ref a4) C hE hP 0 6 rfl (by decide) qF_X10_28 rfl dX10_done_53 ?_
              refine lv_iconst (v := 5) hx hb dX10_done_56 (by decide) ?_
              refine lv_iload_n hx hb dX10_done_57 rfl (lv_at hl 4 rfl) ?_
              refine lv_imul hx hb dX10_done_58 ?_
              refine lv_iconst (v := 2) hx hb dX10_done_59 (by decide) ?_
              refine lv_iadd hx hb dX10_done_60 ?_
              obtain ⟨g71, hf⟩ := it_g hf
              refine va_iald hx hb hE.1 hP 4 0 rfl rfl g71 dX10_done_61 ?_
              refine lv_istore (lv' := [(5, .int (k_waiting (Int32.toNatClampNeg ((5 * v2) + 2)))), (4, .int (k_waiting (Int32.toNatClampNeg ((5 * v2) + 1)))), (3, .int (k_waiting (Int32.toNatClampNeg (5 * v2)))), (0, .ref a0), (1, .int v1), (2, .int v2)]) hx hb dX10_done_62 hl (by decide) rfl (fun ls hl => ?_)
              refine lv_aload_n hx hb dX10_done_64 rfl (lv_at hl 3 rfl) ?_
              refine lv_aload_n hx hb dX10_done_65 rfl (lv_at hl 3 rfl) ?_
              refine gf_X10 (v := .ref a4) C hE hP 0 6 rfl (by decide) qF_X10_28 rfl dX10_done_66 ?_
              refine lv_iconst (v := 5) hx hb dX10_done_69 (by decide) ?_
              refine lv_iload_n hx hb dX10_done_70 rfl (lv_at hl 5 rfl) ?_
              refine lv_imul hx hb dX10_done_71 ?_
              refine lv_iconst (v := 4) hx hb dX10_done_72 (by decide) ?_
              refine lv_iadd hx hb dX10_done_73 ?_
              obtain ⟨g70, hf⟩ := it_g hf
              refine va_iald hx hb hE.1 hP 4 0 rfl rfl g70 dX10_done_74 ?_
              refine lv_iconst (v := 1) hx hb dX10_done_75 (by decide) ?_
              refine lv_iadd hx hb dX10_done_76 ?_
              refine pf_X10 (v := .int ((k_waiting (Int32.toNatClampNeg ((5 * v2) + 4))) + 1)) C hE hP hD hS 0 8 rfl (by decide) qF_X10_112 rfl rfl rfl (Nat.le_of_ble_eq_true rfl) dX10_done_77 (fun H locs (hP : va_P D vwCl (MX10 cI cZ cL cW a0 a1 a2 a3 a4 a5 a6 k_thrown k_w k_o k_isKept k_went k_wentMany k_waiting k_came ((k_waiting (Int32.toNatClampNeg ((5 * v2) + 4))) + 1) k_isSilent k_x k_packed k_hits k_rues k_soonest k_inAll) H) (hD : va_D A (MX10 cI cZ cL cW a0 a1 a2 a3 a4 a5 a6 k_thrown k_w k_o k_isKept k_went k_wentMany k_waiting k_came ((k_waiting (Int32.toNatClampNeg ((5 * v2) + 4))) + 1) k_isSilent k_x k_packed k_hits k_rues k_soonest k_inAll)) hS => ?_)
              refine lv_aload_n hx hb dX10_done_80 rfl (lv_at hl 3 rfl) ?_
              refine gf_X10 (v := .int ((k_waiting (Int32.toNatClampNeg ((5 * v2) + 4))) + 1)) C hE hP 0 8 rfl (by decide) qF_X10_112 rfl dX10_done_81 ?_
              refine lv_iconst (v := 1) hx hb dX10_done_84 (by decide) ?_
              refine lv_isub hx hb dX10_done_85 ?_
              refine lv_aload_n hx hb dX10_done_86 rfl (lv_at hl 3 rfl) ?_
              refine gf_X10 (v := .ref a1) C hE hP 0 1 rfl (by decide) qF_X10_17 rfl dX10_done_87 ?_
              refine lv_aload_n hx hb dX10_done_90 rfl (lv_at hl 3 rfl) ?_
              refine gf_X10 (v := .int k_o) C hE hP 0 2 rfl (by decide) qF_X10_41 rfl dX10_done_91 ?_
              refine lv_bipush (v := 17) hx hb dX10_done_94 (by decide) ?_
              refine lv_iadd hx hb dX10_done_96 ?_
              obtain ⟨g69, hf⟩ := it_g hf
              refine va_iald hx hb hE.1 hP 1 0 rfl rfl g69 dX10_done_97 ?_
              refine lv_icmp_le (tgt := 119) hx hb dX10_done_98 (by decide) (fun c68 => ?_) (fun c68 => ?_)
              · have hf := it_p hf c68
                refine lv_iconst (v := 0) hx hb dX10_done_119 (by decide) ?_
                refine lv_istore (lv' := [(6, .int 0), (5, .int (k_waiting (Int32.toNatClampNeg ((5 * v2) + 2)))), (4, .int (k_waiting (Int32.toNatClampNeg ((5 * v2) + 1)))), (3, .int (k_waiting (Int32.toNatClampNeg (5 * v2)))), (0, .ref a0), (1, .int v1), (2, .int v2)]) hx hb dX10_done_120 hl (by decide) rfl (fun ls hl => ?_)
                refine lv_iconst (v := 0) hx hb dX10_done_122 (by decide) ?_
                refine lv_istore (lv' := [(7, .int 0), (6, .int 0), (5, .int (k_waiting (Int32.toNatClampNeg ((5 * v2) + 2)))), (4, .int (k_waiting (Int32.toNatClampNeg ((5 * v2) + 1)))), (3, .int (k_waiting (Int32.toNatClampNeg (5 * v2)))), (0, .ref a0), (1, .int v1), (2, .int v2)]) hx hb dX10_done_123 hl (by decide) rfl (fun ls hl => ?_)
                obtain ⟨⟨x47, k48, k49, k50, k51, k52⟩, h53, hf⟩ := bd_s hf
                refine L125 _ F v1 v2 (k_waiting (Int32.toNatClampNeg (5 * v2))) (k_waiting (Int32.toNatClampNeg ((5 * v2) + 1))) (k_waiting (Int32.toNatClampNeg ((5 * v2) + 2))) 0 0 k_thrown k_w k_o k_isKept k_went k_wentMany k_waiting k_came ((k_waiting (Int32.toNatClampNeg ((5 * v2) + 4))) + 1) k_isSilent k_x k_packed k_hits k_rues k_soonest k_inAll x47 k48 k49 k50 k51 k52 _ _ ls h53 hP hD hS (lv_sub hl [5, 6, 7, 4, 3, 2, 1, 0] rfl) (fun H locs ls hP hD hS hl => ?_)
                refine lv_aload_n hx hb dX10_done_214 rfl (lv_at hl 0 rfl) ?_
                refine lv_iload_n hx hb dX10_done_215 rfl (lv_at hl 3 rfl) ?_
                refine lv_iload hx hb dX10_done_216 (lv_at hl 4 rfl) ?_
                refine lv_aload_n hx hb dX10_done_218 rfl (lv_at hl 0 rfl) ?_
                refine gf_X10 (v := .ref a4) C hE hP 0 6 rfl (by decide) qF_X10_28 rfl dX10_done_219 ?_
                refine lv_iconst (v := 5) hx hb dX10_done_222 (by decide) ?_
                refine lv_iload_n hx hb dX10_done_223 rfl (lv_at hl 2 rfl) ?_
                refine lv_imul hx hb dX10_done_224 ?_
                refine lv_iconst (v := 3) hx hb dX10_done_225 (by decide) ?_
                refine lv_iadd hx hb dX10_done_226 ?_
                obtain ⟨g56, hf⟩ := it_g hf
                refine va_iald hx hb hE.1 hP 4 0 rfl rfl g56 dX10_done_227 ?_
                refine lv_iload hx hb dX10_done_228 (lv_at hl 5 rfl) ?_
                obtain ⟨k_w_54, h55, hf⟩ := bd_s hf
                refine iv_A (rest := []) (st1 := []) C hE hP hD hS hA (c_X10_logs l D cI cZ cL cW F a0 a1 a2 a3 a4 a5 a6 k_thrown k48 k_o k_isKept k49 k50 k51 k52 ((k_waiting (Int32.toNatClampNeg ((5 * v2) + 4))) + 1) k_isSilent k_x k_packed k_hits k_rues k_soonest k_inAll (k_waiting (Int32.toNatClampNeg (5 * v2))) (k_waiting (Int32.toNatClampNeg ((5 * v2) + 1))) (k51 (Int32.toNatClampNeg ((5 * v2) + 3))) x47  k_w_54 h55) ok_X10_logs qM_X10_156 rfl rfl ⟨(Nat.le_of_ble_eq_true rfl), (Nat.le_of_ble_eq_true rfl)⟩ rfl rfl hl.1 (Nat.le_of_ble_eq_true rfl) ⟨Nat.zero_le _, Nat.zero_le _⟩ dX10_done_230 rfl rfl (fun H locs (hP : va_P D vwCl (MX10 cI cZ cL cW a0 a1 a2 a3 a4 a5 a6 k_thrown k_w_54 k_o k_isKept k49 k50 k51 k52 ((k_waiting (Int32.toNatClampNeg ((5 * v2) + 4))) + 1) k_isSilent k_x k_packed k_hits k_rues k_soonest k_inAll) H) (hD : va_D A (MX10 cI cZ cL cW a0 a1 a2 a3 a4 a5 a6 k_thrown k_w_54 k_o k_isKept k49 k50 k51 k52 ((k_waiting (Int32.toNatClampNeg ((5 * v2) + 4))) + 1) k_isSilent k_x k_packed k_hits k_rues k_soonest k_inAll)) hS => ?_)
                refine lv_iinc (v := (v2 + 1)) (lv' := [(2, .int (v2 + 1)), (0, .ref a0), (1, .int v1), (3, .int (k_waiting (Int32.toNatClampNeg (5 * v2)))), (4, .int (k_waiting (Int32.toNatClampNeg ((5 * v2) + 1)))), (6, .int x47)]) hx hb dX10_done_233 hl (k := 2) rfl rfl (by decide) rfl (fun ls hl => ?_)
                refine lv_goto (tgt := 2) hx hb dX10_done_236 (by decide) ?_
                exact ih v1 (v2 + 1) k_thrown k_w_54 k_o k_isKept k49 k50 k51 k52 ((k_waiting (Int32.toNatClampNeg ((5 * v2) + 4))) + 1) k_isSilent k_x k_packed k_hits k_rues k_soonest k_inAll _ _ _ _ _ _ _ _ ls hf hP hD hS (lv_sub hl [1, 2, 0] rfl) hk
              · have hf := it_n hf c68
                refine lv_aload_n hx hb dX10_done_101 rfl (lv_at hl 3 rfl) ?_
                refine gf_X10 (v := .ref a1) C hE hP 0 1 rfl (by decide) qF_X10_17 rfl dX10_done_102 ?_
                refine lv_aload_n hx hb dX10_done_105 rfl (lv_at hl 3 rfl) ?_
                refine gf_X10 (v := .int k_o) C hE hP 0 2 rfl (by decide) qF_X10_41 rfl dX10_done_106 ?_
                refine lv_bipush (v := 17) hx hb dX10_done_109 (by decide) ?_
                refine lv_iadd hx hb dX10_done_111 ?_
                refine lv_aload_n hx hb dX10_done_112 rfl (lv_at hl 3 rfl) ?_
                refine gf_X10 (v := .int ((k_waiting (Int32.toNatClampNeg ((5 * v2) + 4))) + 1)) C hE hP 0 8 rfl (by decide) qF_X10_112 rfl dX10_done_113 ?_
                refine lv_iconst (v := 1) hx hb dX10_done_116 (by decide) ?_
                refine lv_isub hx hb dX10_done_117 ?_
                obtain ⟨g67, hf⟩ := it_g hf
                refine va_iast hx hb hE.1 hP hD hS 1 0 rfl rfl g67 dX10_done_118 (fun H locs (hP : va_P D vwCl (MX10 cI cZ cL cW a0 a1 a2 a3 a4 a5 a6 k_thrown (upd k_w (Int32.toNatClampNeg (k_o + 17)) (((k_waiting (Int32.toNatClampNeg ((5 * v2) + 4))) + 1) - 1)) k_o k_isKept k_went k_wentMany k_waiting k_came ((k_waiting (Int32.toNatClampNeg ((5 * v2) + 4))) + 1) k_isSilent k_x k_packed k_hits k_rues k_soonest k_inAll) H) (hD : va_D A (MX10 cI cZ cL cW a0 a1 a2 a3 a4 a5 a6 k_thrown (upd k_w (Int32.toNatClampNeg (k_o + 17)) (((k_waiting (Int32.toNatClampNeg ((5 * v2) + 4))) + 1) - 1)) k_o k_isKept k_went k_wentMany k_waiting k_came ((k_waiting (Int32.toNatClampNeg ((5 * v2) + 4))) + 1) k_isSilent k_x k_packed k_hits k_rues k_soonest k_inAll)) hS => ?_)
                refine lv_iconst (v := 0) hx hb dX10_done_119 (by decide) ?_
                refine lv_istore (lv' := [(6, .int 0), (5, .int (k_waiting (Int32.toNatClampNeg ((5 * v2) + 2)))), (4, .int (k_waiting (Int32.toNatClampNeg ((5 * v2) + 1)))), (3, .int (k_waiting (Int32.toNatClampNeg (5 * v2)))), (0, .ref a0), (1, .int v1), (2, .int v2)]) hx hb dX10_done_120 hl (by decide) rfl (fun ls hl => ?_)
                refine lv_iconst (v := 0) hx hb dX10_done_122 (by decide) ?_
                refine lv_istore (lv' := [(7, .int 0), (6, .int 0), (5, .int (k_waiting (Int32.toNatClampNeg ((5 * v2) + 2)))), (4, .int (k_waiting (Int32.toNatClampNeg ((5 * v2) + 1)))), (3, .int (k_waiting (Int32.toNatClampNeg (5 * v2)))), (0, .ref a0), (1, .int v1), (2, .int v2)]) hx hb dX10_done_123 hl (by decide) rfl (fun ls hl => ?_)
                obtain ⟨⟨x57, k58, k59, k60, k61, k62⟩, h63, hf⟩ := bd_s hf
                refine L125 _ F v1 v2 (k_waiting (Int32.toNatClampNeg (5 * v2))) (k_waiting (Int32.toNatClampNeg ((5 * v2) + 1))) (k_waiting (Int32.toNatClampNeg ((5 * v2) + 2))) 0 0 k_thrown (upd k_w (Int32.toNatClampNeg (k_o + 17)) (((k_waiting (Int32.toNatClampNeg ((5 * v2) + 4))) + 1) - 1)) k_o k_isKept k_went k_wentMany k_waiting k_came ((k_waiting (Int32.toNatClampNeg ((5 * v2) + 4))) + 1) k_isSilent k_x k_packed k_hits k_rues k_soonest k_inAll x57 k58 k59 k60 k61 k62 _ _ ls h63 hP hD hS (lv_sub hl [5, 6, 7, 4, 3, 2, 1, 0] rfl) (fun H locs ls hP hD hS hl => ?_)
                refine lv_aload_n hx hb dX10_done_214 rfl (lv_at hl 0 rfl) ?_
                refine lv_iload_n hx hb dX10_done_215 rfl (lv_at hl 3 rfl) ?_
                refine lv_iload hx hb dX10_done_216 (lv_at hl 4 rfl) ?_
                refine lv_aload_n hx hb dX10_done_218 rfl (lv_at hl 0 rfl) ?_
                refine gf_X10 (v := .ref a4) C hE hP 0 6 rfl (by decide) qF_X10_28 rfl dX10_done_219 ?_
                refine lv_iconst (v := 5) hx hb dX10_done_222 (by decide) ?_
                refine lv_iload_n hx hb dX10_done_223 rfl (lv_at hl 2 rfl) ?_
                refine lv_imul hx hb dX10_done_224 ?_
                refine lv_iconst (v := 3) hx hb dX10_done_225 (by decide) ?_
                refine lv_iadd hx hb dX10_done_226 ?_
                obtain ⟨g66, hf⟩ := it_g hf
                refine va_iald hx hb hE.1 hP 4 0 rfl rfl g66 dX10_done_227 ?_
                refine lv_iload hx hb dX10_done_228 (lv_at hl 5 rfl) ?_
                obtain ⟨k_w_64, h65, hf⟩ := bd_s hf
                refine iv_A (rest := []) (st1 := []) C hE hP hD hS hA (c_X10_logs l D cI cZ cL cW F a0 a1 a2 a3 a4 a5 a6 k_thrown k58 k_o k_isKept k59 k60 k61 k62 ((k_waiting (Int32.toNatClampNeg ((5 * v2) + 4))) + 1) k_isSilent k_x k_packed k_hits k_rues k_soonest k_inAll (k_waiting (Int32.toNatClampNeg (5 * v2))) (k_waiting (Int32.toNatClampNeg ((5 * v2) + 1))) (k61 (Int32.toNatClampNeg ((5 * v2) + 3))) x57  k_w_64 h65) ok_X10_logs qM_X10_156 rfl rfl ⟨(Nat.le_of_ble_eq_true rfl), (Nat.le_of_ble_eq_true rfl)⟩ rfl rfl hl.1 (Nat.le_of_ble_eq_true rfl) ⟨Nat.zero_le _, Nat.zero_le _⟩ dX10_done_230 rfl rfl (fun H locs (hP : va_P D vwCl (MX10 cI cZ cL cW a0 a1 a2 a3 a4 a5 a6 k_thrown k_w_64 k_o k_isKept k59 k60 k61 k62 ((k_waiting (Int32.toNatClampNeg ((5 * v2) + 4))) + 1) k_isSilent k_x k_packed k_hits k_rues k_soonest k_inAll) H) (hD : va_D A (MX10 cI cZ cL cW a0 a1 a2 a3 a4 a5 a6 k_thrown k_w_64 k_o k_isKept k59 k60 k61 k62 ((k_waiting (Int32.toNatClampNeg ((5 * v2) + 4))) + 1) k_isSilent k_x k_packed k_hits k_rues k_soonest k_inAll)) hS => ?_)
                refine lv_iinc (v := (v2 + 1)) (lv' := [(2, .int (v2 + 1)), (0, .ref a0), (1, .int v1), (3, .int (k_waiting (Int32.toNatClampNeg (5 * v2)))), (4, .int (k_waiting (Int32.toNatClampNeg ((5 * v2) + 1)))), (6, .int x57)]) hx hb dX10_done_233 hl (k := 2) rfl rfl (by decide) rfl (fun ls hl => ?_)
                refine lv_goto (tgt := 2) hx hb dX10_done_236 (by decide) ?_
                exact ih v1 (v2 + 1) k_thrown k_w_64 k_o k_isKept k59 k60 k61 k62 ((k_waiting (Int32.toNatClampNeg ((5 * v2) + 4))) + 1) k_isSilent k_x k_packed k_hits k_rues k_soonest k_inAll _ _ _ _ _ _ _ _ ls hf hP hD hS (lv_sub hl [1, 2, 0] rfl) hk
            · have hf := it_p hf c96
              refine lv_iconst (v := 0) hx hb dX10_done_48 (by decide) ?_
              refine lv_goto (tgt := 62) hx hb dX10_done_49 (by decide) ?_
              refine lv_istore (lv' := [(5, .int 0), (4, .int (k_waiting (Int32.toNatClampNeg ((5 * v2) + 1)))), (3, .int (k_waiting (Int32.toNatClampNeg (5 * v2)))), (0, .ref a0), (1, .int v1), (2, .int v2)]) hx hb dX10_done_62 hl (by decide) rfl (fun ls hl => ?_)
              refine lv_aload_n hx hb dX10_done_64 rfl (lv_at hl 3 rfl) ?_
              refine lv_aload_n hx hb dX10_done_65 rfl (lv_at hl 3 rfl) ?_
              refine gf_X10 (v := .ref a4) C hE hP 0 6 rfl (by decide) qF_X10_28 rfl dX10_done_66 ?_
              refine lv_iconst (v := 5) hx hb dX10_done_69 (by decide) ?_
              refine lv_iload_n hx hb dX10_done_70 rfl (lv_at hl 5 rfl) ?_
              refine lv_imul hx hb dX10_done_71 ?_
              refine lv_iconst (v := 4) hx hb dX10_done_72 (by decide) ?_
              refine lv_iadd hx hb dX10_done_73 ?_
              obtain ⟨g95, hf⟩ := it_g hf
              refine va_iald hx hb hE.1 hP 4 0 rfl rfl g95 dX10_done_74 ?_
              refine lv_iconst (v := 1) hx hb dX10_done_75 (by decide) ?_
              refine lv_iadd hx hb dX10_done_76 ?_
              refine pf_X10 (v := .int ((k_waiting (Int32.toNatClampNeg ((5 * v2) + 4))) + 1)) C hE hP hD hS 0 8 rfl (by decide) qF_X10_112 rfl rfl rfl (Nat.le_of_ble_eq_true rfl) dX10_done_77 (fun H locs (hP : va_P D vwCl (MX10 cI cZ cL cW a0 a1 a2 a3 a4 a5 a6 k_thrown k_w k_o k_isKept k_went k_wentMany k_waiting k_came ((k_waiting (Int32.toNatClampNeg ((5 * v2) + 4))) + 1) k_isSilent k_x k_packed k_hits k_rues k_soonest k_inAll) H) (hD : va_D A (MX10 cI cZ cL cW a0 a1 a2 a3 a4 a5 a6 k_thrown k_w k_o k_isKept k_went k_wentMany k_waiting k_came ((k_waiting (Int32.toNatClampNeg ((5 * v2) + 4))) + 1) k_isSilent k_x k_packed k_hits k_rues k_soonest k_inAll)) hS => ?_)
              refine lv_aload_n hx hb dX10_done_80 rfl (lv_at hl 3 rfl) ?_
              refine gf_X10 (v := .int ((k_waiting (Int32.toNatClampNeg ((5 * v2) + 4))) + 1)) C hE hP 0 8 rfl (by decide) qF_X10_112 rfl dX10_done_81 ?_
              refine lv_iconst (v := 1) hx hb dX10_done_84 (by decide) ?_
              refine lv_isub hx hb dX10_done_85 ?_
              refine lv_aload_n hx hb dX10_done_86 rfl (lv_at hl 3 rfl) ?_
              refine gf_X10 (v := .ref a1) C hE hP 0 1 rfl (by decide) qF_X10_17 rfl dX10_done_87 ?_
              refine lv_aload_n hx hb dX10_done_90 rfl (lv_at hl 3 rfl) ?_
              refine gf_X10 (v := .int k_o) C hE hP 0 2 rfl (by decide) qF_X10_41 rfl dX10_done_91 ?_
              refine lv_bipush (v := 17) hx hb dX10_done_94 (by decide) ?_
              refine lv_iadd hx hb dX10_done_96 ?_
              obtain ⟨g94, hf⟩ := it_g hf
              refine va_iald hx hb hE.1 hP 1 0 rfl rfl g94 dX10_done_97 ?_
              refine lv_icmp_le (tgt := 119) hx hb dX10_done_98 (by decide) (fun c93 => ?_) (fun c93 => ?_)
              · have hf := it_p hf c93
                refine lv_iconst (v := 0) hx hb dX10_done_119 (by decide) ?_
                refine lv_istore (lv' := [(6, .int 0), (5, .int 0), (4, .int (k_waiting (Int32.toNatClampNeg ((5 * v2) + 1)))), (3, .int (k_waiting (Int32.toNatClampNeg (5 * v2)))), (0, .ref a0), (1, .int v1), (2, .int v2)]) hx hb dX10_done_120 hl (by decide) rfl (fun ls hl => ?_)
                refine lv_iconst (v := 0) hx hb dX10_done_122 (by decide) ?_
                refine lv_istore (lv' := [(7, .int 0), (6, .int 0), (5, .int 0), (4, .int (k_waiting (Int32.toNatClampNeg ((5 * v2) + 1)))), (3, .int (k_waiting (Int32.toNatClampNeg (5 * v2)))), (0, .ref a0), (1, .int v1), (2, .int v2)]) hx hb dX10_done_123 hl (by decide) rfl (fun ls hl => ?_)
                obtain ⟨⟨x72, k73, k74, k75, k76, k77⟩, h78, hf⟩ := bd_s hf
                refine L125 _ F v1 v2 (k_waiting (Int32.toNatClampNeg (5 * v2))) (k_waiting (Int32.toNatClampNeg ((5 * v2) + 1))) 0 0 0 k_thrown k_w k_o k_isKept k_went k_wentMany k_waiting k_came ((k_waiting (Int32.toNatClampNeg ((5 * v2) + 4))) + 1) k_isSilent k_x k_packed k_hits k_rues k_soonest k_inAll x72 k73 k74 k75 k76 k77 _ _ ls h78 hP hD hS (lv_sub hl [5, 6, 7, 4, 3, 2, 1, 0] rfl) (fun H locs ls hP hD hS hl => ?_)
                refine lv_aload_n hx hb dX10_done_214 rfl (lv_at hl 0 rfl) ?_
                refine lv_iload_n hx hb dX10_done_215 rfl (lv_at hl 3 rfl) ?_
                refine lv_iload hx hb dX10_done_216 (lv_at hl 4 rfl) ?_
                refine lv_aload_n hx hb dX10_done_218 rfl (lv_at hl 0 rfl) ?_
                refine gf_X10 (v := .ref a4) C hE hP 0 6 rfl (by decide) qF_X10_28 rfl dX10_done_219 ?_
                refine lv_iconst (v := 5) hx hb dX10_done_222 (by decide) ?_
                refine lv_iload_n hx hb dX10_done_223 rfl (lv_at hl 2 rfl) ?_
                refine lv_imul hx hb dX10_done_224 ?_
                refine lv_iconst (v := 3) hx hb dX10_done_225 (by decide) ?_
                refine lv_iadd hx hb dX10_done_226 ?_
                obtain ⟨g81, hf⟩ := it_g hf
                refine va_iald hx hb hE.1 hP 4 0 rfl rfl g81 dX10_done_227 ?_
                refine lv_iload hx hb dX10_done_228 (lv_at hl 5 rfl) ?_
                obtain ⟨k_w_79, h80, hf⟩ := bd_s hf
                refine iv_A (rest := []) (st1 := []) C hE hP hD hS hA (c_X10_logs l D cI cZ cL cW F a0 a1 a2 a3 a4 a5 a6 k_thrown k73 k_o k_isKept k74 k75 k76 k77 ((k_waiting (Int32.toNatClampNeg ((5 * v2) + 4))) + 1) k_isSilent k_x k_packed k_hits k_rues k_soonest k_inAll (k_waiting (Int32.toNatClampNeg (5 * v2))) (k_waiting (Int32.toNatClampNeg ((5 * v2) + 1))) (k76 (Int32.toNatClampNeg ((5 * v2) + 3))) x72  k_w_79 h80) ok_X10_logs qM_X10_156 rfl rfl ⟨(Nat.le_of_ble_eq_true rfl), (Nat.le_of_ble_eq_true rfl)⟩ rfl rfl hl.1 (Nat.le_of_ble_eq_true rfl) ⟨Nat.zero_le _, Nat.zero_le _⟩ dX10_done_230 rfl rfl (fun H locs (hP : va_P D vwCl (MX10 cI cZ cL cW a0 a1 a2 a3 a4 a5 a6 k_thrown k_w_79 k_o k_isKept k74 k75 k76 k77 ((k_waiting (Int32.toNatClampNeg ((5 * v2) + 4))) + 1) k_isSilent k_x k_packed k_hits k_rues k_soonest k_inAll) H) (hD : va_D A (MX10 cI cZ cL cW a0 a1 a2 a3 a4 a5 a6 k_thrown k_w_79 k_o k_isKept k74 k75 k76 k77 ((k_waiting (Int32.toNatClampNeg ((5 * v2) + 4))) + 1) k_isSilent k_x k_packed k_hits k_rues k_soonest k_inAll)) hS => ?_)
                refine lv_iinc (v := (v2 + 1)) (lv' := [(2, .int (v2 + 1)), (0, .ref a0), (1, .int v1), (3, .int (k_waiting (Int32.toNatClampNeg (5 * v2)))), (4, .int (k_waiting (Int32.toNatClampNeg ((5 * v2) + 1)))), (6, .int x72)]) hx hb dX10_done_233 hl (k := 2) rfl rfl (by decide) rfl (fun ls hl => ?_)
                refine lv_goto (tgt := 2) hx hb dX10_done_236 (by decide) ?_
                exact ih v1 (v2 + 1) k_thrown k_w_79 k_o k_isKept k74 k75 k76 k77 ((k_waiting (Int32.toNatClampNeg ((5 * v2) + 4))) + 1) k_isSilent k_x k_packed k_hits k_rues k_soonest k_inAll _ _ _ _ _ _ _ _ ls hf hP hD hS (lv_sub hl [1, 2, 0] rfl) hk
              · have hf := it_n hf c93
                refine lv_aload_n hx hb dX10_done_101 rfl (lv_at hl 3 rfl) ?_
                refine gf_X10 (v := .ref a1) C hE hP 0 1 rfl (by decide) qF_X10_17 rfl dX10_done_102 ?_
                refine lv_aload_n hx hb dX10_done_105 rfl (lv_at hl 3 rfl) ?_
                refine gf_X10 (v := .int k_o) C hE hP 0 2 rfl (by decide) qF_X10_41 rfl dX10_done_106 ?_
                refine lv_bipush (v := 17) hx hb dX10_done_109 (by decide) ?_
                refine lv_iadd hx hb dX10_done_111 ?_
                refine lv_aload_n hx hb dX10_done_112 rfl (lv_at hl 3 rfl) ?_
                refine gf_X10 (v := .int ((k_waiting (Int32.toNatClampNeg ((5 * v2) + 4))) + 1)) C hE hP 0 8 rfl (by decide) qF_X10_112 rfl dX10_done_113 ?_
                refine lv_iconst (v := 1) hx hb dX10_done_116 (by decide) ?_
                refine lv_isub hx hb dX10_done_117 ?_
                obtain ⟨g92, hf⟩ := it_g hf
                refine va_iast hx hb hE.1 hP hD hS 1 0 rfl rfl g92 dX10_done_118 (fun H locs (hP : va_P D vwCl (MX10 cI cZ cL cW a0 a1 a2 a3 a4 a5 a6 k_thrown (upd k_w (Int32.toNatClampNeg (k_o + 17)) (((k_waiting (Int32.toNatClampNeg ((5 * v2) + 4))) + 1) - 1)) k_o k_isKept k_went k_wentMany k_waiting k_came ((k_waiting (Int32.toNatClampNeg ((5 * v2) + 4))) + 1) k_isSilent k_x k_packed k_hits k_rues k_soonest k_inAll) H) (hD : va_D A (MX10 cI cZ cL cW a0 a1 a2 a3 a4 a5 a6 k_thrown (upd k_w (Int32.toNatClampNeg (k_o + 17)) (((k_waiting (Int32.toNatClampNeg ((5 * v2) + 4))) + 1) - 1)) k_o k_isKept k_went k_wentMany k_waiting k_came ((k_waiting (Int32.toNatClampNeg ((5 * v2) + 4))) + 1) k_isSilent k_x k_packed k_hits k_rues k_soonest k_inAll)) hS => ?_)
                refine lv_iconst (v := 0) hx hb dX10_done_119 (by decide) ?_
                refine lv_istore (lv' := [(6, .int 0), (5, .int 0), (4, .int (k_waiting (Int32.toNatClampNeg ((5 * v2) + 1)))), (3, .int (k_waiting (Int32.toNatClampNeg (5 * v2)))), (0, .ref a0), (1, .int v1), (2, .int v2)]) hx hb dX10_done_120 hl (by decide) rfl (fun ls hl => ?_)
                refine lv_iconst (v := 0) hx hb dX10_done_122 (by decide) ?_
                refine lv_istore (lv' := [(7, .int 0), (6, .int 0), (5, .int 0), (4, .int (k_waiting (Int32.toNatClampNeg ((5 * v2) + 1)))), (3, .int (k_waiting (Int32.toNatClampNeg (5 * v2)))), (0, .ref a0), (1, .int v1), (2, .int v2)]) hx hb dX10_done_123 hl (by decide) rfl (fun ls hl => ?_)
                obtain ⟨⟨x82, k83, k84, k85, k86, k87⟩, h88, hf⟩ := bd_s hf
                refine L125 _ F v1 v2 (k_waiting (Int32.toNatClampNeg (5 * v2))) (k_waiting (Int32.toNatClampNeg ((5 * v2) + 1))) 0 0 0 k_thrown (upd k_w (Int32.toNatClampNeg (k_o + 17)) (((k_waiting (Int32.toNatClampNeg ((5 * v2) + 4))) + 1) - 1)) k_o k_isKept k_went k_wentMany k_waiting k_came ((k_waiting (Int32.toNatClampNeg ((5 * v2) + 4))) + 1) k_isSilent k_x k_packed k_hits k_rues k_soonest k_inAll x82 k83 k84 k85 k86 k87 _ _ ls h88 hP hD hS (lv_sub hl [5, 6, 7, 4, 3, 2, 1, 0] rfl) (fun H locs ls hP hD hS hl => ?_)
                refine lv_aload_n hx hb dX10_done_214 rfl (lv_at hl 0 rfl) ?_
                refine lv_iload_n hx hb dX10_done_215 rfl (lv_at hl 3 rfl) ?_
                refine lv_iload hx hb dX10_done_216 (lv_at hl 4 rfl) ?_
                refine lv_aload_n hx hb dX10_done_218 rfl (lv_at hl 0 rfl) ?_
                refine gf_X10 (v := .ref a4) C hE hP 0 6 rfl (by decide) qF_X10_28 rfl dX10_done_219 ?_
                refine lv_iconst (v := 5) hx hb dX10_done_222 (by decide) ?_
                refine lv_iload_n hx hb dX10_done_223 rfl (lv_at hl 2 rfl) ?_
                refine lv_imul hx hb dX10_done_224 ?_
                refine lv_iconst (v := 3) hx hb dX10_done_225 (by decide) ?_
                refine lv_iadd hx hb dX10_done_226 ?_
                obtain ⟨g91, hf⟩ := it_g hf
                refine va_iald hx hb hE.1 hP 4 0 rfl rfl g91 dX10_done_227 ?_
                refine lv_iload hx hb dX10_done_228 (lv_at hl 5 rfl) ?_
                obtain ⟨k_w_89, h90, hf⟩ := bd_s hf
                refine iv_A (rest := []) (st1 := []) C hE hP hD hS hA (c_X10_logs l D cI cZ cL cW F a0 a1 a2 a3 a4 a5 a6 k_thrown k83 k_o k_isKept k84 k85 k86 k87 ((k_waiting (Int32.toNatClampNeg ((5 * v2) + 4))) + 1) k_isSilent k_x k_packed k_hits k_rues k_soonest k_inAll (k_waiting (Int32.toNatClampNeg (5 * v2))) (k_waiting (Int32.toNatClampNeg ((5 * v2) + 1))) (k86 (Int32.toNatClampNeg ((5 * v2) + 3))) x82  k_w_89 h90) ok_X10_logs qM_X10_156 rfl rfl ⟨(Nat.le_of_ble_eq_true rfl), (Nat.le_of_ble_eq_true rfl)⟩ rfl rfl hl.1 (Nat.le_of_ble_eq_true rfl) ⟨Nat.zero_le _, Nat.zero_le _⟩ dX10_done_230 rfl rfl (fun H locs (hP : va_P D vwCl (MX10 cI cZ cL cW a0 a1 a2 a3 a4 a5 a6 k_thrown k_w_89 k_o k_isKept k84 k85 k86 k87 ((k_waiting (Int32.toNatClampNeg ((5 * v2) + 4))) + 1) k_isSilent k_x k_packed k_hits k_rues k_soonest k_inAll) H) (hD : va_D A (MX10 cI cZ cL cW a0 a1 a2 a3 a4 a5 a6 k_thrown k_w_89 k_o k_isKept k84 k85 k86 k87 ((k_waiting (Int32.toNatClampNeg ((5 * v2) + 4))) + 1) k_isSilent k_x k_packed k_hits k_rues k_soonest k_inAll)) hS => ?_)
                refine lv_iinc (v := (v2 + 1)) (lv' := [(2, .int (v2 + 1)), (0, .ref a0), (1, .int v1), (3, .int (k_waiting (Int32.toNatClampNeg (5 * v2)))), (4, .int (k_waiting (Int32.toNatClampNeg ((5 * v2) + 1)))), (6, .int x82)]) hx hb dX10_done_233 hl (k := 2) rfl rfl (by decide) rfl (fun ls hl => ?_)
                refine lv_goto (tgt := 2) hx hb dX10_done_236 (by decide) ?_
                exact ih v1 (v2 + 1) k_thrown k_w_89 k_o k_isKept k84 k85 k86 k87 ((k_waiting (Int32.toNatClampNeg ((5 * v2) + 4))) + 1) k_isSilent k_x k_packed k_hits k_rues k_soonest k_inAll _ _ _ _ _ _ _ _ ls hf hP hD hS (lv_sub hl [1, 2, 0] rfl) hk
  refine lv_iconst (v := 0) hx hb dX10_done_0 (by decide) ?_
  refine lv_istore_n (lv' := [(2, .int 0), (0, .ref a0), (1, .int p1)]) hx hb dX10_done_1 rfl hl (by decide) rfl (fun ls hl => ?_)
  obtain ⟨⟨k102, k103, k104, k105, k106, k107⟩, h108, hf⟩ := bd_s hf
  refine L2 _ F p1 0 k_thrown k_w k_o k_isKept k_went k_wentMany k_waiting k_came k_depth k_isSilent k_x k_packed k_hits k_rues k_soonest k_inAll k102 k103 k104 k105 k106 k107 _ _ ls h108 hP hD hS (lv_sub hl [1, 2, 0] rfl) (fun H locs ls hP hD hS hl => ?_)
  refine lv_aload_n hx hb dX10_done_239 rfl (lv_at hl 0 rfl) ?_
  refine gf_X10 (v := .int k106) C hE hP 0 7 rfl (by decide) qF_X10_109 rfl dX10_done_240 ?_
  refine lv_bipush (v := 100) hx hb dX10_done_243 (by decide) ?_
  refine lv_icmp_le (tgt := 270) hx hb dX10_done_245 (by decide) (fun c111 => ?_) (fun c111 => ?_)
  · have hf := it_p hf c111
    refine lv_iload_n hx hb dX10_done_270 rfl (lv_at hl 1 rfl) ?_
    cases hf
    exact rw_i C hr hlk hP hD hS dX10_done_271 rfl
  · have hf := it_n hf c111
    refine lv_aload_n hx hb dX10_done_248 rfl (lv_at hl 0 rfl) ?_
    refine gf_X10 (v := .ref a1) C hE hP 0 1 rfl (by decide) qF_X10_17 rfl dX10_done_249 ?_
    refine lv_aload_n hx hb dX10_done_252 rfl (lv_at hl 0 rfl) ?_
    refine gf_X10 (v := .int k_o) C hE hP 0 2 rfl (by decide) qF_X10_41 rfl dX10_done_253 ?_
    refine lv_bipush (v := 13) hx hb dX10_done_256 (by decide) ?_
    refine lv_iadd hx hb dX10_done_258 ?_
    refine lv_dup2_11 hx hb dX10_done_259 rfl rfl ?_
    obtain ⟨g110, hf⟩ := it_g hf
    refine va_iald hx hb hE.1 hP 1 0 rfl rfl g110 dX10_done_260 ?_
    refine lv_aload_n hx hb dX10_done_261 rfl (lv_at hl 0 rfl) ?_
    refine gf_X10 (v := .int k106) C hE hP 0 7 rfl (by decide) qF_X10_109 rfl dX10_done_262 ?_
    refine lv_bipush (v := 100) hx hb dX10_done_265 (by decide) ?_
    refine lv_isub hx hb dX10_done_267 ?_
    refine lv_iadd hx hb dX10_done_268 ?_
    obtain ⟨g109, hf⟩ := it_g hf
    refine va_iast hx hb hE.1 hP hD hS 1 0 rfl rfl g109 dX10_done_269 (fun H locs (hP : va_P D vwCl (MX10 cI cZ cL cW a0 a1 a2 a3 a4 a5 a6 k_thrown (upd k102 (Int32.toNatClampNeg (k_o + 13)) ((k102 (Int32.toNatClampNeg (k_o + 13))) + (k106 - 100))) k_o k_isKept k103 k104 k105 k106 k107 k_isSilent k_x k_packed k_hits k_rues k_soonest k_inAll) H) (hD : va_D A (MX10 cI cZ cL cW a0 a1 a2 a3 a4 a5 a6 k_thrown (upd k102 (Int32.toNatClampNeg (k_o + 13)) ((k102 (Int32.toNatClampNeg (k_o + 13))) + (k106 - 100))) k_o k_isKept k103 k104 k105 k106 k107 k_isSilent k_x k_packed k_hits k_rues k_soonest k_inAll)) hS => ?_)
    refine lv_iload_n hx hb dX10_done_270 rfl (lv_at hl 1 rfl) ?_
    cases hf
    exact rw_i C hr hlk hP hD hS dX10_done_271 rfl
def X10_requests_L14 (F : Nat) : Nat → Int32 → Int32 → (Nat → Int32) → Option ((Nat → Int32))
  | 0, _, _, _ => none
  | n + 1, v1, v2, k_w => if (99 : Int32) ≤ v2 then (some k_w) else (if (((748 + v2) + 1) : Int32) < 0 ∨ 3392 ≤ (Int32.toNatClampNeg ((748 + v2) + 1)) then none else (if ((748 + v2) : Int32) < 0 ∨ 3392 ≤ (Int32.toNatClampNeg (748 + v2)) then none else (X10_requests_L14 F n v1 (v2 + 1) (upd k_w (Int32.toNatClampNeg (748 + v2)) (k_w (Int32.toNatClampNeg ((748 + v2) + 1)))))))
def X10_requests (F : Nat) (p1 : Int32) (k_w : (Nat → Int32)) : Option ((Nat → Int32)) := if ((k_w (Int32.toNatClampNeg 14)) : Int32) = 100 then ((X10_requests_L14 F F p1 0 k_w).bind fun k5 => (if ((748 + ((upd k5 (Int32.toNatClampNeg 14) ((k5 (Int32.toNatClampNeg 14)) - 1)) (Int32.toNatClampNeg 14))) : Int32) < 0 ∨ 3392 ≤ (Int32.toNatClampNeg (748 + ((upd k5 (Int32.toNatClampNeg 14) ((k5 (Int32.toNatClampNeg 14)) - 1)) (Int32.toNatClampNeg 14)))) then none else (some (upd (upd (upd k5 (Int32.toNatClampNeg 14) ((k5 (Int32.toNatClampNeg 14)) - 1)) (Int32.toNatClampNeg (748 + ((upd k5 (Int32.toNatClampNeg 14) ((k5 (Int32.toNatClampNeg 14)) - 1)) (Int32.toNatClampNeg 14)))) p1) (Int32.toNatClampNeg 14) (((upd (upd k5 (Int32.toNatClampNeg 14) ((k5 (Int32.toNatClampNeg 14)) - 1)) (Int32.toNatClampNeg (748 + ((upd k5 (Int32.toNatClampNeg 14) ((k5 (Int32.toNatClampNeg 14)) - 1)) (Int32.toNatClampNeg 14)))) p1) (Int32.toNatClampNeg 14)) + 1))))) else (if ((748 + (k_w (Int32.toNatClampNeg 14))) : Int32) < 0 ∨ 3392 ≤ (Int32.toNatClampNeg (748 + (k_w (Int32.toNatClampNeg 14)))) then none else (some (upd (upd k_w (Int32.toNatClampNeg (748 + (k_w (Int32.toNatClampNeg 14)))) p1) (Int32.toNatClampNeg 14) (((upd k_w (Int32.toNatClampNeg (748 + (k_w (Int32.toNatClampNeg 14)))) p1) (Int32.toNatClampNeg 14)) + 1))))
abbrev rm_X10_requests : Room := { frames := 0, cells := 0, slots := 0, locals := 0 }
theorem ok_X10_requests : OKV RX10 yX10_requests cX10_requests 3 none 1 := ⟨by decide +kernel, qV_X10_requests, qL_X10_requests, qI_X10, qD_X10_requests⟩
set_option maxHeartbeats 4000000 in
set_option maxRecDepth 100000 in
theorem c_X10_requests (l : Launch) (D : va_G) (cI cZ cL cW : ClassId) (F : Nat) (a0 : Nat) (a1 : Nat) (a2 : Nat) (a3 : Nat) (a4 : Nat) (a5 : Nat) (a6 : Nat) (k_thrown : Int32) (k_w : (Nat → Int32)) (k_o : Int32) (k_isKept : (Nat → Int32)) (k_went : (Nat → Int32)) (k_wentMany : Int32) (k_waiting : (Nat → Int32)) (k_came : Int32) (k_depth : Int32) (k_isSilent : Int32) (k_x : Int64) (k_packed : (Nat → Int32)) (k_hits : Int32) (k_rues : Int32) (k_soonest : Int32) (k_inAll : (Nat → Int32)) (p1 : Int32) (k_w' : (Nat → Int32)) (hf : X10_requests F p1 k_w = some (k_w')) : CtrW l D (tyL cI cZ cL cW) nestW yX10_requests cX10_requests 3 none rm_X10_requests [.ref a0, .int p1] (MX10 cI cZ cL cW a0 a1 a2 a3 a4 a5 a6 k_thrown k_w k_o k_isKept k_went k_wentMany k_waiting k_came k_depth k_isSilent k_x k_packed k_hits k_rues k_soonest k_inAll) (MX10 cI cZ cL cW a0 a1 a2 a3 a4 a5 a6 k_thrown (k_w') k_o k_isKept k_went k_wentMany k_waiting k_came k_depth k_isSilent k_x k_packed k_hits k_rues k_soonest k_inAll) none := by
  refine ofA RX10 (by decide) rfl (Nat.le_of_ble_eq_true rfl) ?_
  intro p e s m below meth c ls A C hr hlk hE hA hP hD hS hl
  generalize (List.toArray ([.ref a0, .int p1] : List Value)) = args at C ⊢
  obtain ⟨hx, hb, hml, hown, ht⟩ := id C
  have hl : lv_has ls 3 [(0, .ref a0), (1, .int p1)] := hl
  have L14 : ∀ (Q : State → Prop) (n : Nat) (v1 : Int32) (v2 : Int32) (k_thrown : Int32) (k_w : (Nat → Int32)) (k_o : Int32) (k_isKept : (Nat → Int32)) (k_went : (Nat → Int32)) (k_wentMany : Int32) (k_waiting : (Nat → Int32)) (k_came : Int32) (k_depth : Int32) (k_isSilent : Int32) (k_x : Int64) (k_packed : (Nat → Int32)) (k_hits : Int32) (k_rues : Int32) (k_soonest : Int32) (k_inAll : (Nat → Int32)) (k_w' : (Nat → Int32)) (H : Heap) (locs : List Loc) (ls : Array Slot), X10_requests_L14 F n v1 v2 k_w = some (k_w') → va_P D vwCl (MX10 cI cZ cL cW a0 a1 a2 a3 a4 a5 a6 k_thrown k_w k_o k_isKept k_went k_wentMany k_waiting k_came k_depth k_isSilent k_x k_packed k_hits k_rues k_soonest k_inAll) H → va_D A (MX10 cI cZ cL cW a0 a1 a2 a3 a4 a5 a6 k_thrown k_w k_o k_isKept k_went k_wentMany k_waiting k_came k_depth k_isSilent k_x k_packed k_hits k_rues k_soonest k_inAll) → va_S A s.heap H locs → lv_has ls 3 [(0, .ref a0), (1, .int v1), (2, .int v2)] → (∀ (H : Heap) (locs : List Loc) (ls : Array Slot), va_P D vwCl (MX10 cI cZ cL cW a0 a1 a2 a3 a4 a5 a6 k_thrown (k_w') k_o k_isKept k_went k_wentMany k_waiting k_came k_depth k_isSilent k_x k_packed k_hits k_rues k_soonest k_inAll) H → va_D A (MX10 cI cZ cL cW a0 a1 a2 a3 a4 a5 a6 k_thrown (k_w') k_o k_isKept k_went k_wentMany k_waiting k_came k_depth k_isSilent k_x k_packed k_hits k_rues k_soonest k_inAll) → va_S A s.heap H locs → lv_has ls 3 [(0, .ref a0), (1, .int v1)] → W p l e rm_X10_requests s m args below meth c H locs 0 0 Q (F0 m 48 ls [])) → W p l e rm_X10_requests s m args below meth c H locs 0 0 Q (F0 m 14 ls []) := by
    intro Q n
    induction n with
    | zero => intro v1 v2 k_thrown k_w k_o k_isKept k_went k_wentMany k_waiting k_came k_depth k_isSilent k_x k_packed k_hits k_rues k_soonest k_inAll k_w' H locs ls hf hP hD hS hl hk; exact nn_s hf
    | succ n ih =>
      intro v1 v2 k_thrown k_w k_o k_isKept k_went k_wentMany k_waiting k_came k_depth k_isSilent k_x k_packed k_hits k_rues k_soonest k_inAll k_w' H locs ls hf hP hD hS hl hk
      refine lv_iload_n hx hb dX10_requests_14 rfl (lv_at hl 2 rfl) ?_
      refine lv_bipush (v := 99) hx hb dX10_requests_15 (by decide) ?_
      refine lv_icmp_ge (tgt := 48) hx hb dX10_requests_17 (by decide) (fun c4 => ?_) (fun c4 => ?_)
      · have hf := it_p hf c4
        cases hf
        exact hk _ _ ls hP hD hS (lv_sub hl [0, 1] rfl)
      · have hf := it_n hf c4
        refine lv_aload_n hx hb dX10_requests_20 rfl (lv_at hl 0 rfl) ?_
        refine gf_X10 (v := .ref a1) C hE hP 0 1 rfl (by decide) qF_X10_17 rfl dX10_requests_21 ?_
        refine lv_sipush (v := 748) hx hb dX10_requests_24 (by decide) ?_
        refine lv_iload_n hx hb dX10_requests_27 rfl (lv_at hl 2 rfl) ?_
        refine lv_iadd hx hb dX10_requests_28 ?_
        refine lv_aload_n hx hb dX10_requests_29 rfl (lv_at hl 0 rfl) ?_
        refine gf_X10 (v := .ref a1) C hE hP 0 1 rfl (by decide) qF_X10_17 rfl dX10_requests_30 ?_
        refine lv_sipush (v := 748) hx hb dX10_requests_33 (by decide) ?_
        refine lv_iload_n hx hb dX10_requests_36 rfl (lv_at hl 2 rfl) ?_
        refine lv_iadd hx hb dX10_requests_37 ?_
        refine lv_iconst (v := 1) hx hb dX10_requests_38 (by decide) ?_
        refine lv_iadd hx hb dX10_requests_39 ?_
        obtain ⟨g3, hf⟩ := it_g hf
        refine va_iald hx hb hE.1 hP 1 0 rfl rfl g3 dX10_requests_40 ?_
        obtain ⟨g2, hf⟩ := it_g hf
        refine va_iast hx hb hE.1 hP hD hS 1 0 rfl rfl g2 dX10_requests_41 (fun H locs (hP : va_P D vwCl (MX10 cI cZ cL cW a0 a1 a2 a3 a4 a5 a6 k_thrown (upd k_w (Int32.toNatClampNeg (748 + v2)) (k_w (Int32.toNatClampNeg ((748 + v2) + 1)))) k_o k_isKept k_went k_wentMany k_waiting k_came k_depth k_isSilent k_x k_packed k_hits k_rues k_soonest k_inAll) H) (hD : va_D A (MX10 cI cZ cL cW a0 a1 a2 a3 a4 a5 a6 k_thrown (upd k_w (Int32.toNatClampNeg (748 + v2)) (k_w (Int32.toNatClampNeg ((748 + v2) + 1)))) k_o k_isKept k_went k_wentMany k_waiting k_came k_depth k_isSilent k_x k_packed k_hits k_rues k_soonest k_inAll)) hS => ?_)
        refine lv_iinc (v := (v2 + 1)) (lv' := [(2, .int (v2 + 1)), (0, .ref a0), (1, .int v1)]) hx hb dX10_requests_42 hl (k := 2) rfl rfl (by decide) rfl (fun ls hl => ?_)
        refine lv_goto (tgt := 14) hx hb dX10_requests_45 (by decide) ?_
        exact ih v1 (v2 + 1) k_thrown (upd k_w (Int32.toNatClampNeg (748 + v2)) (k_w (Int32.toNatClampNeg ((748 + v2) + 1)))) k_o k_isKept k_went k_wentMany k_waiting k_came k_depth k_isSilent k_x k_packed k_hits k_rues k_soonest k_inAll _ _ _ ls hf hP hD hS (lv_sub hl [1, 2, 0] rfl) hk
  refine lv_aload_n hx hb dX10_requests_0 rfl (lv_at hl 0 rfl) ?_
  refine gf_X10 (v := .ref a1) C hE hP 0 1 rfl (by decide) qF_X10_17 rfl dX10_requests_1 ?_
  refine lv_bipush (v := 14) hx hb dX10_requests_4 (by decide) ?_
  refine va_iald hx hb hE.1 hP 1 0 rfl rfl (vp_l (by decide)) dX10_requests_6 ?_
  refine lv_bipush (v := 100) hx hb dX10_requests_7 (by decide) ?_
  refine lv_icmp_ne (tgt := 59) hx hb dX10_requests_9 (by decide) (fun c8 => ?_) (fun c8 => ?_)
  · have hf := it_n hf c8
    refine lv_aload_n hx hb dX10_requests_59 rfl (lv_at hl 0 rfl) ?_
    refine gf_X10 (v := .ref a1) C hE hP 0 1 rfl (by decide) qF_X10_17 rfl dX10_requests_60 ?_
    refine lv_sipush (v := 748) hx hb dX10_requests_63 (by decide) ?_
    refine lv_aload_n hx hb dX10_requests_66 rfl (lv_at hl 0 rfl) ?_
    refine gf_X10 (v := .ref a1) C hE hP 0 1 rfl (by decide) qF_X10_17 rfl dX10_requests_67 ?_
    refine lv_bipush (v := 14) hx hb dX10_requests_70 (by decide) ?_
    refine va_iald hx hb hE.1 hP 1 0 rfl rfl (vp_l (by decide)) dX10_requests_72 ?_
    refine lv_iadd hx hb dX10_requests_73 ?_
    refine lv_iload_n hx hb dX10_requests_74 rfl (lv_at hl 1 rfl) ?_
    obtain ⟨g1, hf⟩ := it_g hf
    refine va_iast hx hb hE.1 hP hD hS 1 0 rfl rfl g1 dX10_requests_75 (fun H locs (hP : va_P D vwCl (MX10 cI cZ cL cW a0 a1 a2 a3 a4 a5 a6 k_thrown (upd k_w (Int32.toNatClampNeg (748 + (k_w (Int32.toNatClampNeg 14)))) p1) k_o k_isKept k_went k_wentMany k_waiting k_came k_depth k_isSilent k_x k_packed k_hits k_rues k_soonest k_inAll) H) (hD : va_D A (MX10 cI cZ cL cW a0 a1 a2 a3 a4 a5 a6 k_thrown (upd k_w (Int32.toNatClampNeg (748 + (k_w (Int32.toNatClampNeg 14)))) p1) k_o k_isKept k_went k_wentMany k_waiting k_came k_depth k_isSilent k_x k_packed k_hits k_rues k_soonest k_inAll)) hS => ?_)
    refine lv_aload_n hx hb dX10_requests_76 rfl (lv_at hl 0 rfl) ?_
    refine gf_X10 (v := .ref a1) C hE hP 0 1 rfl (by decide) qF_X10_17 rfl dX10_requests_77 ?_
    refine lv_bipush (v := 14) hx hb dX10_requests_80 (by decide) ?_
    refine lv_dup2_11 hx hb dX10_requests_82 rfl rfl ?_
    refine va_iald hx hb hE.1 hP 1 0 rfl rfl (vp_l (by decide)) dX10_requests_83 ?_
    refine lv_iconst (v := 1) hx hb dX10_requests_84 (by decide) ?_
    refine lv_iadd hx hb dX10_requests_85 ?_
    refine va_iast hx hb hE.1 hP hD hS 1 0 rfl rfl (vp_l (by decide)) dX10_requests_86 (fun H locs (hP : va_P D vwCl (MX10 cI cZ cL cW a0 a1 a2 a3 a4 a5 a6 k_thrown (upd (upd k_w (Int32.toNatClampNeg (748 + (k_w (Int32.toNatClampNeg 14)))) p1) (Int32.toNatClampNeg 14) (((upd k_w (Int32.toNatClampNeg (748 + (k_w (Int32.toNatClampNeg 14)))) p1) (Int32.toNatClampNeg 14)) + 1)) k_o k_isKept k_went k_wentMany k_waiting k_came k_depth k_isSilent k_x k_packed k_hits k_rues k_soonest k_inAll) H) (hD : va_D A (MX10 cI cZ cL cW a0 a1 a2 a3 a4 a5 a6 k_thrown (upd (upd k_w (Int32.toNatClampNeg (748 + (k_w (Int32.toNatClampNeg 14)))) p1) (Int32.toNatClampNeg 14) (((upd k_w (Int32.toNatClampNeg (748 + (k_w (Int32.toNatClampNeg 14)))) p1) (Int32.toNatClampNeg 14)) + 1)) k_o k_isKept k_went k_wentMany k_waiting k_came k_depth k_isSilent k_x k_packed k_hits k_rues k_soonest k_inAll)) hS => ?_)
    cases hf
    exact rw_v C hr hlk hP hD hS dX10_requests_87
  · have hf := it_p hf c8
    refine lv_iconst (v := 0) hx hb dX10_requests_12 (by decide) ?_
    refine lv_istore_n (lv' := [(2, .int 0), (0, .ref a0), (1, .int p1)]) hx hb dX10_requests_13 rfl hl (by decide) rfl (fun ls hl => ?_)
    obtain ⟨k5, h6, hf⟩ := bd_s hf
    refine L14 _ F p1 0 k_thrown k_w k_o k_isKept k_went k_wentMany k_waiting k_came k_depth k_isSilent k_x k_packed k_hits k_rues k_soonest k_inAll k5 _ _ ls h6 hP hD hS (lv_sub hl [1, 2, 0] rfl) (fun H locs ls hP hD hS hl => ?_)
    refine lv_aload_n hx hb dX10_requests_48 rfl (lv_at hl 0 rfl) ?_
    refine gf_X10 (v := .ref a1) C hE hP 0 1 rfl (by decide) qF_X10_17 rfl dX10_requests_49 ?_
    refine lv_bipush (v := 14) hx hb dX10_requests_52 (by decide) ?_
    refine lv_dup2_11 hx hb dX10_requests_54 rfl rfl ?_
    refine va_iald hx hb hE.1 hP 1 0 rfl rfl (vp_l (by decide)) dX10_requests_55 ?_
    refine lv_iconst (v := 1) hx hb dX10_requests_56 (by decide) ?_
    refine lv_isub hx hb dX10_requests_57 ?_
    refine va_iast hx hb hE.1 hP hD hS 1 0 rfl rfl (vp_l (by decide)) dX10_requests_58 (fun H locs (hP : va_P D vwCl (MX10 cI cZ cL cW a0 a1 a2 a3 a4 a5 a6 k_thrown (upd k5 (Int32.toNatClampNeg 14) ((k5 (Int32.toNatClampNeg 14)) - 1)) k_o k_isKept k_went k_wentMany k_waiting k_came k_depth k_isSilent k_x k_packed k_hits k_rues k_soonest k_inAll) H) (hD : va_D A (MX10 cI cZ cL cW a0 a1 a2 a3 a4 a5 a6 k_thrown (upd k5 (Int32.toNatClampNeg 14) ((k5 (Int32.toNatClampNeg 14)) - 1)) k_o k_isKept k_went k_wentMany k_waiting k_came k_depth k_isSilent k_x k_packed k_hits k_rues k_soonest k_inAll)) hS => ?_)
    refine lv_aload_n hx hb dX10_requests_59 rfl (lv_at hl 0 rfl) ?_
    refine gf_X10 (v := .ref a1) C hE hP 0 1 rfl (by decide) qF_X10_17 rfl dX10_requests_60 ?_
    refine lv_sipush (v := 748) hx hb dX10_requests_63 (by decide) ?_
    refine lv_aload_n hx hb dX10_requests_66 rfl (lv_at hl 0 rfl) ?_
    refine gf_X10 (v := .ref a1) C hE hP 0 1 rfl (by decide) qF_X10_17 rfl dX10_requests_67 ?_
    refine lv_bipush (v := 14) hx hb dX10_requests_70 (by decide) ?_
    refine va_iald hx hb hE.1 hP 1 0 rfl rfl (vp_l (by decide)) dX10_requests_72 ?_
    refine lv_iadd hx hb dX10_requests_73 ?_
    refine lv_iload_n hx hb dX10_requests_74 rfl (lv_at hl 1 rfl) ?_
    obtain ⟨g7, hf⟩ := it_g hf
    refine va_iast hx hb hE.1 hP hD hS 1 0 rfl rfl g7 dX10_requests_75 (fun H locs (hP : va_P D vwCl (MX10 cI cZ cL cW a0 a1 a2 a3 a4 a5 a6 k_thrown (upd (upd k5 (Int32.toNatClampNeg 14) ((k5 (Int32.toNatClampNeg 14)) - 1)) (Int32.toNatClampNeg (748 + ((upd k5 (Int32.toNatClampNeg 14) ((k5 (Int32.toNatClampNeg 14)) - 1)) (Int32.toNatClampNeg 14)))) p1) k_o k_isKept k_went k_wentMany k_waiting k_came k_depth k_isSilent k_x k_packed k_hits k_rues k_soonest k_inAll) H) (hD : va_D A (MX10 cI cZ cL cW a0 a1 a2 a3 a4 a5 a6 k_thrown (upd (upd k5 (Int32.toNatClampNeg 14) ((k5 (Int32.toNatClampNeg 14)) - 1)) (Int32.toNatClampNeg (748 + ((upd k5 (Int32.toNatClampNeg 14) ((k5 (Int32.toNatClampNeg 14)) - 1)) (Int32.toNatClampNeg 14)))) p1) k_o k_isKept k_went k_wentMany k_waiting k_came k_depth k_isSilent k_x k_packed k_hits k_rues k_soonest k_inAll)) hS => ?_)
    refine lv_aload_n hx hb dX10_requests_76 rfl (lv_at hl 0 rfl) ?_
    refine gf_X10 (v := .ref a1) C hE hP 0 1 rfl (by decide) qF_X10_17 rfl dX10_requests_77 ?_
    refine lv_bipush (v := 14) hx hb dX10_requests_80 (by decide) ?_
    refine lv_dup2_11 hx hb dX10_requests_82 rfl rfl ?_
    refine va_iald hx hb hE.1 hP 1 0 rfl rfl (vp_l (by decide)) dX10_requests_83 ?_
    refine lv_iconst (v := 1) hx hb dX10_requests_84 (by decide) ?_
    refine lv_iadd hx hb dX10_requests_85 ?_
    refine va_iast hx hb hE.1 hP hD hS 1 0 rfl rfl (vp_l (by decide)) dX10_requests_86 (fun H locs (hP : va_P D vwCl (MX10 cI cZ cL cW a0 a1 a2 a3 a4 a5 a6 k_thrown (upd (upd (upd k5 (Int32.toNatClampNeg 14) ((k5 (Int32.toNatClampNeg 14)) - 1)) (Int32.toNatClampNeg (748 + ((upd k5 (Int32.toNatClampNeg 14) ((k5 (Int32.toNatClampNeg 14)) - 1)) (Int32.toNatClampNeg 14)))) p1) (Int32.toNatClampNeg 14) (((upd (upd k5 (Int32.toNatClampNeg 14) ((k5 (Int32.toNatClampNeg 14)) - 1)) (Int32.toNatClampNeg (748 + ((upd k5 (Int32.toNatClampNeg 14) ((k5 (Int32.toNatClampNeg 14)) - 1)) (Int32.toNatClampNeg 14)))) p1) (Int32.toNatClampNeg 14)) + 1)) k_o k_isKept k_went k_wentMany k_waiting k_came k_depth k_isSilent k_x k_packed k_hits k_rues k_soonest k_inAll) H) (hD : va_D A (MX10 cI cZ cL cW a0 a1 a2 a3 a4 a5 a6 k_thrown (upd (upd (upd k5 (Int32.toNatClampNeg 14) ((k5 (Int32.toNatClampNeg 14)) - 1)) (Int32.toNatClampNeg (748 + ((upd k5 (Int32.toNatClampNeg 14) ((k5 (Int32.toNatClampNeg 14)) - 1)) (Int32.toNatClampNeg 14)))) p1) (Int32.toNatClampNeg 14) (((upd (upd k5 (Int32.toNatClampNeg 14) ((k5 (Int32.toNatClampNeg 14)) - 1)) (Int32.toNatClampNeg (748 + ((upd k5 (Int32.toNatClampNeg 14) ((k5 (Int32.toNatClampNeg 14)) - 1)) (Int32.toNatClampNeg 14)))) p1) (Int32.toNatClampNeg 14)) + 1)) k_o k_isKept k_went k_wentMany k_waiting k_came k_depth k_isSilent k_x k_packed k_hits k_rues k_soonest k_inAll)) hS => ?_)
    cases hf
    exact rw_v C hr hlk hP hD hS dX10_requests_87
def X10_putCalled (F : Nat) (p1 : Int32) (p2 : Int32) (p3 : Int32) (p4 : Int32) (k_thrown : Int32) (k_w : (Nat → Int32)) (k_o : Int32) (k_went : (Nat → Int32)) (k_wentMany : Int32) (k_waiting : (Nat → Int32)) (k_came : Int32) (k_depth : Int32) (k_isSilent : Int32) : Option (Int32 × Int32 × (Nat → Int32) × (Nat → Int32) × Int32 × (Nat → Int32) × Int32 × Int32) := (X10_call F k_thrown k_came k_depth).bind fun (k_thrown_1, k_came_2, k_depth_3) => ((X10_requests F p1 k_w).bind fun k_w_5 => (if (p4 : Int32) = 0 then ((X10_puts F p1 p2 p3 (-1) k_w_5 k_o k_went k_wentMany k_waiting k_came_2 k_depth_3 k_isSilent).bind fun (r22, k_w_23, k_went_24, k_wentMany_25, k_waiting_26, k_came_27) => ((X10_done F r22 k_w_23 k_o k_went_24 k_wentMany_25 k_waiting_26 k_came_27 k_depth_3 k_isSilent).bind fun (r29, k_w_30, k_went_31, k_wentMany_32, k_waiting_33, k_came_34, k_depth_35) => (some (r29, k_thrown_1, k_w_30, k_went_31, k_wentMany_32, k_waiting_33, k_came_34, k_depth_35)))) else ((X10_puts F p1 p2 p3 ((k_w_5 (Int32.toNatClampNeg 5)) + p4) k_w_5 k_o k_went k_wentMany k_waiting k_came_2 k_depth_3 k_isSilent).bind fun (r7, k_w_8, k_went_9, k_wentMany_10, k_waiting_11, k_came_12) => ((X10_done F r7 k_w_8 k_o k_went_9 k_wentMany_10 k_waiting_11 k_came_12 k_depth_3 k_isSilent).bind fun (r14, k_w_15, k_went_16, k_wentMany_17, k_waiting_18, k_came_19, k_depth_20) => (some (r14, k_thrown_1, k_w_15, k_went_16, k_wentMany_17, k_waiting_18, k_came_19, k_depth_20))))))
abbrev rm_X10_putCalled : Room := { frames := 10, cells := 0, slots := 0, locals := 236 }
theorem ok_X10_putCalled : OKV RX10 yX10_putCalled cX10_putCalled 5 (some .int) 4 := ⟨by decide +kernel, qV_X10_putCalled, qL_X10_putCalled, qI_X10, qD_X10_putCalled⟩
set_option maxHeartbeats 4000000 in
set_option maxRecDepth 100000 in
theorem c_X10_putCalled (l : Launch) (D : va_G) (cI cZ cL cW : ClassId) (F : Nat) (a0 : Nat) (a1 : Nat) (a2 : Nat) (a3 : Nat) (a4 : Nat) (a5 : Nat) (a6 : Nat) (k_thrown : Int32) (k_w : (Nat → Int32)) (k_o : Int32) (k_isKept : (Nat → Int32)) (k_went : (Nat → Int32)) (k_wentMany : Int32) (k_waiting : (Nat → Int32)) (k_came : Int32) (k_depth : Int32) (k_isSilent : Int32) (k_x : Int64) (k_packed : (Nat → Int32)) (k_hits : Int32) (k_rues : Int32) (k_soonest : Int32) (k_inAll : (Nat → Int32)) (p1 : Int32) (p2 : Int32) (p3 : Int32) (p4 : Int32) (r : Int32) (k_thrown' : Int32) (k_w' : (Nat → Int32)) (k_went' : (Nat → Int32)) (k_wentMany' : Int32) (k_waiting' : (Nat → Int32)) (k_came' : Int32) (k_depth' : Int32) (hf : X10_putCalled F p1 p2 p3 p4 k_thrown k_w k_o k_went k_wentMany k_waiting k_came k_depth k_isSilent = some (r, k_thrown', k_w', k_went', k_wentMany', k_waiting', k_came', k_depth')) : CtrW l D (tyL cI cZ cL cW) nestW yX10_putCalled cX10_putCalled 5 (some .int) rm_X10_putCalled [.ref a0, .int p1, .int p2, .int p3, .int p4] (MX10 cI cZ cL cW a0 a1 a2 a3 a4 a5 a6 k_thrown k_w k_o k_isKept k_went k_wentMany k_waiting k_came k_depth k_isSilent k_x k_packed k_hits k_rues k_soonest k_inAll) (MX10 cI cZ cL cW a0 a1 a2 a3 a4 a5 a6 (k_thrown') (k_w') k_o k_isKept (k_went') (k_wentMany') (k_waiting') (k_came') (k_depth') k_isSilent k_x k_packed k_hits k_rues k_soonest k_inAll) (some (.int r)) := by
  refine ofA RX10 (by decide) rfl (Nat.le_of_ble_eq_true rfl) ?_
  intro p e s m below meth c ls A C hr hlk hE hA hP hD hS hl
  generalize (List.toArray ([.ref a0, .int p1, .int p2, .int p3, .int p4] : List Value)) = args at C ⊢
  obtain ⟨hx, hb, hml, hown, ht⟩ := id C
  have hl : lv_has ls 5 [(0, .ref a0), (1, .int p1), (2, .int p2), (3, .int p3), (4, .int p4)] := hl
  refine lv_aload_n hx hb dX10_putCalled_0 rfl (lv_at hl 0 rfl) ?_
  obtain ⟨⟨k_thrown_1, k_came_2, k_depth_3⟩, h4, hf⟩ := bd_s hf
  refine iv_A (rest := []) (st1 := []) C hE hP hD hS hA (c_X10_call l D cI cZ cL cW F a0 a1 a2 a3 a4 a5 a6 k_thrown k_w k_o k_isKept k_went k_wentMany k_waiting k_came k_depth k_isSilent k_x k_packed k_hits k_rues k_soonest k_inAll   k_thrown_1 k_came_2 k_depth_3 h4) ok_X10_call qM_X10_185 rfl rfl ⟨(Nat.le_of_ble_eq_true rfl), (Nat.le_of_ble_eq_true rfl)⟩ rfl rfl hl.1 (Nat.le_of_ble_eq_true rfl) ⟨Nat.zero_le _, Nat.zero_le _⟩ dX10_putCalled_1 rfl rfl (fun H locs (hP : va_P D vwCl (MX10 cI cZ cL cW a0 a1 a2 a3 a4 a5 a6 k_thrown_1 k_w k_o k_isKept k_went k_wentMany k_waiting k_came_2 k_depth_3 k_isSilent k_x k_packed k_hits k_rues k_soonest k_inAll) H) (hD : va_D A (MX10 cI cZ cL cW a0 a1 a2 a3 a4 a5 a6 k_thrown_1 k_w k_o k_isKept k_went k_wentMany k_waiting k_came_2 k_depth_3 k_isSilent k_x k_packed k_hits k_rues k_soonest k_inAll)) hS => ?_)
  refine lv_aload_n hx hb dX10_putCalled_4 rfl (lv_at hl 0 rfl) ?_
  refine lv_iload_n hx hb dX10_putCalled_5 rfl (lv_at hl 1 rfl) ?_
  obtain ⟨k_w_5, h6, hf⟩ := bd_s hf
  refine iv_A (rest := []) (st1 := []) C hE hP hD hS hA (c_X10_requests l D cI cZ cL cW F a0 a1 a2 a3 a4 a5 a6 k_thrown_1 k_w k_o k_isKept k_went k_wentMany k_waiting k_came_2 k_depth_3 k_isSilent k_x k_packed k_hits k_rues k_soonest k_inAll p1  k_w_5 h6) ok_X10_requests qM_X10_188 rfl rfl ⟨(Nat.le_of_ble_eq_true rfl), (Nat.le_of_ble_eq_true rfl)⟩ rfl rfl hl.1 (Nat.le_of_ble_eq_true rfl) ⟨Nat.zero_le _, Nat.zero_le _⟩ dX10_putCalled_6 rfl rfl (fun H locs (hP : va_P D vwCl (MX10 cI cZ cL cW a0 a1 a2 a3 a4 a5 a6 k_thrown_1 k_w_5 k_o k_isKept k_went k_wentMany k_waiting k_came_2 k_depth_3 k_isSilent k_x k_packed k_hits k_rues k_soonest k_inAll) H) (hD : va_D A (MX10 cI cZ cL cW a0 a1 a2 a3 a4 a5 a6 k_thrown_1 k_w_5 k_o k_isKept k_went k_wentMany k_waiting k_came_2 k_depth_3 k_isSilent k_x k_packed k_hits k_rues k_soonest k_inAll)) hS => ?_)
  refine lv_aload_n hx hb dX10_putCalled_9 rfl (lv_at hl 0 rfl) ?_
  refine lv_aload_n hx hb dX10_putCalled_10 rfl (lv_at hl 0 rfl) ?_
  refine lv_iload_n hx hb dX10_putCalled_11 rfl (lv_at hl 1 rfl) ?_
  refine lv_iload_n hx hb dX10_putCalled_12 rfl (lv_at hl 2 rfl) ?_
  refine lv_iload_n hx hb dX10_putCalled_13 rfl (lv_at hl 3 rfl) ?_
  refine lv_iload hx hb dX10_putCalled_14 (lv_at hl 4 rfl) ?_
  refine lv_if_ne (tgt := 23) hx hb dX10_putCalled_16 (by decide) (fun c37 => ?_) (fun c37 => ?_)
  · have hf := it_n hf c37
    refine lv_aload_n hx hb dX10_putCalled_23 rfl (lv_at hl 0 rfl) ?_
    refine gf_X10 (v := .ref a1) C hE hP 0 1 rfl (by decide) qF_X10_17 rfl dX10_putCalled_24 ?_
    refine lv_iconst (v := 5) hx hb dX10_putCalled_27 (by decide) ?_
    refine va_iald hx hb hE.1 hP 1 0 rfl rfl (vp_l (by decide)) dX10_putCalled_28 ?_
    refine lv_iload hx hb dX10_putCalled_29 (lv_at hl 4 rfl) ?_
    refine lv_iadd hx hb dX10_putCalled_31 ?_
    obtain ⟨⟨r7, k_w_8, k_went_9, k_wentMany_10, k_waiting_11, k_came_12⟩, h13, hf⟩ := bd_s hf
    refine iv_A (rest := [.ref a0]) (st1 := [.int r7, .ref a0]) C hE hP hD hS hA (c_X10_puts l D cI cZ cL cW F a0 a1 a2 a3 a4 a5 a6 k_thrown_1 k_w_5 k_o k_isKept k_went k_wentMany k_waiting k_came_2 k_depth_3 k_isSilent k_x k_packed k_hits k_rues k_soonest k_inAll p1 p2 p3 ((k_w_5 (Int32.toNatClampNeg 5)) + p4) r7 k_w_8 k_went_9 k_wentMany_10 k_waiting_11 k_came_12 h13) ok_X10_puts qM_X10_133 rfl rfl ⟨(Nat.le_of_ble_eq_true rfl), (Nat.le_of_ble_eq_true rfl)⟩ rfl rfl hl.1 (Nat.le_of_ble_eq_true rfl) ⟨Nat.zero_le _, Nat.zero_le _⟩ dX10_putCalled_32 rfl rfl (fun H locs (hP : va_P D vwCl (MX10 cI cZ cL cW a0 a1 a2 a3 a4 a5 a6 k_thrown_1 k_w_8 k_o k_isKept k_went_9 k_wentMany_10 k_waiting_11 k_came_12 k_depth_3 k_isSilent k_x k_packed k_hits k_rues k_soonest k_inAll) H) (hD : va_D A (MX10 cI cZ cL cW a0 a1 a2 a3 a4 a5 a6 k_thrown_1 k_w_8 k_o k_isKept k_went_9 k_wentMany_10 k_waiting_11 k_came_12 k_depth_3 k_isSilent k_x k_packed k_hits k_rues k_soonest k_inAll)) hS => ?_)
    obtain ⟨⟨r14, k_w_15, k_went_16, k_wentMany_17, k_waiting_18, k_came_19, k_depth_20⟩, h21, hf⟩ := bd_s hf
    refine iv_A (rest := []) (st1 := [.int r14]) C hE hP hD hS hA (c_X10_done l D cI cZ cL cW F a0 a1 a2 a3 a4 a5 a6 k_thrown_1 k_w_8 k_o k_isKept k_went_9 k_wentMany_10 k_waiting_11 k_came_12 k_depth_3 k_isSilent k_x k_packed k_hits k_rues k_soonest k_inAll r7 r14 k_w_15 k_went_16 k_wentMany_17 k_waiting_18 k_came_19 k_depth_20 h21) ok_X10_done qM_X10_191 rfl rfl ⟨(Nat.le_of_ble_eq_true rfl), (Nat.le_of_ble_eq_true rfl)⟩ rfl rfl hl.1 (Nat.le_of_ble_eq_true rfl) ⟨Nat.zero_le _, Nat.zero_le _⟩ dX10_putCalled_35 rfl rfl (fun H locs (hP : va_P D vwCl (MX10 cI cZ cL cW a0 a1 a2 a3 a4 a5 a6 k_thrown_1 k_w_15 k_o k_isKept k_went_16 k_wentMany_17 k_waiting_18 k_came_19 k_depth_20 k_isSilent k_x k_packed k_hits k_rues k_soonest k_inAll) H) (hD : va_D A (MX10 cI cZ cL cW a0 a1 a2 a3 a4 a5 a6 k_thrown_1 k_w_15 k_o k_isKept k_went_16 k_wentMany_17 k_waiting_18 k_came_19 k_depth_20 k_isSilent k_x k_packed k_hits k_rues k_soonest k_inAll)) hS => ?_)
    cases hf
    exact rw_i C hr hlk hP hD hS dX10_putCalled_38 rfl
  · have hf := it_p hf c37
    refine lv_iconst (v := (-1)) hx hb dX10_putCalled_19 (by decide) ?_
    refine lv_goto (tgt := 32) hx hb dX10_putCalled_20 (by decide) ?_
    obtain ⟨⟨r22, k_w_23, k_went_24, k_wentMany_25, k_waiting_26, k_came_27⟩, h28, hf⟩ := bd_s hf
    refine iv_A (rest := [.ref a0]) (st1 := [.int r22, .ref a0]) C hE hP hD hS hA (c_X10_puts l D cI cZ cL cW F a0 a1 a2 a3 a4 a5 a6 k_thrown_1 k_w_5 k_o k_isKept k_went k_wentMany k_waiting k_came_2 k_depth_3 k_isSilent k_x k_packed k_hits k_rues k_soonest k_inAll p1 p2 p3 (-1) r22 k_w_23 k_went_24 k_wentMany_25 k_waiting_26 k_came_27 h28) ok_X10_puts qM_X10_133 rfl rfl ⟨(Nat.le_of_ble_eq_true rfl), (Nat.le_of_ble_eq_true rfl)⟩ rfl rfl hl.1 (Nat.le_of_ble_eq_true rfl) ⟨Nat.zero_le _, Nat.zero_le _⟩ dX10_putCalled_32 rfl rfl (fun H locs (hP : va_P D vwCl (MX10 cI cZ cL cW a0 a1 a2 a3 a4 a5 a6 k_thrown_1 k_w_23 k_o k_isKept k_went_24 k_wentMany_25 k_waiting_26 k_came_27 k_depth_3 k_isSilent k_x k_packed k_hits k_rues k_soonest k_inAll) H) (hD : va_D A (MX10 cI cZ cL cW a0 a1 a2 a3 a4 a5 a6 k_thrown_1 k_w_23 k_o k_isKept k_went_24 k_wentMany_25 k_waiting_26 k_came_27 k_depth_3 k_isSilent k_x k_packed k_hits k_rues k_soonest k_inAll)) hS => ?_)
    obtain ⟨⟨r29, k_w_30, k_went_31, k_wentMany_32, k_waiting_33, k_came_34, k_depth_35⟩, h36, hf⟩ := bd_s hf
    refine iv_A (rest := []) (st1 := [.int r29]) C hE hP hD hS hA (c_X10_done l D cI cZ cL cW F a0 a1 a2 a3 a4 a5 a6 k_thrown_1 k_w_23 k_o k_isKept k_went_24 k_wentMany_25 k_waiting_26 k_came_27 k_depth_3 k_isSilent k_x k_packed k_hits k_rues k_soonest k_inAll r22 r29 k_w_30 k_went_31 k_wentMany_32 k_waiting_33 k_came_34 k_depth_35 h36) ok_X10_done qM_X10_191 rfl rfl ⟨(Nat.le_of_ble_eq_true rfl), (Nat.le_of_ble_eq_true rfl)⟩ rfl rfl hl.1 (Nat.le_of_ble_eq_true rfl) ⟨Nat.zero_le _, Nat.zero_le _⟩ dX10_putCalled_35 rfl rfl (fun H locs (hP : va_P D vwCl (MX10 cI cZ cL cW a0 a1 a2 a3 a4 a5 a6 k_thrown_1 k_w_30 k_o k_isKept k_went_31 k_wentMany_32 k_waiting_33 k_came_34 k_depth_35 k_isSilent k_x k_packed k_hits k_rues k_soonest k_inAll) H) (hD : va_D A (MX10 cI cZ cL cW a0 a1 a2 a3 a4 a5 a6 k_thrown_1 k_w_30 k_o k_isKept k_went_31 k_wentMany_32 k_waiting_33 k_came_34 k_depth_35 k_isSilent k_x k_packed k_hits k_rues k_soonest k_inAll)) hS => ?_)
    cases hf
    exact rw_i C hr hlk hP hD hS dX10_putCalled_38 rfl
def X10_put (F : Nat) (p1 : Int32) (p2 : Int32) (p3 : Int32) (p4 : Int32) (k_thrown : Int32) (k_w : (Nat → Int32)) (k_o : Int32) (k_went : (Nat → Int32)) (k_wentMany : Int32) (k_waiting : (Nat → Int32)) (k_came : Int32) (k_depth : Int32) (k_isSilent : Int32) : Option (Int32 × Int32 × (Nat → Int32) × (Nat → Int32) × Int32 × (Nat → Int32) × Int32 × Int32) := (X10_isKey F p1).bind fun r1 => (if (r1 : Int32) = 0 then (some ((-2), 0, k_w, k_went, k_wentMany, k_waiting, k_came, k_depth)) else ((X10_isIn F p2.toInt64 (-9999) 9999).bind fun r3 => (if (r3 : Int32) = 0 then (some ((-2), 0, k_w, k_went, k_wentMany, k_waiting, k_came, k_depth)) else ((X10_isIn F p3.toInt64 1 99).bind fun r5 => (if (r5 : Int32) = 0 then (some ((-2), 0, k_w, k_went, k_wentMany, k_waiting, k_came, k_depth)) else ((X10_isIn F p4.toInt64 0 999).bind fun r7 => (if (r7 : Int32) = 0 then (some ((-2), 0, k_w, k_went, k_wentMany, k_waiting, k_came, k_depth)) else ((X10_putCalled F p1 p2 p3 p4 0 k_w k_o k_went k_wentMany k_waiting k_came k_depth k_isSilent).bind fun (r9, k_thrown_10, k_w_11, k_went_12, k_wentMany_13, k_waiting_14, k_came_15, k_depth_16) => (some (r9, k_thrown_10, k_w_11, k_went_12, k_wentMany_13, k_waiting_14, k_came_15, k_depth_16))))))))))
abbrev rm_X10_put : Room := { frames := 11, cells := 0, slots := 0, locals := 260 }
theorem ok_X10_put : OKV RX10 yX10_put cX10_put 5 (some .int) 4 := ⟨by decide +kernel, qV_X10_put, qL_X10_put, qI_X10, qD_X10_put⟩
set_option maxHeartbeats 4000000 in
set_option maxRecDepth 100000 in
theorem c_X10_put (l : Launch) (D : va_G) (cI cZ cL cW : ClassId) (F : Nat) (a0 : Nat) (a1 : Nat) (a2 : Nat) (a3 : Nat) (a4 : Nat) (a5 : Nat) (a6 : Nat) (k_thrown : Int32) (k_w : (Nat → Int32)) (k_o : Int32) (k_isKept : (Nat → Int32)) (k_went : (Nat → Int32)) (k_wentMany : Int32) (k_waiting : (Nat → Int32)) (k_came : Int32) (k_depth : Int32) (k_isSilent : Int32) (k_x : Int64) (k_packed : (Nat → Int32)) (k_hits : Int32) (k_rues : Int32) (k_soonest : Int32) (k_inAll : (Nat → Int32)) (p1 : Int32) (p2 : Int32) (p3 : Int32) (p4 : Int32) (r : Int32) (k_thrown' : Int32) (k_w' : (Nat → Int32)) (k_went' : (Nat → Int32)) (k_wentMany' : Int32) (k_waiting' : (Nat → Int32)) (k_came' : Int32) (k_depth' : Int32) (hf : X10_put F p1 p2 p3 p4 k_thrown k_w k_o k_went k_wentMany k_waiting k_came k_depth k_isSilent = some (r, k_thrown', k_w', k_went', k_wentMany', k_waiting', k_came', k_depth')) : CtrW l D (tyL cI cZ cL cW) nestW yX10_put cX10_put 5 (some .int) rm_X10_put [.ref a0, .int p1, .int p2, .int p3, .int p4] (MX10 cI cZ cL cW a0 a1 a2 a3 a4 a5 a6 k_thrown k_w k_o k_isKept k_went k_wentMany k_waiting k_came k_depth k_isSilent k_x k_packed k_hits k_rues k_soonest k_inAll) (MX10 cI cZ cL cW a0 a1 a2 a3 a4 a5 a6 (k_thrown') (k_w') k_o k_isKept (k_went') (k_wentMany') (k_waiting') (k_came') (k_depth') k_isSilent k_x k_packed k_hits k_rues k_soonest k_inAll) (some (.int r)) := by
  refine ofA RX10 (by decide) rfl (Nat.le_of_ble_eq_true rfl) ?_
  intro p e s m below meth c ls A C hr hlk hE hA hP hD hS hl
  generalize (List.toArray ([.ref a0, .int p1, .int p2, .int p3, .int p4] : List Value)) = args at C ⊢
  obtain ⟨hx, hb, hml, hown, ht⟩ := id C
  have hl : lv_has ls 5 [(0, .ref a0), (1, .int p1), (2, .int p2), (3, .int p3), (4, .int p4)] := hl
  refine lv_aload_n hx hb dX10_put_0 rfl (lv_at hl 0 rfl) ?_
  refine lv_iconst (v := 0) hx hb dX10_put_1 (by decide) ?_
  refine pf_X10 (v := .int 0) C hE hP hD hS 0 0 rfl (by decide) qF_X10_1 rfl rfl rfl (Nat.le_of_ble_eq_true rfl) dX10_put_2 (fun H locs (hP : va_P D vwCl (MX10 cI cZ cL cW a0 a1 a2 a3 a4 a5 a6 0 k_w k_o k_isKept k_went k_wentMany k_waiting k_came k_depth k_isSilent k_x k_packed k_hits k_rues k_soonest k_inAll) H) (hD : va_D A (MX10 cI cZ cL cW a0 a1 a2 a3 a4 a5 a6 0 k_w k_o k_isKept k_went k_wentMany k_waiting k_came k_depth k_isSilent k_x k_packed k_hits k_rues k_soonest k_inAll)) hS => ?_)
  refine lv_iload_n hx hb dX10_put_5 rfl (lv_at hl 1 rfl) ?_
  obtain ⟨r1, h2, hf⟩ := bd_s hf
  refine is_R (rest := []) (st1 := [.int r1]) C hE va_P_nil (c_X10_isKey l D cI cZ cL cW F   p1 r1  h2) ok_X10_isKey qM_X10_194 rfl rfl ⟨(Nat.le_of_ble_eq_true rfl), (Nat.le_of_ble_eq_true rfl)⟩ hl.1 (Nat.le_of_ble_eq_true rfl) ⟨Nat.zero_le _, Nat.zero_le _⟩ dX10_put_6 rfl rfl ?_
  refine lv_if_eq (tgt := 51) hx hb dX10_put_9 (by decide) (fun c21 => ?_) (fun c21 => ?_)
  · have hf := it_p hf c21
    refine lv_bipush (v := (-2)) hx hb dX10_put_51 (by decide) ?_
    cases hf
    exact rw_i C hr hlk hP hD hS dX10_put_53 rfl
  · have hf := it_n hf c21
    refine lv_iload_n hx hb dX10_put_12 rfl (lv_at hl 2 rfl) ?_
    refine lv_i2l hx hb dX10_put_13 rfl ?_
    refine lv_ldc2 (v := (-9999)) hx hb hown (ht _ qJ_X10_197) dX10_put_14 ?_
    refine lv_ldc2 (v := 9999) hx hb hown (ht _ qJ_X10_199) dX10_put_17 ?_
    obtain ⟨r3, h4, hf⟩ := bd_s hf
    refine is_R (rest := []) (st1 := [.int r3]) C hE va_P_nil (c_X10_isIn l D cI cZ cL cW F   p2.toInt64 (-9999) 9999 r3  h4) ok_X10_isIn qM_X10_49 rfl rfl ⟨(Nat.le_of_ble_eq_true rfl), (Nat.le_of_ble_eq_true rfl)⟩ hl.1 (Nat.le_of_ble_eq_true rfl) ⟨Nat.zero_le _, Nat.zero_le _⟩ dX10_put_20 rfl rfl ?_
    refine lv_if_eq (tgt := 51) hx hb dX10_put_23 (by decide) (fun c20 => ?_) (fun c20 => ?_)
    · have hf := it_p hf c20
      refine lv_bipush (v := (-2)) hx hb dX10_put_51 (by decide) ?_
      cases hf
      exact rw_i C hr hlk hP hD hS dX10_put_53 rfl
    · have hf := it_n hf c20
      refine lv_iload_n hx hb dX10_put_26 rfl (lv_at hl 3 rfl) ?_
      refine lv_i2l hx hb dX10_put_27 rfl ?_
      refine lv_lconst (v := 1) hx hb dX10_put_28 (by decide) ?_
      refine lv_ldc2 (v := 99) hx hb hown (ht _ qJ_X10_201) dX10_put_29 ?_
      obtain ⟨r5, h6, hf⟩ := bd_s hf
      refine is_R (rest := []) (st1 := [.int r5]) C hE va_P_nil (c_X10_isIn l D cI cZ cL cW F   p3.toInt64 1 99 r5  h6) ok_X10_isIn qM_X10_49 rfl rfl ⟨(Nat.le_of_ble_eq_true rfl), (Nat.le_of_ble_eq_true rfl)⟩ hl.1 (Nat.le_of_ble_eq_true rfl) ⟨Nat.zero_le _, Nat.zero_le _⟩ dX10_put_32 rfl rfl ?_
      refine lv_if_eq (tgt := 51) hx hb dX10_put_35 (by decide) (fun c19 => ?_) (fun c19 => ?_)
      · have hf := it_p hf c19
        refine lv_bipush (v := (-2)) hx hb dX10_put_51 (by decide) ?_
        cases hf
        exact rw_i C hr hlk hP hD hS dX10_put_53 rfl
      · have hf := it_n hf c19
        refine lv_iload hx hb dX10_put_38 (lv_at hl 4 rfl) ?_
        refine lv_i2l hx hb dX10_put_40 rfl ?_
        refine lv_lconst (v := 0) hx hb dX10_put_41 (by decide) ?_
        refine lv_ldc2 (v := 999) hx hb hown (ht _ qJ_X10_47) dX10_put_42 ?_
        obtain ⟨r7, h8, hf⟩ := bd_s hf
        refine is_R (rest := []) (st1 := [.int r7]) C hE va_P_nil (c_X10_isIn l D cI cZ cL cW F   p4.toInt64 0 999 r7  h8) ok_X10_isIn qM_X10_49 rfl rfl ⟨(Nat.le_of_ble_eq_true rfl), (Nat.le_of_ble_eq_true rfl)⟩ hl.1 (Nat.le_of_ble_eq_true rfl) ⟨Nat.zero_le _, Nat.zero_le _⟩ dX10_put_45 rfl rfl ?_
        refine lv_if_ne (tgt := 54) hx hb dX10_put_48 (by decide) (fun c18 => ?_) (fun c18 => ?_)
        · have hf := it_n hf c18
          refine lv_aload_n hx hb dX10_put_54 rfl (lv_at hl 0 rfl) ?_
          refine lv_iload_n hx hb dX10_put_55 rfl (lv_at hl 1 rfl) ?_
          refine lv_iload_n hx hb dX10_put_56 rfl (lv_at hl 2 rfl) ?_
          refine lv_iload_n hx hb dX10_put_57 rfl (lv_at hl 3 rfl) ?_
          refine lv_iload hx hb dX10_put_58 (lv_at hl 4 rfl) ?_
          obtain ⟨⟨r9, k_thrown_10, k_w_11, k_went_12, k_wentMany_13, k_waiting_14, k_came_15, k_depth_16⟩, h17, hf⟩ := bd_s hf
          refine iv_A (rest := []) (st1 := [.int r9]) C hE hP hD hS hA (c_X10_putCalled l D cI cZ cL cW F a0 a1 a2 a3 a4 a5 a6 0 k_w k_o k_isKept k_went k_wentMany k_waiting k_came k_depth k_isSilent k_x k_packed k_hits k_rues k_soonest k_inAll p1 p2 p3 p4 r9 k_thrown_10 k_w_11 k_went_12 k_wentMany_13 k_waiting_14 k_came_15 k_depth_16 h17) ok_X10_putCalled qM_X10_203 rfl rfl ⟨(Nat.le_of_ble_eq_true rfl), (Nat.le_of_ble_eq_true rfl)⟩ rfl rfl hl.1 (Nat.le_of_ble_eq_true rfl) ⟨Nat.zero_le _, Nat.zero_le _⟩ dX10_put_60 rfl rfl (fun H locs (hP : va_P D vwCl (MX10 cI cZ cL cW a0 a1 a2 a3 a4 a5 a6 k_thrown_10 k_w_11 k_o k_isKept k_went_12 k_wentMany_13 k_waiting_14 k_came_15 k_depth_16 k_isSilent k_x k_packed k_hits k_rues k_soonest k_inAll) H) (hD : va_D A (MX10 cI cZ cL cW a0 a1 a2 a3 a4 a5 a6 k_thrown_10 k_w_11 k_o k_isKept k_went_12 k_wentMany_13 k_waiting_14 k_came_15 k_depth_16 k_isSilent k_x k_packed k_hits k_rues k_soonest k_inAll)) hS => ?_)
          cases hf
          exact rw_i C hr hlk hP hD hS dX10_put_63 rfl
        · have hf := it_p hf c18
          refine lv_bipush (v := (-2)) hx hb dX10_put_51 (by decide) ?_
          cases hf
          exact rw_i C hr hlk hP hD hS dX10_put_53 rfl
def X10_getCalled (F : Nat) (p1 : Int32) (k_thrown : Int32) (k_w : (Nat → Int32)) (k_o : Int32) (k_went : (Nat → Int32)) (k_wentMany : Int32) (k_waiting : (Nat → Int32)) (k_came : Int32) (k_depth : Int32) (k_isSilent : Int32) : Option (Int32 × Int32 × (Nat → Int32) × (Nat → Int32) × Int32 × (Nat → Int32) × Int32 × Int32) := (X10_call F k_thrown k_came k_depth).bind fun (k_thrown_1, k_came_2, k_depth_3) => ((X10_requests F p1 k_w).bind fun k_w_5 => ((X10_gets F p1 k_w_5 k_o k_waiting k_came_2 k_depth_3 k_isSilent).bind fun (r7, k_w_8, k_waiting_9, k_came_10) => ((X10_flag F r7).bind fun r12 => ((X10_done F r12 k_w_8 k_o k_went k_wentMany k_waiting_9 k_came_10 k_depth_3 k_isSilent).bind fun (r14, k_w_15, k_went_16, k_wentMany_17, k_waiting_18, k_came_19, k_depth_20) => (some (r14, k_thrown_1, k_w_15, k_went_16, k_wentMany_17, k_waiting_18, k_came_19, k_depth_20))))))
abbrev rm_X10_getCalled : Room := { frames := 10, cells := 0, slots := 0, locals := 236 }
theorem ok_X10_getCalled : OKV RX10 yX10_getCalled cX10_getCalled 2 (some .int) 1 := ⟨by decide +kernel, qV_X10_getCalled, qL_X10_getCalled, qI_X10, qD_X10_getCalled⟩
set_option maxHeartbeats 4000000 in
set_option maxRecDepth 100000 in
theorem c_X10_getCalled (l : Launch) (D : va_G) (cI cZ cL cW : ClassId) (F : Nat) (a0 : Nat) (a1 : Nat) (a2 : Nat) (a3 : Nat) (a4 : Nat) (a5 : Nat) (a6 : Nat) (k_thrown : Int32) (k_w : (Nat → Int32)) (k_o : Int32) (k_isKept : (Nat → Int32)) (k_went : (Nat → Int32)) (k_wentMany : Int32) (k_waiting : (Nat → Int32)) (k_came : Int32) (k_depth : Int32) (k_isSilent : Int32) (k_x : Int64) (k_packed : (Nat → Int32)) (k_hits : Int32) (k_rues : Int32) (k_soonest : Int32) (k_inAll : (Nat → Int32)) (p1 : Int32) (r : Int32) (k_thrown' : Int32) (k_w' : (Nat → Int32)) (k_went' : (Nat → Int32)) (k_wentMany' : Int32) (k_waiting' : (Nat → Int32)) (k_came' : Int32) (k_depth' : Int32) (hf : X10_getCalled F p1 k_thrown k_w k_o k_went k_wentMany k_waiting k_came k_depth k_isSilent = some (r, k_thrown', k_w', k_went', k_wentMany', k_waiting', k_came', k_depth')) : CtrW l D (tyL cI cZ cL cW) nestW yX10_getCalled cX10_getCalled 2 (some .int) rm_X10_getCalled [.ref a0, .int p1] (MX10 cI cZ cL cW a0 a1 a2 a3 a4 a5 a6 k_thrown k_w k_o k_isKept k_went k_wentMany k_waiting k_came k_depth k_isSilent k_x k_packed k_hits k_rues k_soonest k_inAll) (MX10 cI cZ cL cW a0 a1 a2 a3 a4 a5 a6 (k_thrown') (k_w') k_o k_isKept (k_went') (k_wentMany') (k_waiting') (k_came') (k_depth') k_isSilent k_x k_packed k_hits k_rues k_soonest k_inAll) (some (.int r)) := by
  refine ofA RX10 (by decide) rfl (Nat.le_of_ble_eq_true rfl) ?_
  intro p e s m below meth c ls A C hr hlk hE hA hP hD hS hl
  generalize (List.toArray ([.ref a0, .int p1] : List Value)) = args at C ⊢
  obtain ⟨hx, hb, hml, hown, ht⟩ := id C
  have hl : lv_has ls 2 [(0, .ref a0), (1, .int p1)] := hl
  refine lv_aload_n hx hb dX10_getCalled_0 rfl (lv_at hl 0 rfl) ?_
  obtain ⟨⟨k_thrown_1, k_came_2, k_depth_3⟩, h4, hf⟩ := bd_s hf
  refine iv_A (rest := []) (st1 := []) C hE hP hD hS hA (c_X10_call l D cI cZ cL cW F a0 a1 a2 a3 a4 a5 a6 k_thrown k_w k_o k_isKept k_went k_wentMany k_waiting k_came k_depth k_isSilent k_x k_packed k_hits k_rues k_soonest k_inAll   k_thrown_1 k_came_2 k_depth_3 h4) ok_X10_call qM_X10_185 rfl rfl ⟨(Nat.le_of_ble_eq_true rfl), (Nat.le_of_ble_eq_true rfl)⟩ rfl rfl hl.1 (Nat.le_of_ble_eq_true rfl) ⟨Nat.zero_le _, Nat.zero_le _⟩ dX10_getCalled_1 rfl rfl (fun H locs (hP : va_P D vwCl (MX10 cI cZ cL cW a0 a1 a2 a3 a4 a5 a6 k_thrown_1 k_w k_o k_isKept k_went k_wentMany k_waiting k_came_2 k_depth_3 k_isSilent k_x k_packed k_hits k_rues k_soonest k_inAll) H) (hD : va_D A (MX10 cI cZ cL cW a0 a1 a2 a3 a4 a5 a6 k_thrown_1 k_w k_o k_isKept k_went k_wentMany k_waiting k_came_2 k_depth_3 k_isSilent k_x k_packed k_hits k_rues k_soonest k_inAll)) hS => ?_)
  refine lv_aload_n hx hb dX10_getCalled_4 rfl (lv_at hl 0 rfl) ?_
  refine lv_iload_n hx hb dX10_getCalled_5 rfl (lv_at hl 1 rfl) ?_
  obtain ⟨k_w_5, h6, hf⟩ := bd_s hf
  refine iv_A (rest := []) (st1 := []) C hE hP hD hS hA (c_X10_requests l D cI cZ cL cW F a0 a1 a2 a3 a4 a5 a6 k_thrown_1 k_w k_o k_isKept k_went k_wentMany k_waiting k_came_2 k_depth_3 k_isSilent k_x k_packed k_hits k_rues k_soonest k_inAll p1  k_w_5 h6) ok_X10_requests qM_X10_188 rfl rfl ⟨(Nat.le_of_ble_eq_true rfl), (Nat.le_of_ble_eq_true rfl)⟩ rfl rfl hl.1 (Nat.le_of_ble_eq_true rfl) ⟨Nat.zero_le _, Nat.zero_le _⟩ dX10_getCalled_6 rfl rfl (fun H locs (hP : va_P D vwCl (MX10 cI cZ cL cW a0 a1 a2 a3 a4 a5 a6 k_thrown_1 k_w_5 k_o k_isKept k_went k_wentMany k_waiting k_came_2 k_depth_3 k_isSilent k_x k_packed k_hits k_rues k_soonest k_inAll) H) (hD : va_D A (MX10 cI cZ cL cW a0 a1 a2 a3 a4 a5 a6 k_thrown_1 k_w_5 k_o k_isKept k_went k_wentMany k_waiting k_came_2 k_depth_3 k_isSilent k_x k_packed k_hits k_rues k_soonest k_inAll)) hS => ?_)
  refine lv_aload_n hx hb dX10_getCalled_9 rfl (lv_at hl 0 rfl) ?_
  refine lv_aload_n hx hb dX10_getCalled_10 rfl (lv_at hl 0 rfl) ?_
  refine lv_iload_n hx hb dX10_getCalled_11 rfl (lv_at hl 1 rfl) ?_
  obtain ⟨⟨r7, k_w_8, k_waiting_9, k_came_10⟩, h11, hf⟩ := bd_s hf
  refine iv_A (rest := [.ref a0]) (st1 := [.int r7, .ref a0]) C hE hP hD hS hA (c_X10_gets l D cI cZ cL cW F a0 a1 a2 a3 a4 a5 a6 k_thrown_1 k_w_5 k_o k_isKept k_went k_wentMany k_waiting k_came_2 k_depth_3 k_isSilent k_x k_packed k_hits k_rues k_soonest k_inAll p1 r7 k_w_8 k_waiting_9 k_came_10 h11) ok_X10_gets qM_X10_137 rfl rfl ⟨(Nat.le_of_ble_eq_true rfl), (Nat.le_of_ble_eq_true rfl)⟩ rfl rfl hl.1 (Nat.le_of_ble_eq_true rfl) ⟨Nat.zero_le _, Nat.zero_le _⟩ dX10_getCalled_12 rfl rfl (fun H locs (hP : va_P D vwCl (MX10 cI cZ cL cW a0 a1 a2 a3 a4 a5 a6 k_thrown_1 k_w_8 k_o k_isKept k_went k_wentMany k_waiting_9 k_came_10 k_depth_3 k_isSilent k_x k_packed k_hits k_rues k_soonest k_inAll) H) (hD : va_D A (MX10 cI cZ cL cW a0 a1 a2 a3 a4 a5 a6 k_thrown_1 k_w_8 k_o k_isKept k_went k_wentMany k_waiting_9 k_came_10 k_depth_3 k_isSilent k_x k_packed k_hits k_rues k_soonest k_inAll)) hS => ?_)
  obtain ⟨r12, h13, hf⟩ := bd_s hf
  refine is_R (rest := [.ref a0]) (st1 := [.int r12, .ref a0]) C hE va_P_nil (c_X10_flag l D cI cZ cL cW F   r7 r12  h13) ok_X10_flag qM_X10_57 rfl rfl ⟨(Nat.le_of_ble_eq_true rfl), (Nat.le_of_ble_eq_true rfl)⟩ hl.1 (Nat.le_of_ble_eq_true rfl) ⟨Nat.zero_le _, Nat.zero_le _⟩ dX10_getCalled_15 rfl rfl ?_
  obtain ⟨⟨r14, k_w_15, k_went_16, k_wentMany_17, k_waiting_18, k_came_19, k_depth_20⟩, h21, hf⟩ := bd_s hf
  refine iv_A (rest := []) (st1 := [.int r14]) C hE hP hD hS hA (c_X10_done l D cI cZ cL cW F a0 a1 a2 a3 a4 a5 a6 k_thrown_1 k_w_8 k_o k_isKept k_went k_wentMany k_waiting_9 k_came_10 k_depth_3 k_isSilent k_x k_packed k_hits k_rues k_soonest k_inAll r12 r14 k_w_15 k_went_16 k_wentMany_17 k_waiting_18 k_came_19 k_depth_20 h21) ok_X10_done qM_X10_191 rfl rfl ⟨(Nat.le_of_ble_eq_true rfl), (Nat.le_of_ble_eq_true rfl)⟩ rfl rfl hl.1 (Nat.le_of_ble_eq_true rfl) ⟨Nat.zero_le _, Nat.zero_le _⟩ dX10_getCalled_18 rfl rfl (fun H locs (hP : va_P D vwCl (MX10 cI cZ cL cW a0 a1 a2 a3 a4 a5 a6 k_thrown_1 k_w_15 k_o k_isKept k_went_16 k_wentMany_17 k_waiting_18 k_came_19 k_depth_20 k_isSilent k_x k_packed k_hits k_rues k_soonest k_inAll) H) (hD : va_D A (MX10 cI cZ cL cW a0 a1 a2 a3 a4 a5 a6 k_thrown_1 k_w_15 k_o k_isKept k_went_16 k_wentMany_17 k_waiting_18 k_came_19 k_depth_20 k_isSilent k_x k_packed k_hits k_rues k_soonest k_inAll)) hS => ?_)
  cases hf
  exact rw_i C hr hlk hP hD hS dX10_getCalled_21 rfl
def X10_get (F : Nat) (p1 : Int32) (k_thrown : Int32) (k_w : (Nat → Int32)) (k_o : Int32) (k_went : (Nat → Int32)) (k_wentMany : Int32) (k_waiting : (Nat → Int32)) (k_came : Int32) (k_depth : Int32) (k_isSilent : Int32) : Option (Int32 × Int32 × (Nat → Int32) × (Nat → Int32) × Int32 × (Nat → Int32) × Int32 × Int32) := (X10_isKey F p1).bind fun r1 => (if (r1 : Int32) = 0 then (some ((-2), 0, k_w, k_went, k_wentMany, k_waiting, k_came, k_depth)) else ((X10_getCalled F p1 0 k_w k_o k_went k_wentMany k_waiting k_came k_depth k_isSilent).bind fun (r3, k_thrown_4, k_w_5, k_went_6, k_wentMany_7, k_waiting_8, k_came_9, k_depth_10) => (some (r3, k_thrown_4, k_w_5, k_went_6, k_wentMany_7, k_waiting_8, k_came_9, k_depth_10))))
abbrev rm_X10_get : Room := { frames := 11, cells := 0, slots := 0, locals := 257 }
theorem ok_X10_get : OKV RX10 yX10_get cX10_get 2 (some .int) 1 := ⟨by decide +kernel, qV_X10_get, qL_X10_get, qI_X10, qD_X10_get⟩
set_option maxHeartbeats 4000000 in
set_option maxRecDepth 100000 in
theorem c_X10_get (l : Launch) (D : va_G) (cI cZ cL cW : ClassId) (F : Nat) (a0 : Nat) (a1 : Nat) (a2 : Nat) (a3 : Nat) (a4 : Nat) (a5 : Nat) (a6 : Nat) (k_thrown : Int32) (k_w : (Nat → Int32)) (k_o : Int32) (k_isKept : (Nat → Int32)) (k_went : (Nat → Int32)) (k_wentMany : Int32) (k_waiting : (Nat → Int32)) (k_came : Int32) (k_depth : Int32) (k_isSilent : Int32) (k_x : Int64) (k_packed : (Nat → Int32)) (k_hits : Int32) (k_rues : Int32) (k_soonest : Int32) (k_inAll : (Nat → Int32)) (p1 : Int32) (r : Int32) (k_thrown' : Int32) (k_w' : (Nat → Int32)) (k_went' : (Nat → Int32)) (k_wentMany' : Int32) (k_waiting' : (Nat → Int32)) (k_came' : Int32) (k_depth' : Int32) (hf : X10_get F p1 k_thrown k_w k_o k_went k_wentMany k_waiting k_came k_depth k_isSilent = some (r, k_thrown', k_w', k_went', k_wentMany', k_waiting', k_came', k_depth')) : CtrW l D (tyL cI cZ cL cW) nestW yX10_get cX10_get 2 (some .int) rm_X10_get [.ref a0, .int p1] (MX10 cI cZ cL cW a0 a1 a2 a3 a4 a5 a6 k_thrown k_w k_o k_isKept k_went k_wentMany k_waiting k_came k_depth k_isSilent k_x k_packed k_hits k_rues k_soonest k_inAll) (MX10 cI cZ cL cW a0 a1 a2 a3 a4 a5 a6 (k_thrown') (k_w') k_o k_isKept (k_went') (k_wentMany') (k_waiting') (k_came') (k_depth') k_isSilent k_x k_packed k_hits k_rues k_soonest k_inAll) (some (.int r)) := by
  refine ofA RX10 (by decide) rfl (Nat.le_of_ble_eq_true rfl) ?_
  intro p e s m below meth c ls A C hr hlk hE hA hP hD hS hl
  generalize (List.toArray ([.ref a0, .int p1] : List Value)) = args at C ⊢
  obtain ⟨hx, hb, hml, hown, ht⟩ := id C
  have hl : lv_has ls 2 [(0, .ref a0), (1, .int p1)] := hl
  refine lv_aload_n hx hb dX10_get_0 rfl (lv_at hl 0 rfl) ?_
  refine lv_iconst (v := 0) hx hb dX10_get_1 (by decide) ?_
  refine pf_X10 (v := .int 0) C hE hP hD hS 0 0 rfl (by decide) qF_X10_1 rfl rfl rfl (Nat.le_of_ble_eq_true rfl) dX10_get_2 (fun H locs (hP : va_P D vwCl (MX10 cI cZ cL cW a0 a1 a2 a3 a4 a5 a6 0 k_w k_o k_isKept k_went k_wentMany k_waiting k_came k_depth k_isSilent k_x k_packed k_hits k_rues k_soonest k_inAll) H) (hD : va_D A (MX10 cI cZ cL cW a0 a1 a2 a3 a4 a5 a6 0 k_w k_o k_isKept k_went k_wentMany k_waiting k_came k_depth k_isSilent k_x k_packed k_hits k_rues k_soonest k_inAll)) hS => ?_)
  refine lv_iload_n hx hb dX10_get_5 rfl (lv_at hl 1 rfl) ?_
  obtain ⟨r1, h2, hf⟩ := bd_s hf
  refine is_R (rest := []) (st1 := [.int r1]) C hE va_P_nil (c_X10_isKey l D cI cZ cL cW F   p1 r1  h2) ok_X10_isKey qM_X10_194 rfl rfl ⟨(Nat.le_of_ble_eq_true rfl), (Nat.le_of_ble_eq_true rfl)⟩ hl.1 (Nat.le_of_ble_eq_true rfl) ⟨Nat.zero_le _, Nat.zero_le _⟩ dX10_get_6 rfl rfl ?_
  refine lv_if_eq (tgt := 20) hx hb dX10_get_9 (by decide) (fun c12 => ?_) (fun c12 => ?_)
  · have hf := it_p hf c12
    refine lv_bipush (v := (-2)) hx hb dX10_get_20 (by decide) ?_
    cases hf
    exact rw_i C hr hlk hP hD hS dX10_get_22 rfl
  · have hf := it_n hf c12
    refine lv_aload_n hx hb dX10_get_12 rfl (lv_at hl 0 rfl) ?_
    refine lv_iload_n hx hb dX10_get_13 rfl (lv_at hl 1 rfl) ?_
    obtain ⟨⟨r3, k_thrown_4, k_w_5, k_went_6, k_wentMany_7, k_waiting_8, k_came_9, k_depth_10⟩, h11, hf⟩ := bd_s hf
    refine iv_A (rest := []) (st1 := [.int r3]) C hE hP hD hS hA (c_X10_getCalled l D cI cZ cL cW F a0 a1 a2 a3 a4 a5 a6 0 k_w k_o k_isKept k_went k_wentMany k_waiting k_came k_depth k_isSilent k_x k_packed k_hits k_rues k_soonest k_inAll p1 r3 k_thrown_4 k_w_5 k_went_6 k_wentMany_7 k_waiting_8 k_came_9 k_depth_10 h11) ok_X10_getCalled qM_X10_206 rfl rfl ⟨(Nat.le_of_ble_eq_true rfl), (Nat.le_of_ble_eq_true rfl)⟩ rfl rfl hl.1 (Nat.le_of_ble_eq_true rfl) ⟨Nat.zero_le _, Nat.zero_le _⟩ dX10_get_14 rfl rfl (fun H locs (hP : va_P D vwCl (MX10 cI cZ cL cW a0 a1 a2 a3 a4 a5 a6 k_thrown_4 k_w_5 k_o k_isKept k_went_6 k_wentMany_7 k_waiting_8 k_came_9 k_depth_10 k_isSilent k_x k_packed k_hits k_rues k_soonest k_inAll) H) (hD : va_D A (MX10 cI cZ cL cW a0 a1 a2 a3 a4 a5 a6 k_thrown_4 k_w_5 k_o k_isKept k_went_6 k_wentMany_7 k_waiting_8 k_came_9 k_depth_10 k_isSilent k_x k_packed k_hits k_rues k_soonest k_inAll)) hS => ?_)
    refine lv_goto (tgt := 22) hx hb dX10_get_17 (by decide) ?_
    cases hf
    exact rw_i C hr hlk hP hD hS dX10_get_22 rfl
def X10_remove (F : Nat) (p1 : Int32) (k_thrown : Int32) (k_w : (Nat → Int32)) (k_o : Int32) (k_went : (Nat → Int32)) (k_wentMany : Int32) (k_waiting : (Nat → Int32)) (k_came : Int32) (k_depth : Int32) (k_isSilent : Int32) : Option (Int32 × Int32 × (Nat → Int32) × (Nat → Int32) × Int32 × (Nat → Int32) × Int32 × Int32) := (X10_call F k_thrown k_came k_depth).bind fun (k_thrown_1, k_came_2, k_depth_3) => ((X10_isKey F p1).bind fun r5 => (if (r5 : Int32) = 0 then (some ((-2), k_thrown_1, k_w, k_went, k_wentMany, k_waiting, k_came_2, k_depth_3)) else ((X10_entryOf F p1 k_w k_o).bind fun r7 => (if (r7 : Int32) = (-1) then (some ((-3), k_thrown_1, k_w, k_went, k_wentMany, k_waiting, k_came_2, k_depth_3)) else ((X10_of F r7 1 k_w k_o).bind fun r9 => ((X10_removes F p1 k_w k_o k_waiting k_came_2 k_depth_3 k_isSilent).bind fun (r11, k_w_12, k_waiting_13, k_came_14) => ((X10_done F (r9 + 10000) k_w_12 k_o k_went k_wentMany k_waiting_13 k_came_14 k_depth_3 k_isSilent).bind fun (r16, k_w_17, k_went_18, k_wentMany_19, k_waiting_20, k_came_21, k_depth_22) => (some (r16, k_thrown_1, k_w_17, k_went_18, k_wentMany_19, k_waiting_20, k_came_21, k_depth_22)))))))))
abbrev rm_X10_remove : Room := { frames := 10, cells := 0, slots := 0, locals := 236 }
theorem ok_X10_remove : OKV RX10 yX10_remove cX10_remove 4 (some .int) 1 := ⟨by decide +kernel, qV_X10_remove, qL_X10_remove, qI_X10, qD_X10_remove⟩
set_option maxHeartbeats 4000000 in
set_option maxRecDepth 100000 in
theorem c_X10_remove (l : Launch) (D : va_G) (cI cZ cL cW : ClassId) (F : Nat) (a0 : Nat) (a1 : Nat) (a2 : Nat) (a3 : Nat) (a4 : Nat) (a5 : Nat) (a6 : Nat) (k_thrown : Int32) (k_w : (Nat → Int32)) (k_o : Int32) (k_isKept : (Nat → Int32)) (k_went : (Nat → Int32)) (k_wentMany : Int32) (k_waiting : (Nat → Int32)) (k_came : Int32) (k_depth : Int32) (k_isSilent : Int32) (k_x : Int64) (k_packed : (Nat → Int32)) (k_hits : Int32) (k_rues : Int32) (k_soonest : Int32) (k_inAll : (Nat → Int32)) (p1 : Int32) (r : Int32) (k_thrown' : Int32) (k_w' : (Nat → Int32)) (k_went' : (Nat → Int32)) (k_wentMany' : Int32) (k_waiting' : (Nat → Int32)) (k_came' : Int32) (k_depth' : Int32) (hf : X10_remove F p1 k_thrown k_w k_o k_went k_wentMany k_waiting k_came k_depth k_isSilent = some (r, k_thrown', k_w', k_went', k_wentMany', k_waiting', k_came', k_depth')) : CtrW l D (tyL cI cZ cL cW) nestW yX10_remove cX10_remove 4 (some .int) rm_X10_remove [.ref a0, .int p1] (MX10 cI cZ cL cW a0 a1 a2 a3 a4 a5 a6 k_thrown k_w k_o k_isKept k_went k_wentMany k_waiting k_came k_depth k_isSilent k_x k_packed k_hits k_rues k_soonest k_inAll) (MX10 cI cZ cL cW a0 a1 a2 a3 a4 a5 a6 (k_thrown') (k_w') k_o k_isKept (k_went') (k_wentMany') (k_waiting') (k_came') (k_depth') k_isSilent k_x k_packed k_hits k_rues k_soonest k_inAll) (some (.int r)) := by
  refine ofA RX10 (by decide) rfl (Nat.le_of_ble_eq_true rfl) ?_
  intro p e s m below meth c ls A C hr hlk hE hA hP hD hS hl
  generalize (List.toArray ([.ref a0, .int p1] : List Value)) = args at C ⊢
  obtain ⟨hx, hb, hml, hown, ht⟩ := id C
  have hl : lv_has ls 4 [(0, .ref a0), (1, .int p1)] := hl
  refine lv_aload_n hx hb dX10_remove_0 rfl (lv_at hl 0 rfl) ?_
  obtain ⟨⟨k_thrown_1, k_came_2, k_depth_3⟩, h4, hf⟩ := bd_s hf
  refine iv_A (rest := []) (st1 := []) C hE hP hD hS hA (c_X10_call l D cI cZ cL cW F a0 a1 a2 a3 a4 a5 a6 k_thrown k_w k_o k_isKept k_went k_wentMany k_waiting k_came k_depth k_isSilent k_x k_packed k_hits k_rues k_soonest k_inAll   k_thrown_1 k_came_2 k_depth_3 h4) ok_X10_call qM_X10_185 rfl rfl ⟨(Nat.le_of_ble_eq_true rfl), (Nat.le_of_ble_eq_true rfl)⟩ rfl rfl hl.1 (Nat.le_of_ble_eq_true rfl) ⟨Nat.zero_le _, Nat.zero_le _⟩ dX10_remove_1 rfl rfl (fun H locs (hP : va_P D vwCl (MX10 cI cZ cL cW a0 a1 a2 a3 a4 a5 a6 k_thrown_1 k_w k_o k_isKept k_went k_wentMany k_waiting k_came_2 k_depth_3 k_isSilent k_x k_packed k_hits k_rues k_soonest k_inAll) H) (hD : va_D A (MX10 cI cZ cL cW a0 a1 a2 a3 a4 a5 a6 k_thrown_1 k_w k_o k_isKept k_went k_wentMany k_waiting k_came_2 k_depth_3 k_isSilent k_x k_packed k_hits k_rues k_soonest k_inAll)) hS => ?_)
  refine lv_iload_n hx hb dX10_remove_4 rfl (lv_at hl 1 rfl) ?_
  obtain ⟨r5, h6, hf⟩ := bd_s hf
  refine is_R (rest := []) (st1 := [.int r5]) C hE va_P_nil (c_X10_isKey l D cI cZ cL cW F   p1 r5  h6) ok_X10_isKey qM_X10_194 rfl rfl ⟨(Nat.le_of_ble_eq_true rfl), (Nat.le_of_ble_eq_true rfl)⟩ hl.1 (Nat.le_of_ble_eq_true rfl) ⟨Nat.zero_le _, Nat.zero_le _⟩ dX10_remove_5 rfl rfl ?_
  refine lv_if_ne (tgt := 14) hx hb dX10_remove_8 (by decide) (fun c25 => ?_) (fun c25 => ?_)
  · have hf := it_n hf c25
    refine lv_aload_n hx hb dX10_remove_14 rfl (lv_at hl 0 rfl) ?_
    refine lv_iload_n hx hb dX10_remove_15 rfl (lv_at hl 1 rfl) ?_
    obtain ⟨r7, h8, hf⟩ := bd_s hf
    refine iv_R (rest := []) (st1 := [.int r7]) C hE hP (c_X10_entryOf l D cI cZ cL cW F a0 a1 a2 a3 a4 a5 a6 k_thrown_1 k_w k_o k_isKept k_went k_wentMany k_waiting k_came_2 k_depth_3 k_isSilent k_x k_packed k_hits k_rues k_soonest k_inAll p1 r7  h8) ok_X10_entryOf qM_X10_118 rfl rfl ⟨(Nat.le_of_ble_eq_true rfl), (Nat.le_of_ble_eq_true rfl)⟩ rfl rfl hl.1 (Nat.le_of_ble_eq_true rfl) ⟨Nat.zero_le _, Nat.zero_le _⟩ dX10_remove_16 rfl rfl ?_
    refine lv_istore_n (lv' := [(2, .int r7), (0, .ref a0), (1, .int p1)]) hx hb dX10_remove_19 rfl hl (by decide) rfl (fun ls hl => ?_)
    refine lv_iload_n hx hb dX10_remove_20 rfl (lv_at hl 0 rfl) ?_
    refine lv_iconst (v := (-1)) hx hb dX10_remove_21 (by decide) ?_
    refine lv_icmp_ne (tgt := 28) hx hb dX10_remove_22 (by decide) (fun c24 => ?_) (fun c24 => ?_)
    · have hf := it_n hf c24
      refine lv_aload_n hx hb dX10_remove_28 rfl (lv_at hl 1 rfl) ?_
      refine lv_iload_n hx hb dX10_remove_29 rfl (lv_at hl 0 rfl) ?_
      refine lv_iconst (v := 1) hx hb dX10_remove_30 (by decide) ?_
      obtain ⟨r9, h10, hf⟩ := bd_s hf
      refine iv_R (rest := []) (st1 := [.int r9]) C hE hP (c_X10_of l D cI cZ cL cW F a0 a1 a2 a3 a4 a5 a6 k_thrown_1 k_w k_o k_isKept k_went k_wentMany k_waiting k_came_2 k_depth_3 k_isSilent k_x k_packed k_hits k_rues k_soonest k_inAll r7 1 r9  h10) ok_X10_of qM_X10_44 rfl rfl ⟨(Nat.le_of_ble_eq_true rfl), (Nat.le_of_ble_eq_true rfl)⟩ rfl rfl hl.1 (Nat.le_of_ble_eq_true rfl) ⟨Nat.zero_le _, Nat.zero_le _⟩ dX10_remove_31 rfl rfl ?_
      refine lv_sipush (v := 10000) hx hb dX10_remove_34 (by decide) ?_
      refine lv_iadd hx hb dX10_remove_37 ?_
      refine lv_istore_n (lv' := [(3, .int (r9 + 10000)), (2, .int r7), (0, .ref a0), (1, .int p1)]) hx hb dX10_remove_38 rfl hl (by decide) rfl (fun ls hl => ?_)
      refine lv_aload_n hx hb dX10_remove_39 rfl (lv_at hl 2 rfl) ?_
      refine lv_iload_n hx hb dX10_remove_40 rfl (lv_at hl 3 rfl) ?_
      obtain ⟨⟨r11, k_w_12, k_waiting_13, k_came_14⟩, h15, hf⟩ := bd_s hf
      refine iv_A (rest := []) (st1 := [.int r11]) C hE hP hD hS hA (c_X10_removes l D cI cZ cL cW F a0 a1 a2 a3 a4 a5 a6 k_thrown_1 k_w k_o k_isKept k_went k_wentMany k_waiting k_came_2 k_depth_3 k_isSilent k_x k_packed k_hits k_rues k_soonest k_inAll p1 r11 k_w_12 k_waiting_13 k_came_14 h15) ok_X10_removes qM_X10_141 rfl rfl ⟨(Nat.le_of_ble_eq_true rfl), (Nat.le_of_ble_eq_true rfl)⟩ rfl rfl hl.1 (Nat.le_of_ble_eq_true rfl) ⟨Nat.zero_le _, Nat.zero_le _⟩ dX10_remove_41 rfl rfl (fun H locs (hP : va_P D vwCl (MX10 cI cZ cL cW a0 a1 a2 a3 a4 a5 a6 k_thrown_1 k_w_12 k_o k_isKept k_went k_wentMany k_waiting_13 k_came_14 k_depth_3 k_isSilent k_x k_packed k_hits k_rues k_soonest k_inAll) H) (hD : va_D A (MX10 cI cZ cL cW a0 a1 a2 a3 a4 a5 a6 k_thrown_1 k_w_12 k_o k_isKept k_went k_wentMany k_waiting_13 k_came_14 k_depth_3 k_isSilent k_x k_packed k_hits k_rues k_soonest k_inAll)) hS => ?_)
      refine lv_pop hx hb dX10_remove_44 rfl ?_
      refine lv_aload_n hx hb dX10_remove_45 rfl (lv_at hl 2 rfl) ?_
      refine lv_iload_n hx hb dX10_remove_46 rfl (lv_at hl 0 rfl) ?_
      obtain ⟨⟨r16, k_w_17, k_went_18, k_wentMany_19, k_waiting_20, k_came_21, k_depth_22⟩, h23, hf⟩ := bd_s hf
      refine iv_A (rest := []) (st1 := [.int r16]) C hE hP hD hS hA (c_X10_done l D cI cZ cL cW F a0 a1 a2 a3 a4 a5 a6 k_thrown_1 k_w_12 k_o k_isKept k_went k_wentMany k_waiting_13 k_came_14 k_depth_3 k_isSilent k_x k_packed k_hits k_rues k_soonest k_inAll (r9 + 10000) r16 k_w_17 k_went_18 k_wentMany_19 k_waiting_20 k_came_21 k_depth_22 h23) ok_X10_done qM_X10_191 rfl rfl ⟨(Nat.le_of_ble_eq_true rfl), (Nat.le_of_ble_eq_true rfl)⟩ rfl rfl hl.1 (Nat.le_of_ble_eq_true rfl) ⟨Nat.zero_le _, Nat.zero_le _⟩ dX10_remove_47 rfl rfl (fun H locs (hP : va_P D vwCl (MX10 cI cZ cL cW a0 a1 a2 a3 a4 a5 a6 k_thrown_1 k_w_17 k_o k_isKept k_went_18 k_wentMany_19 k_waiting_20 k_came_21 k_depth_22 k_isSilent k_x k_packed k_hits k_rues k_soonest k_inAll) H) (hD : va_D A (MX10 cI cZ cL cW a0 a1 a2 a3 a4 a5 a6 k_thrown_1 k_w_17 k_o k_isKept k_went_18 k_wentMany_19 k_waiting_20 k_came_21 k_depth_22 k_isSilent k_x k_packed k_hits k_rues k_soonest k_inAll)) hS => ?_)
      cases hf
      exact rw_i C hr hlk hP hD hS dX10_remove_50 rfl
    · have hf := it_p hf c24
      refine lv_bipush (v := (-3)) hx hb dX10_remove_25 (by decide) ?_
      cases hf
      exact rw_i C hr hlk hP hD hS dX10_remove_27 rfl
  · have hf := it_p hf c25
    refine lv_bipush (v := (-2)) hx hb dX10_remove_11 (by decide) ?_
    cases hf
    exact rw_i C hr hlk hP hD hS dX10_remove_13 rfl
def X10_pin (F : Nat) (p1 : Int32) (p2 : Int32) (k_thrown : Int32) (k_w : (Nat → Int32)) (k_o : Int32) (k_came : Int32) (k_depth : Int32) : Option (Int32 × Int32 × (Nat → Int32) × Int32 × Int32) := (X10_call F k_thrown k_came k_depth).bind fun (k_thrown_1, k_came_2, k_depth_3) => ((X10_isKey F p1).bind fun r5 => (if (r5 : Int32) = 0 then (some ((-2), k_thrown_1, k_w, k_came_2, k_depth_3)) else ((X10_entryOf F p1 k_w k_o).bind fun r7 => (if (r7 : Int32) = (-1) then (some ((-3), k_thrown_1, k_w, k_came_2, k_depth_3)) else ((X10_flag F p2).bind fun r9 => ((X10_pins F p1 r9 k_w k_o).bind fun (r11, k_w_12) => ((X10_flag F r11).bind fun r14 => (some (r14, k_thrown_1, k_w_12, k_came_2, k_depth_3)))))))))
abbrev rm_X10_pin : Room := { frames := 3, cells := 0, slots := 0, locals := 67 }
theorem ok_X10_pin : OKV RX10 yX10_pin cX10_pin 3 (some .int) 2 := ⟨by decide +kernel, qV_X10_pin, qL_X10_pin, qI_X10, qD_X10_pin⟩
set_option maxHeartbeats 4000000 in
set_option maxRecDepth 100000 in
theorem c_X10_pin (l : Launch) (D : va_G) (cI cZ cL cW : ClassId) (F : Nat) (a0 : Nat) (a1 : Nat) (a2 : Nat) (a3 : Nat) (a4 : Nat) (a5 : Nat) (a6 : Nat) (k_thrown : Int32) (k_w : (Nat → Int32)) (k_o : Int32) (k_isKept : (Nat → Int32)) (k_went : (Nat → Int32)) (k_wentMany : Int32) (k_waiting : (Nat → Int32)) (k_came : Int32) (k_depth : Int32) (k_isSilent : Int32) (k_x : Int64) (k_packed : (Nat → Int32)) (k_hits : Int32) (k_rues : Int32) (k_soonest : Int32) (k_inAll : (Nat → Int32)) (p1 : Int32) (p2 : Int32) (r : Int32) (k_thrown' : Int32) (k_w' : (Nat → Int32)) (k_came' : Int32) (k_depth' : Int32) (hf : X10_pin F p1 p2 k_thrown k_w k_o k_came k_depth = some (r, k_thrown', k_w', k_came', k_depth')) : CtrW l D (tyL cI cZ cL cW) nestW yX10_pin cX10_pin 3 (some .int) rm_X10_pin [.ref a0, .int p1, .int p2] (MX10 cI cZ cL cW a0 a1 a2 a3 a4 a5 a6 k_thrown k_w k_o k_isKept k_went k_wentMany k_waiting k_came k_depth k_isSilent k_x k_packed k_hits k_rues k_soonest k_inAll) (MX10 cI cZ cL cW a0 a1 a2 a3 a4 a5 a6 (k_thrown') (k_w') k_o k_isKept k_went k_wentMany k_waiting (k_came') (k_depth') k_isSilent k_x k_packed k_hits k_rues k_soonest k_inAll) (some (.int r)) := by
  refine ofA RX10 (by decide) rfl (Nat.le_of_ble_eq_true rfl) ?_
  intro p e s m below meth c ls A C hr hlk hE hA hP hD hS hl
  generalize (List.toArray ([.ref a0, .int p1, .int p2] : List Value)) = args at C ⊢
  obtain ⟨hx, hb, hml, hown, ht⟩ := id C
  have hl : lv_has ls 3 [(0, .ref a0), (1, .int p1), (2, .int p2)] := hl
  refine lv_aload_n hx hb dX10_pin_0 rfl (lv_at hl 0 rfl) ?_
  obtain ⟨⟨k_thrown_1, k_came_2, k_depth_3⟩, h4, hf⟩ := bd_s hf
  refine iv_A (rest := []) (st1 := []) C hE hP hD hS hA (c_X10_call l D cI cZ cL cW F a0 a1 a2 a3 a4 a5 a6 k_thrown k_w k_o k_isKept k_went k_wentMany k_waiting k_came k_depth k_isSilent k_x k_packed k_hits k_rues k_soonest k_inAll   k_thrown_1 k_came_2 k_depth_3 h4) ok_X10_call qM_X10_185 rfl rfl ⟨(Nat.le_of_ble_eq_true rfl), (Nat.le_of_ble_eq_true rfl)⟩ rfl rfl hl.1 (Nat.le_of_ble_eq_true rfl) ⟨Nat.zero_le _, Nat.zero_le _⟩ dX10_pin_1 rfl rfl (fun H locs (hP : va_P D vwCl (MX10 cI cZ cL cW a0 a1 a2 a3 a4 a5 a6 k_thrown_1 k_w k_o k_isKept k_went k_wentMany k_waiting k_came_2 k_depth_3 k_isSilent k_x k_packed k_hits k_rues k_soonest k_inAll) H) (hD : va_D A (MX10 cI cZ cL cW a0 a1 a2 a3 a4 a5 a6 k_thrown_1 k_w k_o k_isKept k_went k_wentMany k_waiting k_came_2 k_depth_3 k_isSilent k_x k_packed k_hits k_rues k_soonest k_inAll)) hS => ?_)
  refine lv_iload_n hx hb dX10_pin_4 rfl (lv_at hl 1 rfl) ?_
  obtain ⟨r5, h6, hf⟩ := bd_s hf
  refine is_R (rest := []) (st1 := [.int r5]) C hE va_P_nil (c_X10_isKey l D cI cZ cL cW F   p1 r5  h6) ok_X10_isKey qM_X10_194 rfl rfl ⟨(Nat.le_of_ble_eq_true rfl), (Nat.le_of_ble_eq_true rfl)⟩ hl.1 (Nat.le_of_ble_eq_true rfl) ⟨Nat.zero_le _, Nat.zero_le _⟩ dX10_pin_5 rfl rfl ?_
  refine lv_if_ne (tgt := 14) hx hb dX10_pin_8 (by decide) (fun c17 => ?_) (fun c17 => ?_)
  · have hf := it_n hf c17
    refine lv_aload_n hx hb dX10_pin_14 rfl (lv_at hl 0 rfl) ?_
    refine lv_iload_n hx hb dX10_pin_15 rfl (lv_at hl 1 rfl) ?_
    obtain ⟨r7, h8, hf⟩ := bd_s hf
    refine iv_R (rest := []) (st1 := [.int r7]) C hE hP (c_X10_entryOf l D cI cZ cL cW F a0 a1 a2 a3 a4 a5 a6 k_thrown_1 k_w k_o k_isKept k_went k_wentMany k_waiting k_came_2 k_depth_3 k_isSilent k_x k_packed k_hits k_rues k_soonest k_inAll p1 r7  h8) ok_X10_entryOf qM_X10_118 rfl rfl ⟨(Nat.le_of_ble_eq_true rfl), (Nat.le_of_ble_eq_true rfl)⟩ rfl rfl hl.1 (Nat.le_of_ble_eq_true rfl) ⟨Nat.zero_le _, Nat.zero_le _⟩ dX10_pin_16 rfl rfl ?_
    refine lv_iconst (v := (-1)) hx hb dX10_pin_19 (by decide) ?_
    refine lv_icmp_ne (tgt := 28) hx hb dX10_pin_20 (by decide) (fun c16 => ?_) (fun c16 => ?_)
    · have hf := it_n hf c16
      refine lv_aload_n hx hb dX10_pin_28 rfl (lv_at hl 0 rfl) ?_
      refine lv_iload_n hx hb dX10_pin_29 rfl (lv_at hl 1 rfl) ?_
      refine lv_iload_n hx hb dX10_pin_30 rfl (lv_at hl 2 rfl) ?_
      obtain ⟨r9, h10, hf⟩ := bd_s hf
      refine is_R (rest := [.int p1, .ref a0]) (st1 := [.int r9, .int p1, .ref a0]) C hE va_P_nil (c_X10_flag l D cI cZ cL cW F   p2 r9  h10) ok_X10_flag qM_X10_57 rfl rfl ⟨(Nat.le_of_ble_eq_true rfl), (Nat.le_of_ble_eq_true rfl)⟩ hl.1 (Nat.le_of_ble_eq_true rfl) ⟨Nat.zero_le _, Nat.zero_le _⟩ dX10_pin_31 rfl rfl ?_
      obtain ⟨⟨r11, k_w_12⟩, h13, hf⟩ := bd_s hf
      refine iv_A (rest := []) (st1 := [.int r11]) C hE hP hD hS hA (c_X10_pins l D cI cZ cL cW F a0 a1 a2 a3 a4 a5 a6 k_thrown_1 k_w k_o k_isKept k_went k_wentMany k_waiting k_came_2 k_depth_3 k_isSilent k_x k_packed k_hits k_rues k_soonest k_inAll p1 r9 r11 k_w_12 h13) ok_X10_pins qM_X10_144 rfl rfl ⟨(Nat.le_of_ble_eq_true rfl), (Nat.le_of_ble_eq_true rfl)⟩ rfl rfl hl.1 (Nat.le_of_ble_eq_true rfl) ⟨Nat.zero_le _, Nat.zero_le _⟩ dX10_pin_34 rfl rfl (fun H locs (hP : va_P D vwCl (MX10 cI cZ cL cW a0 a1 a2 a3 a4 a5 a6 k_thrown_1 k_w_12 k_o k_isKept k_went k_wentMany k_waiting k_came_2 k_depth_3 k_isSilent k_x k_packed k_hits k_rues k_soonest k_inAll) H) (hD : va_D A (MX10 cI cZ cL cW a0 a1 a2 a3 a4 a5 a6 k_thrown_1 k_w_12 k_o k_isKept k_went k_wentMany k_waiting k_came_2 k_depth_3 k_isSilent k_x k_packed k_hits k_rues k_soonest k_inAll)) hS => ?_)
      obtain ⟨r14, h15, hf⟩ := bd_s hf
      refine is_R (rest := []) (st1 := [.int r14]) C hE va_P_nil (c_X10_flag l D cI cZ cL cW F   r11 r14  h15) ok_X10_flag qM_X10_57 rfl rfl ⟨(Nat.le_of_ble_eq_true rfl), (Nat.le_of_ble_eq_true rfl)⟩ hl.1 (Nat.le_of_ble_eq_true rfl) ⟨Nat.zero_le _, Nat.zero_le _⟩ dX10_pin_37 rfl rfl ?_
      cases hf
      exact rw_i C hr hlk hP hD hS dX10_pin_40 rfl
    · have hf := it_p hf c16
      refine lv_bipush (v := (-3)) hx hb dX10_pin_23 (by decide) ?_
      refine lv_goto (tgt := 40) hx hb dX10_pin_25 (by decide) ?_
      cases hf
      exact rw_i C hr hlk hP hD hS dX10_pin_40 rfl
  · have hf := it_p hf c17
    refine lv_bipush (v := (-2)) hx hb dX10_pin_11 (by decide) ?_
    cases hf
    exact rw_i C hr hlk hP hD hS dX10_pin_13 rfl
def X10_resize (F : Nat) (p1 : Int32) (k_thrown : Int32) (k_w : (Nat → Int32)) (k_o : Int32) (k_went : (Nat → Int32)) (k_wentMany : Int32) (k_waiting : (Nat → Int32)) (k_came : Int32) (k_depth : Int32) (k_isSilent : Int32) : Option (Int32 × Int32 × (Nat → Int32) × (Nat → Int32) × Int32 × (Nat → Int32) × Int32 × Int32) := (X10_call F k_thrown k_came k_depth).bind fun (k_thrown_1, k_came_2, k_depth_3) => ((X10_isIn F p1.toInt64 0 5000).bind fun r5 => (if (r5 : Int32) = 0 then (some ((-2), k_thrown_1, k_w, k_went, k_wentMany, k_waiting, k_came_2, k_depth_3)) else ((X10_pinned F (-1) k_w k_o).bind fun r7 => (if (r7 : Int32) ≤ p1 then ((X10_caps F p1 k_w k_o k_went k_wentMany k_waiting k_came_2 k_depth_3 k_isSilent).bind fun (r9, k_w_10, k_went_11, k_wentMany_12, k_waiting_13, k_came_14) => ((X10_done F r9 k_w_10 k_o k_went_11 k_wentMany_12 k_waiting_13 k_came_14 k_depth_3 k_isSilent).bind fun (r16, k_w_17, k_went_18, k_wentMany_19, k_waiting_20, k_came_21, k_depth_22) => (some (r16, k_thrown_1, k_w_17, k_went_18, k_wentMany_19, k_waiting_20, k_came_21, k_depth_22)))) else (some ((-3), k_thrown_1, k_w, k_went, k_wentMany, k_waiting, k_came_2, k_depth_3))))))
abbrev rm_X10_resize : Room := { frames := 10, cells := 0, slots := 0, locals := 236 }
theorem ok_X10_resize : OKV RX10 yX10_resize cX10_resize 2 (some .int) 1 := ⟨by decide +kernel, qV_X10_resize, qL_X10_resize, qI_X10, qD_X10_resize⟩
set_option maxHeartbeats 4000000 in
set_option maxRecDepth 100000 in
theorem c_X10_resize (l : Launch) (D : va_G) (cI cZ cL cW : ClassId) (F : Nat) (a0 : Nat) (a1 : Nat) (a2 : Nat) (a3 : Nat) (a4 : Nat) (a5 : Nat) (a6 : Nat) (k_thrown : Int32) (k_w : (Nat → Int32)) (k_o : Int32) (k_isKept : (Nat → Int32)) (k_went : (Nat → Int32)) (k_wentMany : Int32) (k_waiting : (Nat → Int32)) (k_came : Int32) (k_depth : Int32) (k_isSilent : Int32) (k_x : Int64) (k_packed : (Nat → Int32)) (k_hits : Int32) (k_rues : Int32) (k_soonest : Int32) (k_inAll : (Nat → Int32)) (p1 : Int32) (r : Int32) (k_thrown' : Int32) (k_w' : (Nat → Int32)) (k_went' : (Nat → Int32)) (k_wentMany' : Int32) (k_waiting' : (Nat → Int32)) (k_came' : Int32) (k_depth' : Int32) (hf : X10_resize F p1 k_thrown k_w k_o k_went k_wentMany k_waiting k_came k_depth k_isSilent = some (r, k_thrown', k_w', k_went', k_wentMany', k_waiting', k_came', k_depth')) : CtrW l D (tyL cI cZ cL cW) nestW yX10_resize cX10_resize 2 (some .int) rm_X10_resize [.ref a0, .int p1] (MX10 cI cZ cL cW a0 a1 a2 a3 a4 a5 a6 k_thrown k_w k_o k_isKept k_went k_wentMany k_waiting k_came k_depth k_isSilent k_x k_packed k_hits k_rues k_soonest k_inAll) (MX10 cI cZ cL cW a0 a1 a2 a3 a4 a5 a6 (k_thrown') (k_w') k_o k_isKept (k_went') (k_wentMany') (k_waiting') (k_came') (k_depth') k_isSilent k_x k_packed k_hits k_rues k_soonest k_inAll) (some (.int r)) := by
  refine ofA RX10 (by decide) rfl (Nat.le_of_ble_eq_true rfl) ?_
  intro p e s m below meth c ls A C hr hlk hE hA hP hD hS hl
  generalize (List.toArray ([.ref a0, .int p1] : List Value)) = args at C ⊢
  obtain ⟨hx, hb, hml, hown, ht⟩ := id C
  have hl : lv_has ls 2 [(0, .ref a0), (1, .int p1)] := hl
  refine lv_aload_n hx hb dX10_resize_0 rfl (lv_at hl 0 rfl) ?_
  obtain ⟨⟨k_thrown_1, k_came_2, k_depth_3⟩, h4, hf⟩ := bd_s hf
  refine iv_A (rest := []) (st1 := []) C hE hP hD hS hA (c_X10_call l D cI cZ cL cW F a0 a1 a2 a3 a4 a5 a6 k_thrown k_w k_o k_isKept k_went k_wentMany k_waiting k_came k_depth k_isSilent k_x k_packed k_hits k_rues k_soonest k_inAll   k_thrown_1 k_came_2 k_depth_3 h4) ok_X10_call qM_X10_185 rfl rfl ⟨(Nat.le_of_ble_eq_true rfl), (Nat.le_of_ble_eq_true rfl)⟩ rfl rfl hl.1 (Nat.le_of_ble_eq_true rfl) ⟨Nat.zero_le _, Nat.zero_le _⟩ dX10_resize_1 rfl rfl (fun H locs (hP : va_P D vwCl (MX10 cI cZ cL cW a0 a1 a2 a3 a4 a5 a6 k_thrown_1 k_w k_o k_isKept k_went k_wentMany k_waiting k_came_2 k_depth_3 k_isSilent k_x k_packed k_hits k_rues k_soonest k_inAll) H) (hD : va_D A (MX10 cI cZ cL cW a0 a1 a2 a3 a4 a5 a6 k_thrown_1 k_w k_o k_isKept k_went k_wentMany k_waiting k_came_2 k_depth_3 k_isSilent k_x k_packed k_hits k_rues k_soonest k_inAll)) hS => ?_)
  refine lv_iload_n hx hb dX10_resize_4 rfl (lv_at hl 1 rfl) ?_
  refine lv_i2l hx hb dX10_resize_5 rfl ?_
  refine lv_lconst (v := 0) hx hb dX10_resize_6 (by decide) ?_
  refine lv_ldc2 (v := 5000) hx hb hown (ht _ qJ_X10_125) dX10_resize_7 ?_
  obtain ⟨r5, h6, hf⟩ := bd_s hf
  refine is_R (rest := []) (st1 := [.int r5]) C hE va_P_nil (c_X10_isIn l D cI cZ cL cW F   p1.toInt64 0 5000 r5  h6) ok_X10_isIn qM_X10_49 rfl rfl ⟨(Nat.le_of_ble_eq_true rfl), (Nat.le_of_ble_eq_true rfl)⟩ hl.1 (Nat.le_of_ble_eq_true rfl) ⟨Nat.zero_le _, Nat.zero_le _⟩ dX10_resize_10 rfl rfl ?_
  refine lv_if_ne (tgt := 19) hx hb dX10_resize_13 (by decide) (fun c25 => ?_) (fun c25 => ?_)
  · have hf := it_n hf c25
    refine lv_aload_n hx hb dX10_resize_19 rfl (lv_at hl 0 rfl) ?_
    refine lv_iconst (v := (-1)) hx hb dX10_resize_20 (by decide) ?_
    obtain ⟨r7, h8, hf⟩ := bd_s hf
    refine iv_R (rest := []) (st1 := [.int r7]) C hE hP (c_X10_pinned l D cI cZ cL cW F a0 a1 a2 a3 a4 a5 a6 k_thrown_1 k_w k_o k_isKept k_went k_wentMany k_waiting k_came_2 k_depth_3 k_isSilent k_x k_packed k_hits k_rues k_soonest k_inAll (-1) r7  h8) ok_X10_pinned qM_X10_127 rfl rfl ⟨(Nat.le_of_ble_eq_true rfl), (Nat.le_of_ble_eq_true rfl)⟩ rfl rfl hl.1 (Nat.le_of_ble_eq_true rfl) ⟨Nat.zero_le _, Nat.zero_le _⟩ dX10_resize_21 rfl rfl ?_
    refine lv_iload_n hx hb dX10_resize_24 rfl (lv_at hl 1 rfl) ?_
    refine lv_icmp_le (tgt := 33) hx hb dX10_resize_25 (by decide) (fun c24 => ?_) (fun c24 => ?_)
    · have hf := it_p hf c24
      refine lv_aload_n hx hb dX10_resize_33 rfl (lv_at hl 0 rfl) ?_
      refine lv_aload_n hx hb dX10_resize_34 rfl (lv_at hl 0 rfl) ?_
      refine lv_iload_n hx hb dX10_resize_35 rfl (lv_at hl 1 rfl) ?_
      obtain ⟨⟨r9, k_w_10, k_went_11, k_wentMany_12, k_waiting_13, k_came_14⟩, h15, hf⟩ := bd_s hf
      refine iv_A (rest := [.ref a0]) (st1 := [.int r9, .ref a0]) C hE hP hD hS hA (c_X10_caps l D cI cZ cL cW F a0 a1 a2 a3 a4 a5 a6 k_thrown_1 k_w k_o k_isKept k_went k_wentMany k_waiting k_came_2 k_depth_3 k_isSilent k_x k_packed k_hits k_rues k_soonest k_inAll p1 r9 k_w_10 k_went_11 k_wentMany_12 k_waiting_13 k_came_14 h15) ok_X10_caps qM_X10_130 rfl rfl ⟨(Nat.le_of_ble_eq_true rfl), (Nat.le_of_ble_eq_true rfl)⟩ rfl rfl hl.1 (Nat.le_of_ble_eq_true rfl) ⟨Nat.zero_le _, Nat.zero_le _⟩ dX10_resize_36 rfl rfl (fun H locs (hP : va_P D vwCl (MX10 cI cZ cL cW a0 a1 a2 a3 a4 a5 a6 k_thrown_1 k_w_10 k_o k_isKept k_went_11 k_wentMany_12 k_waiting_13 k_came_14 k_depth_3 k_isSilent k_x k_packed k_hits k_rues k_soonest k_inAll) H) (hD : va_D A (MX10 cI cZ cL cW a0 a1 a2 a3 a4 a5 a6 k_thrown_1 k_w_10 k_o k_isKept k_went_11 k_wentMany_12 k_waiting_13 k_came_14 k_depth_3 k_isSilent k_x k_packed k_hits k_rues k_soonest k_inAll)) hS => ?_)
      obtain ⟨⟨r16, k_w_17, k_went_18, k_wentMany_19, k_waiting_20, k_came_21, k_depth_22⟩, h23, hf⟩ := bd_s hf
      refine iv_A (rest := []) (st1 := [.int r16]) C hE hP hD hS hA (c_X10_done l D cI cZ cL cW F a0 a1 a2 a3 a4 a5 a6 k_thrown_1 k_w_10 k_o k_isKept k_went_11 k_wentMany_12 k_waiting_13 k_came_14 k_depth_3 k_isSilent k_x k_packed k_hits k_rues k_soonest k_inAll r9 r16 k_w_17 k_went_18 k_wentMany_19 k_waiting_20 k_came_21 k_depth_22 h23) ok_X10_done qM_X10_191 rfl rfl ⟨(Nat.le_of_ble_eq_true rfl), (Nat.le_of_ble_eq_true rfl)⟩ rfl rfl hl.1 (Nat.le_of_ble_eq_true rfl) ⟨Nat.zero_le _, Nat.zero_le _⟩ dX10_resize_39 rfl rfl (fun H locs (hP : va_P D vwCl (MX10 cI cZ cL cW a0 a1 a2 a3 a4 a5 a6 k_thrown_1 k_w_17 k_o k_isKept k_went_18 k_wentMany_19 k_waiting_20 k_came_21 k_depth_22 k_isSilent k_x k_packed k_hits k_rues k_soonest k_inAll) H) (hD : va_D A (MX10 cI cZ cL cW a0 a1 a2 a3 a4 a5 a6 k_thrown_1 k_w_17 k_o k_isKept k_went_18 k_wentMany_19 k_waiting_20 k_came_21 k_depth_22 k_isSilent k_x k_packed k_hits k_rues k_soonest k_inAll)) hS => ?_)
      cases hf
      exact rw_i C hr hlk hP hD hS dX10_resize_42 rfl
    · have hf := it_n hf c24
      refine lv_bipush (v := (-3)) hx hb dX10_resize_28 (by decide) ?_
      refine lv_goto (tgt := 42) hx hb dX10_resize_30 (by decide) ?_
      cases hf
      exact rw_i C hr hlk hP hD hS dX10_resize_42 rfl
  · have hf := it_p hf c25
    refine lv_bipush (v := (-2)) hx hb dX10_resize_16 (by decide) ?_
    cases hf
    exact rw_i C hr hlk hP hD hS dX10_resize_18 rfl
def X10_way (F : Nat) (p1 : Int32) (k_thrown : Int32) (k_w : (Nat → Int32)) : Option (Int32 × Int32 × (Nat → Int32)) := (X10_isIn F p1.toInt64 0 4).bind fun r1 => (if (r1 : Int32) = 0 then (some ((-2), 0, k_w)) else (some ((k_w (Int32.toNatClampNeg 2)), 0, (upd k_w (Int32.toNatClampNeg 2) p1))))
abbrev rm_X10_way : Room := { frames := 1, cells := 0, slots := 0, locals := 25 }
theorem ok_X10_way : OKV RX10 yX10_way cX10_way 3 (some .int) 1 := ⟨by decide +kernel, qV_X10_way, qL_X10_way, qI_X10, qD_X10_way⟩
set_option maxHeartbeats 4000000 in
set_option maxRecDepth 100000 in
theorem c_X10_way (l : Launch) (D : va_G) (cI cZ cL cW : ClassId) (F : Nat) (a0 : Nat) (a1 : Nat) (a2 : Nat) (a3 : Nat) (a4 : Nat) (a5 : Nat) (a6 : Nat) (k_thrown : Int32) (k_w : (Nat → Int32)) (k_o : Int32) (k_isKept : (Nat → Int32)) (k_went : (Nat → Int32)) (k_wentMany : Int32) (k_waiting : (Nat → Int32)) (k_came : Int32) (k_depth : Int32) (k_isSilent : Int32) (k_x : Int64) (k_packed : (Nat → Int32)) (k_hits : Int32) (k_rues : Int32) (k_soonest : Int32) (k_inAll : (Nat → Int32)) (p1 : Int32) (r : Int32) (k_thrown' : Int32) (k_w' : (Nat → Int32)) (hf : X10_way F p1 k_thrown k_w = some (r, k_thrown', k_w')) : CtrW l D (tyL cI cZ cL cW) nestW yX10_way cX10_way 3 (some .int) rm_X10_way [.ref a0, .int p1] (MX10 cI cZ cL cW a0 a1 a2 a3 a4 a5 a6 k_thrown k_w k_o k_isKept k_went k_wentMany k_waiting k_came k_depth k_isSilent k_x k_packed k_hits k_rues k_soonest k_inAll) (MX10 cI cZ cL cW a0 a1 a2 a3 a4 a5 a6 (k_thrown') (k_w') k_o k_isKept k_went k_wentMany k_waiting k_came k_depth k_isSilent k_x k_packed k_hits k_rues k_soonest k_inAll) (some (.int r)) := by
  refine ofA RX10 (by decide) rfl (Nat.le_of_ble_eq_true rfl) ?_
  intro p e s m below meth c ls A C hr hlk hE hA hP hD hS hl
  generalize (List.toArray ([.ref a0, .int p1] : List Value)) = args at C ⊢
  obtain ⟨hx, hb, hml, hown, ht⟩ := id C
  have hl : lv_has ls 3 [(0, .ref a0), (1, .int p1)] := hl
  refine lv_aload_n hx hb dX10_way_0 rfl (lv_at hl 0 rfl) ?_
  refine lv_iconst (v := 0) hx hb dX10_way_1 (by decide) ?_
  refine pf_X10 (v := .int 0) C hE hP hD hS 0 0 rfl (by decide) qF_X10_1 rfl rfl rfl (Nat.le_of_ble_eq_true rfl) dX10_way_2 (fun H locs (hP : va_P D vwCl (MX10 cI cZ cL cW a0 a1 a2 a3 a4 a5 a6 0 k_w k_o k_isKept k_went k_wentMany k_waiting k_came k_depth k_isSilent k_x k_packed k_hits k_rues k_soonest k_inAll) H) (hD : va_D A (MX10 cI cZ cL cW a0 a1 a2 a3 a4 a5 a6 0 k_w k_o k_isKept k_went k_wentMany k_waiting k_came k_depth k_isSilent k_x k_packed k_hits k_rues k_soonest k_inAll)) hS => ?_)
  refine lv_iload_n hx hb dX10_way_5 rfl (lv_at hl 1 rfl) ?_
  refine lv_i2l hx hb dX10_way_6 rfl ?_
  refine lv_lconst (v := 0) hx hb dX10_way_7 (by decide) ?_
  refine lv_ldc2 (v := 4) hx hb hown (ht _ qJ_X10_209) dX10_way_8 ?_
  obtain ⟨r1, h2, hf⟩ := bd_s hf
  refine is_R (rest := []) (st1 := [.int r1]) C hE va_P_nil (c_X10_isIn l D cI cZ cL cW F   p1.toInt64 0 4 r1  h2) ok_X10_isIn qM_X10_49 rfl rfl ⟨(Nat.le_of_ble_eq_true rfl), (Nat.le_of_ble_eq_true rfl)⟩ hl.1 (Nat.le_of_ble_eq_true rfl) ⟨Nat.zero_le _, Nat.zero_le _⟩ dX10_way_11 rfl rfl ?_
  refine lv_if_ne (tgt := 20) hx hb dX10_way_14 (by decide) (fun c3 => ?_) (fun c3 => ?_)
  · have hf := it_n hf c3
    refine lv_aload_n hx hb dX10_way_20 rfl (lv_at hl 0 rfl) ?_
    refine gf_X10 (v := .ref a1) C hE hP 0 1 rfl (by decide) qF_X10_17 rfl dX10_way_21 ?_
    refine lv_iconst (v := 2) hx hb dX10_way_24 (by decide) ?_
    refine va_iald hx hb hE.1 hP 1 0 rfl rfl (vp_l (by decide)) dX10_way_25 ?_
    refine lv_istore_n (lv' := [(2, .int (k_w (Int32.toNatClampNeg 2))), (0, .ref a0), (1, .int p1)]) hx hb dX10_way_26 rfl hl (by decide) rfl (fun ls hl => ?_)
    refine lv_aload_n hx hb dX10_way_27 rfl (lv_at hl 1 rfl) ?_
    refine gf_X10 (v := .ref a1) C hE hP 0 1 rfl (by decide) qF_X10_17 rfl dX10_way_28 ?_
    refine lv_iconst (v := 2) hx hb dX10_way_31 (by decide) ?_
    refine lv_iload_n hx hb dX10_way_32 rfl (lv_at hl 2 rfl) ?_
    refine va_iast hx hb hE.1 hP hD hS 1 0 rfl rfl (vp_l (by decide)) dX10_way_33 (fun H locs (hP : va_P D vwCl (MX10 cI cZ cL cW a0 a1 a2 a3 a4 a5 a6 0 (upd k_w (Int32.toNatClampNeg 2) p1) k_o k_isKept k_went k_wentMany k_waiting k_came k_depth k_isSilent k_x k_packed k_hits k_rues k_soonest k_inAll) H) (hD : va_D A (MX10 cI cZ cL cW a0 a1 a2 a3 a4 a5 a6 0 (upd k_w (Int32.toNatClampNeg 2) p1) k_o k_isKept k_went k_wentMany k_waiting k_came k_depth k_isSilent k_x k_packed k_hits k_rues k_soonest k_inAll)) hS => ?_)
    refine lv_iload_n hx hb dX10_way_34 rfl (lv_at hl 0 rfl) ?_
    cases hf
    exact rw_i C hr hlk hP hD hS dX10_way_35 rfl
  · have hf := it_p hf c3
    refine lv_bipush (v := (-2)) hx hb dX10_way_17 (by decide) ?_
    cases hf
    exact rw_i C hr hlk hP hD hS dX10_way_19 rfl
def X10_aging (F : Nat) (p1 : Int32) (k_thrown : Int32) (k_w : (Nat → Int32)) : Option (Int32 × Int32 × (Nat → Int32)) := (X10_isIn F p1.toInt64 1 999).bind fun r1 => (if (r1 : Int32) = 0 then (some ((-2), 0, k_w)) else (some ((k_w (Int32.toNatClampNeg 6)), 0, (upd k_w (Int32.toNatClampNeg 6) p1))))
abbrev rm_X10_aging : Room := { frames := 1, cells := 0, slots := 0, locals := 25 }
theorem ok_X10_aging : OKV RX10 yX10_aging cX10_aging 3 (some .int) 1 := ⟨by decide +kernel, qV_X10_aging, qL_X10_aging, qI_X10, qD_X10_aging⟩
set_option maxHeartbeats 4000000 in
set_option maxRecDepth 100000 in
theorem c_X10_aging (l : Launch) (D : va_G) (cI cZ cL cW : ClassId) (F : Nat) (a0 : Nat) (a1 : Nat) (a2 : Nat) (a3 : Nat) (a4 : Nat) (a5 : Nat) (a6 : Nat) (k_thrown : Int32) (k_w : (Nat → Int32)) (k_o : Int32) (k_isKept : (Nat → Int32)) (k_went : (Nat → Int32)) (k_wentMany : Int32) (k_waiting : (Nat → Int32)) (k_came : Int32) (k_depth : Int32) (k_isSilent : Int32) (k_x : Int64) (k_packed : (Nat → Int32)) (k_hits : Int32) (k_rues : Int32) (k_soonest : Int32) (k_inAll : (Nat → Int32)) (p1 : Int32) (r : Int32) (k_thrown' : Int32) (k_w' : (Nat → Int32)) (hf : X10_aging F p1 k_thrown k_w = some (r, k_thrown', k_w')) : CtrW l D (tyL cI cZ cL cW) nestW yX10_aging cX10_aging 3 (some .int) rm_X10_aging [.ref a0, .int p1] (MX10 cI cZ cL cW a0 a1 a2 a3 a4 a5 a6 k_thrown k_w k_o k_isKept k_went k_wentMany k_waiting k_came k_depth k_isSilent k_x k_packed k_hits k_rues k_soonest k_inAll) (MX10 cI cZ cL cW a0 a1 a2 a3 a4 a5 a6 (k_thrown') (k_w') k_o k_isKept k_went k_wentMany k_waiting k_came k_depth k_isSilent k_x k_packed k_hits k_rues k_soonest k_inAll) (some (.int r)) := by
  refine ofA RX10 (by decide) rfl (Nat.le_of_ble_eq_true rfl) ?_
  intro p e s m below meth c ls A C hr hlk hE hA hP hD hS hl
  generalize (List.toArray ([.ref a0, .int p1] : List Value)) = args at C ⊢
  obtain ⟨hx, hb, hml, hown, ht⟩ := id C
  have hl : lv_has ls 3 [(0, .ref a0), (1, .int p1)] := hl
  refine lv_aload_n hx hb dX10_aging_0 rfl (lv_at hl 0 rfl) ?_
  refine lv_iconst (v := 0) hx hb dX10_aging_1 (by decide) ?_
  refine pf_X10 (v := .int 0) C hE hP hD hS 0 0 rfl (by decide) qF_X10_1 rfl rfl rfl (Nat.le_of_ble_eq_true rfl) dX10_aging_2 (fun H locs (hP : va_P D vwCl (MX10 cI cZ cL cW a0 a1 a2 a3 a4 a5 a6 0 k_w k_o k_isKept k_went k_wentMany k_waiting k_came k_depth k_isSilent k_x k_packed k_hits k_rues k_soonest k_inAll) H) (hD : va_D A (MX10 cI cZ cL cW a0 a1 a2 a3 a4 a5 a6 0 k_w k_o k_isKept k_went k_wentMany k_waiting k_came k_depth k_isSilent k_x k_packed k_hits k_rues k_soonest k_inAll)) hS => ?_)
  refine lv_iload_n hx hb dX10_aging_5 rfl (lv_at hl 1 rfl) ?_
  refine lv_i2l hx hb dX10_aging_6 rfl ?_
  refine lv_lconst (v := 1) hx hb dX10_aging_7 (by decide) ?_
  refine lv_ldc2 (v := 999) hx hb hown (ht _ qJ_X10_47) dX10_aging_8 ?_
  obtain ⟨r1, h2, hf⟩ := bd_s hf
  refine is_R (rest := []) (st1 := [.int r1]) C hE va_P_nil (c_X10_isIn l D cI cZ cL cW F   p1.toInt64 1 999 r1  h2) ok_X10_isIn qM_X10_49 rfl rfl ⟨(Nat.le_of_ble_eq_true rfl), (Nat.le_of_ble_eq_true rfl)⟩ hl.1 (Nat.le_of_ble_eq_true rfl) ⟨Nat.zero_le _, Nat.zero_le _⟩ dX10_aging_11 rfl rfl ?_
  refine lv_if_ne (tgt := 20) hx hb dX10_aging_14 (by decide) (fun c3 => ?_) (fun c3 => ?_)
  · have hf := it_n hf c3
    refine lv_aload_n hx hb dX10_aging_20 rfl (lv_at hl 0 rfl) ?_
    refine gf_X10 (v := .ref a1) C hE hP 0 1 rfl (by decide) qF_X10_17 rfl dX10_aging_21 ?_
    refine lv_bipush (v := 6) hx hb dX10_aging_24 (by decide) ?_
    refine va_iald hx hb hE.1 hP 1 0 rfl rfl (vp_l (by decide)) dX10_aging_26 ?_
    refine lv_istore_n (lv' := [(2, .int (k_w (Int32.toNatClampNeg 6))), (0, .ref a0), (1, .int p1)]) hx hb dX10_aging_27 rfl hl (by decide) rfl (fun ls hl => ?_)
    refine lv_aload_n hx hb dX10_aging_28 rfl (lv_at hl 1 rfl) ?_
    refine gf_X10 (v := .ref a1) C hE hP 0 1 rfl (by decide) qF_X10_17 rfl dX10_aging_29 ?_
    refine lv_bipush (v := 6) hx hb dX10_aging_32 (by decide) ?_
    refine lv_iload_n hx hb dX10_aging_34 rfl (lv_at hl 2 rfl) ?_
    refine va_iast hx hb hE.1 hP hD hS 1 0 rfl rfl (vp_l (by decide)) dX10_aging_35 (fun H locs (hP : va_P D vwCl (MX10 cI cZ cL cW a0 a1 a2 a3 a4 a5 a6 0 (upd k_w (Int32.toNatClampNeg 6) p1) k_o k_isKept k_went k_wentMany k_waiting k_came k_depth k_isSilent k_x k_packed k_hits k_rues k_soonest k_inAll) H) (hD : va_D A (MX10 cI cZ cL cW a0 a1 a2 a3 a4 a5 a6 0 (upd k_w (Int32.toNatClampNeg 6) p1) k_o k_isKept k_went k_wentMany k_waiting k_came k_depth k_isSilent k_x k_packed k_hits k_rues k_soonest k_inAll)) hS => ?_)
    refine lv_iload_n hx hb dX10_aging_36 rfl (lv_at hl 0 rfl) ?_
    cases hf
    exact rw_i C hr hlk hP hD hS dX10_aging_37 rfl
  · have hf := it_p hf c3
    refine lv_bipush (v := (-2)) hx hb dX10_aging_17 (by decide) ?_
    cases hf
    exact rw_i C hr hlk hP hD hS dX10_aging_19 rfl
def X10_firstOver_L4 (F : Nat) : Nat → Int32 → Int32 → (Nat → Int32) → Int32 → Option (Int32)
  | 0, _, _, _, _ => none
  | n + 1, v1, v2, k_w, k_o => if ((k_w (Int32.toNatClampNeg 0)) : Int32) ≤ v2 then (some v1) else ((X10_of F v2 5 k_w k_o).bind fun r1 => (if (r1 : Int32) = (-1) then (X10_firstOver_L4 F n v1 (v2 + 1) k_w k_o) else ((X10_of F v2 5 k_w k_o).bind fun r3 => (if (r3 : Int32) ≤ (k_w (Int32.toNatClampNeg 5)) then (if (v1 : Int32) = (-1) then (X10_firstOver_L4 F n v2 (v2 + 1) k_w k_o) else ((X10_isAhead F 0 v2 v1 k_w k_o).bind fun r5 => (if (r5 : Int32) = 0 then (X10_firstOver_L4 F n v1 (v2 + 1) k_w k_o) else (X10_firstOver_L4 F n v2 (v2 + 1) k_w k_o)))) else (X10_firstOver_L4 F n v1 (v2 + 1) k_w k_o)))))
def X10_firstOver (F : Nat) (k_w : (Nat → Int32)) (k_o : Int32) : Option (Int32) := (X10_firstOver_L4 F F (-1) 0 k_w k_o).bind fun x12 => (some x12)
abbrev rm_X10_firstOver : Room := { frames := 2, cells := 0, slots := 0, locals := 45 }
theorem ok_X10_firstOver : OKV RX10 yX10_firstOver cX10_firstOver 3 (some .int) 0 := ⟨by decide +kernel, qV_X10_firstOver, qL_X10_firstOver, qI_X10, qD_X10_firstOver⟩
set_option maxHeartbeats 4000000 in
set_option maxRecDepth 100000 in
theorem c_X10_firstOver (l : Launch) (D : va_G) (cI cZ cL cW : ClassId) (F : Nat) (a0 : Nat) (a1 : Nat) (a2 : Nat) (a3 : Nat) (a4 : Nat) (a5 : Nat) (a6 : Nat) (k_thrown : Int32) (k_w : (Nat → Int32)) (k_o : Int32) (k_isKept : (Nat → Int32)) (k_went : (Nat → Int32)) (k_wentMany : Int32) (k_waiting : (Nat → Int32)) (k_came : Int32) (k_depth : Int32) (k_isSilent : Int32) (k_x : Int64) (k_packed : (Nat → Int32)) (k_hits : Int32) (k_rues : Int32) (k_soonest : Int32) (k_inAll : (Nat → Int32)) (r : Int32) (hf : X10_firstOver F k_w k_o = some r) : CtrR l D (tyL cI cZ cL cW) nestW yX10_firstOver cX10_firstOver 3 (some .int) rm_X10_firstOver [.ref a0] (MX10 cI cZ cL cW a0 a1 a2 a3 a4 a5 a6 k_thrown k_w k_o k_isKept k_went k_wentMany k_waiting k_came k_depth k_isSilent k_x k_packed k_hits k_rues k_soonest k_inAll) (some (.int r)) := by
  refine ofR RX10 (by decide) rfl (Nat.le_of_ble_eq_true rfl) ?_
  intro p e s m below meth c ls C hr hlk hE hP hl
  generalize (List.toArray ([.ref a0] : List Value)) = args at C ⊢
  obtain ⟨hx, hb, hml, hown, ht⟩ := id C
  have hl : lv_has ls 3 [(0, .ref a0)] := hl
  have L4 : ∀ (Q : State → Prop) (n : Nat) (v1 : Int32) (v2 : Int32) (x1 : Int32) (ls : Array Slot), X10_firstOver_L4 F n v1 v2 k_w k_o = some x1 → lv_has ls 3 [(0, .ref a0), (1, .int v1), (2, .int v2)] → (∀ ls : Array Slot, lv_has ls 3 [(1, .int x1)] → W p l e rm_X10_firstOver s m args below meth c s.heap [] 0 0 Q (F0 m 65 ls [])) → W p l e rm_X10_firstOver s m args below meth c s.heap [] 0 0 Q (F0 m 4 ls []) := by
    intro Q n
    induction n with
    | zero => intro v1 v2 x1 ls hf hl hk; exact nn_s hf
    | succ n ih =>
      intro v1 v2 x1 ls hf hl hk
      refine lv_iload_n hx hb dX10_firstOver_4 rfl (lv_at hl 2 rfl) ?_
      refine lv_aload_n hx hb dX10_firstOver_5 rfl (lv_at hl 0 rfl) ?_
      refine gf_X10 (v := .ref a1) C hE hP 0 1 rfl (by decide) qF_X10_17 rfl dX10_firstOver_6 ?_
      refine lv_iconst (v := 0) hx hb dX10_firstOver_9 (by decide) ?_
      refine va_iald hx hb hE.1 hP 1 0 rfl rfl (vp_l (by decide)) dX10_firstOver_10 ?_
      refine lv_icmp_ge (tgt := 65) hx hb dX10_firstOver_11 (by decide) (fun c11 => ?_) (fun c11 => ?_)
      · have hf := it_p hf c11
        cases hf
        exact hk ls (lv_sub hl [1] rfl)
      · have hf := it_n hf c11
        refine lv_aload_n hx hb dX10_firstOver_14 rfl (lv_at hl 0 rfl) ?_
        refine lv_iload_n hx hb dX10_firstOver_15 rfl (lv_at hl 2 rfl) ?_
        refine lv_iconst (v := 5) hx hb dX10_firstOver_16 (by decide) ?_
        obtain ⟨r1, h2, hf⟩ := bd_s hf
        refine iv_R (rest := []) (st1 := [.int r1]) C hE hP (c_X10_of l D cI cZ cL cW F a0 a1 a2 a3 a4 a5 a6 k_thrown k_w k_o k_isKept k_went k_wentMany k_waiting k_came k_depth k_isSilent k_x k_packed k_hits k_rues k_soonest k_inAll v2 5 r1  h2) ok_X10_of qM_X10_44 rfl rfl ⟨(Nat.le_of_ble_eq_true rfl), (Nat.le_of_ble_eq_true rfl)⟩ rfl rfl hl.1 (Nat.le_of_ble_eq_true rfl) ⟨Nat.zero_le _, Nat.zero_le _⟩ dX10_firstOver_17 rfl rfl ?_
        refine lv_iconst (v := (-1)) hx hb dX10_firstOver_20 (by decide) ?_
        refine lv_icmp_eq (tgt := 59) hx hb dX10_firstOver_21 (by decide) (fun c10 => ?_) (fun c10 => ?_)
        · have hf := it_p hf c10
          refine lv_iinc (v := (v2 + 1)) (lv' := [(2, .int (v2 + 1)), (0, .ref a0), (1, .int v1)]) hx hb dX10_firstOver_59 hl (k := 2) rfl rfl (by decide) rfl (fun ls hl => ?_)
          refine lv_goto (tgt := 4) hx hb dX10_firstOver_62 (by decide) ?_
          exact ih v1 (v2 + 1) _ ls hf (lv_sub hl [1, 2, 0] rfl) hk
        · have hf := it_n hf c10
          refine lv_aload_n hx hb dX10_firstOver_24 rfl (lv_at hl 0 rfl) ?_
          refine lv_iload_n hx hb dX10_firstOver_25 rfl (lv_at hl 2 rfl) ?_
          refine lv_iconst (v := 5) hx hb dX10_firstOver_26 (by decide) ?_
          obtain ⟨r3, h4, hf⟩ := bd_s hf
          refine iv_R (rest := []) (st1 := [.int r3]) C hE hP (c_X10_of l D cI cZ cL cW F a0 a1 a2 a3 a4 a5 a6 k_thrown k_w k_o k_isKept k_went k_wentMany k_waiting k_came k_depth k_isSilent k_x k_packed k_hits k_rues k_soonest k_inAll v2 5 r3  h4) ok_X10_of qM_X10_44 rfl rfl ⟨(Nat.le_of_ble_eq_true rfl), (Nat.le_of_ble_eq_true rfl)⟩ rfl rfl hl.1 (Nat.le_of_ble_eq_true rfl) ⟨Nat.zero_le _, Nat.zero_le _⟩ dX10_firstOver_27 rfl rfl ?_
          refine lv_aload_n hx hb dX10_firstOver_30 rfl (lv_at hl 0 rfl) ?_
          refine gf_X10 (v := .ref a1) C hE hP 0 1 rfl (by decide) qF_X10_17 rfl dX10_firstOver_31 ?_
          refine lv_iconst (v := 5) hx hb dX10_firstOver_34 (by decide) ?_
          refine va_iald hx hb hE.1 hP 1 0 rfl rfl (vp_l (by decide)) dX10_firstOver_35 ?_
          refine lv_icmp_le (tgt := 42) hx hb dX10_firstOver_36 (by decide) (fun c9 => ?_) (fun c9 => ?_)
          · have hf := it_p hf c9
            refine lv_iload_n hx hb dX10_firstOver_42 rfl (lv_at hl 1 rfl) ?_
            refine lv_iconst (v := (-1)) hx hb dX10_firstOver_43 (by decide) ?_
            refine lv_icmp_eq (tgt := 57) hx hb dX10_firstOver_44 (by decide) (fun c8 => ?_) (fun c8 => ?_)
            · have hf := it_p hf c8
              refine lv_iload_n hx hb dX10_firstOver_57 rfl (lv_at hl 2 rfl) ?_
              refine lv_istore_n (lv' := [(1, .int v2), (0, .ref a0), (2, .int v2)]) hx hb dX10_firstOver_58 rfl hl (by decide) rfl (fun ls hl => ?_)
              refine lv_iinc (v := (v2 + 1)) (lv' := [(2, .int (v2 + 1)), (1, .int v2), (0, .ref a0)]) hx hb dX10_firstOver_59 hl (k := 2) rfl rfl (by decide) rfl (fun ls hl => ?_)
              refine lv_goto (tgt := 4) hx hb dX10_firstOver_62 (by decide) ?_
              exact ih v2 (v2 + 1) _ ls hf (lv_sub hl [2, 1, 0] rfl) hk
            · have hf := it_n hf c8
              refine lv_aload_n hx hb dX10_firstOver_47 rfl (lv_at hl 0 rfl) ?_
              refine lv_iconst (v := 0) hx hb dX10_firstOver_48 (by decide) ?_
              refine lv_iload_n hx hb dX10_firstOver_49 rfl (lv_at hl 2 rfl) ?_
              refine lv_iload_n hx hb dX10_firstOver_50 rfl (lv_at hl 1 rfl) ?_
              obtain ⟨r5, h6, hf⟩ := bd_s hf
              refine iv_R (rest := []) (st1 := [.int r5]) C hE hP (c_X10_isAhead l D cI cZ cL cW F a0 a1 a2 a3 a4 a5 a6 k_thrown k_w k_o k_isKept k_went k_wentMany k_waiting k_came k_depth k_isSilent k_x k_packed k_hits k_rues k_soonest k_inAll 0 v2 v1 r5  h6) ok_X10_isAhead qM_X10_53 rfl rfl ⟨(Nat.le_of_ble_eq_true rfl), (Nat.le_of_ble_eq_true rfl)⟩ rfl rfl hl.1 (Nat.le_of_ble_eq_true rfl) ⟨Nat.zero_le _, Nat.zero_le _⟩ dX10_firstOver_51 rfl rfl ?_
              refine lv_if_eq (tgt := 59) hx hb dX10_firstOver_54 (by decide) (fun c7 => ?_) (fun c7 => ?_)
              · have hf := it_p hf c7
                refine lv_iinc (v := (v2 + 1)) (lv' := [(2, .int (v2 + 1)), (0, .ref a0), (1, .int v1)]) hx hb dX10_firstOver_59 hl (k := 2) rfl rfl (by decide) rfl (fun ls hl => ?_)
                refine lv_goto (tgt := 4) hx hb dX10_firstOver_62 (by decide) ?_
                exact ih v1 (v2 + 1) _ ls hf (lv_sub hl [1, 2, 0] rfl) hk
              · have hf := it_n hf c7
                refine lv_iload_n hx hb dX10_firstOver_57 rfl (lv_at hl 2 rfl) ?_
                refine lv_istore_n (lv' := [(1, .int v2), (0, .ref a0), (2, .int v2)]) hx hb dX10_firstOver_58 rfl hl (by decide) rfl (fun ls hl => ?_)
                refine lv_iinc (v := (v2 + 1)) (lv' := [(2, .int (v2 + 1)), (1, .int v2), (0, .ref a0)]) hx hb dX10_firstOver_59 hl (k := 2) rfl rfl (by decide) rfl (fun ls hl => ?_)
                refine lv_goto (tgt := 4) hx hb dX10_firstOver_62 (by decide) ?_
                exact ih v2 (v2 + 1) _ ls hf (lv_sub hl [2, 1, 0] rfl) hk
          · have hf := it_n hf c9
            refine lv_goto (tgt := 59) hx hb dX10_firstOver_39 (by decide) ?_
            refine lv_iinc (v := (v2 + 1)) (lv' := [(2, .int (v2 + 1)), (0, .ref a0), (1, .int v1)]) hx hb dX10_firstOver_59 hl (k := 2) rfl rfl (by decide) rfl (fun ls hl => ?_)
            refine lv_goto (tgt := 4) hx hb dX10_firstOver_62 (by decide) ?_
            exact ih v1 (v2 + 1) _ ls hf (lv_sub hl [1, 2, 0] rfl) hk
  refine lv_iconst (v := (-1)) hx hb dX10_firstOver_0 (by decide) ?_
  refine lv_istore_n (lv' := [(1, .int (-1)), (0, .ref a0)]) hx hb dX10_firstOver_1 rfl hl (by decide) rfl (fun ls hl => ?_)
  refine lv_iconst (v := 0) hx hb dX10_firstOver_2 (by decide) ?_
  refine lv_istore_n (lv' := [(2, .int 0), (1, .int (-1)), (0, .ref a0)]) hx hb dX10_firstOver_3 rfl hl (by decide) rfl (fun ls hl => ?_)
  obtain ⟨x12, h13, hf⟩ := bd_s hf
  refine L4 _ F (-1) 0 x12 ls h13 (lv_sub hl [2, 1, 0] rfl) (fun ls hl => ?_)
  refine lv_iload_n hx hb dX10_firstOver_65 rfl (lv_at hl 0 rfl) ?_
  exact rt_i C hr hlk dX10_firstOver_66 (congrArg (fun o => o.map Value.int) hf)
def X10_tick_L44 (F : Nat) : Nat → Int32 → Int32 → Int32 → Int32 → (Nat → Int32) → Int32 → (Nat → Int32) → Int32 → Int32 → Int32 → Option (Int32 × (Nat → Int32) × (Nat → Int32) × Int32)
  | 0, _, _, _, _, _, _, _, _, _, _ => none
  | n + 1, v1, v2, v3, v4, k_w, k_o, k_waiting, k_came, k_depth, k_isSilent => if (v4 : Int32) = (-1) then (some (v2, k_w, k_waiting, k_came)) else ((X10_of F v4 0 k_w k_o).bind fun r9 => ((X10_of F v4 1 k_w k_o).bind fun r11 => ((X10_of F v4 2 k_w k_o).bind fun r13 => ((X10_tells F 3 r9 r11 r13 k_waiting k_came k_depth k_isSilent).bind fun (k_waiting_15, k_came_16) => ((X10_goes F v4 k_w k_o).bind fun k_w_18 => ((X10_firstOver F k_w_18 k_o).bind fun r20 => (X10_tick_L44 F n v1 (v2 + 1) v3 r20 k_w_18 k_o k_waiting_15 k_came_16 k_depth k_isSilent)))))))
def X10_tick_L23 (F : Nat) : Nat → Int32 → Int32 → Int32 → (Nat → Int32) → Int32 → (Nat → Int32) → Int32 → Int32 → Int32 → Option (Int32 × (Nat → Int32) × (Nat → Int32) × Int32)
  | 0, _, _, _, _, _, _, _, _, _ => none
  | n + 1, v1, v2, v3, k_w, k_o, k_waiting, k_came, k_depth, k_isSilent => if (v1 : Int32) ≤ v3 then (some (v2, k_w, k_waiting, k_came)) else ((X10_firstOver F (upd k_w (Int32.toNatClampNeg 5) ((k_w (Int32.toNatClampNeg 5)) + 1)) k_o).bind fun r7 => ((X10_tick_L44 F F v1 v2 v3 r7 (upd k_w (Int32.toNatClampNeg 5) ((k_w (Int32.toNatClampNeg 5)) + 1)) k_o k_waiting k_came k_depth k_isSilent).bind fun (x23, k24, k25, k26) => (X10_tick_L23 F n v1 x23 (v3 + 1) k24 k_o k25 k26 k_depth k_isSilent)))
def X10_tick (F : Nat) (p1 : Int32) (k_thrown : Int32) (k_w : (Nat → Int32)) (k_o : Int32) (k_went : (Nat → Int32)) (k_wentMany : Int32) (k_waiting : (Nat → Int32)) (k_came : Int32) (k_depth : Int32) (k_isSilent : Int32) : Option (Int32 × Int32 × (Nat → Int32) × (Nat → Int32) × Int32 × (Nat → Int32) × Int32 × Int32) := (X10_call F k_thrown k_came k_depth).bind fun (k_thrown_1, k_came_2, k_depth_3) => ((X10_isIn F p1.toInt64 1 999).bind fun r5 => (if (r5 : Int32) = 0 then (some ((-2), k_thrown_1, k_w, k_went, k_wentMany, k_waiting, k_came_2, k_depth_3)) else ((X10_tick_L23 F F p1 0 0 k_w k_o k_waiting k_came_2 k_depth_3 k_isSilent).bind fun (x29, k30, k31, k32) => ((X10_done F x29 (upd k30 (Int32.toNatClampNeg 11) ((k30 (Int32.toNatClampNeg 11)) + x29)) k_o k_went k_wentMany k31 k32 k_depth_3 k_isSilent).bind fun (r34, k_w_35, k_went_36, k_wentMany_37, k_waiting_38, k_came_39, k_depth_40) => (some (r34, k_thrown_1, k_w_35, k_went_36, k_wentMany_37, k_waiting_38, k_came_39, k_depth_40))))))
abbrev rm_X10_tick : Room := { frames := 10, cells := 0, slots := 0, locals := 236 }
theorem ok_X10_tick : OKV RX10 yX10_tick cX10_tick 5 (some .int) 1 := ⟨by decide +kernel, qV_X10_tick, qL_X10_tick, qI_X10, qD_X10_tick⟩
set_option maxHeartbeats 4000000 in
set_option maxRecDepth 100000 in
theorem c_X10_tick (l : Launch) (D : va_G) (cI cZ cL cW : ClassId) (F : Nat) (a0 : Nat) (a1 : Nat) (a2 : Nat) (a3 : Nat) (a4 : Nat) (a5 : Nat) (a6 : Nat) (k_thrown : Int32) (k_w : (Nat → Int32)) (k_o : Int32) (k_isKept : (Nat → Int32)) (k_went : (Nat → Int32)) (k_wentMany : Int32) (k_waiting : (Nat → Int32)) (k_came : Int32) (k_depth : Int32) (k_isSilent : Int32) (k_x : Int64) (k_packed : (Nat → Int32)) (k_hits : Int32) (k_rues : Int32) (k_soonest : Int32) (k_inAll : (Nat → Int32)) (p1 : Int32) (r : Int32) (k_thrown' : Int32) (k_w' : (Nat → Int32)) (k_went' : (Nat → Int32)) (k_wentMany' : Int32) (k_waiting' : (Nat → Int32)) (k_came' : Int32) (k_depth' : Int32) (hf : X10_tick F p1 k_thrown k_w k_o k_went k_wentMany k_waiting k_came k_depth k_isSilent = some (r, k_thrown', k_w', k_went', k_wentMany', k_waiting', k_came', k_depth')) : CtrW l D (tyL cI cZ cL cW) nestW yX10_tick cX10_tick 5 (some .int) rm_X10_tick [.ref a0, .int p1] (MX10 cI cZ cL cW a0 a1 a2 a3 a4 a5 a6 k_thrown k_w k_o k_isKept k_went k_wentMany k_waiting k_came k_depth k_isSilent k_x k_packed k_hits k_rues k_soonest k_inAll) (MX10 cI cZ cL cW a0 a1 a2 a3 a4 a5 a6 (k_thrown') (k_w') k_o k_isKept (k_went') (k_wentMany') (k_waiting') (k_came') (k_depth') k_isSilent k_x k_packed k_hits k_rues k_soonest k_inAll) (some (.int r)) := by
  refine ofA RX10 (by decide) rfl (Nat.le_of_ble_eq_true rfl) ?_
  intro p e s m below meth c ls A C hr hlk hE hA hP hD hS hl
  generalize (List.toArray ([.ref a0, .int p1] : List Value)) = args at C ⊢
  obtain ⟨hx, hb, hml, hown, ht⟩ := id C
  have hl : lv_has ls 5 [(0, .ref a0), (1, .int p1)] := hl
  have L44 : ∀ (Q : State → Prop) (n : Nat) (v1 : Int32) (v2 : Int32) (v3 : Int32) (v4 : Int32) (k_thrown : Int32) (k_w : (Nat → Int32)) (k_o : Int32) (k_isKept : (Nat → Int32)) (k_went : (Nat → Int32)) (k_wentMany : Int32) (k_waiting : (Nat → Int32)) (k_came : Int32) (k_depth : Int32) (k_isSilent : Int32) (k_x : Int64) (k_packed : (Nat → Int32)) (k_hits : Int32) (k_rues : Int32) (k_soonest : Int32) (k_inAll : (Nat → Int32)) (x2 : Int32) (k_w' : (Nat → Int32)) (k_waiting' : (Nat → Int32)) (k_came' : Int32) (H : Heap) (locs : List Loc) (ls : Array Slot), X10_tick_L44 F n v1 v2 v3 v4 k_w k_o k_waiting k_came k_depth k_isSilent = some (x2, k_w', k_waiting', k_came') → va_P D vwCl (MX10 cI cZ cL cW a0 a1 a2 a3 a4 a5 a6 k_thrown k_w k_o k_isKept k_went k_wentMany k_waiting k_came k_depth k_isSilent k_x k_packed k_hits k_rues k_soonest k_inAll) H → va_D A (MX10 cI cZ cL cW a0 a1 a2 a3 a4 a5 a6 k_thrown k_w k_o k_isKept k_went k_wentMany k_waiting k_came k_depth k_isSilent k_x k_packed k_hits k_rues k_soonest k_inAll) → va_S A s.heap H locs → lv_has ls 5 [(0, .ref a0), (1, .int v1), (2, .int v2), (3, .int v3), (4, .int v4)] → (∀ (H : Heap) (locs : List Loc) (ls : Array Slot), va_P D vwCl (MX10 cI cZ cL cW a0 a1 a2 a3 a4 a5 a6 k_thrown (k_w') k_o k_isKept k_went k_wentMany (k_waiting') (k_came') k_depth k_isSilent k_x k_packed k_hits k_rues k_soonest k_inAll) H → va_D A (MX10 cI cZ cL cW a0 a1 a2 a3 a4 a5 a6 k_thrown (k_w') k_o k_isKept k_went k_wentMany (k_waiting') (k_came') k_depth k_isSilent k_x k_packed k_hits k_rues k_soonest k_inAll) → va_S A s.heap H locs → lv_has ls 5 [(0, .ref a0), (1, .int v1), (2, .int x2), (3, .int v3)] → W p l e rm_X10_tick s m args below meth c H locs 0 0 Q (F0 m 94 ls [])) → W p l e rm_X10_tick s m args below meth c H locs 0 0 Q (F0 m 44 ls []) := by
    intro Q n
    induction n with
    | zero => intro v1 v2 v3 v4 k_thrown k_w k_o k_isKept k_went k_wentMany k_waiting k_came k_depth k_isSilent k_x k_packed k_hits k_rues k_soonest k_inAll x2 k_w' k_waiting' k_came' H locs ls hf hP hD hS hl hk; exact nn_s hf
    | succ n ih =>
      intro v1 v2 v3 v4 k_thrown k_w k_o k_isKept k_went k_wentMany k_waiting k_came k_depth k_isSilent k_x k_packed k_hits k_rues k_soonest k_inAll x2 k_w' k_waiting' k_came' H locs ls hf hP hD hS hl hk
      refine lv_iload hx hb dX10_tick_44 (lv_at hl 4 rfl) ?_
      refine lv_iconst (v := (-1)) hx hb dX10_tick_46 (by decide) ?_
      refine lv_icmp_eq (tgt := 94) hx hb dX10_tick_47 (by decide) (fun c22 => ?_) (fun c22 => ?_)
      · have hf := it_p hf c22
        cases hf
        exact hk _ _ ls hP hD hS (lv_sub hl [0, 1, 2, 3] rfl)
      · have hf := it_n hf c22
        refine lv_aload_n hx hb dX10_tick_50 rfl (lv_at hl 0 rfl) ?_
        refine lv_iconst (v := 3) hx hb dX10_tick_51 (by decide) ?_
        refine lv_aload_n hx hb dX10_tick_52 rfl (lv_at hl 0 rfl) ?_
        refine lv_iload hx hb dX10_tick_53 (lv_at hl 4 rfl) ?_
        refine lv_iconst (v := 0) hx hb dX10_tick_55 (by decide) ?_
        obtain ⟨r9, h10, hf⟩ := bd_s hf
        refine iv_R (rest := [.int 3, .ref a0]) (st1 := [.int r9, .int 3, .ref a0]) C hE hP (c_X10_of l D cI cZ cL cW F a0 a1 a2 a3 a4 a5 a6 k_thrown k_w k_o k_isKept k_went k_wentMany k_waiting k_came k_depth k_isSilent k_x k_packed k_hits k_rues k_soonest k_inAll v4 0 r9  h10) ok_X10_of qM_X10_44 rfl rfl ⟨(Nat.le_of_ble_eq_true rfl), (Nat.le_of_ble_eq_true rfl)⟩ rfl rfl hl.1 (Nat.le_of_ble_eq_true rfl) ⟨Nat.zero_le _, Nat.zero_le _⟩ dX10_tick_56 rfl rfl ?_
        refine lv_aload_n hx hb dX10_tick_59 rfl (lv_at hl 0 rfl) ?_
        refine lv_iload hx hb dX10_tick_60 (lv_at hl 4 rfl) ?_
        refine lv_iconst (v := 1) hx hb dX10_tick_62 (by decide) ?_
        obtain ⟨r11, h12, hf⟩ := bd_s hf
        refine iv_R (rest := [.int r9, .int 3, .ref a0]) (st1 := [.int r11, .int r9, .int 3, .ref a0]) C hE hP (c_X10_of l D cI cZ cL cW F a0 a1 a2 a3 a4 a5 a6 k_thrown k_w k_o k_isKept k_went k_wentMany k_waiting k_came k_depth k_isSilent k_x k_packed k_hits k_rues k_soonest k_inAll v4 1 r11  h12) ok_X10_of qM_X10_44 rfl rfl ⟨(Nat.le_of_ble_eq_true rfl), (Nat.le_of_ble_eq_true rfl)⟩ rfl rfl hl.1 (Nat.le_of_ble_eq_true rfl) ⟨Nat.zero_le _, Nat.zero_le _⟩ dX10_tick_63 rfl rfl ?_
        refine lv_aload_n hx hb dX10_tick_66 rfl (lv_at hl 0 rfl) ?_
        refine lv_iload hx hb dX10_tick_67 (lv_at hl 4 rfl) ?_
        refine lv_iconst (v := 2) hx hb dX10_tick_69 (by decide) ?_
        obtain ⟨r13, h14, hf⟩ := bd_s hf
        refine iv_R (rest := [.int r11, .int r9, .int 3, .ref a0]) (st1 := [.int r13, .int r11, .int r9, .int 3, .ref a0]) C hE hP (c_X10_of l D cI cZ cL cW F a0 a1 a2 a3 a4 a5 a6 k_thrown k_w k_o k_isKept k_went k_wentMany k_waiting k_came k_depth k_isSilent k_x k_packed k_hits k_rues k_soonest k_inAll v4 2 r13  h14) ok_X10_of qM_X10_44 rfl rfl ⟨(Nat.le_of_ble_eq_true rfl), (Nat.le_of_ble_eq_true rfl)⟩ rfl rfl hl.1 (Nat.le_of_ble_eq_true rfl) ⟨Nat.zero_le _, Nat.zero_le _⟩ dX10_tick_70 rfl rfl ?_
        obtain ⟨⟨k_waiting_15, k_came_16⟩, h17, hf⟩ := bd_s hf
        refine iv_A (rest := []) (st1 := []) C hE hP hD hS hA (c_X10_tells l D cI cZ cL cW F a0 a1 a2 a3 a4 a5 a6 k_thrown k_w k_o k_isKept k_went k_wentMany k_waiting k_came k_depth k_isSilent k_x k_packed k_hits k_rues k_soonest k_inAll 3 r9 r11 r13  k_waiting_15 k_came_16 h17) ok_X10_tells qM_X10_91 rfl rfl ⟨(Nat.le_of_ble_eq_true rfl), (Nat.le_of_ble_eq_true rfl)⟩ rfl rfl hl.1 (Nat.le_of_ble_eq_true rfl) ⟨Nat.zero_le _, Nat.zero_le _⟩ dX10_tick_73 rfl rfl (fun H locs (hP : va_P D vwCl (MX10 cI cZ cL cW a0 a1 a2 a3 a4 a5 a6 k_thrown k_w k_o k_isKept k_went k_wentMany k_waiting_15 k_came_16 k_depth k_isSilent k_x k_packed k_hits k_rues k_soonest k_inAll) H) (hD : va_D A (MX10 cI cZ cL cW a0 a1 a2 a3 a4 a5 a6 k_thrown k_w k_o k_isKept k_went k_wentMany k_waiting_15 k_came_16 k_depth k_isSilent k_x k_packed k_hits k_rues k_soonest k_inAll)) hS => ?_)
        refine lv_aload_n hx hb dX10_tick_76 rfl (lv_at hl 0 rfl) ?_
        refine lv_iload hx hb dX10_tick_77 (lv_at hl 4 rfl) ?_
        obtain ⟨k_w_18, h19, hf⟩ := bd_s hf
        refine iv_A (rest := []) (st1 := []) C hE hP hD hS hA (c_X10_goes l D cI cZ cL cW F a0 a1 a2 a3 a4 a5 a6 k_thrown k_w k_o k_isKept k_went k_wentMany k_waiting_15 k_came_16 k_depth k_isSilent k_x k_packed k_hits k_rues k_soonest k_inAll v4  k_w_18 h19) ok_X10_goes qM_X10_101 rfl rfl ⟨(Nat.le_of_ble_eq_true rfl), (Nat.le_of_ble_eq_true rfl)⟩ rfl rfl hl.1 (Nat.le_of_ble_eq_true rfl) ⟨Nat.zero_le _, Nat.zero_le _⟩ dX10_tick_79 rfl rfl (fun H locs (hP : va_P D vwCl (MX10 cI cZ cL cW a0 a1 a2 a3 a4 a5 a6 k_thrown k_w_18 k_o k_isKept k_went k_wentMany k_waiting_15 k_came_16 k_depth k_isSilent k_x k_packed k_hits k_rues k_soonest k_inAll) H) (hD : va_D A (MX10 cI cZ cL cW a0 a1 a2 a3 a4 a5 a6 k_thrown k_w_18 k_o k_isKept k_went k_wentMany k_waiting_15 k_came_16 k_depth k_isSilent k_x k_packed k_hits k_rues k_soonest k_inAll)) hS => ?_)
        refine lv_iinc (v := (v2 + 1)) (lv' := [(2, .int (v2 + 1)), (0, .ref a0), (1, .int v1), (3, .int v3), (4, .int v4)]) hx hb dX10_tick_82 hl (k := 2) rfl rfl (by decide) rfl (fun ls hl => ?_)
        refine lv_aload_n hx hb dX10_tick_85 rfl (lv_at hl 1 rfl) ?_
        obtain ⟨r20, h21, hf⟩ := bd_s hf
        refine iv_R (rest := []) (st1 := [.int r20]) C hE hP (c_X10_firstOver l D cI cZ cL cW F a0 a1 a2 a3 a4 a5 a6 k_thrown k_w_18 k_o k_isKept k_went k_wentMany k_waiting_15 k_came_16 k_depth k_isSilent k_x k_packed k_hits k_rues k_soonest k_inAll  r20  h21) ok_X10_firstOver qM_X10_211 rfl rfl ⟨(Nat.le_of_ble_eq_true rfl), (Nat.le_of_ble_eq_true rfl)⟩ rfl rfl hl.1 (Nat.le_of_ble_eq_true rfl) ⟨Nat.zero_le _, Nat.zero_le _⟩ dX10_tick_86 rfl rfl ?_
        refine lv_istore (lv' := [(4, .int r20), (2, .int (v2 + 1)), (0, .ref a0), (1, .int v1), (3, .int v3)]) hx hb dX10_tick_89 hl (by decide) rfl (fun ls hl => ?_)
        refine lv_goto (tgt := 44) hx hb dX10_tick_91 (by decide) ?_
        exact ih v1 (v2 + 1) v3 r20 k_thrown k_w_18 k_o k_isKept k_went k_wentMany k_waiting_15 k_came_16 k_depth k_isSilent k_x k_packed k_hits k_rues k_soonest k_inAll _ _ _ _ _ _ ls hf hP hD hS (lv_sub hl [2, 3, 1, 4, 0] rfl) hk
  have L23 : ∀ (Q : State → Prop) (n : Nat) (v1 : Int32) (v2 : Int32) (v3 : Int32) (k_thrown : Int32) (k_w : (Nat → Int32)) (k_o : Int32) (k_isKept : (Nat → Int32)) (k_went : (Nat → Int32)) (k_wentMany : Int32) (k_waiting : (Nat → Int32)) (k_came : Int32) (k_depth : Int32) (k_isSilent : Int32) (k_x : Int64) (k_packed : (Nat → Int32)) (k_hits : Int32) (k_rues : Int32) (k_soonest : Int32) (k_inAll : (Nat → Int32)) (x2 : Int32) (k_w' : (Nat → Int32)) (k_waiting' : (Nat → Int32)) (k_came' : Int32) (H : Heap) (locs : List Loc) (ls : Array Slot), X10_tick_L23 F n v1 v2 v3 k_w k_o k_waiting k_came k_depth k_isSilent = some (x2, k_w', k_waiting', k_came') → va_P D vwCl (MX10 cI cZ cL cW a0 a1 a2 a3 a4 a5 a6 k_thrown k_w k_o k_isKept k_went k_wentMany k_waiting k_came k_depth k_isSilent k_x k_packed k_hits k_rues k_soonest k_inAll) H → va_D A (MX10 cI cZ cL cW a0 a1 a2 a3 a4 a5 a6 k_thrown k_w k_o k_isKept k_went k_wentMany k_waiting k_came k_depth k_isSilent k_x k_packed k_hits k_rues k_soonest k_inAll) → va_S A s.heap H locs → lv_has ls 5 [(0, .ref a0), (1, .int v1), (2, .int v2), (3, .int v3)] → (∀ (H : Heap) (locs : List Loc) (ls : Array Slot), va_P D vwCl (MX10 cI cZ cL cW a0 a1 a2 a3 a4 a5 a6 k_thrown (k_w') k_o k_isKept k_went k_wentMany (k_waiting') (k_came') k_depth k_isSilent k_x k_packed k_hits k_rues k_soonest k_inAll) H → va_D A (MX10 cI cZ cL cW a0 a1 a2 a3 a4 a5 a6 k_thrown (k_w') k_o k_isKept k_went k_wentMany (k_waiting') (k_came') k_depth k_isSilent k_x k_packed k_hits k_rues k_soonest k_inAll) → va_S A s.heap H locs → lv_has ls 5 [(0, .ref a0), (2, .int x2)] → W p l e rm_X10_tick s m args below meth c H locs 0 0 Q (F0 m 100 ls [])) → W p l e rm_X10_tick s m args below meth c H locs 0 0 Q (F0 m 23 ls []) := by
    intro Q n
    induction n with
    | zero => intro v1 v2 v3 k_thrown k_w k_o k_isKept k_went k_wentMany k_waiting k_came k_depth k_isSilent k_x k_packed k_hits k_rues k_soonest k_inAll x2 k_w' k_waiting' k_came' H locs ls hf hP hD hS hl hk; exact nn_s hf
    | succ n ih =>
      intro v1 v2 v3 k_thrown k_w k_o k_isKept k_went k_wentMany k_waiting k_came k_depth k_isSilent k_x k_packed k_hits k_rues k_soonest k_inAll x2 k_w' k_waiting' k_came' H locs ls hf hP hD hS hl hk
      refine lv_iload_n hx hb dX10_tick_23 rfl (lv_at hl 3 rfl) ?_
      refine lv_iload_n hx hb dX10_tick_24 rfl (lv_at hl 1 rfl) ?_
      refine lv_icmp_ge (tgt := 100) hx hb dX10_tick_25 (by decide) (fun c28 => ?_) (fun c28 => ?_)
      · have hf := it_p hf c28
        cases hf
        exact hk _ _ ls hP hD hS (lv_sub hl [0, 2] rfl)
      · have hf := it_n hf c28
        refine lv_aload_n hx hb dX10_tick_28 rfl (lv_at hl 0 rfl) ?_
        refine gf_X10 (v := .ref a1) C hE hP 0 1 rfl (by decide) qF_X10_17 rfl dX10_tick_29 ?_
        refine lv_iconst (v := 5) hx hb dX10_tick_32 (by decide) ?_
        refine lv_dup2_11 hx hb dX10_tick_33 rfl rfl ?_
        refine va_iald hx hb hE.1 hP 1 0 rfl rfl (vp_l (by decide)) dX10_tick_34 ?_
        refine lv_iconst (v := 1) hx hb dX10_tick_35 (by decide) ?_
        refine lv_iadd hx hb dX10_tick_36 ?_
        refine va_iast hx hb hE.1 hP hD hS 1 0 rfl rfl (vp_l (by decide)) dX10_tick_37 (fun H locs (hP : va_P D vwCl (MX10 cI cZ cL cW a0 a1 a2 a3 a4 a5 a6 k_thrown (upd k_w (Int32.toNatClampNeg 5) ((k_w (Int32.toNatClampNeg 5)) + 1)) k_o k_isKept k_went k_wentMany k_waiting k_came k_depth k_isSilent k_x k_packed k_hits k_rues k_soonest k_inAll) H) (hD : va_D A (MX10 cI cZ cL cW a0 a1 a2 a3 a4 a5 a6 k_thrown (upd k_w (Int32.toNatClampNeg 5) ((k_w (Int32.toNatClampNeg 5)) + 1)) k_o k_isKept k_went k_wentMany k_waiting k_came k_depth k_isSilent k_x k_packed k_hits k_rues k_soonest k_inAll)) hS => ?_)
        refine lv_aload_n hx hb dX10_tick_38 rfl (lv_at hl 0 rfl) ?_
        obtain ⟨r7, h8, hf⟩ := bd_s hf
        refine iv_R (rest := []) (st1 := [.int r7]) C hE hP (c_X10_firstOver l D cI cZ cL cW F a0 a1 a2 a3 a4 a5 a6 k_thrown (upd k_w (Int32.toNatClampNeg 5) ((k_w (Int32.toNatClampNeg 5)) + 1)) k_o k_isKept k_went k_wentMany k_waiting k_came k_depth k_isSilent k_x k_packed k_hits k_rues k_soonest k_inAll  r7  h8) ok_X10_firstOver qM_X10_211 rfl rfl ⟨(Nat.le_of_ble_eq_true rfl), (Nat.le_of_ble_eq_true rfl)⟩ rfl rfl hl.1 (Nat.le_of_ble_eq_true rfl) ⟨Nat.zero_le _, Nat.zero_le _⟩ dX10_tick_39 rfl rfl ?_
        refine lv_istore (lv' := [(4, .int r7), (0, .ref a0), (1, .int v1), (2, .int v2), (3, .int v3)]) hx hb dX10_tick_42 hl (by decide) rfl (fun ls hl => ?_)
        obtain ⟨⟨x23, k24, k25, k26⟩, h27, hf⟩ := bd_s hf
        refine L44 _ F v1 v2 v3 r7 k_thrown (upd k_w (Int32.toNatClampNeg 5) ((k_w (Int32.toNatClampNeg 5)) + 1)) k_o k_isKept k_went k_wentMany k_waiting k_came k_depth k_isSilent k_x k_packed k_hits k_rues k_soonest k_inAll x23 k24 k25 k26 _ _ ls h27 hP hD hS (lv_sub hl [1, 2, 3, 4, 0] rfl) (fun H locs ls hP hD hS hl => ?_)
        refine lv_iinc (v := (v3 + 1)) (lv' := [(3, .int (v3 + 1)), (0, .ref a0), (1, .int v1), (2, .int x23)]) hx hb dX10_tick_94 hl (k := 3) rfl rfl (by decide) rfl (fun ls hl => ?_)
        refine lv_goto (tgt := 23) hx hb dX10_tick_97 (by decide) ?_
        exact ih v1 x23 (v3 + 1) k_thrown k24 k_o k_isKept k_went k_wentMany k25 k26 k_depth k_isSilent k_x k_packed k_hits k_rues k_soonest k_inAll _ _ _ _ _ _ ls hf hP hD hS (lv_sub hl [1, 2, 3, 0] rfl) hk
  refine lv_aload_n hx hb dX10_tick_0 rfl (lv_at hl 0 rfl) ?_
  obtain ⟨⟨k_thrown_1, k_came_2, k_depth_3⟩, h4, hf⟩ := bd_s hf
  refine iv_A (rest := []) (st1 := []) C hE hP hD hS hA (c_X10_call l D cI cZ cL cW F a0 a1 a2 a3 a4 a5 a6 k_thrown k_w k_o k_isKept k_went k_wentMany k_waiting k_came k_depth k_isSilent k_x k_packed k_hits k_rues k_soonest k_inAll   k_thrown_1 k_came_2 k_depth_3 h4) ok_X10_call qM_X10_185 rfl rfl ⟨(Nat.le_of_ble_eq_true rfl), (Nat.le_of_ble_eq_true rfl)⟩ rfl rfl hl.1 (Nat.le_of_ble_eq_true rfl) ⟨Nat.zero_le _, Nat.zero_le _⟩ dX10_tick_1 rfl rfl (fun H locs (hP : va_P D vwCl (MX10 cI cZ cL cW a0 a1 a2 a3 a4 a5 a6 k_thrown_1 k_w k_o k_isKept k_went k_wentMany k_waiting k_came_2 k_depth_3 k_isSilent k_x k_packed k_hits k_rues k_soonest k_inAll) H) (hD : va_D A (MX10 cI cZ cL cW a0 a1 a2 a3 a4 a5 a6 k_thrown_1 k_w k_o k_isKept k_went k_wentMany k_waiting k_came_2 k_depth_3 k_isSilent k_x k_packed k_hits k_rues k_soonest k_inAll)) hS => ?_)
  refine lv_iload_n hx hb dX10_tick_4 rfl (lv_at hl 1 rfl) ?_
  refine lv_i2l hx hb dX10_tick_5 rfl ?_
  refine lv_lconst (v := 1) hx hb dX10_tick_6 (by decide) ?_
  refine lv_ldc2 (v := 999) hx hb hown (ht _ qJ_X10_47) dX10_tick_7 ?_
  obtain ⟨r5, h6, hf⟩ := bd_s hf
  refine is_R (rest := []) (st1 := [.int r5]) C hE va_P_nil (c_X10_isIn l D cI cZ cL cW F   p1.toInt64 1 999 r5  h6) ok_X10_isIn qM_X10_49 rfl rfl ⟨(Nat.le_of_ble_eq_true rfl), (Nat.le_of_ble_eq_true rfl)⟩ hl.1 (Nat.le_of_ble_eq_true rfl) ⟨Nat.zero_le _, Nat.zero_le _⟩ dX10_tick_10 rfl rfl ?_
  refine lv_if_ne (tgt := 19) hx hb dX10_tick_13 (by decide) (fun c42 => ?_) (fun c42 => ?_)
  · have hf := it_n hf c42
    refine lv_iconst (v := 0) hx hb dX10_tick_19 (by decide) ?_
    refine lv_istore_n (lv' := [(2, .int 0), (0, .ref a0), (1, .int p1)]) hx hb dX10_tick_20 rfl hl (by decide) rfl (fun ls hl => ?_)
    refine lv_iconst (v := 0) hx hb dX10_tick_21 (by decide) ?_
    refine lv_istore_n (lv' := [(3, .int 0), (2, .int 0), (0, .ref a0), (1, .int p1)]) hx hb dX10_tick_22 rfl hl (by decide) rfl (fun ls hl => ?_)
    obtain ⟨⟨x29, k30, k31, k32⟩, h33, hf⟩ := bd_s hf
    refine L23 _ F p1 0 0 k_thrown_1 k_w k_o k_isKept k_went k_wentMany k_waiting k_came_2 k_depth_3 k_isSilent k_x k_packed k_hits k_rues k_soonest k_inAll x29 k30 k31 k32 _ _ ls h33 hP hD hS (lv_sub hl [2, 3, 1, 0] rfl) (fun H locs ls hP hD hS hl => ?_)
    refine lv_aload_n hx hb dX10_tick_100 rfl (lv_at hl 0 rfl) ?_
    refine gf_X10 (v := .ref a1) C hE hP 0 1 rfl (by decide) qF_X10_17 rfl dX10_tick_101 ?_
    refine lv_bipush (v := 11) hx hb dX10_tick_104 (by decide) ?_
    refine lv_dup2_11 hx hb dX10_tick_106 rfl rfl ?_
    refine va_iald hx hb hE.1 hP 1 0 rfl rfl (vp_l (by decide)) dX10_tick_107 ?_
    refine lv_iload_n hx hb dX10_tick_108 rfl (lv_at hl 1 rfl) ?_
    refine lv_iadd hx hb dX10_tick_109 ?_
    refine va_iast hx hb hE.1 hP hD hS 1 0 rfl rfl (vp_l (by decide)) dX10_tick_110 (fun H locs (hP : va_P D vwCl (MX10 cI cZ cL cW a0 a1 a2 a3 a4 a5 a6 k_thrown_1 (upd k30 (Int32.toNatClampNeg 11) ((k30 (Int32.toNatClampNeg 11)) + x29)) k_o k_isKept k_went k_wentMany k31 k32 k_depth_3 k_isSilent k_x k_packed k_hits k_rues k_soonest k_inAll) H) (hD : va_D A (MX10 cI cZ cL cW a0 a1 a2 a3 a4 a5 a6 k_thrown_1 (upd k30 (Int32.toNatClampNeg 11) ((k30 (Int32.toNatClampNeg 11)) + x29)) k_o k_isKept k_went k_wentMany k31 k32 k_depth_3 k_isSilent k_x k_packed k_hits k_rues k_soonest k_inAll)) hS => ?_)
    refine lv_aload_n hx hb dX10_tick_111 rfl (lv_at hl 0 rfl) ?_
    refine lv_iload_n hx hb dX10_tick_112 rfl (lv_at hl 1 rfl) ?_
    obtain ⟨⟨r34, k_w_35, k_went_36, k_wentMany_37, k_waiting_38, k_came_39, k_depth_40⟩, h41, hf⟩ := bd_s hf
    refine iv_A (rest := []) (st1 := [.int r34]) C hE hP hD hS hA (c_X10_done l D cI cZ cL cW F a0 a1 a2 a3 a4 a5 a6 k_thrown_1 (upd k30 (Int32.toNatClampNeg 11) ((k30 (Int32.toNatClampNeg 11)) + x29)) k_o k_isKept k_went k_wentMany k31 k32 k_depth_3 k_isSilent k_x k_packed k_hits k_rues k_soonest k_inAll x29 r34 k_w_35 k_went_36 k_wentMany_37 k_waiting_38 k_came_39 k_depth_40 h41) ok_X10_done qM_X10_191 rfl rfl ⟨(Nat.le_of_ble_eq_true rfl), (Nat.le_of_ble_eq_true rfl)⟩ rfl rfl hl.1 (Nat.le_of_ble_eq_true rfl) ⟨Nat.zero_le _, Nat.zero_le _⟩ dX10_tick_113 rfl rfl (fun H locs (hP : va_P D vwCl (MX10 cI cZ cL cW a0 a1 a2 a3 a4 a5 a6 k_thrown_1 k_w_35 k_o k_isKept k_went_36 k_wentMany_37 k_waiting_38 k_came_39 k_depth_40 k_isSilent k_x k_packed k_hits k_rues k_soonest k_inAll) H) (hD : va_D A (MX10 cI cZ cL cW a0 a1 a2 a3 a4 a5 a6 k_thrown_1 k_w_35 k_o k_isKept k_went_36 k_wentMany_37 k_waiting_38 k_came_39 k_depth_40 k_isSilent k_x k_packed k_hits k_rues k_soonest k_inAll)) hS => ?_)
    cases hf
    exact rw_i C hr hlk hP hD hS dX10_tick_116 rfl
  · have hf := it_p hf c42
    refine lv_bipush (v := (-2)) hx hb dX10_tick_16 (by decide) ?_
    cases hf
    exact rw_i C hr hlk hP hD hS dX10_tick_18 rfl
