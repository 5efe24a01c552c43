def X10_best_L37 (F : Nat) : Nat → Int32 → Int32 → Int32 → Int32 → Int32 → (Nat → Int32) → Int32 → (Nat → Int32) → Int32 → (Nat → Int32) → Int32 → Int32 → Int32 → Int32 → Int32 → Int32 → Option (Int32 × Int32 × (Nat → Int32) × Int32 × (Nat → Int32) × Int32 × (Nat → Int32) × Int32 × Int32 × Int32 × Int32 × Int32)
  | 0, _, _, _, _, _, _, _, _, _, _, _, _, _, _, _, _ => none
  | n + 1, v1, v2, v3, v4, v5, k_w, k_o, k_went, k_wentMany, k_waiting, k_came, k_depth, k_isSilent, k_hits, k_rues, k_soonest => if (5 : Int32) ≤ v5 then (some (v3, v4, k_w, k_o, k_went, k_wentMany, k_waiting, k_came, k_isSilent, k_hits, k_rues, k_soonest)) else ((X10_hitsOf F v5 v1 k_w k_o k_went k_wentMany k_waiting k_came k_depth k_isSilent k_hits k_rues k_soonest).bind fun (r5, k_w_6, k_o_7, k_went_8, k_wentMany_9, k_waiting_10, k_came_11, k_isSilent_12, k_hits_13, k_rues_14, k_soonest_15) => (if (v4 : Int32) < r5 then (X10_best_L37 F n v1 v2 v5 r5 (v5 + 1) k_w_6 k_o_7 k_went_8 k_wentMany_9 k_waiting_10 k_came_11 k_depth k_isSilent_12 k_hits_13 k_rues_14 k_soonest_15) else (X10_best_L37 F n v1 v2 v3 v4 (v5 + 1) k_w_6 k_o_7 k_went_8 k_wentMany_9 k_waiting_10 k_came_11 k_depth k_isSilent_12 k_hits_13 k_rues_14 k_soonest_15)))
def X10_best (F : Nat) (p1 : Int32) (p2 : Int32) (k_thrown : Int32) (k_w : (Nat → Int32)) (k_o : Int32) (k_went : (Nat → Int32)) (k_wentMany : Int32) (k_waiting : (Nat → Int32)) (k_came : Int32) (k_depth : Int32) (k_isSilent : Int32) (k_hits : Int32) (k_rues : Int32) (k_soonest : Int32) : Option (Int32 × Int32 × (Nat → Int32) × Int32 × (Nat → Int32) × Int32 × (Nat → Int32) × Int32 × Int32 × Int32 × Int32 × Int32) := (X10_isIn F p1.toInt64 0 60).bind fun r1 => (if (r1 : Int32) = 0 then (some ((-1), 0, k_w, k_o, k_went, k_wentMany, k_waiting, k_came, k_isSilent, k_hits, k_rues, k_soonest)) else ((X10_isIn F p2.toInt64 0 1).bind fun r3 => (if (r3 : Int32) = 0 then (some ((-1), 0, k_w, k_o, k_went, k_wentMany, k_waiting, k_came, k_isSilent, k_hits, k_rues, k_soonest)) else ((X10_best_L37 F F p1 p2 0 (-1) 0 k_w k_o k_went k_wentMany k_waiting k_came k_depth k_isSilent k_hits k_rues k_soonest).bind fun (x19, x20, k21, k22, k23, k24, k25, k26, k27, k28, k29, k30) => (if (p2 : Int32) = 0 then (some (x19, 0, k21, k22, k23, k24, k25, k26, k27, k28, k29, k30)) else ((X10_hitsOf F 5 p1 k21 k22 k23 k24 k25 k26 k_depth k27 k28 k29 k30).bind fun (r32, k_w_33, k_o_34, k_went_35, k_wentMany_36, k_waiting_37, k_came_38, k_isSilent_39, k_hits_40, k_rues_41, k_soonest_42) => (some ((r32 - x20), 0, k_w_33, k_o_34, k_went_35, k_wentMany_36, k_waiting_37, k_came_38, k_isSilent_39, k_hits_40, k_rues_41, k_soonest_42))))))))
abbrev rm_X10_best : Room := { frames := 9, cells := 0, slots := 0, locals := 214 }
theorem ok_X10_best : OKV RX10 yX10_best cX10_best 7 (some .int) 2 := ⟨by decide +kernel, qV_X10_best, qL_X10_best, qI_X10, qD_X10_best⟩
set_option maxHeartbeats 4000000 in
set_option maxRecDepth 100000 in
theorem c_X10_best (l : Launch) (D : va_G) (cI cZ cL cW : ClassId) (F : Nat) (a0 : Nat) (a1 : Nat) (a2 : Nat) (a3 : Nat) (a4 : Nat) (a5 : Nat) (a6 : Nat) (k_thrown : Int32) (k_w : (Nat → Int32)) (k_o : Int32) (k_isKept : (Nat → Int32)) (k_went : (Nat → Int32)) (k_wentMany : Int32) (k_waiting : (Nat → Int32)) (k_came : Int32) (k_depth : Int32) (k_isSilent : Int32) (k_x : Int64) (k_packed : (Nat → Int32)) (k_hits : Int32) (k_rues : Int32) (k_soonest : Int32) (k_inAll : (Nat → Int32)) (p1 : Int32) (p2 : Int32) (r : Int32) (k_thrown' : Int32) (k_w' : (Nat → Int32)) (k_o' : Int32) (k_went' : (Nat → Int32)) (k_wentMany' : Int32) (k_waiting' : (Nat → Int32)) (k_came' : Int32) (k_isSilent' : Int32) (k_hits' : Int32) (k_rues' : Int32) (k_soonest' : Int32) (hf : X10_best F p1 p2 k_thrown k_w k_o k_went k_wentMany k_waiting k_came k_depth k_isSilent k_hits k_rues k_soonest = some (r, k_thrown', k_w', k_o', k_went', k_wentMany', k_waiting', k_came', k_isSilent', k_hits', k_rues', k_soonest')) : CtrW l D (tyL cI cZ cL cW) nestW yX10_best cX10_best 7 (some .int) rm_X10_best [.ref a0, .int p1, .int p2] (MX10 cI cZ cL cW a0 a1 a2 a3 a4 a5 a6 k_thrown k_w k_o k_isKept k_went k_wentMany k_waiting k_came k_depth k_isSilent k_x k_packed k_hits k_rues k_soonest k_inAll) (MX10 cI cZ cL cW a0 a1 a2 a3 a4 a5 a6 (k_thrown') (k_w') (k_o') k_isKept (k_went') (k_wentMany') (k_waiting') (k_came') k_depth (k_isSilent') k_x k_packed (k_hits') (k_rues') (k_soonest') k_inAll) (some (.int r)) := by
  refine ofA RX10 (by decide) rfl (Nat.le_of_ble_eq_true rfl) ?_
  intro p e s m below meth c ls A C hr hlk hE hA hP hD hS hl
  generalize (List.toArray ([.ref a0, .int p1, .int p2] : List Value)) = args at C ⊢
  obtain ⟨hx, hb, hml, hown, ht⟩ := id C
  have hl : lv_has ls 7 [(0, .ref a0), (1, .int p1), (2, .int p2)] := hl
  have L37 : ∀ (Q : State → Prop) (n : Nat) (v1 : Int32) (v2 : Int32) (v3 : Int32) (v4 : Int32) (v5 : Int32) (k_thrown : Int32) (k_w : (Nat → Int32)) (k_o : Int32) (k_isKept : (Nat → Int32)) (k_went : (Nat → Int32)) (k_wentMany : Int32) (k_waiting : (Nat → Int32)) (k_came : Int32) (k_depth : Int32) (k_isSilent : Int32) (k_x : Int64) (k_packed : (Nat → Int32)) (k_hits : Int32) (k_rues : Int32) (k_soonest : Int32) (k_inAll : (Nat → Int32)) (x3 : Int32) (x4 : Int32) (k_w' : (Nat → Int32)) (k_o' : Int32) (k_went' : (Nat → Int32)) (k_wentMany' : Int32) (k_waiting' : (Nat → Int32)) (k_came' : Int32) (k_isSilent' : Int32) (k_hits' : Int32) (k_rues' : Int32) (k_soonest' : Int32) (H : Heap) (locs : List Loc) (ls : Array Slot), X10_best_L37 F n v1 v2 v3 v4 v5 k_w k_o k_went k_wentMany k_waiting k_came k_depth k_isSilent k_hits k_rues k_soonest = some (x3, x4, k_w', k_o', k_went', k_wentMany', k_waiting', k_came', k_isSilent', k_hits', k_rues', k_soonest') → va_P D vwCl (MX10 cI cZ cL cW a0 a1 a2 a3 a4 a5 a6 k_thrown k_w k_o k_isKept k_went k_wentMany k_waiting k_came k_depth k_isSilent k_x k_packed k_hits k_rues k_soonest k_inAll) H → va_D A (MX10 cI cZ cL cW a0 a1 a2 a3 a4 a5 a6 k_thrown k_w k_o k_isKept k_went k_wentMany k_waiting k_came k_depth k_isSilent k_x k_packed k_hits k_rues k_soonest k_inAll) → va_S A s.heap H locs → lv_has ls 7 [(0, .ref a0), (1, .int v1), (2, .int v2), (3, .int v3), (4, .int v4), (5, .int v5)] → (∀ (H : Heap) (locs : List Loc) (ls : Array Slot), va_P D vwCl (MX10 cI cZ cL cW a0 a1 a2 a3 a4 a5 a6 k_thrown (k_w') (k_o') k_isKept (k_went') (k_wentMany') (k_waiting') (k_came') k_depth (k_isSilent') k_x k_packed (k_hits') (k_rues') (k_soonest') k_inAll) H → va_D A (MX10 cI cZ cL cW a0 a1 a2 a3 a4 a5 a6 k_thrown (k_w') (k_o') k_isKept (k_went') (k_wentMany') (k_waiting') (k_came') k_depth (k_isSilent') k_x k_packed (k_hits') (k_rues') (k_soonest') k_inAll) → va_S A s.heap H locs → lv_has ls 7 [(0, .ref a0), (1, .int v1), (2, .int v2), (3, .int x3), (4, .int x4)] → W p l e rm_X10_best s m args below meth c H locs 0 0 Q (F0 m 75 ls [])) → W p l e rm_X10_best s m args below meth c H locs 0 0 Q (F0 m 37 ls []) := by
    intro Q n
    induction n with
    | zero => intro v1 v2 v3 v4 v5 k_thrown k_w k_o k_isKept k_went k_wentMany k_waiting k_came k_depth k_isSilent k_x k_packed k_hits k_rues k_soonest k_inAll x3 x4 k_w' k_o' k_went' k_wentMany' k_waiting' k_came' k_isSilent' k_hits' k_rues' k_soonest' H locs ls hf hP hD hS hl hk; exact nn_s hf
    | succ n ih =>
      intro v1 v2 v3 v4 v5 k_thrown k_w k_o k_isKept k_went k_wentMany k_waiting k_came k_depth k_isSilent k_x k_packed k_hits k_rues k_soonest k_inAll x3 x4 k_w' k_o' k_went' k_wentMany' k_waiting' k_came' k_isSilent' k_hits' k_rues' k_soonest' H locs ls hf hP hD hS hl hk
      refine lv_iload hx hb dX10_best_37 (lv_at hl 5 rfl) ?_
      refine lv_iconst (v := 5) hx hb dX10_best_39 (by decide) ?_
      refine lv_icmp_ge (tgt := 75) hx hb dX10_best_40 (by decide) (fun c18 => ?_) (fun c18 => ?_)
      · have hf := it_p hf c18
        cases hf
        exact hk _ _ ls hP hD hS (lv_sub hl [0, 1, 2, 3, 4] rfl)
      · have hf := it_n hf c18
        refine lv_aload_n hx hb dX10_best_43 rfl (lv_at hl 0 rfl) ?_
        refine lv_iload hx hb dX10_best_44 (lv_at hl 5 rfl) ?_
        refine lv_iload_n hx hb dX10_best_46 rfl (lv_at hl 1 rfl) ?_
        obtain ⟨⟨r5, k_w_6, k_o_7, k_went_8, k_wentMany_9, k_waiting_10, k_came_11, k_isSilent_12, k_hits_13, k_rues_14, k_soonest_15⟩, h16, hf⟩ := bd_s hf
        refine iv_A (rest := []) (st1 := [.int r5]) C hE hP hD hS hA (c_X10_hitsOf l D cI cZ cL cW F a0 a1 a2 a3 a4 a5 a6 k_thrown k_w k_o k_isKept k_went k_wentMany k_waiting k_came k_depth k_isSilent k_x k_packed k_hits k_rues k_soonest k_inAll v5 v1 r5 k_w_6 k_o_7 k_went_8 k_wentMany_9 k_waiting_10 k_came_11 k_isSilent_12 k_hits_13 k_rues_14 k_soonest_15 h16) ok_X10_hitsOf qM_X10_312 rfl rfl ⟨(Nat.le_of_ble_eq_true rfl), (Nat.le_of_ble_eq_true rfl)⟩ rfl rfl hl.1 (Nat.le_of_ble_eq_true rfl) ⟨Nat.zero_le _, Nat.zero_le _⟩ dX10_best_47 rfl rfl (fun H locs (hP : va_P D vwCl (MX10 cI cZ cL cW a0 a1 a2 a3 a4 a5 a6 k_thrown k_w_6 k_o_7 k_isKept k_went_8 k_wentMany_9 k_waiting_10 k_came_11 k_depth k_isSilent_12 k_x k_packed k_hits_13 k_rues_14 k_soonest_15 k_inAll) H) (hD : va_D A (MX10 cI cZ cL cW a0 a1 a2 a3 a4 a5 a6 k_thrown k_w_6 k_o_7 k_isKept k_went_8 k_wentMany_9 k_waiting_10 k_came_11 k_depth k_isSilent_12 k_x k_packed k_hits_13 k_rues_14 k_soonest_15 k_inAll)) hS => ?_)
        refine lv_istore (lv' := [(6, .int r5), (0, .ref a0), (1, .int v1), (2, .int v2), (3, .int v3), (4, .int v4), (5, .int v5)]) hx hb dX10_best_50 hl (by decide) rfl (fun ls hl => ?_)
        refine lv_iload hx hb dX10_best_52 (lv_at hl 0 rfl) ?_
        refine lv_iload hx hb dX10_best_54 (lv_at hl 5 rfl) ?_
        refine lv_icmp_gt (tgt := 62) hx hb dX10_best_56 (by decide) (fun c17 => ?_) (fun c17 => ?_)
        · have hf := it_p hf c17
          refine lv_iload hx hb dX10_best_62 (lv_at hl 6 rfl) ?_
          refine lv_istore_n (lv' := [(3, .int v5), (6, .int r5), (0, .ref a0), (1, .int v1), (2, .int v2), (4, .int v4), (5, .int v5)]) hx hb dX10_best_64 rfl hl (by decide) rfl (fun ls hl => ?_)
          refine lv_iload hx hb dX10_best_65 (lv_at hl 1 rfl) ?_
          refine lv_istore (lv' := [(4, .int r5), (3, .int v5), (6, .int r5), (0, .ref a0), (1, .int v1), (2, .int v2), (5, .int v5)]) hx hb dX10_best_67 hl (by decide) rfl (fun ls hl => ?_)
          refine lv_iinc (v := (v5 + 1)) (lv' := [(5, .int (v5 + 1)), (4, .int r5), (3, .int v5), (6, .int r5), (0, .ref a0), (1, .int v1), (2, .int v2)]) hx hb dX10_best_69 hl (k := 6) rfl rfl (by decide) rfl (fun ls hl => ?_)
          refine lv_goto (tgt := 37) hx hb dX10_best_72 (by decide) ?_
          exact ih v1 v2 v5 r5 (v5 + 1) k_thrown k_w_6 k_o_7 k_isKept k_went_8 k_wentMany_9 k_waiting_10 k_came_11 k_depth k_isSilent_12 k_x k_packed k_hits_13 k_rues_14 k_soonest_15 k_inAll _ _ _ _ _ _ _ _ _ _ _ _ _ _ ls hf hP hD hS (lv_sub hl [4, 5, 6, 2, 1, 0] rfl) hk
        · have hf := it_n hf c17
          refine lv_goto (tgt := 69) hx hb dX10_best_59 (by decide) ?_
          refine lv_iinc (v := (v5 + 1)) (lv' := [(5, .int (v5 + 1)), (6, .int r5), (0, .ref a0), (1, .int v1), (2, .int v2), (3, .int v3), (4, .int v4)]) hx hb dX10_best_69 hl (k := 6) rfl rfl (by decide) rfl (fun ls hl => ?_)
          refine lv_goto (tgt := 37) hx hb dX10_best_72 (by decide) ?_
          exact ih v1 v2 v3 v4 (v5 + 1) k_thrown k_w_6 k_o_7 k_isKept k_went_8 k_wentMany_9 k_waiting_10 k_came_11 k_depth k_isSilent_12 k_x k_packed k_hits_13 k_rues_14 k_soonest_15 k_inAll _ _ _ _ _ _ _ _ _ _ _ _ _ _ ls hf hP hD hS (lv_sub hl [2, 3, 4, 5, 6, 0] rfl) hk
  refine lv_aload_n hx hb dX10_best_0 rfl (lv_at hl 0 rfl) ?_
  refine lv_iconst (v := 0) hx hb dX10_best_1 (by decide) ?_
  refine pf_X10 (v := .int 0) C hE hP hD hS 0 0 rfl (by decide) qF_X10_1 rfl rfl rfl (Nat.le_of_ble_eq_true rfl) dX10_best_2 (fun H locs (hP : va_P D vwCl (MX10 cI cZ cL cW a0 a1 a2 a3 a4 a5 a6 0 k_w k_o k_isKept k_went k_wentMany k_waiting k_came k_depth k_isSilent k_x k_packed k_hits k_rues k_soonest k_inAll) H) (hD : va_D A (MX10 cI cZ cL cW a0 a1 a2 a3 a4 a5 a6 0 k_w k_o k_isKept k_went k_wentMany k_waiting k_came k_depth k_isSilent k_x k_packed k_hits k_rues k_soonest k_inAll)) hS => ?_)
  refine lv_iload_n hx hb dX10_best_5 rfl (lv_at hl 1 rfl) ?_
  refine lv_i2l hx hb dX10_best_6 rfl ?_
  refine lv_lconst (v := 0) hx hb dX10_best_7 (by decide) ?_
  refine lv_ldc2 (v := 60) hx hb hown (ht _ qJ_X10_240) dX10_best_8 ?_
  obtain ⟨r1, h2, hf⟩ := bd_s hf
  refine is_R (rest := []) (st1 := [.int r1]) C hE va_P_nil (c_X10_isIn l D cI cZ cL cW F   p1.toInt64 0 60 r1  h2) ok_X10_isIn qM_X10_49 rfl rfl ⟨(Nat.le_of_ble_eq_true rfl), (Nat.le_of_ble_eq_true rfl)⟩ hl.1 (Nat.le_of_ble_eq_true rfl) ⟨Nat.zero_le _, Nat.zero_le _⟩ dX10_best_11 rfl rfl ?_
  refine lv_if_eq (tgt := 27) hx hb dX10_best_14 (by decide) (fun c46 => ?_) (fun c46 => ?_)
  · have hf := it_p hf c46
    refine lv_iconst (v := (-1)) hx hb dX10_best_27 (by decide) ?_
    cases hf
    exact rw_i C hr hlk hP hD hS dX10_best_28 rfl
  · have hf := it_n hf c46
    refine lv_iload_n hx hb dX10_best_17 rfl (lv_at hl 2 rfl) ?_
    refine lv_i2l hx hb dX10_best_18 rfl ?_
    refine lv_lconst (v := 0) hx hb dX10_best_19 (by decide) ?_
    refine lv_lconst (v := 1) hx hb dX10_best_20 (by decide) ?_
    obtain ⟨r3, h4, hf⟩ := bd_s hf
    refine is_R (rest := []) (st1 := [.int r3]) C hE va_P_nil (c_X10_isIn l D cI cZ cL cW F   p2.toInt64 0 1 r3  h4) ok_X10_isIn qM_X10_49 rfl rfl ⟨(Nat.le_of_ble_eq_true rfl), (Nat.le_of_ble_eq_true rfl)⟩ hl.1 (Nat.le_of_ble_eq_true rfl) ⟨Nat.zero_le _, Nat.zero_le _⟩ dX10_best_21 rfl rfl ?_
    refine lv_if_ne (tgt := 29) hx hb dX10_best_24 (by decide) (fun c45 => ?_) (fun c45 => ?_)
    · have hf := it_n hf c45
      refine lv_iconst (v := 0) hx hb dX10_best_29 (by decide) ?_
      refine lv_istore_n (lv' := [(3, .int 0), (0, .ref a0), (1, .int p1), (2, .int p2)]) hx hb dX10_best_30 rfl hl (by decide) rfl (fun ls hl => ?_)
      refine lv_iconst (v := (-1)) hx hb dX10_best_31 (by decide) ?_
      refine lv_istore (lv' := [(4, .int (-1)), (3, .int 0), (0, .ref a0), (1, .int p1), (2, .int p2)]) hx hb dX10_best_32 hl (by decide) rfl (fun ls hl => ?_)
      refine lv_iconst (v := 0) hx hb dX10_best_34 (by decide) ?_
      refine lv_istore (lv' := [(5, .int 0), (4, .int (-1)), (3, .int 0), (0, .ref a0), (1, .int p1), (2, .int p2)]) hx hb dX10_best_35 hl (by decide) rfl (fun ls hl => ?_)
      obtain ⟨⟨x19, x20, k21, k22, k23, k24, k25, k26, k27, k28, k29, k30⟩, h31, hf⟩ := bd_s hf
      refine L37 _ F p1 p2 0 (-1) 0 0 k_w k_o k_isKept k_went k_wentMany k_waiting k_came k_depth k_isSilent k_x k_packed k_hits k_rues k_soonest k_inAll x19 x20 k21 k22 k23 k24 k25 k26 k27 k28 k29 k30 _ _ ls h31 hP hD hS (lv_sub hl [3, 4, 5, 2, 1, 0] rfl) (fun H locs ls hP hD hS hl => ?_)
      refine lv_iload_n hx hb dX10_best_75 rfl (lv_at hl 2 rfl) ?_
      refine lv_if_ne (tgt := 83) hx hb dX10_best_76 (by decide) (fun c44 => ?_) (fun c44 => ?_)
      · have hf := it_n hf c44
        refine lv_aload_n hx hb dX10_best_83 rfl (lv_at hl 0 rfl) ?_
        refine lv_iconst (v := 5) hx hb dX10_best_84 (by decide) ?_
        refine lv_iload_n hx hb dX10_best_85 rfl (lv_at hl 1 rfl) ?_
        obtain ⟨⟨r32, k_w_33, k_o_34, k_went_35, k_wentMany_36, k_waiting_37, k_came_38, k_isSilent_39, k_hits_40, k_rues_41, k_soonest_42⟩, h43, hf⟩ := bd_s hf
        refine iv_A (rest := []) (st1 := [.int r32]) C hE hP hD hS hA (c_X10_hitsOf l D cI cZ cL cW F a0 a1 a2 a3 a4 a5 a6 0 k21 k22 k_isKept k23 k24 k25 k26 k_depth k27 k_x k_packed k28 k29 k30 k_inAll 5 p1 r32 k_w_33 k_o_34 k_went_35 k_wentMany_36 k_waiting_37 k_came_38 k_isSilent_39 k_hits_40 k_rues_41 k_soonest_42 h43) ok_X10_hitsOf qM_X10_312 rfl rfl ⟨(Nat.le_of_ble_eq_true rfl), (Nat.le_of_ble_eq_true rfl)⟩ rfl rfl hl.1 (Nat.le_of_ble_eq_true rfl) ⟨Nat.zero_le _, Nat.zero_le _⟩ dX10_best_86 rfl rfl (fun H locs (hP : va_P D vwCl (MX10 cI cZ cL cW a0 a1 a2 a3 a4 a5 a6 0 k_w_33 k_o_34 k_isKept k_went_35 k_wentMany_36 k_waiting_37 k_came_38 k_depth k_isSilent_39 k_x k_packed k_hits_40 k_rues_41 k_soonest_42 k_inAll) H) (hD : va_D A (MX10 cI cZ cL cW a0 a1 a2 a3 a4 a5 a6 0 k_w_33 k_o_34 k_isKept k_went_35 k_wentMany_36 k_waiting_37 k_came_38 k_depth k_isSilent_39 k_x k_packed k_hits_40 k_rues_41 k_soonest_42 k_inAll)) hS => ?_)
        refine lv_iload hx hb dX10_best_89 (lv_at hl 4 rfl) ?_
        refine lv_isub hx hb dX10_best_91 ?_
        cases hf
        exact rw_i C hr hlk hP hD hS dX10_best_92 rfl
      · have hf := it_p hf c44
        refine lv_iload_n hx hb dX10_best_79 rfl (lv_at hl 3 rfl) ?_
        refine lv_goto (tgt := 92) hx hb dX10_best_80 (by decide) ?_
        cases hf
        exact rw_i C hr hlk hP hD hS dX10_best_92 rfl
    · have hf := it_p hf c45
      refine lv_iconst (v := (-1)) hx hb dX10_best_27 (by decide) ?_
      cases hf
      exact rw_i C hr hlk hP hD hS dX10_best_28 rfl
def X10_laysAgreed_L2 (F : Nat) : Nat → Int32 → Int32 → (Nat → Int32) → Option ((Nat → Int32))
  | 0, _, _, _ => none
  | n + 1, v1, v2, k_inAll => if (1000 : Int32) ≤ v2 then (some k_inAll) else (if (v2 : Int32) < 0 ∨ 1000 ≤ (Int32.toNatClampNeg v2) then none else (X10_laysAgreed_L2 F n v1 (v2 + 1) (upd k_inAll (Int32.toNatClampNeg v2) (vp_nar .boolean 1))))
def X10_laysAgreed_L37 (F : Nat) : Nat → Int32 → Int32 → Int32 → (Nat → Int32) → Int32 → (Nat → Int32) → Option ((Nat → Int32))
  | 0, _, _, _, _, _, _ => none
  | n + 1, v1, v2, v3, k_w, k_o, k_inAll => if (1000 : Int32) ≤ v3 then (some k_inAll) else (if (v3 : Int32) < 0 ∨ 1000 ≤ (Int32.toNatClampNeg v3) then none else (if ((k_inAll (Int32.toNatClampNeg v3)) : Int32) = 0 then (if (v3 : Int32) < 0 ∨ 1000 ≤ (Int32.toNatClampNeg v3) then none else (X10_laysAgreed_L37 F n v1 v2 (v3 + 1) k_w k_o (upd k_inAll (Int32.toNatClampNeg v3) (vp_nar .boolean 0)))) else ((X10_entryOf F v3 k_w k_o).bind fun r17 => (if (r17 : Int32) = (-1) then (if (v3 : Int32) < 0 ∨ 1000 ≤ (Int32.toNatClampNeg v3) then none else (X10_laysAgreed_L37 F n v1 v2 (v3 + 1) k_w k_o (upd k_inAll (Int32.toNatClampNeg v3) (vp_nar .boolean 0)))) else (if (v3 : Int32) < 0 ∨ 1000 ≤ (Int32.toNatClampNeg v3) then none else (X10_laysAgreed_L37 F n v1 v2 (v3 + 1) k_w k_o (upd k_inAll (Int32.toNatClampNeg v3) (vp_nar .boolean 1))))))))
def X10_laysAgreed_L24 (F : Nat) : Nat → Int32 → Int32 → (Nat → Int32) → Int32 → (Nat → Int32) → Int32 → (Nat → Int32) → Int32 → Int32 → Int32 → Int32 → Int32 → Int32 → (Nat → Int32) → Option ((Nat → Int32) × Int32 × (Nat → Int32) × Int32 × (Nat → Int32) × Int32 × Int32 × Int32 × Int32 × Int32 × (Nat → Int32))
  | 0, _, _, _, _, _, _, _, _, _, _, _, _, _, _ => none
  | n + 1, v1, v2, k_w, k_o, k_went, k_wentMany, k_waiting, k_came, k_depth, k_isSilent, k_hits, k_rues, k_soonest, k_inAll => if (5 : Int32) ≤ v2 then (some (k_w, k_o, k_went, k_wentMany, k_waiting, k_came, k_isSilent, k_hits, k_rues, k_soonest, k_inAll)) else ((X10_goesThrough F v2 v1 k_w k_o k_went k_wentMany k_waiting k_came k_depth k_isSilent k_hits k_rues k_soonest).bind fun (k_w_5, k_o_6, k_went_7, k_wentMany_8, k_waiting_9, k_came_10, k_isSilent_11, k_hits_12, k_rues_13, k_soonest_14) => ((X10_laysAgreed_L37 F F v1 v2 0 k_w_5 k_o_6 k_inAll).bind fun k25 => (X10_laysAgreed_L24 F n v1 (v2 + 1) k_w_5 k_o_6 k_went_7 k_wentMany_8 k_waiting_9 k_came_10 k_depth k_isSilent_11 k_hits_12 k_rues_13 k_soonest_14 k25)))
def X10_laysAgreed (F : Nat) (p1 : Int32) (k_w : (Nat → Int32)) (k_o : Int32) (k_went : (Nat → Int32)) (k_wentMany : Int32) (k_waiting : (Nat → Int32)) (k_came : Int32) (k_depth : Int32) (k_isSilent : Int32) (k_hits : Int32) (k_rues : Int32) (k_soonest : Int32) (k_inAll : (Nat → Int32)) : Option ((Nat → Int32) × Int32 × (Nat → Int32) × Int32 × (Nat → Int32) × Int32 × Int32 × Int32 × Int32 × Int32 × (Nat → Int32)) := (X10_laysAgreed_L2 F F p1 0 k_inAll).bind fun k3 => ((X10_laysAgreed_L24 F F p1 0 k_w k_o k_went k_wentMany k_waiting k_came k_depth k_isSilent k_hits k_rues k_soonest k3).bind fun (k28, k29, k30, k31, k32, k33, k34, k35, k36, k37, k38) => ((X10_comesBack F k29 k34).bind fun (k_o_40, k_isSilent_41) => (some (k28, k_o_40, k30, k31, k32, k33, k_isSilent_41, k35, k36, k37, k38))))
abbrev rm_X10_laysAgreed : Room := { frames := 8, cells := 0, slots := 0, locals := 192 }
theorem ok_X10_laysAgreed : OKV RX10 yX10_laysAgreed cX10_laysAgreed 4 none 1 := ⟨by decide +kernel, qV_X10_laysAgreed, qL_X10_laysAgreed, qI_X10, qD_X10_laysAgreed⟩
set_option maxHeartbeats 4000000 in
set_option maxRecDepth 100000 in
theorem c_X10_laysAgreed (l : Launch) (D : va_G) (cI cZ cL cW : ClassId) (F : Nat) (a0 : Nat) (a1 : Nat) (a2 : Nat) (a3 : Nat) (a4 : Nat) (a5 : Nat) (a6 : Nat) (k_thrown : Int32) (k_w : (Nat → Int32)) (k_o : Int32) (k_isKept : (Nat → Int32)) (k_went : (Nat → Int32)) (k_wentMany : Int32) (k_waiting : (Nat → Int32)) (k_came : Int32) (k_depth : Int32) (k_isSilent : Int32) (k_x : Int64) (k_packed : (Nat → Int32)) (k_hits : Int32) (k_rues : Int32) (k_soonest : Int32) (k_inAll : (Nat → Int32)) (p1 : Int32) (k_w' : (Nat → Int32)) (k_o' : Int32) (k_went' : (Nat → Int32)) (k_wentMany' : Int32) (k_waiting' : (Nat → Int32)) (k_came' : Int32) (k_isSilent' : Int32) (k_hits' : Int32) (k_rues' : Int32) (k_soonest' : Int32) (k_inAll' : (Nat → Int32)) (hf : X10_laysAgreed F p1 k_w k_o k_went k_wentMany k_waiting k_came k_depth k_isSilent k_hits k_rues k_soonest k_inAll = some (k_w', k_o', k_went', k_wentMany', k_waiting', k_came', k_isSilent', k_hits', k_rues', k_soonest', k_inAll')) : CtrW l D (tyL cI cZ cL cW) nestW yX10_laysAgreed cX10_laysAgreed 4 none rm_X10_laysAgreed [.ref a0, .int p1] (MX10 cI cZ cL cW a0 a1 a2 a3 a4 a5 a6 k_thrown k_w k_o k_isKept k_went k_wentMany k_waiting k_came k_depth k_isSilent k_x k_packed k_hits k_rues k_soonest k_inAll) (MX10 cI cZ cL cW a0 a1 a2 a3 a4 a5 a6 k_thrown (k_w') (k_o') k_isKept (k_went') (k_wentMany') (k_waiting') (k_came') k_depth (k_isSilent') k_x k_packed (k_hits') (k_rues') (k_soonest') (k_inAll')) none := by
  refine ofA RX10 (by decide) rfl (Nat.le_of_ble_eq_true rfl) ?_
  intro p e s m below meth c ls A C hr hlk hE hA hP hD hS hl
  generalize (List.toArray ([.ref a0, .int p1] : List Value)) = args at C ⊢
  obtain ⟨hx, hb, hml, hown, ht⟩ := id C
  have hl : lv_has ls 4 [(0, .ref a0), (1, .int p1)] := hl
  have L2 : ∀ (Q : State → Prop) (n : Nat) (v1 : Int32) (v2 : Int32) (k_thrown : Int32) (k_w : (Nat → Int32)) (k_o : Int32) (k_isKept : (Nat → Int32)) (k_went : (Nat → Int32)) (k_wentMany : Int32) (k_waiting : (Nat → Int32)) (k_came : Int32) (k_depth : Int32) (k_isSilent : Int32) (k_x : Int64) (k_packed : (Nat → Int32)) (k_hits : Int32) (k_rues : Int32) (k_soonest : Int32) (k_inAll : (Nat → Int32)) (k_inAll' : (Nat → Int32)) (H : Heap) (locs : List Loc) (ls : Array Slot), X10_laysAgreed_L2 F n v1 v2 k_inAll = some (k_inAll') → va_P D vwCl (MX10 cI cZ cL cW a0 a1 a2 a3 a4 a5 a6 k_thrown k_w k_o k_isKept k_went k_wentMany k_waiting k_came k_depth k_isSilent k_x k_packed k_hits k_rues k_soonest k_inAll) H → va_D A (MX10 cI cZ cL cW a0 a1 a2 a3 a4 a5 a6 k_thrown k_w k_o k_isKept k_went k_wentMany k_waiting k_came k_depth k_isSilent k_x k_packed k_hits k_rues k_soonest k_inAll) → va_S A s.heap H locs → lv_has ls 4 [(0, .ref a0), (1, .int v1), (2, .int v2)] → (∀ (H : Heap) (locs : List Loc) (ls : Array Slot), va_P D vwCl (MX10 cI cZ cL cW a0 a1 a2 a3 a4 a5 a6 k_thrown k_w k_o k_isKept k_went k_wentMany k_waiting k_came k_depth k_isSilent k_x k_packed k_hits k_rues k_soonest (k_inAll')) H → va_D A (MX10 cI cZ cL cW a0 a1 a2 a3 a4 a5 a6 k_thrown k_w k_o k_isKept k_went k_wentMany k_waiting k_came k_depth k_isSilent k_x k_packed k_hits k_rues k_soonest (k_inAll')) → va_S A s.heap H locs → lv_has ls 4 [(0, .ref a0), (1, .int v1)] → W p l e rm_X10_laysAgreed s m args below meth c H locs 0 0 Q (F0 m 22 ls [])) → W p l e rm_X10_laysAgreed s m args below meth c H locs 0 0 Q (F0 m 2 ls []) := by
    intro Q n
    induction n with
    | zero => intro v1 v2 k_thrown k_w k_o k_isKept k_went k_wentMany k_waiting k_came k_depth k_isSilent k_x k_packed k_hits k_rues k_soonest k_inAll k_inAll' H locs ls hf hP hD hS hl hk; exact nn_s hf
    | succ n ih =>
      intro v1 v2 k_thrown k_w k_o k_isKept k_went k_wentMany k_waiting k_came k_depth k_isSilent k_x k_packed k_hits k_rues k_soonest k_inAll k_inAll' H locs ls hf hP hD hS hl hk
      refine lv_iload_n hx hb dX10_laysAgreed_2 rfl (lv_at hl 2 rfl) ?_
      refine lv_sipush (v := 1000) hx hb dX10_laysAgreed_3 (by decide) ?_
      refine lv_icmp_ge (tgt := 22) hx hb dX10_laysAgreed_6 (by decide) (fun c2 => ?_) (fun c2 => ?_)
      · have hf := it_p hf c2
        cases hf
        exact hk _ _ ls hP hD hS (lv_sub hl [0, 1] rfl)
      · have hf := it_n hf c2
        refine lv_aload_n hx hb dX10_laysAgreed_9 rfl (lv_at hl 0 rfl) ?_
        refine gf_X10 (v := .ref a6) C hE hP 0 15 rfl (by decide) qF_X10_34 rfl dX10_laysAgreed_10 ?_
        refine lv_iload_n hx hb dX10_laysAgreed_13 rfl (lv_at hl 2 rfl) ?_
        refine lv_iconst (v := 1) hx hb dX10_laysAgreed_14 (by decide) ?_
        obtain ⟨g1, hf⟩ := it_g hf
        refine va_zast hx hb hE.1 hP hD hS 6 1 rfl rfl g1 dX10_laysAgreed_15 (fun H locs (hP : va_P D vwCl (MX10 cI cZ cL cW a0 a1 a2 a3 a4 a5 a6 k_thrown k_w k_o k_isKept k_went k_wentMany k_waiting k_came k_depth k_isSilent k_x k_packed k_hits k_rues k_soonest (upd k_inAll (Int32.toNatClampNeg v2) (vp_nar .boolean 1))) H) (hD : va_D A (MX10 cI cZ cL cW a0 a1 a2 a3 a4 a5 a6 k_thrown k_w k_o k_isKept k_went k_wentMany k_waiting k_came k_depth k_isSilent k_x k_packed k_hits k_rues k_soonest (upd k_inAll (Int32.toNatClampNeg v2) (vp_nar .boolean 1)))) hS => ?_)
        refine lv_iinc (v := (v2 + 1)) (lv' := [(2, .int (v2 + 1)), (0, .ref a0), (1, .int v1)]) hx hb dX10_laysAgreed_16 hl (k := 2) rfl rfl (by decide) rfl (fun ls hl => ?_)
        refine lv_goto (tgt := 2) hx hb dX10_laysAgreed_19 (by decide) ?_
        exact ih v1 (v2 + 1) k_thrown k_w k_o k_isKept k_went k_wentMany k_waiting k_came k_depth k_isSilent k_x k_packed k_hits k_rues k_soonest (upd k_inAll (Int32.toNatClampNeg v2) (vp_nar .boolean 1)) _ _ _ ls hf hP hD hS (lv_sub hl [1, 2, 0] rfl) hk
  have L37 : ∀ (Q : State → Prop) (n : Nat) (v1 : Int32) (v2 : Int32) (v3 : Int32) (k_thrown : Int32) (k_w : (Nat → Int32)) (k_o : Int32) (k_isKept : (Nat → Int32)) (k_went : (Nat → Int32)) (k_wentMany : Int32) (k_waiting : (Nat → Int32)) (k_came : Int32) (k_depth : Int32) (k_isSilent : Int32) (k_x : Int64) (k_packed : (Nat → Int32)) (k_hits : Int32) (k_rues : Int32) (k_soonest : Int32) (k_inAll : (Nat → Int32)) (k_inAll' : (Nat → Int32)) (H : Heap) (locs : List Loc) (ls : Array Slot), X10_laysAgreed_L37 F n v1 v2 v3 k_w k_o k_inAll = some (k_inAll') → va_P D vwCl (MX10 cI cZ cL cW a0 a1 a2 a3 a4 a5 a6 k_thrown k_w k_o k_isKept k_went k_wentMany k_waiting k_came k_depth k_isSilent k_x k_packed k_hits k_rues k_soonest k_inAll) H → va_D A (MX10 cI cZ cL cW a0 a1 a2 a3 a4 a5 a6 k_thrown k_w k_o k_isKept k_went k_wentMany k_waiting k_came k_depth k_isSilent k_x k_packed k_hits k_rues k_soonest k_inAll) → va_S A s.heap H locs → lv_has ls 4 [(0, .ref a0), (1, .int v1), (2, .int v2), (3, .int v3)] → (∀ (H : Heap) (locs : List Loc) (ls : Array Slot), va_P D vwCl (MX10 cI cZ cL cW a0 a1 a2 a3 a4 a5 a6 k_thrown k_w k_o k_isKept k_went k_wentMany k_waiting k_came k_depth k_isSilent k_x k_packed k_hits k_rues k_soonest (k_inAll')) H → va_D A (MX10 cI cZ cL cW a0 a1 a2 a3 a4 a5 a6 k_thrown k_w k_o k_isKept k_went k_wentMany k_waiting k_came k_depth k_isSilent k_x k_packed k_hits k_rues k_soonest (k_inAll')) → va_S A s.heap H locs → lv_has ls 4 [(0, .ref a0), (1, .int v1), (2, .int v2)] → W p l e rm_X10_laysAgreed s m args below meth c H locs 0 0 Q (F0 m 79 ls [])) → W p l e rm_X10_laysAgreed s m args below meth c H locs 0 0 Q (F0 m 37 ls []) := by
    intro Q n
    induction n with
    | zero => intro v1 v2 v3 k_thrown k_w k_o k_isKept k_went k_wentMany k_waiting k_came k_depth k_isSilent k_x k_packed k_hits k_rues k_soonest k_inAll k_inAll' H locs ls hf hP hD hS hl hk; exact nn_s hf
    | succ n ih =>
      intro v1 v2 v3 k_thrown k_w k_o k_isKept k_went k_wentMany k_waiting k_came k_depth k_isSilent k_x k_packed k_hits k_rues k_soonest k_inAll k_inAll' H locs ls hf hP hD hS hl hk
      refine lv_iload_n hx hb dX10_laysAgreed_37 rfl (lv_at hl 3 rfl) ?_
      refine lv_sipush (v := 1000) hx hb dX10_laysAgreed_38 (by decide) ?_
      refine lv_icmp_ge (tgt := 79) hx hb dX10_laysAgreed_41 (by decide) (fun c24 => ?_) (fun c24 => ?_)
      · have hf := it_p hf c24
        cases hf
        exact hk _ _ ls hP hD hS (lv_sub hl [0, 1, 2] rfl)
      · have hf := it_n hf c24
        refine lv_aload_n hx hb dX10_laysAgreed_44 rfl (lv_at hl 0 rfl) ?_
        refine gf_X10 (v := .ref a6) C hE hP 0 15 rfl (by decide) qF_X10_34 rfl dX10_laysAgreed_45 ?_
        refine lv_iload_n hx hb dX10_laysAgreed_48 rfl (lv_at hl 3 rfl) ?_
        refine lv_aload_n hx hb dX10_laysAgreed_49 rfl (lv_at hl 0 rfl) ?_
        refine gf_X10 (v := .ref a6) C hE hP 0 15 rfl (by decide) qF_X10_34 rfl dX10_laysAgreed_50 ?_
        refine lv_iload_n hx hb dX10_laysAgreed_53 rfl (lv_at hl 3 rfl) ?_
        obtain ⟨g23, hf⟩ := it_g hf
        refine va_zald hx hb hE.1 hP 6 1 rfl rfl g23 dX10_laysAgreed_54 ?_
        refine lv_if_eq (tgt := 71) hx hb dX10_laysAgreed_55 (by decide) (fun c22 => ?_) (fun c22 => ?_)
        · have hf := it_p hf c22
          refine lv_iconst (v := 0) hx hb dX10_laysAgreed_71 (by decide) ?_
          obtain ⟨g16, hf⟩ := it_g hf
          refine va_zast hx hb hE.1 hP hD hS 6 1 rfl rfl g16 dX10_laysAgreed_72 (fun H locs (hP : va_P D vwCl (MX10 cI cZ cL cW a0 a1 a2 a3 a4 a5 a6 k_thrown k_w k_o k_isKept k_went k_wentMany k_waiting k_came k_depth k_isSilent k_x k_packed k_hits k_rues k_soonest (upd k_inAll (Int32.toNatClampNeg v3) (vp_nar .boolean 0))) H) (hD : va_D A (MX10 cI cZ cL cW a0 a1 a2 a3 a4 a5 a6 k_thrown k_w k_o k_isKept k_went k_wentMany k_waiting k_came k_depth k_isSilent k_x k_packed k_hits k_rues k_soonest (upd k_inAll (Int32.toNatClampNeg v3) (vp_nar .boolean 0)))) hS => ?_)
          refine lv_iinc (v := (v3 + 1)) (lv' := [(3, .int (v3 + 1)), (0, .ref a0), (1, .int v1), (2, .int v2)]) hx hb dX10_laysAgreed_73 hl (k := 3) rfl rfl (by decide) rfl (fun ls hl => ?_)
          refine lv_goto (tgt := 37) hx hb dX10_laysAgreed_76 (by decide) ?_
          exact ih v1 v2 (v3 + 1) k_thrown k_w k_o k_isKept k_went k_wentMany k_waiting k_came k_depth k_isSilent k_x k_packed k_hits k_rues k_soonest (upd k_inAll (Int32.toNatClampNeg v3) (vp_nar .boolean 0)) _ _ _ ls hf hP hD hS (lv_sub hl [1, 2, 3, 0] rfl) hk
        · have hf := it_n hf c22
          refine lv_aload_n hx hb dX10_laysAgreed_58 rfl (lv_at hl 0 rfl) ?_
          refine lv_iload_n hx hb dX10_laysAgreed_59 rfl (lv_at hl 3 rfl) ?_
          obtain ⟨r17, h18, hf⟩ := bd_s hf
          refine iv_R (rest := [.int v3, .ref a6]) (st1 := [.int r17, .int v3, .ref a6]) C hE hP (c_X10_entryOf l D cI cZ cL cW F a0 a1 a2 a3 a4 a5 a6 k_thrown k_w k_o k_isKept k_went k_wentMany k_waiting k_came k_depth k_isSilent k_x k_packed k_hits k_rues k_soonest k_inAll v3 r17  h18) ok_X10_entryOf qM_X10_118 rfl rfl ⟨(Nat.le_of_ble_eq_true rfl), (Nat.le_of_ble_eq_true rfl)⟩ rfl rfl hl.1 (Nat.le_of_ble_eq_true rfl) ⟨Nat.zero_le _, Nat.zero_le _⟩ dX10_laysAgreed_60 rfl rfl ?_
          refine lv_iconst (v := (-1)) hx hb dX10_laysAgreed_63 (by decide) ?_
          refine lv_icmp_eq (tgt := 71) hx hb dX10_laysAgreed_64 (by decide) (fun c21 => ?_) (fun c21 => ?_)
          · have hf := it_p hf c21
            refine lv_iconst (v := 0) hx hb dX10_laysAgreed_71 (by decide) ?_
            obtain ⟨g19, hf⟩ := it_g hf
            refine va_zast hx hb hE.1 hP hD hS 6 1 rfl rfl g19 dX10_laysAgreed_72 (fun H locs (hP : va_P D vwCl (MX10 cI cZ cL cW a0 a1 a2 a3 a4 a5 a6 k_thrown k_w k_o k_isKept k_went k_wentMany k_waiting k_came k_depth k_isSilent k_x k_packed k_hits k_rues k_soonest (upd k_inAll (Int32.toNatClampNeg v3) (vp_nar .boolean 0))) H) (hD : va_D A (MX10 cI cZ cL cW a0 a1 a2 a3 a4 a5 a6 k_thrown k_w k_o k_isKept k_went k_wentMany k_waiting k_came k_depth k_isSilent k_x k_packed k_hits k_rues k_soonest (upd k_inAll (Int32.toNatClampNeg v3) (vp_nar .boolean 0)))) hS => ?_)
            refine lv_iinc (v := (v3 + 1)) (lv' := [(3, .int (v3 + 1)), (0, .ref a0), (1, .int v1), (2, .int v2)]) hx hb dX10_laysAgreed_73 hl (k := 3) rfl rfl (by decide) rfl (fun ls hl => ?_)
            refine lv_goto (tgt := 37) hx hb dX10_laysAgreed_76 (by decide) ?_
            exact ih v1 v2 (v3 + 1) k_thrown k_w k_o k_isKept k_went k_wentMany k_waiting k_came k_depth k_isSilent k_x k_packed k_hits k_rues k_soonest (upd k_inAll (Int32.toNatClampNeg v3) (vp_nar .boolean 0)) _ _ _ ls hf hP hD hS (lv_sub hl [1, 2, 3, 0] rfl) hk
          · have hf := it_n hf c21
            refine lv_iconst (v := 1) hx hb dX10_laysAgreed_67 (by decide) ?_
            refine lv_goto (tgt := 72) hx hb dX10_laysAgreed_68 (by decide) ?_
            obtain ⟨g20, hf⟩ := it_g hf
            refine va_zast hx hb hE.1 hP hD hS 6 1 rfl rfl g20 dX10_laysAgreed_72 (fun H locs (hP : va_P D vwCl (MX10 cI cZ cL cW a0 a1 a2 a3 a4 a5 a6 k_thrown k_w k_o k_isKept k_went k_wentMany k_waiting k_came k_depth k_isSilent k_x k_packed k_hits k_rues k_soonest (upd k_inAll (Int32.toNatClampNeg v3) (vp_nar .boolean 1))) H) (hD : va_D A (MX10 cI cZ cL cW a0 a1 a2 a3 a4 a5 a6 k_thrown k_w k_o k_isKept k_went k_wentMany k_waiting k_came k_depth k_isSilent k_x k_packed k_hits k_rues k_soonest (upd k_inAll (Int32.toNatClampNeg v3) (vp_nar .boolean 1)))) hS => ?_)
            refine lv_iinc (v := (v3 + 1)) (lv' := [(3, .int (v3 + 1)), (0, .ref a0), (1, .int v1), (2, .int v2)]) hx hb dX10_laysAgreed_73 hl (k := 3) rfl rfl (by decide) rfl (fun ls hl => ?_)
            refine lv_goto (tgt := 37) hx hb dX10_laysAgreed_76 (by decide) ?_
            exact ih v1 v2 (v3 + 1) k_thrown k_w k_o k_isKept k_went k_wentMany k_waiting k_came k_depth k_isSilent k_x k_packed k_hits k_rues k_soonest (upd k_inAll (Int32.toNatClampNeg v3) (vp_nar .boolean 1)) _ _ _ ls hf hP hD hS (lv_sub hl [1, 2, 3, 0] rfl) hk
  have L24 : ∀ (Q : State → Prop) (n : Nat) (v1 : Int32) (v2 : Int32) (k_thrown : Int32) (k_w : (Nat → Int32)) (k_o : Int32) (k_isKept : (Nat → Int32)) (k_went : (Nat → Int32)) (k_wentMany : Int32) (k_waiting : (Nat → Int32)) (k_came : Int32) (k_depth : Int32) (k_isSilent : Int32) (k_x : Int64) (k_packed : (Nat → Int32)) (k_hits : Int32) (k_rues : Int32) (k_soonest : Int32) (k_inAll : (Nat → Int32)) (k_w' : (Nat → Int32)) (k_o' : Int32) (k_went' : (Nat → Int32)) (k_wentMany' : Int32) (k_waiting' : (Nat → Int32)) (k_came' : Int32) (k_isSilent' : Int32) (k_hits' : Int32) (k_rues' : Int32) (k_soonest' : Int32) (k_inAll' : (Nat → Int32)) (H : Heap) (locs : List Loc) (ls : Array Slot), X10_laysAgreed_L24 F n v1 v2 k_w k_o k_went k_wentMany k_waiting k_came k_depth k_isSilent k_hits k_rues k_soonest k_inAll = some (k_w', k_o', k_went', k_wentMany', k_waiting', k_came', k_isSilent', k_hits', k_rues', k_soonest', k_inAll') → va_P D vwCl (MX10 cI cZ cL cW a0 a1 a2 a3 a4 a5 a6 k_thrown k_w k_o k_isKept k_went k_wentMany k_waiting k_came k_depth k_isSilent k_x k_packed k_hits k_rues k_soonest k_inAll) H → va_D A (MX10 cI cZ cL cW a0 a1 a2 a3 a4 a5 a6 k_thrown k_w k_o k_isKept k_went k_wentMany k_waiting k_came k_depth k_isSilent k_x k_packed k_hits k_rues k_soonest k_inAll) → va_S A s.heap H locs → lv_has ls 4 [(0, .ref a0), (1, .int v1), (2, .int v2)] → (∀ (H : Heap) (locs : List Loc) (ls : Array Slot), va_P D vwCl (MX10 cI cZ cL cW a0 a1 a2 a3 a4 a5 a6 k_thrown (k_w') (k_o') k_isKept (k_went') (k_wentMany') (k_waiting') (k_came') k_depth (k_isSilent') k_x k_packed (k_hits') (k_rues') (k_soonest') (k_inAll')) H → va_D A (MX10 cI cZ cL cW a0 a1 a2 a3 a4 a5 a6 k_thrown (k_w') (k_o') k_isKept (k_went') (k_wentMany') (k_waiting') (k_came') k_depth (k_isSilent') k_x k_packed (k_hits') (k_rues') (k_soonest') (k_inAll')) → va_S A s.heap H locs → lv_has ls 4 [(0, .ref a0)] → W p l e rm_X10_laysAgreed s m args below meth c H locs 0 0 Q (F0 m 85 ls [])) → W p l e rm_X10_laysAgreed s m args below meth c H locs 0 0 Q (F0 m 24 ls []) := by
    intro Q n
    induction n with
    | zero => intro v1 v2 k_thrown k_w k_o k_isKept k_went k_wentMany k_waiting k_came k_depth k_isSilent k_x k_packed k_hits k_rues k_soonest k_inAll k_w' k_o' k_went' k_wentMany' k_waiting' k_came' k_isSilent' k_hits' k_rues' k_soonest' k_inAll' H locs ls hf hP hD hS hl hk; exact nn_s hf
    | succ n ih =>
      intro v1 v2 k_thrown k_w k_o k_isKept k_went k_wentMany k_waiting k_came k_depth k_isSilent k_x k_packed k_hits k_rues k_soonest k_inAll k_w' k_o' k_went' k_wentMany' k_waiting' k_came' k_isSilent' k_hits' k_rues' k_soonest' k_inAll' H locs ls hf hP hD hS hl hk
      refine lv_iload_n hx hb dX10_laysAgreed_24 rfl (lv_at hl 2 rfl) ?_
      refine lv_iconst (v := 5) hx hb dX10_laysAgreed_25 (by decide) ?_
      refine lv_icmp_ge (tgt := 85) hx hb dX10_laysAgreed_26 (by decide) (fun c27 => ?_) (fun c27 => ?_)
      · have hf := it_p hf c27
        cases hf
        exact hk _ _ ls hP hD hS (lv_sub hl [0] rfl)
      · have hf := it_n hf c27
        refine lv_aload_n hx hb dX10_laysAgreed_29 rfl (lv_at hl 0 rfl) ?_
        refine lv_iload_n hx hb dX10_laysAgreed_30 rfl (lv_at hl 2 rfl) ?_
        refine lv_iload_n hx hb dX10_laysAgreed_31 rfl (lv_at hl 1 rfl) ?_
        obtain ⟨⟨k_w_5, k_o_6, k_went_7, k_wentMany_8, k_waiting_9, k_came_10, k_isSilent_11, k_hits_12, k_rues_13, k_soonest_14⟩, h15, hf⟩ := bd_s hf
        refine iv_A (rest := []) (st1 := []) C hE hP hD hS hA (c_X10_goesThrough l D cI cZ cL cW F a0 a1 a2 a3 a4 a5 a6 k_thrown k_w k_o k_isKept k_went k_wentMany k_waiting k_came k_depth k_isSilent k_x k_packed k_hits k_rues k_soonest k_inAll v2 v1  k_w_5 k_o_6 k_went_7 k_wentMany_8 k_waiting_9 k_came_10 k_isSilent_11 k_hits_12 k_rues_13 k_soonest_14 h15) ok_X10_goesThrough qM_X10_309 rfl rfl ⟨(Nat.le_of_ble_eq_true rfl), (Nat.le_of_ble_eq_true rfl)⟩ rfl rfl hl.1 (Nat.le_of_ble_eq_true rfl) ⟨Nat.zero_le _, Nat.zero_le _⟩ dX10_laysAgreed_32 rfl rfl (fun H locs (hP : va_P D vwCl (MX10 cI cZ cL cW a0 a1 a2 a3 a4 a5 a6 k_thrown k_w_5 k_o_6 k_isKept k_went_7 k_wentMany_8 k_waiting_9 k_came_10 k_depth k_isSilent_11 k_x k_packed k_hits_12 k_rues_13 k_soonest_14 k_inAll) H) (hD : va_D A (MX10 cI cZ cL cW a0 a1 a2 a3 a4 a5 a6 k_thrown k_w_5 k_o_6 k_isKept k_went_7 k_wentMany_8 k_waiting_9 k_came_10 k_depth k_isSilent_11 k_x k_packed k_hits_12 k_rues_13 k_soonest_14 k_inAll)) hS => ?_)
        refine lv_iconst (v := 0) hx hb dX10_laysAgreed_35 (by decide) ?_
        refine lv_istore_n (lv' := [(3, .int 0), (0, .ref a0), (1, .int v1), (2, .int v2)]) hx hb dX10_laysAgreed_36 rfl hl (by decide) rfl (fun ls hl => ?_)
        obtain ⟨k25, h26, hf⟩ := bd_s hf
        refine L37 _ F v1 v2 0 k_thrown k_w_5 k_o_6 k_isKept k_went_7 k_wentMany_8 k_waiting_9 k_came_10 k_depth k_isSilent_11 k_x k_packed k_hits_12 k_rues_13 k_soonest_14 k_inAll k25 _ _ ls h26 hP hD hS (lv_sub hl [1, 2, 3, 0] rfl) (fun H locs ls hP hD hS hl => ?_)
        refine lv_iinc (v := (v2 + 1)) (lv' := [(2, .int (v2 + 1)), (0, .ref a0), (1, .int v1)]) hx hb dX10_laysAgreed_79 hl (k := 2) rfl rfl (by decide) rfl (fun ls hl => ?_)
        refine lv_goto (tgt := 24) hx hb dX10_laysAgreed_82 (by decide) ?_
        exact ih v1 (v2 + 1) k_thrown k_w_5 k_o_6 k_isKept k_went_7 k_wentMany_8 k_waiting_9 k_came_10 k_depth k_isSilent_11 k_x k_packed k_hits_12 k_rues_13 k_soonest_14 k25 _ _ _ _ _ _ _ _ _ _ _ _ _ ls hf hP hD hS (lv_sub hl [1, 2, 0] rfl) hk
  refine lv_iconst (v := 0) hx hb dX10_laysAgreed_0 (by decide) ?_
  refine lv_istore_n (lv' := [(2, .int 0), (0, .ref a0), (1, .int p1)]) hx hb dX10_laysAgreed_1 rfl hl (by decide) rfl (fun ls hl => ?_)
  obtain ⟨k3, h4, hf⟩ := bd_s hf
  refine L2 _ F p1 0 k_thrown k_w k_o k_isKept k_went k_wentMany k_waiting k_came k_depth k_isSilent k_x k_packed k_hits k_rues k_soonest k_inAll k3 _ _ ls h4 hP hD hS (lv_sub hl [1, 2, 0] rfl) (fun H locs ls hP hD hS hl => ?_)
  refine lv_iconst (v := 0) hx hb dX10_laysAgreed_22 (by decide) ?_
  refine lv_istore_n (lv' := [(2, .int 0), (0, .ref a0), (1, .int p1)]) hx hb dX10_laysAgreed_23 rfl hl (by decide) rfl (fun ls hl => ?_)
  obtain ⟨⟨k28, k29, k30, k31, k32, k33, k34, k35, k36, k37, k38⟩, h39, hf⟩ := bd_s hf
  refine L24 _ F p1 0 k_thrown k_w k_o k_isKept k_went k_wentMany k_waiting k_came k_depth k_isSilent k_x k_packed k_hits k_rues k_soonest k3 k28 k29 k30 k31 k32 k33 k34 k35 k36 k37 k38 _ _ ls h39 hP hD hS (lv_sub hl [1, 2, 0] rfl) (fun H locs ls hP hD hS hl => ?_)
  refine lv_aload_n hx hb dX10_laysAgreed_85 rfl (lv_at hl 0 rfl) ?_
  obtain ⟨⟨k_o_40, k_isSilent_41⟩, h42, hf⟩ := bd_s hf
  refine iv_A (rest := []) (st1 := []) C hE hP hD hS hA (c_X10_comesBack l D cI cZ cL cW F a0 a1 a2 a3 a4 a5 a6 k_thrown k28 k29 k_isKept k30 k31 k32 k33 k_depth k34 k_x k_packed k35 k36 k37 k38   k_o_40 k_isSilent_41 h42) ok_X10_comesBack qM_X10_268 rfl rfl ⟨(Nat.le_of_ble_eq_true rfl), (Nat.le_of_ble_eq_true rfl)⟩ rfl rfl hl.1 (Nat.le_of_ble_eq_true rfl) ⟨Nat.zero_le _, Nat.zero_le _⟩ dX10_laysAgreed_86 rfl rfl (fun H locs (hP : va_P D vwCl (MX10 cI cZ cL cW a0 a1 a2 a3 a4 a5 a6 k_thrown k28 k_o_40 k_isKept k30 k31 k32 k33 k_depth k_isSilent_41 k_x k_packed k35 k36 k37 k38) H) (hD : va_D A (MX10 cI cZ cL cW a0 a1 a2 a3 a4 a5 a6 k_thrown k28 k_o_40 k_isKept k30 k31 k32 k33 k_depth k_isSilent_41 k_x k_packed k35 k36 k37 k38)) hS => ?_)
  cases hf
  exact rw_v C hr hlk hP hD hS dX10_laysAgreed_89
def X10_agree_L34 (F : Nat) : Nat → Int32 → Int32 → Int32 → Int32 → (Nat → Int32) → Int32 → (Nat → Int32) → Int32 → (Nat → Int32) → Int32 → Int32 → Int32 → Int32 → Int32 → (Nat → Int32) → Option (Int32 × Int32 × (Nat → Int32) × Int32 × (Nat → Int32) × Int32 × (Nat → Int32) × Int32 × Int32 × Int32 × Int32 × Int32 × (Nat → Int32))
  | 0, _, _, _, _, _, _, _, _, _, _, _, _, _, _, _ => none
  | n + 1, v2, v3, v4, k_thrown, k_w, k_o, k_went, k_wentMany, k_waiting, k_came, k_isSilent, k_hits, k_rues, k_soonest, k_inAll => if (1000 : Int32) ≤ v4 then (if (v2 : Int32) = (-1) then (some (v3, k_thrown, k_w, k_o, k_went, k_wentMany, k_waiting, k_came, k_isSilent, k_hits, k_rues, k_soonest, k_inAll)) else (some ((-1), k_thrown, k_w, k_o, k_went, k_wentMany, k_waiting, k_came, k_isSilent, k_hits, k_rues, k_soonest, k_inAll))) else (if (v4 : Int32) < 0 ∨ 1000 ≤ (Int32.toNatClampNeg v4) then none else (if ((k_inAll (Int32.toNatClampNeg v4)) : Int32) = 0 then (X10_agree_L34 F n v2 v3 (v4 + 1) k_thrown k_w k_o k_went k_wentMany k_waiting k_came k_isSilent k_hits k_rues k_soonest k_inAll) else (if (v3 : Int32) = v2 then (some (v4, k_thrown, k_w, k_o, k_went, k_wentMany, k_waiting, k_came, k_isSilent, k_hits, k_rues, k_soonest, k_inAll)) else (X10_agree_L34 F n v2 (v3 + 1) (v4 + 1) k_thrown k_w k_o k_went k_wentMany k_waiting k_came k_isSilent k_hits k_rues k_soonest k_inAll))))
def X10_agree (F : Nat) (p1 : Int32) (p2 : Int32) (k_thrown : Int32) (k_w : (Nat → Int32)) (k_o : Int32) (k_went : (Nat → Int32)) (k_wentMany : Int32) (k_waiting : (Nat → Int32)) (k_came : Int32) (k_depth : Int32) (k_isSilent : Int32) (k_hits : Int32) (k_rues : Int32) (k_soonest : Int32) (k_inAll : (Nat → Int32)) : Option (Int32 × Int32 × (Nat → Int32) × Int32 × (Nat → Int32) × Int32 × (Nat → Int32) × Int32 × Int32 × Int32 × Int32 × Int32 × (Nat → Int32)) := (X10_isIn F p1.toInt64 0 60).bind fun r1 => (if (r1 : Int32) = 0 then (some ((-1), 0, k_w, k_o, k_went, k_wentMany, k_waiting, k_came, k_isSilent, k_hits, k_rues, k_soonest, k_inAll)) else (if ((-1) : Int32) ≤ p2 then ((X10_laysAgreed F p1 k_w k_o k_went k_wentMany k_waiting k_came k_depth k_isSilent k_hits k_rues k_soonest k_inAll).bind fun (k_w_3, k_o_4, k_went_5, k_wentMany_6, k_waiting_7, k_came_8, k_isSilent_9, k_hits_10, k_rues_11, k_soonest_12, k_inAll_13) => (X10_agree_L34 F F p2 0 0 0 k_w_3 k_o_4 k_went_5 k_wentMany_6 k_waiting_7 k_came_8 k_isSilent_9 k_hits_10 k_rues_11 k_soonest_12 k_inAll_13)) else (some ((-1), 0, k_w, k_o, k_went, k_wentMany, k_waiting, k_came, k_isSilent, k_hits, k_rues, k_soonest, k_inAll))))
abbrev rm_X10_agree : Room := { frames := 9, cells := 0, slots := 0, locals := 215 }
theorem ok_X10_agree : OKV RX10 yX10_agree cX10_agree 5 (some .int) 2 := ⟨by decide +kernel, qV_X10_agree, qL_X10_agree, qI_X10, qD_X10_agree⟩
set_option maxHeartbeats 4000000 in
set_option maxRecDepth 100000 in
theorem c_X10_agree (l : Launch) (D : va_G) (cI cZ cL cW : ClassId) (F : Nat) (a0 : Nat) (a1 : Nat) (a2 : Nat) (a3 : Nat) (a4 : Nat) (a5 : Nat) (a6 : Nat) (k_thrown : Int32) (k_w : (Nat → Int32)) (k_o : Int32) (k_isKept : (Nat → Int32)) (k_went : (Nat → Int32)) (k_wentMany : Int32) (k_waiting : (Nat → Int32)) (k_came : Int32) (k_depth : Int32) (k_isSilent : Int32) (k_x : Int64) (k_packed : (Nat → Int32)) (k_hits : Int32) (k_rues : Int32) (k_soonest : Int32) (k_inAll : (Nat → Int32)) (p1 : Int32) (p2 : Int32) (r : Int32) (k_thrown' : Int32) (k_w' : (Nat → Int32)) (k_o' : Int32) (k_went' : (Nat → Int32)) (k_wentMany' : Int32) (k_waiting' : (Nat → Int32)) (k_came' : Int32) (k_isSilent' : Int32) (k_hits' : Int32) (k_rues' : Int32) (k_soonest' : Int32) (k_inAll' : (Nat → Int32)) (hf : X10_agree F p1 p2 k_thrown k_w k_o k_went k_wentMany k_waiting k_came k_depth k_isSilent k_hits k_rues k_soonest k_inAll = some (r, k_thrown', k_w', k_o', k_went', k_wentMany', k_waiting', k_came', k_isSilent', k_hits', k_rues', k_soonest', k_inAll')) : CtrW l D (tyL cI cZ cL cW) nestW yX10_agree cX10_agree 5 (some .int) rm_X10_agree [.ref a0, .int p1, .int p2] (MX10 cI cZ cL cW a0 a1 a2 a3 a4 a5 a6 k_thrown k_w k_o k_isKept k_went k_wentMany k_waiting k_came k_depth k_isSilent k_x k_packed k_hits k_rues k_soonest k_inAll) (MX10 cI cZ cL cW a0 a1 a2 a3 a4 a5 a6 (k_thrown') (k_w') (k_o') k_isKept (k_went') (k_wentMany') (k_waiting') (k_came') k_depth (k_isSilent') k_x k_packed (k_hits') (k_rues') (k_soonest') (k_inAll')) (some (.int r)) := by
  refine ofA RX10 (by decide) rfl (Nat.le_of_ble_eq_true rfl) ?_
  intro p e s m below meth c ls A C hr hlk hE hA hP hD hS hl
  generalize (List.toArray ([.ref a0, .int p1, .int p2] : List Value)) = args at C ⊢
  obtain ⟨hx, hb, hml, hown, ht⟩ := id C
  have hl : lv_has ls 5 [(0, .ref a0), (1, .int p1), (2, .int p2)] := hl
  have L34 : ∀ (n : Nat) (v2 : Int32) (v3 : Int32) (v4 : Int32) (k_thrown : Int32) (k_w : (Nat → Int32)) (k_o : Int32) (k_isKept : (Nat → Int32)) (k_went : (Nat → Int32)) (k_wentMany : Int32) (k_waiting : (Nat → Int32)) (k_came : Int32) (k_depth : Int32) (k_isSilent : Int32) (k_x : Int64) (k_packed : (Nat → Int32)) (k_hits : Int32) (k_rues : Int32) (k_soonest : Int32) (k_inAll : (Nat → Int32)) (H : Heap) (locs : List Loc) (ls : Array Slot), X10_agree_L34 F n v2 v3 v4 k_thrown k_w k_o k_went k_wentMany k_waiting k_came k_isSilent k_hits k_rues k_soonest k_inAll = some (r, k_thrown', k_w', k_o', k_went', k_wentMany', k_waiting', k_came', k_isSilent', k_hits', k_rues', k_soonest', k_inAll') → va_P D vwCl (MX10 cI cZ cL cW a0 a1 a2 a3 a4 a5 a6 k_thrown k_w k_o k_isKept k_went k_wentMany k_waiting k_came k_depth k_isSilent k_x k_packed k_hits k_rues k_soonest k_inAll) H → va_D A (MX10 cI cZ cL cW a0 a1 a2 a3 a4 a5 a6 k_thrown k_w k_o k_isKept k_went k_wentMany k_waiting k_came k_depth k_isSilent k_x k_packed k_hits k_rues k_soonest k_inAll) → va_S A s.heap H locs → lv_has ls 5 [(0, .ref a0), (2, .int v2), (3, .int v3), (4, .int v4)] → W p l e rm_X10_agree s m args below meth c H locs 0 0 (MQ below (QA D A (MX10 cI cZ cL cW a0 a1 a2 a3 a4 a5 a6 (k_thrown') (k_w') (k_o') k_isKept (k_went') (k_wentMany') (k_waiting') (k_came') k_depth (k_isSilent') k_x k_packed (k_hits') (k_rues') (k_soonest') (k_inAll')) (some (.int r))) args s 0 0 A) (F0 m 34 ls []) := by
    intro n
    induction n with
    | zero => intro v2 v3 v4 k_thrown k_w k_o k_isKept k_went k_wentMany k_waiting k_came k_depth k_isSilent k_x k_packed k_hits k_rues k_soonest k_inAll H locs ls hf hP hD hS hl; exact nn_s hf
    | succ n ih =>
      intro v2 v3 v4 k_thrown k_w k_o k_isKept k_went k_wentMany k_waiting k_came k_depth k_isSilent k_x k_packed k_hits k_rues k_soonest k_inAll H locs ls hf hP hD hS hl
      refine lv_iload hx hb dX10_agree_34 (lv_at hl 3 rfl) ?_
      refine lv_sipush (v := 1000) hx hb dX10_agree_36 (by decide) ?_
      refine lv_icmp_ge (tgt := 72) hx hb dX10_agree_39 (by decide) (fun c19 => ?_) (fun c19 => ?_)
      · have hf := it_p hf c19
        refine lv_iload_n hx hb dX10_agree_72 rfl (lv_at hl 1 rfl) ?_
        refine lv_iconst (v := (-1)) hx hb dX10_agree_73 (by decide) ?_
        refine lv_icmp_ne (tgt := 81) hx hb dX10_agree_74 (by decide) (fun c15 => ?_) (fun c15 => ?_)
        · have hf := it_n hf c15
          refine lv_iconst (v := (-1)) hx hb dX10_agree_81 (by decide) ?_
          cases hf
          exact rw_i C hr hlk hP hD hS dX10_agree_82 rfl
        · have hf := it_p hf c15
          refine lv_iload_n hx hb dX10_agree_77 rfl (lv_at hl 2 rfl) ?_
          refine lv_goto (tgt := 82) hx hb dX10_agree_78 (by decide) ?_
          cases hf
          exact rw_i C hr hlk hP hD hS dX10_agree_82 rfl
      · have hf := it_n hf c19
        refine lv_aload_n hx hb dX10_agree_42 rfl (lv_at hl 0 rfl) ?_
        refine gf_X10 (v := .ref a6) C hE hP 0 15 rfl (by decide) qF_X10_34 rfl dX10_agree_43 ?_
        refine lv_iload hx hb dX10_agree_46 (lv_at hl 3 rfl) ?_
        obtain ⟨g18, hf⟩ := it_g hf
        refine va_zald hx hb hE.1 hP 6 1 rfl rfl g18 dX10_agree_48 ?_
        refine lv_if_ne (tgt := 55) hx hb dX10_agree_49 (by decide) (fun c17 => ?_) (fun c17 => ?_)
        · have hf := it_n hf c17
          refine lv_iload_n hx hb dX10_agree_55 rfl (lv_at hl 2 rfl) ?_
          refine lv_iload_n hx hb dX10_agree_56 rfl (lv_at hl 1 rfl) ?_
          refine lv_icmp_ne (tgt := 63) hx hb dX10_agree_57 (by decide) (fun c16 => ?_) (fun c16 => ?_)
          · have hf := it_n hf c16
            refine lv_iinc (v := (v3 + 1)) (lv' := [(3, .int (v3 + 1)), (0, .ref a0), (2, .int v2), (4, .int v4)]) hx hb dX10_agree_63 hl (k := 2) rfl rfl (by decide) rfl (fun ls hl => ?_)
            refine lv_iinc (v := (v4 + 1)) (lv' := [(4, .int (v4 + 1)), (3, .int (v3 + 1)), (0, .ref a0), (2, .int v2)]) hx hb dX10_agree_66 hl (k := 3) rfl rfl (by decide) rfl (fun ls hl => ?_)
            refine lv_goto (tgt := 34) hx hb dX10_agree_69 (by decide) ?_
            exact ih v2 (v3 + 1) (v4 + 1) k_thrown k_w k_o k_isKept k_went k_wentMany k_waiting k_came k_depth k_isSilent k_x k_packed k_hits k_rues k_soonest k_inAll _ _ ls hf hP hD hS (lv_sub hl [2, 3, 1, 0] rfl)
          · have hf := it_p hf c16
            refine lv_iload hx hb dX10_agree_60 (lv_at hl 3 rfl) ?_
            cases hf
            exact rw_i C hr hlk hP hD hS dX10_agree_62 rfl
        · have hf := it_p hf c17
          refine lv_goto (tgt := 66) hx hb dX10_agree_52 (by decide) ?_
          refine lv_iinc (v := (v4 + 1)) (lv' := [(4, .int (v4 + 1)), (0, .ref a0), (2, .int v2), (3, .int v3)]) hx hb dX10_agree_66 hl (k := 3) rfl rfl (by decide) rfl (fun ls hl => ?_)
          refine lv_goto (tgt := 34) hx hb dX10_agree_69 (by decide) ?_
          exact ih v2 v3 (v4 + 1) k_thrown k_w k_o k_isKept k_went k_wentMany k_waiting k_came k_depth k_isSilent k_x k_packed k_hits k_rues k_soonest k_inAll _ _ ls hf hP hD hS (lv_sub hl [1, 2, 3, 0] rfl)
  refine lv_aload_n hx hb dX10_agree_0 rfl (lv_at hl 0 rfl) ?_
  refine lv_iconst (v := 0) hx hb dX10_agree_1 (by decide) ?_
  refine pf_X10 (v := .int 0) C hE hP hD hS 0 0 rfl (by decide) qF_X10_1 rfl rfl rfl (Nat.le_of_ble_eq_true rfl) dX10_agree_2 (fun H locs (hP : va_P D vwCl (MX10 cI cZ cL cW a0 a1 a2 a3 a4 a5 a6 0 k_w k_o k_isKept k_went k_wentMany k_waiting k_came k_depth k_isSilent k_x k_packed k_hits k_rues k_soonest k_inAll) H) (hD : va_D A (MX10 cI cZ cL cW a0 a1 a2 a3 a4 a5 a6 0 k_w k_o k_isKept k_went k_wentMany k_waiting k_came k_depth k_isSilent k_x k_packed k_hits k_rues k_soonest k_inAll)) hS => ?_)
  refine lv_iload_n hx hb dX10_agree_5 rfl (lv_at hl 1 rfl) ?_
  refine lv_i2l hx hb dX10_agree_6 rfl ?_
  refine lv_lconst (v := 0) hx hb dX10_agree_7 (by decide) ?_
  refine lv_ldc2 (v := 60) hx hb hown (ht _ qJ_X10_240) dX10_agree_8 ?_
  obtain ⟨r1, h2, hf⟩ := bd_s hf
  refine is_R (rest := []) (st1 := [.int r1]) C hE va_P_nil (c_X10_isIn l D cI cZ cL cW F   p1.toInt64 0 60 r1  h2) ok_X10_isIn qM_X10_49 rfl rfl ⟨(Nat.le_of_ble_eq_true rfl), (Nat.le_of_ble_eq_true rfl)⟩ hl.1 (Nat.le_of_ble_eq_true rfl) ⟨Nat.zero_le _, Nat.zero_le _⟩ dX10_agree_11 rfl rfl ?_
  refine lv_if_eq (tgt := 22) hx hb dX10_agree_14 (by decide) (fun c21 => ?_) (fun c21 => ?_)
  · have hf := it_p hf c21
    refine lv_iconst (v := (-1)) hx hb dX10_agree_22 (by decide) ?_
    cases hf
    exact rw_i C hr hlk hP hD hS dX10_agree_23 rfl
  · have hf := it_n hf c21
    refine lv_iload_n hx hb dX10_agree_17 rfl (lv_at hl 2 rfl) ?_
    refine lv_iconst (v := (-1)) hx hb dX10_agree_18 (by decide) ?_
    refine lv_icmp_ge (tgt := 24) hx hb dX10_agree_19 (by decide) (fun c20 => ?_) (fun c20 => ?_)
    · have hf := it_p hf c20
      refine lv_aload_n hx hb dX10_agree_24 rfl (lv_at hl 0 rfl) ?_
      refine lv_iload_n hx hb dX10_agree_25 rfl (lv_at hl 1 rfl) ?_
      obtain ⟨⟨k_w_3, k_o_4, k_went_5, k_wentMany_6, k_waiting_7, k_came_8, k_isSilent_9, k_hits_10, k_rues_11, k_soonest_12, k_inAll_13⟩, h14, hf⟩ := bd_s hf
      refine iv_A (rest := []) (st1 := []) C hE hP hD hS hA (c_X10_laysAgreed l D cI cZ cL cW F a0 a1 a2 a3 a4 a5 a6 0 k_w k_o k_isKept k_went k_wentMany k_waiting k_came k_depth k_isSilent k_x k_packed k_hits k_rues k_soonest k_inAll p1  k_w_3 k_o_4 k_went_5 k_wentMany_6 k_waiting_7 k_came_8 k_isSilent_9 k_hits_10 k_rues_11 k_soonest_12 k_inAll_13 h14) ok_X10_laysAgreed qM_X10_315 rfl rfl ⟨(Nat.le_of_ble_eq_true rfl), (Nat.le_of_ble_eq_true rfl)⟩ rfl rfl hl.1 (Nat.le_of_ble_eq_true rfl) ⟨Nat.zero_le _, Nat.zero_le _⟩ dX10_agree_26 rfl rfl (fun H locs (hP : va_P D vwCl (MX10 cI cZ cL cW a0 a1 a2 a3 a4 a5 a6 0 k_w_3 k_o_4 k_isKept k_went_5 k_wentMany_6 k_waiting_7 k_came_8 k_depth k_isSilent_9 k_x k_packed k_hits_10 k_rues_11 k_soonest_12 k_inAll_13) H) (hD : va_D A (MX10 cI cZ cL cW a0 a1 a2 a3 a4 a5 a6 0 k_w_3 k_o_4 k_isKept k_went_5 k_wentMany_6 k_waiting_7 k_came_8 k_depth k_isSilent_9 k_x k_packed k_hits_10 k_rues_11 k_soonest_12 k_inAll_13)) hS => ?_)
      refine lv_iconst (v := 0) hx hb dX10_agree_29 (by decide) ?_
      refine lv_istore_n (lv' := [(3, .int 0), (0, .ref a0), (1, .int p1), (2, .int p2)]) hx hb dX10_agree_30 rfl hl (by decide) rfl (fun ls hl => ?_)
      refine lv_iconst (v := 0) hx hb dX10_agree_31 (by decide) ?_
      refine lv_istore (lv' := [(4, .int 0), (3, .int 0), (0, .ref a0), (1, .int p1), (2, .int p2)]) hx hb dX10_agree_32 hl (by decide) rfl (fun ls hl => ?_)
      exact L34 F p2 0 0 0 k_w_3 k_o_4 k_isKept k_went_5 k_wentMany_6 k_waiting_7 k_came_8 k_depth k_isSilent_9 k_x k_packed k_hits_10 k_rues_11 k_soonest_12 k_inAll_13 _ _ ls hf hP hD hS (lv_sub hl [2, 4, 1, 0] rfl)
    · have hf := it_n hf c20
      refine lv_iconst (v := (-1)) hx hb dX10_agree_22 (by decide) ?_
      cases hf
      exact rw_i C hr hlk hP hD hS dX10_agree_23 rfl
def X10_regret (F : Nat) (p1 : Int32) (p2 : Int32) (p3 : Int32) (k_thrown : Int32) (k_w : (Nat → Int32)) (k_o : Int32) (k_went : (Nat → Int32)) (k_wentMany : Int32) (k_waiting : (Nat → Int32)) (k_came : Int32) (k_depth : Int32) (k_isSilent : Int32) (k_hits : Int32) (k_rues : Int32) (k_soonest : Int32) : Option (Int32 × Int32 × (Nat → Int32) × Int32 × (Nat → Int32) × Int32 × (Nat → Int32) × Int32 × Int32 × Int32 × Int32 × Int32) := (X10_isWay F p1).bind fun r1 => (if (r1 : Int32) = 0 then (some ((-1), 0, k_w, k_o, k_went, k_wentMany, k_waiting, k_came, k_isSilent, k_hits, k_rues, k_soonest)) else ((X10_isIn F p2.toInt64 0 60).bind fun r3 => (if (r3 : Int32) = 0 then (some ((-1), 0, k_w, k_o, k_went, k_wentMany, k_waiting, k_came, k_isSilent, k_hits, k_rues, k_soonest)) else ((X10_isIn F p3.toInt64 0 1).bind fun r5 => (if (r5 : Int32) = 0 then (some ((-1), 0, k_w, k_o, k_went, k_wentMany, k_waiting, k_came, k_isSilent, k_hits, k_rues, k_soonest)) else ((X10_goesThrough F p1 p2 k_w k_o k_went k_wentMany k_waiting k_came k_depth k_isSilent k_hits k_rues k_soonest).bind fun (k_w_7, k_o_8, k_went_9, k_wentMany_10, k_waiting_11, k_came_12, k_isSilent_13, k_hits_14, k_rues_15, k_soonest_16) => ((X10_comesBack F k_o_8 k_isSilent_13).bind fun (k_o_18, k_isSilent_19) => (if (p3 : Int32) = 0 then (some (k_rues_15, 0, k_w_7, k_o_18, k_went_9, k_wentMany_10, k_waiting_11, k_came_12, k_isSilent_19, k_hits_14, k_rues_15, k_soonest_16)) else (some (k_soonest_16, 0, k_w_7, k_o_18, k_went_9, k_wentMany_10, k_waiting_11, k_came_12, k_isSilent_19, k_hits_14, k_rues_15, k_soonest_16))))))))))
abbrev rm_X10_regret : Room := { frames := 8, cells := 0, slots := 0, locals := 192 }
theorem ok_X10_regret : OKV RX10 yX10_regret cX10_regret 4 (some .int) 3 := ⟨by decide +kernel, qV_X10_regret, qL_X10_regret, qI_X10, qD_X10_regret⟩
set_option maxHeartbeats 4000000 in
set_option maxRecDepth 100000 in
theorem c_X10_regret (l : Launch) (D : va_G) (cI cZ cL cW : ClassId) (F : Nat) (a0 : Nat) (a1 : Nat) (a2 : Nat) (a3 : Nat) (a4 : Nat) (a5 : Nat) (a6 : Nat) (k_thrown : Int32) (k_w : (Nat → Int32)) (k_o : Int32) (k_isKept : (Nat → Int32)) (k_went : (Nat → Int32)) (k_wentMany : Int32) (k_waiting : (Nat → Int32)) (k_came : Int32) (k_depth : Int32) (k_isSilent : Int32) (k_x : Int64) (k_packed : (Nat → Int32)) (k_hits : Int32) (k_rues : Int32) (k_soonest : Int32) (k_inAll : (Nat → Int32)) (p1 : Int32) (p2 : Int32) (p3 : Int32) (r : Int32) (k_thrown' : Int32) (k_w' : (Nat → Int32)) (k_o' : Int32) (k_went' : (Nat → Int32)) (k_wentMany' : Int32) (k_waiting' : (Nat → Int32)) (k_came' : Int32) (k_isSilent' : Int32) (k_hits' : Int32) (k_rues' : Int32) (k_soonest' : Int32) (hf : X10_regret F p1 p2 p3 k_thrown k_w k_o k_went k_wentMany k_waiting k_came k_depth k_isSilent k_hits k_rues k_soonest = some (r, k_thrown', k_w', k_o', k_went', k_wentMany', k_waiting', k_came', k_isSilent', k_hits', k_rues', k_soonest')) : CtrW l D (tyL cI cZ cL cW) nestW yX10_regret cX10_regret 4 (some .int) rm_X10_regret [.ref a0, .int p1, .int p2, .int p3] (MX10 cI cZ cL cW a0 a1 a2 a3 a4 a5 a6 k_thrown k_w k_o k_isKept k_went k_wentMany k_waiting k_came k_depth k_isSilent k_x k_packed k_hits k_rues k_soonest k_inAll) (MX10 cI cZ cL cW a0 a1 a2 a3 a4 a5 a6 (k_thrown') (k_w') (k_o') k_isKept (k_went') (k_wentMany') (k_waiting') (k_came') k_depth (k_isSilent') k_x k_packed (k_hits') (k_rues') (k_soonest') k_inAll) (some (.int r)) := by
  refine ofA RX10 (by decide) rfl (Nat.le_of_ble_eq_true rfl) ?_
  intro p e s m below meth c ls A C hr hlk hE hA hP hD hS hl
  generalize (List.toArray ([.ref a0, .int p1, .int p2, .int p3] : List Value)) = args at C ⊢
  obtain ⟨hx, hb, hml, hown, ht⟩ := id C
  have hl : lv_has ls 4 [(0, .ref a0), (1, .int p1), (2, .int p2), (3, .int p3)] := hl
  refine lv_aload_n hx hb dX10_regret_0 rfl (lv_at hl 0 rfl) ?_
  refine lv_iconst (v := 0) hx hb dX10_regret_1 (by decide) ?_
  refine pf_X10 (v := .int 0) C hE hP hD hS 0 0 rfl (by decide) qF_X10_1 rfl rfl rfl (Nat.le_of_ble_eq_true rfl) dX10_regret_2 (fun H locs (hP : va_P D vwCl (MX10 cI cZ cL cW a0 a1 a2 a3 a4 a5 a6 0 k_w k_o k_isKept k_went k_wentMany k_waiting k_came k_depth k_isSilent k_x k_packed k_hits k_rues k_soonest k_inAll) H) (hD : va_D A (MX10 cI cZ cL cW a0 a1 a2 a3 a4 a5 a6 0 k_w k_o k_isKept k_went k_wentMany k_waiting k_came k_depth k_isSilent k_x k_packed k_hits k_rues k_soonest k_inAll)) hS => ?_)
  refine lv_iload_n hx hb dX10_regret_5 rfl (lv_at hl 1 rfl) ?_
  obtain ⟨r1, h2, hf⟩ := bd_s hf
  refine is_R (rest := []) (st1 := [.int r1]) C hE va_P_nil (c_X10_isWay l D cI cZ cL cW F   p1 r1  h2) ok_X10_isWay qM_X10_306 rfl rfl ⟨(Nat.le_of_ble_eq_true rfl), (Nat.le_of_ble_eq_true rfl)⟩ hl.1 (Nat.le_of_ble_eq_true rfl) ⟨Nat.zero_le _, Nat.zero_le _⟩ dX10_regret_6 rfl rfl ?_
  refine lv_if_eq (tgt := 34) hx hb dX10_regret_9 (by decide) (fun c24 => ?_) (fun c24 => ?_)
  · have hf := it_p hf c24
    refine lv_iconst (v := (-1)) hx hb dX10_regret_34 (by decide) ?_
    cases hf
    exact rw_i C hr hlk hP hD hS dX10_regret_35 rfl
  · have hf := it_n hf c24
    refine lv_iload_n hx hb dX10_regret_12 rfl (lv_at hl 2 rfl) ?_
    refine lv_i2l hx hb dX10_regret_13 rfl ?_
    refine lv_lconst (v := 0) hx hb dX10_regret_14 (by decide) ?_
    refine lv_ldc2 (v := 60) hx hb hown (ht _ qJ_X10_240) dX10_regret_15 ?_
    obtain ⟨r3, h4, hf⟩ := bd_s hf
    refine is_R (rest := []) (st1 := [.int r3]) C hE va_P_nil (c_X10_isIn l D cI cZ cL cW F   p2.toInt64 0 60 r3  h4) ok_X10_isIn qM_X10_49 rfl rfl ⟨(Nat.le_of_ble_eq_true rfl), (Nat.le_of_ble_eq_true rfl)⟩ hl.1 (Nat.le_of_ble_eq_true rfl) ⟨Nat.zero_le _, Nat.zero_le _⟩ dX10_regret_18 rfl rfl ?_
    refine lv_if_eq (tgt := 34) hx hb dX10_regret_21 (by decide) (fun c23 => ?_) (fun c23 => ?_)
    · have hf := it_p hf c23
      refine lv_iconst (v := (-1)) hx hb dX10_regret_34 (by decide) ?_
      cases hf
      exact rw_i C hr hlk hP hD hS dX10_regret_35 rfl
    · have hf := it_n hf c23
      refine lv_iload_n hx hb dX10_regret_24 rfl (lv_at hl 3 rfl) ?_
      refine lv_i2l hx hb dX10_regret_25 rfl ?_
      refine lv_lconst (v := 0) hx hb dX10_regret_26 (by decide) ?_
      refine lv_lconst (v := 1) hx hb dX10_regret_27 (by decide) ?_
      obtain ⟨r5, h6, hf⟩ := bd_s hf
      refine is_R (rest := []) (st1 := [.int r5]) C hE va_P_nil (c_X10_isIn l D cI cZ cL cW F   p3.toInt64 0 1 r5  h6) ok_X10_isIn qM_X10_49 rfl rfl ⟨(Nat.le_of_ble_eq_true rfl), (Nat.le_of_ble_eq_true rfl)⟩ hl.1 (Nat.le_of_ble_eq_true rfl) ⟨Nat.zero_le _, Nat.zero_le _⟩ dX10_regret_28 rfl rfl ?_
      refine lv_if_ne (tgt := 36) hx hb dX10_regret_31 (by decide) (fun c22 => ?_) (fun c22 => ?_)
      · have hf := it_n hf c22
        refine lv_aload_n hx hb dX10_regret_36 rfl (lv_at hl 0 rfl) ?_
        refine lv_iload_n hx hb dX10_regret_37 rfl (lv_at hl 1 rfl) ?_
        refine lv_iload_n hx hb dX10_regret_38 rfl (lv_at hl 2 rfl) ?_
        obtain ⟨⟨k_w_7, k_o_8, k_went_9, k_wentMany_10, k_waiting_11, k_came_12, k_isSilent_13, k_hits_14, k_rues_15, k_soonest_16⟩, h17, hf⟩ := bd_s hf
        refine iv_A (rest := []) (st1 := []) C hE hP hD hS hA (c_X10_goesThrough l D cI cZ cL cW F a0 a1 a2 a3 a4 a5 a6 0 k_w k_o k_isKept k_went k_wentMany k_waiting k_came k_depth k_isSilent k_x k_packed k_hits k_rues k_soonest k_inAll p1 p2  k_w_7 k_o_8 k_went_9 k_wentMany_10 k_waiting_11 k_came_12 k_isSilent_13 k_hits_14 k_rues_15 k_soonest_16 h17) ok_X10_goesThrough qM_X10_309 rfl rfl ⟨(Nat.le_of_ble_eq_true rfl), (Nat.le_of_ble_eq_true rfl)⟩ rfl rfl hl.1 (Nat.le_of_ble_eq_true rfl) ⟨Nat.zero_le _, Nat.zero_le _⟩ dX10_regret_39 rfl rfl (fun H locs (hP : va_P D vwCl (MX10 cI cZ cL cW a0 a1 a2 a3 a4 a5 a6 0 k_w_7 k_o_8 k_isKept k_went_9 k_wentMany_10 k_waiting_11 k_came_12 k_depth k_isSilent_13 k_x k_packed k_hits_14 k_rues_15 k_soonest_16 k_inAll) H) (hD : va_D A (MX10 cI cZ cL cW a0 a1 a2 a3 a4 a5 a6 0 k_w_7 k_o_8 k_isKept k_went_9 k_wentMany_10 k_waiting_11 k_came_12 k_depth k_isSilent_13 k_x k_packed k_hits_14 k_rues_15 k_soonest_16 k_inAll)) hS => ?_)
        refine lv_aload_n hx hb dX10_regret_42 rfl (lv_at hl 0 rfl) ?_
        obtain ⟨⟨k_o_18, k_isSilent_19⟩, h20, hf⟩ := bd_s hf
        refine iv_A (rest := []) (st1 := []) C hE hP hD hS hA (c_X10_comesBack l D cI cZ cL cW F a0 a1 a2 a3 a4 a5 a6 0 k_w_7 k_o_8 k_isKept k_went_9 k_wentMany_10 k_waiting_11 k_came_12 k_depth k_isSilent_13 k_x k_packed k_hits_14 k_rues_15 k_soonest_16 k_inAll   k_o_18 k_isSilent_19 h20) ok_X10_comesBack qM_X10_268 rfl rfl ⟨(Nat.le_of_ble_eq_true rfl), (Nat.le_of_ble_eq_true rfl)⟩ rfl rfl hl.1 (Nat.le_of_ble_eq_true rfl) ⟨Nat.zero_le _, Nat.zero_le _⟩ dX10_regret_43 rfl rfl (fun H locs (hP : va_P D vwCl (MX10 cI cZ cL cW a0 a1 a2 a3 a4 a5 a6 0 k_w_7 k_o_18 k_isKept k_went_9 k_wentMany_10 k_waiting_11 k_came_12 k_depth k_isSilent_19 k_x k_packed k_hits_14 k_rues_15 k_soonest_16 k_inAll) H) (hD : va_D A (MX10 cI cZ cL cW a0 a1 a2 a3 a4 a5 a6 0 k_w_7 k_o_18 k_isKept k_went_9 k_wentMany_10 k_waiting_11 k_came_12 k_depth k_isSilent_19 k_x k_packed k_hits_14 k_rues_15 k_soonest_16 k_inAll)) hS => ?_)
        refine lv_iload_n hx hb dX10_regret_46 rfl (lv_at hl 3 rfl) ?_
        refine lv_if_ne (tgt := 57) hx hb dX10_regret_47 (by decide) (fun c21 => ?_) (fun c21 => ?_)
        · have hf := it_n hf c21
          refine lv_aload_n hx hb dX10_regret_57 rfl (lv_at hl 0 rfl) ?_
          refine gf_X10 (v := .int k_soonest_16) C hE hP 0 14 rfl (by decide) qF_X10_292 rfl dX10_regret_58 ?_
          cases hf
          exact rw_i C hr hlk hP hD hS dX10_regret_61 rfl
        · have hf := it_p hf c21
          refine lv_aload_n hx hb dX10_regret_50 rfl (lv_at hl 0 rfl) ?_
          refine gf_X10 (v := .int k_rues_15) C hE hP 0 13 rfl (by decide) qF_X10_289 rfl dX10_regret_51 ?_
          refine lv_goto (tgt := 61) hx hb dX10_regret_54 (by decide) ?_
          cases hf
          exact rw_i C hr hlk hP hD hS dX10_regret_61 rfl
      · have hf := it_p hf c22
        refine lv_iconst (v := (-1)) hx hb dX10_regret_34 (by decide) ?_
        cases hf
        exact rw_i C hr hlk hP hD hS dX10_regret_35 rfl
def X10_oftenOf_L4 (F : Nat) : Nat → Int32 → Int32 → Int32 → (Nat → Int32) → Option (Int32)
  | 0, _, _, _, _ => none
  | n + 1, v1, v2, v3, k_w => if ((k_w (Int32.toNatClampNeg 14)) : Int32) ≤ v3 then (some v2) else (if ((748 + v3) : Int32) < 0 ∨ 3392 ≤ (Int32.toNatClampNeg (748 + v3)) then none else (if ((k_w (Int32.toNatClampNeg (748 + v3))) : Int32) = v1 then ((X10_flag F 1).bind fun r3 => (X10_oftenOf_L4 F n v1 (v2 + r3) (v3 + 1) k_w)) else ((X10_flag F 0).bind fun r1 => (X10_oftenOf_L4 F n v1 (v2 + r1) (v3 + 1) k_w))))
def X10_oftenOf (F : Nat) (p1 : Int32) (k_w : (Nat → Int32)) : Option (Int32) := (X10_oftenOf_L4 F F p1 0 0 k_w).bind fun x8 => (some x8)
abbrev rm_X10_oftenOf : Room := { frames := 1, cells := 0, slots := 0, locals := 20 }
theorem ok_X10_oftenOf : OKV RX10 yX10_oftenOf cX10_oftenOf 4 (some .int) 1 := ⟨by decide +kernel, qV_X10_oftenOf, qL_X10_oftenOf, qI_X10, qD_X10_oftenOf⟩
set_option maxHeartbeats 4000000 in
set_option maxRecDepth 100000 in
theorem c_X10_oftenOf (l : Launch) (D : va_G) (cI cZ cL cW : ClassId) (F : Nat) (a0 : Nat) (a1 : Nat) (a2 : Nat) (a3 : Nat) (a4 : Nat) (a5 : Nat) (a6 : Nat) (k_thrown : Int32) (k_w : (Nat → Int32)) (k_o : Int32) (k_isKept : (Nat → Int32)) (k_went : (Nat → Int32)) (k_wentMany : Int32) (k_waiting : (Nat → Int32)) (k_came : Int32) (k_depth : Int32) (k_isSilent : Int32) (k_x : Int64) (k_packed : (Nat → Int32)) (k_hits : Int32) (k_rues : Int32) (k_soonest : Int32) (k_inAll : (Nat → Int32)) (p1 : Int32) (r : Int32) (hf : X10_oftenOf F p1 k_w = some r) : CtrR l D (tyL cI cZ cL cW) nestW yX10_oftenOf cX10_oftenOf 4 (some .int) rm_X10_oftenOf [.ref a0, .int p1] (MX10 cI cZ cL cW a0 a1 a2 a3 a4 a5 a6 k_thrown k_w k_o k_isKept k_went k_wentMany k_waiting k_came k_depth k_isSilent k_x k_packed k_hits k_rues k_soonest k_inAll) (some (.int r)) := by
  refine ofR RX10 (by decide) rfl (Nat.le_of_ble_eq_true rfl) ?_
  intro p e s m below meth c ls C hr hlk hE hP hl
  generalize (List.toArray ([.ref a0, .int p1] : List Value)) = args at C ⊢
  obtain ⟨hx, hb, hml, hown, ht⟩ := id C
  have hl : lv_has ls 4 [(0, .ref a0), (1, .int p1)] := hl
  have L4 : ∀ (Q : State → Prop) (n : Nat) (v1 : Int32) (v2 : Int32) (v3 : Int32) (x2 : Int32) (ls : Array Slot), X10_oftenOf_L4 F n v1 v2 v3 k_w = some x2 → lv_has ls 4 [(0, .ref a0), (1, .int v1), (2, .int v2), (3, .int v3)] → (∀ ls : Array Slot, lv_has ls 4 [(2, .int x2)] → W p l e rm_X10_oftenOf s m args below meth c s.heap [] 0 0 Q (F0 m 46 ls [])) → W p l e rm_X10_oftenOf s m args below meth c s.heap [] 0 0 Q (F0 m 4 ls []) := by
    intro Q n
    induction n with
    | zero => intro v1 v2 v3 x2 ls hf hl hk; exact nn_s hf
    | succ n ih =>
      intro v1 v2 v3 x2 ls hf hl hk
      refine lv_iload_n hx hb dX10_oftenOf_4 rfl (lv_at hl 3 rfl) ?_
      refine lv_aload_n hx hb dX10_oftenOf_5 rfl (lv_at hl 0 rfl) ?_
      refine gf_X10 (v := .ref a1) C hE hP 0 1 rfl (by decide) qF_X10_17 rfl dX10_oftenOf_6 ?_
      refine lv_bipush (v := 14) hx hb dX10_oftenOf_9 (by decide) ?_
      refine va_iald hx hb hE.1 hP 1 0 rfl rfl (vp_l (by decide)) dX10_oftenOf_11 ?_
      refine lv_icmp_ge (tgt := 46) hx hb dX10_oftenOf_12 (by decide) (fun c7 => ?_) (fun c7 => ?_)
      · have hf := it_p hf c7
        cases hf
        exact hk ls (lv_sub hl [2] rfl)
      · have hf := it_n hf c7
        refine lv_iload_n hx hb dX10_oftenOf_15 rfl (lv_at hl 2 rfl) ?_
        refine lv_aload_n hx hb dX10_oftenOf_16 rfl (lv_at hl 0 rfl) ?_
        refine gf_X10 (v := .ref a1) C hE hP 0 1 rfl (by decide) qF_X10_17 rfl dX10_oftenOf_17 ?_
        refine lv_sipush (v := 748) hx hb dX10_oftenOf_20 (by decide) ?_
        refine lv_iload_n hx hb dX10_oftenOf_23 rfl (lv_at hl 3 rfl) ?_
        refine lv_iadd hx hb dX10_oftenOf_24 ?_
        obtain ⟨g6, hf⟩ := it_g hf
        refine va_iald hx hb hE.1 hP 1 0 rfl rfl g6 dX10_oftenOf_25 ?_
        refine lv_iload_n hx hb dX10_oftenOf_26 rfl (lv_at hl 1 rfl) ?_
        refine lv_icmp_ne (tgt := 34) hx hb dX10_oftenOf_27 (by decide) (fun c5 => ?_) (fun c5 => ?_)
        · have hf := it_n hf c5
          refine lv_iconst (v := 0) hx hb dX10_oftenOf_34 (by decide) ?_
          obtain ⟨r1, h2, hf⟩ := bd_s hf
          refine is_R (rest := [.int v2]) (st1 := [.int r1, .int v2]) C hE va_P_nil (c_X10_flag l D cI cZ cL cW F   0 r1  h2) ok_X10_flag qM_X10_57 rfl rfl ⟨(Nat.le_of_ble_eq_true rfl), (Nat.le_of_ble_eq_true rfl)⟩ hl.1 (Nat.le_of_ble_eq_true rfl) ⟨Nat.zero_le _, Nat.zero_le _⟩ dX10_oftenOf_35 rfl rfl ?_
          refine lv_iadd hx hb dX10_oftenOf_38 ?_
          refine lv_istore_n (lv' := [(2, .int (v2 + r1)), (0, .ref a0), (1, .int v1), (3, .int v3)]) hx hb dX10_oftenOf_39 rfl hl (by decide) rfl (fun ls hl => ?_)
          refine lv_iinc (v := (v3 + 1)) (lv' := [(3, .int (v3 + 1)), (2, .int (v2 + r1)), (0, .ref a0), (1, .int v1)]) hx hb dX10_oftenOf_40 hl (k := 3) rfl rfl (by decide) rfl (fun ls hl => ?_)
          refine lv_goto (tgt := 4) hx hb dX10_oftenOf_43 (by decide) ?_
          exact ih v1 (v2 + r1) (v3 + 1) _ ls hf (lv_sub hl [2, 3, 1, 0] rfl) hk
        · have hf := it_p hf c5
          refine lv_iconst (v := 1) hx hb dX10_oftenOf_30 (by decide) ?_
          refine lv_goto (tgt := 35) hx hb dX10_oftenOf_31 (by decide) ?_
          obtain ⟨r3, h4, hf⟩ := bd_s hf
          refine is_R (rest := [.int v2]) (st1 := [.int r3, .int v2]) C hE va_P_nil (c_X10_flag l D cI cZ cL cW F   1 r3  h4) ok_X10_flag qM_X10_57 rfl rfl ⟨(Nat.le_of_ble_eq_true rfl), (Nat.le_of_ble_eq_true rfl)⟩ hl.1 (Nat.le_of_ble_eq_true rfl) ⟨Nat.zero_le _, Nat.zero_le _⟩ dX10_oftenOf_35 rfl rfl ?_
          refine lv_iadd hx hb dX10_oftenOf_38 ?_
          refine lv_istore_n (lv' := [(2, .int (v2 + r3)), (0, .ref a0), (1, .int v1), (3, .int v3)]) hx hb dX10_oftenOf_39 rfl hl (by decide) rfl (fun ls hl => ?_)
          refine lv_iinc (v := (v3 + 1)) (lv' := [(3, .int (v3 + 1)), (2, .int (v2 + r3)), (0, .ref a0), (1, .int v1)]) hx hb dX10_oftenOf_40 hl (k := 3) rfl rfl (by decide) rfl (fun ls hl => ?_)
          refine lv_goto (tgt := 4) hx hb dX10_oftenOf_43 (by decide) ?_
          exact ih v1 (v2 + r3) (v3 + 1) _ ls hf (lv_sub hl [2, 3, 1, 0] rfl) hk
  refine lv_iconst (v := 0) hx hb dX10_oftenOf_0 (by decide) ?_
  refine lv_istore_n (lv' := [(2, .int 0), (0, .ref a0), (1, .int p1)]) hx hb dX10_oftenOf_1 rfl hl (by decide) rfl (fun ls hl => ?_)
  refine lv_iconst (v := 0) hx hb dX10_oftenOf_2 (by decide) ?_
  refine lv_istore_n (lv' := [(3, .int 0), (2, .int 0), (0, .ref a0), (1, .int p1)]) hx hb dX10_oftenOf_3 rfl hl (by decide) rfl (fun ls hl => ?_)
  obtain ⟨x8, h9, hf⟩ := bd_s hf
  refine L4 _ F p1 0 0 x8 ls h9 (lv_sub hl [2, 3, 1, 0] rfl) (fun ls hl => ?_)
  refine lv_iload_n hx hb dX10_oftenOf_46 rfl (lv_at hl 0 rfl) ?_
  exact rt_i C hr hlk dX10_oftenOf_47 (congrArg (fun o => o.map Value.int) hf)
def X10_hotBehind_L8 (F : Nat) : Nat → Int32 → Int32 → Int32 → Int32 → Int32 → (Nat → Int32) → Option (Int32)
  | 0, _, _, _, _, _, _ => none
  | n + 1, v1, v2, v3, v4, v5, k_w => if ((k_w (Int32.toNatClampNeg 14)) : Int32) ≤ v5 then (some v3) else (if ((748 + v5) : Int32) < 0 ∨ 3392 ≤ (Int32.toNatClampNeg (748 + v5)) then none else ((X10_oftenOf F (k_w (Int32.toNatClampNeg (748 + v5))) k_w).bind fun r1 => (if (v1 : Int32) = (-1) then (if (v3 : Int32) = (-1) then (X10_hotBehind_L8 F n v1 v2 (k_w (Int32.toNatClampNeg (748 + v5))) r1 (v5 + 1) k_w) else (if (r1 : Int32) < v4 then (X10_hotBehind_L8 F n v1 v2 v3 v4 (v5 + 1) k_w) else (if (r1 : Int32) = v4 then (if ((k_w (Int32.toNatClampNeg (748 + v5))) : Int32) < v3 then (X10_hotBehind_L8 F n v1 v2 (k_w (Int32.toNatClampNeg (748 + v5))) r1 (v5 + 1) k_w) else (X10_hotBehind_L8 F n v1 v2 v3 v4 (v5 + 1) k_w)) else (X10_hotBehind_L8 F n v1 v2 (k_w (Int32.toNatClampNeg (748 + v5))) r1 (v5 + 1) k_w)))) else (if (v2 : Int32) < r1 then (X10_hotBehind_L8 F n v1 v2 v3 v4 (v5 + 1) k_w) else (if (r1 : Int32) = v2 then (if (v1 : Int32) < (k_w (Int32.toNatClampNeg (748 + v5))) then (if (v3 : Int32) = (-1) then (X10_hotBehind_L8 F n v1 v2 (k_w (Int32.toNatClampNeg (748 + v5))) r1 (v5 + 1) k_w) else (if (r1 : Int32) < v4 then (X10_hotBehind_L8 F n v1 v2 v3 v4 (v5 + 1) k_w) else (if (r1 : Int32) = v4 then (if ((k_w (Int32.toNatClampNeg (748 + v5))) : Int32) < v3 then (X10_hotBehind_L8 F n v1 v2 (k_w (Int32.toNatClampNeg (748 + v5))) r1 (v5 + 1) k_w) else (X10_hotBehind_L8 F n v1 v2 v3 v4 (v5 + 1) k_w)) else (X10_hotBehind_L8 F n v1 v2 (k_w (Int32.toNatClampNeg (748 + v5))) r1 (v5 + 1) k_w)))) else (X10_hotBehind_L8 F n v1 v2 v3 v4 (v5 + 1) k_w)) else (if (v3 : Int32) = (-1) then (X10_hotBehind_L8 F n v1 v2 (k_w (Int32.toNatClampNeg (748 + v5))) r1 (v5 + 1) k_w) else (if (r1 : Int32) < v4 then (X10_hotBehind_L8 F n v1 v2 v3 v4 (v5 + 1) k_w) else (if (r1 : Int32) = v4 then (if ((k_w (Int32.toNatClampNeg (748 + v5))) : Int32) < v3 then (X10_hotBehind_L8 F n v1 v2 (k_w (Int32.toNatClampNeg (748 + v5))) r1 (v5 + 1) k_w) else (X10_hotBehind_L8 F n v1 v2 v3 v4 (v5 + 1) k_w)) else (X10_hotBehind_L8 F n v1 v2 (k_w (Int32.toNatClampNeg (748 + v5))) r1 (v5 + 1) k_w)))))))))
def X10_hotBehind (F : Nat) (p1 : Int32) (p2 : Int32) (k_w : (Nat → Int32)) : Option (Int32) := (X10_hotBehind_L8 F F p1 p2 (-1) 0 0 k_w).bind fun x21 => (some x21)
abbrev rm_X10_hotBehind : Room := { frames := 2, cells := 0, slots := 0, locals := 43 }
theorem ok_X10_hotBehind : OKV RX10 yX10_hotBehind cX10_hotBehind 8 (some .int) 2 := ⟨by decide +kernel, qV_X10_hotBehind, qL_X10_hotBehind, qI_X10, qD_X10_hotBehind⟩
set_option maxHeartbeats 4000000 in
set_option maxRecDepth 100000 in
theorem c_X10_hotBehind (l : Launch) (D : va_G) (cI cZ cL cW : ClassId) (F : Nat) (a0 : Nat) (a1 : Nat) (a2 : Nat) (a3 : Nat) (a4 : Nat) (a5 : Nat) (a6 : Nat) (k_thrown : Int32) (k_w : (Nat → Int32)) (k_o : Int32) (k_isKept : (Nat → Int32)) (k_went : (Nat → Int32)) (k_wentMany : Int32) (k_waiting : (Nat → Int32)) (k_came : Int32) (k_depth : Int32) (k_isSilent : Int32) (k_x : Int64) (k_packed : (Nat → Int32)) (k_hits : Int32) (k_rues : Int32) (k_soonest : Int32) (k_inAll : (Nat → Int32)) (p1 : Int32) (p2 : Int32) (r : Int32) (hf : X10_hotBehind F p1 p2 k_w = some r) : CtrR l D (tyL cI cZ cL cW) nestW yX10_hotBehind cX10_hotBehind 8 (some .int) rm_X10_hotBehind [.ref a0, .int p1, .int p2] (MX10 cI cZ cL cW a0 a1 a2 a3 a4 a5 a6 k_thrown k_w k_o k_isKept k_went k_wentMany k_waiting k_came k_depth k_isSilent k_x k_packed k_hits k_rues k_soonest k_inAll) (some (.int r)) := by
  refine ofR RX10 (by decide) rfl (Nat.le_of_ble_eq_true rfl) ?_
  intro p e s m below meth c ls C hr hlk hE hP hl
  generalize (List.toArray ([.ref a0, .int p1, .int p2] : List Value)) = args at C ⊢
  obtain ⟨hx, hb, hml, hown, ht⟩ := id C
  have hl : lv_has ls 8 [(0, .ref a0), (1, .int p1), (2, .int p2)] := hl
  have L8 : ∀ (Q : State → Prop) (n : Nat) (v1 : Int32) (v2 : Int32) (v3 : Int32) (v4 : Int32) (v5 : Int32) (x3 : Int32) (ls : Array Slot), X10_hotBehind_L8 F n v1 v2 v3 v4 v5 k_w = some x3 → lv_has ls 8 [(0, .ref a0), (1, .int v1), (2, .int v2), (3, .int v3), (4, .int v4), (5, .int v5)] → (∀ ls : Array Slot, lv_has ls 8 [(3, .int x3)] → W p l e rm_X10_hotBehind s m args below meth c s.heap [] 0 0 Q (F0 m 108 ls [])) → W p l e rm_X10_hotBehind s m args below meth c s.heap [] 0 0 Q (F0 m 8 ls []) := by
    intro Q n
    induction n with
    | zero => intro v1 v2 v3 v4 v5 x3 ls hf hl hk; exact nn_s hf
    | succ n ih =>
      intro v1 v2 v3 v4 v5 x3 ls hf hl hk
      refine lv_iload hx hb dX10_hotBehind_8 (lv_at hl 5 rfl) ?_
      refine lv_aload_n hx hb dX10_hotBehind_10 rfl (lv_at hl 0 rfl) ?_
      refine gf_X10 (v := .ref a1) C hE hP 0 1 rfl (by decide) qF_X10_17 rfl dX10_hotBehind_11 ?_
      refine lv_bipush (v := 14) hx hb dX10_hotBehind_14 (by decide) ?_
      refine va_iald hx hb hE.1 hP 1 0 rfl rfl (vp_l (by decide)) dX10_hotBehind_16 ?_
      refine lv_icmp_ge (tgt := 108) hx hb dX10_hotBehind_17 (by decide) (fun c20 => ?_) (fun c20 => ?_)
      · have hf := it_p hf c20
        cases hf
        exact hk ls (lv_sub hl [3] rfl)
      · have hf := it_n hf c20
        refine lv_aload_n hx hb dX10_hotBehind_20 rfl (lv_at hl 0 rfl) ?_
        refine gf_X10 (v := .ref a1) C hE hP 0 1 rfl (by decide) qF_X10_17 rfl dX10_hotBehind_21 ?_
        refine lv_sipush (v := 748) hx hb dX10_hotBehind_24 (by decide) ?_
        refine lv_iload hx hb dX10_hotBehind_27 (lv_at hl 5 rfl) ?_
        refine lv_iadd hx hb dX10_hotBehind_29 ?_
        obtain ⟨g19, hf⟩ := it_g hf
        refine va_iald hx hb hE.1 hP 1 0 rfl rfl g19 dX10_hotBehind_30 ?_
        refine lv_istore (lv' := [(6, .int (k_w (Int32.toNatClampNeg (748 + v5)))), (0, .ref a0), (1, .int v1), (2, .int v2), (3, .int v3), (4, .int v4), (5, .int v5)]) hx hb dX10_hotBehind_31 hl (by decide) rfl (fun ls hl => ?_)
        refine lv_aload_n hx hb dX10_hotBehind_33 rfl (lv_at hl 1 rfl) ?_
        refine lv_iload hx hb dX10_hotBehind_34 (lv_at hl 0 rfl) ?_
        obtain ⟨r1, h2, hf⟩ := bd_s hf
        refine iv_R (rest := []) (st1 := [.int r1]) C hE hP (c_X10_oftenOf l D cI cZ cL cW F a0 a1 a2 a3 a4 a5 a6 k_thrown k_w k_o k_isKept k_went k_wentMany k_waiting k_came k_depth k_isSilent k_x k_packed k_hits k_rues k_soonest k_inAll (k_w (Int32.toNatClampNeg (748 + v5))) r1  h2) ok_X10_oftenOf qM_X10_318 rfl rfl ⟨(Nat.le_of_ble_eq_true rfl), (Nat.le_of_ble_eq_true rfl)⟩ rfl rfl hl.1 (Nat.le_of_ble_eq_true rfl) ⟨Nat.zero_le _, Nat.zero_le _⟩ dX10_hotBehind_36 rfl rfl ?_
        refine lv_istore (lv' := [(7, .int r1), (6, .int (k_w (Int32.toNatClampNeg (748 + v5)))), (0, .ref a0), (1, .int v1), (2, .int v2), (3, .int v3), (4, .int v4), (5, .int v5)]) hx hb dX10_hotBehind_39 hl (by decide) rfl (fun ls hl => ?_)
        refine lv_iload_n hx hb dX10_hotBehind_41 rfl (lv_at hl 3 rfl) ?_
        refine lv_iconst (v := (-1)) hx hb dX10_hotBehind_42 (by decide) ?_
        refine lv_icmp_eq (tgt := 67) hx hb dX10_hotBehind_43 (by decide) (fun c18 => ?_) (fun c18 => ?_)
        · have hf := it_p hf c18
          refine lv_iload_n hx hb dX10_hotBehind_67 rfl (lv_at hl 5 rfl) ?_
          refine lv_iconst (v := (-1)) hx hb dX10_hotBehind_68 (by decide) ?_
          refine lv_icmp_eq (tgt := 95) hx hb dX10_hotBehind_69 (by decide) (fun c6 => ?_) (fun c6 => ?_)
          · have hf := it_p hf c6
            refine lv_iload hx hb dX10_hotBehind_95 (lv_at hl 1 rfl) ?_
            refine lv_istore_n (lv' := [(3, .int (k_w (Int32.toNatClampNeg (748 + v5)))), (7, .int r1), (6, .int (k_w (Int32.toNatClampNeg (748 + v5)))), (0, .ref a0), (1, .int v1), (2, .int v2), (4, .int v4), (5, .int v5)]) hx hb dX10_hotBehind_97 rfl hl (by decide) rfl (fun ls hl => ?_)
            refine lv_iload hx hb dX10_hotBehind_98 (lv_at hl 1 rfl) ?_
            refine lv_istore (lv' := [(4, .int r1), (3, .int (k_w (Int32.toNatClampNeg (748 + v5)))), (7, .int r1), (6, .int (k_w (Int32.toNatClampNeg (748 + v5)))), (0, .ref a0), (1, .int v1), (2, .int v2), (5, .int v5)]) hx hb dX10_hotBehind_100 hl (by decide) rfl (fun ls hl => ?_)
            refine lv_iinc (v := (v5 + 1)) (lv' := [(5, .int (v5 + 1)), (4, .int r1), (3, .int (k_w (Int32.toNatClampNeg (748 + v5)))), (7, .int r1), (6, .int (k_w (Int32.toNatClampNeg (748 + v5)))), (0, .ref a0), (1, .int v1), (2, .int v2)]) hx hb dX10_hotBehind_102 hl (k := 7) rfl rfl (by decide) rfl (fun ls hl => ?_)
            refine lv_goto (tgt := 8) hx hb dX10_hotBehind_105 (by decide) ?_
            exact ih v1 v2 (k_w (Int32.toNatClampNeg (748 + v5))) r1 (v5 + 1) _ ls hf (lv_sub hl [5, 6, 7, 2, 1, 0] rfl) hk
          · have hf := it_n hf c6
            refine lv_iload hx hb dX10_hotBehind_72 (lv_at hl 0 rfl) ?_
            refine lv_iload hx hb dX10_hotBehind_74 (lv_at hl 6 rfl) ?_
            refine lv_icmp_lt (tgt := 102) hx hb dX10_hotBehind_76 (by decide) (fun c5 => ?_) (fun c5 => ?_)
            · have hf := it_p hf c5
              refine lv_iinc (v := (v5 + 1)) (lv' := [(5, .int (v5 + 1)), (7, .int r1), (6, .int (k_w (Int32.toNatClampNeg (748 + v5)))), (0, .ref a0), (1, .int v1), (2, .int v2), (3, .int v3), (4, .int v4)]) hx hb dX10_hotBehind_102 hl (k := 7) rfl rfl (by decide) rfl (fun ls hl => ?_)
              refine lv_goto (tgt := 8) hx hb dX10_hotBehind_105 (by decide) ?_
              exact ih v1 v2 v3 v4 (v5 + 1) _ ls hf (lv_sub hl [3, 4, 5, 6, 7, 0] rfl) hk
            · have hf := it_n hf c5
              refine lv_iload hx hb dX10_hotBehind_79 (lv_at hl 0 rfl) ?_
              refine lv_iload hx hb dX10_hotBehind_81 (lv_at hl 6 rfl) ?_
              refine lv_icmp_ne (tgt := 95) hx hb dX10_hotBehind_83 (by decide) (fun c4 => ?_) (fun c4 => ?_)
              · have hf := it_n hf c4
                refine lv_iload hx hb dX10_hotBehind_95 (lv_at hl 1 rfl) ?_
                refine lv_istore_n (lv' := [(3, .int (k_w (Int32.toNatClampNeg (748 + v5)))), (7, .int r1), (6, .int (k_w (Int32.toNatClampNeg (748 + v5)))), (0, .ref a0), (1, .int v1), (2, .int v2), (4, .int v4), (5, .int v5)]) hx hb dX10_hotBehind_97 rfl hl (by decide) rfl (fun ls hl => ?_)
                refine lv_iload hx hb dX10_hotBehind_98 (lv_at hl 1 rfl) ?_
                refine lv_istore (lv' := [(4, .int r1), (3, .int (k_w (Int32.toNatClampNeg (748 + v5)))), (7, .int r1), (6, .int (k_w (Int32.toNatClampNeg (748 + v5)))), (0, .ref a0), (1, .int v1), (2, .int v2), (5, .int v5)]) hx hb dX10_hotBehind_100 hl (by decide) rfl (fun ls hl => ?_)
                refine lv_iinc (v := (v5 + 1)) (lv' := [(5, .int (v5 + 1)), (4, .int r1), (3, .int (k_w (Int32.toNatClampNeg (748 + v5)))), (7, .int r1), (6, .int (k_w (Int32.toNatClampNeg (748 + v5)))), (0, .ref a0), (1, .int v1), (2, .int v2)]) hx hb dX10_hotBehind_102 hl (k := 7) rfl rfl (by decide) rfl (fun ls hl => ?_)
                refine lv_goto (tgt := 8) hx hb dX10_hotBehind_105 (by decide) ?_
                exact ih v1 v2 (k_w (Int32.toNatClampNeg (748 + v5))) r1 (v5 + 1) _ ls hf (lv_sub hl [5, 6, 7, 2, 1, 0] rfl) hk
              · have hf := it_p hf c4
                refine lv_iload hx hb dX10_hotBehind_86 (lv_at hl 1 rfl) ?_
                refine lv_iload_n hx hb dX10_hotBehind_88 rfl (lv_at hl 5 rfl) ?_
                refine lv_icmp_lt (tgt := 95) hx hb dX10_hotBehind_89 (by decide) (fun c3 => ?_) (fun c3 => ?_)
                · have hf := it_p hf c3
                  refine lv_iload hx hb dX10_hotBehind_95 (lv_at hl 1 rfl) ?_
                  refine lv_istore_n (lv' := [(3, .int (k_w (Int32.toNatClampNeg (748 + v5)))), (7, .int r1), (6, .int (k_w (Int32.toNatClampNeg (748 + v5)))), (0, .ref a0), (1, .int v1), (2, .int v2), (4, .int v4), (5, .int v5)]) hx hb dX10_hotBehind_97 rfl hl (by decide) rfl (fun ls hl => ?_)
                  refine lv_iload hx hb dX10_hotBehind_98 (lv_at hl 1 rfl) ?_
                  refine lv_istore (lv' := [(4, .int r1), (3, .int (k_w (Int32.toNatClampNeg (748 + v5)))), (7, .int r1), (6, .int (k_w (Int32.toNatClampNeg (748 + v5)))), (0, .ref a0), (1, .int v1), (2, .int v2), (5, .int v5)]) hx hb dX10_hotBehind_100 hl (by decide) rfl (fun ls hl => ?_)
                  refine lv_iinc (v := (v5 + 1)) (lv' := [(5, .int (v5 + 1)), (4, .int r1), (3, .int (k_w (Int32.toNatClampNeg (748 + v5)))), (7, .int r1), (6, .int (k_w (Int32.toNatClampNeg (748 + v5)))), (0, .ref a0), (1, .int v1), (2, .int v2)]) hx hb dX10_hotBehind_102 hl (k := 7) rfl rfl (by decide) rfl (fun ls hl => ?_)
                  refine lv_goto (tgt := 8) hx hb dX10_hotBehind_105 (by decide) ?_
                  exact ih v1 v2 (k_w (Int32.toNatClampNeg (748 + v5))) r1 (v5 + 1) _ ls hf (lv_sub hl [5, 6, 7, 2, 1, 0] rfl) hk
                · have hf := it_n hf c3
                  refine lv_goto (tgt := 102) hx hb dX10_hotBehind_92 (by decide) ?_
                  refine lv_iinc (v := (v5 + 1)) (lv' := [(5, .int (v5 + 1)), (7, .int r1), (6, .int (k_w (Int32.toNatClampNeg (748 + v5)))), (0, .ref a0), (1, .int v1), (2, .int v2), (3, .int v3), (4, .int v4)]) hx hb dX10_hotBehind_102 hl (k := 7) rfl rfl (by decide) rfl (fun ls hl => ?_)
                  refine lv_goto (tgt := 8) hx hb dX10_hotBehind_105 (by decide) ?_
                  exact ih v1 v2 v3 v4 (v5 + 1) _ ls hf (lv_sub hl [3, 4, 5, 6, 7, 0] rfl) hk
        · have hf := it_n hf c18
          refine lv_iload hx hb dX10_hotBehind_46 (lv_at hl 0 rfl) ?_
          refine lv_iload_n hx hb dX10_hotBehind_48 rfl (lv_at hl 4 rfl) ?_
          refine lv_icmp_gt (tgt := 102) hx hb dX10_hotBehind_49 (by decide) (fun c17 => ?_) (fun c17 => ?_)
          · have hf := it_p hf c17
            refine lv_iinc (v := (v5 + 1)) (lv' := [(5, .int (v5 + 1)), (7, .int r1), (6, .int (k_w (Int32.toNatClampNeg (748 + v5)))), (0, .ref a0), (1, .int v1), (2, .int v2), (3, .int v3), (4, .int v4)]) hx hb dX10_hotBehind_102 hl (k := 7) rfl rfl (by decide) rfl (fun ls hl => ?_)
            refine lv_goto (tgt := 8) hx hb dX10_hotBehind_105 (by decide) ?_
            exact ih v1 v2 v3 v4 (v5 + 1) _ ls hf (lv_sub hl [3, 4, 5, 6, 7, 0] rfl) hk
          · have hf := it_n hf c17
            refine lv_iload hx hb dX10_hotBehind_52 (lv_at hl 0 rfl) ?_
            refine lv_iload_n hx hb dX10_hotBehind_54 rfl (lv_at hl 4 rfl) ?_
            refine lv_icmp_ne (tgt := 67) hx hb dX10_hotBehind_55 (by decide) (fun c16 => ?_) (fun c16 => ?_)
            · have hf := it_n hf c16
              refine lv_iload_n hx hb dX10_hotBehind_67 rfl (lv_at hl 5 rfl) ?_
              refine lv_iconst (v := (-1)) hx hb dX10_hotBehind_68 (by decide) ?_
              refine lv_icmp_eq (tgt := 95) hx hb dX10_hotBehind_69 (by decide) (fun c10 => ?_) (fun c10 => ?_)
              · have hf := it_p hf c10
                refine lv_iload hx hb dX10_hotBehind_95 (lv_at hl 1 rfl) ?_
                refine lv_istore_n (lv' := [(3, .int (k_w (Int32.toNatClampNeg (748 + v5)))), (7, .int r1), (6, .int (k_w (Int32.toNatClampNeg (748 + v5)))), (0, .ref a0), (1, .int v1), (2, .int v2), (4, .int v4), (5, .int v5)]) hx hb dX10_hotBehind_97 rfl hl (by decide) rfl (fun ls hl => ?_)
                refine lv_iload hx hb dX10_hotBehind_98 (lv_at hl 1 rfl) ?_
                refine lv_istore (lv' := [(4, .int r1), (3, .int (k_w (Int32.toNatClampNeg (748 + v5)))), (7, .int r1), (6, .int (k_w (Int32.toNatClampNeg (748 + v5)))), (0, .ref a0), (1, .int v1), (2, .int v2), (5, .int v5)]) hx hb dX10_hotBehind_100 hl (by decide) rfl (fun ls hl => ?_)
                refine lv_iinc (v := (v5 + 1)) (lv' := [(5, .int (v5 + 1)), (4, .int r1), (3, .int (k_w (Int32.toNatClampNeg (748 + v5)))), (7, .int r1), (6, .int (k_w (Int32.toNatClampNeg (748 + v5)))), (0, .ref a0), (1, .int v1), (2, .int v2)]) hx hb dX10_hotBehind_102 hl (k := 7) rfl rfl (by decide) rfl (fun ls hl => ?_)
                refine lv_goto (tgt := 8) hx hb dX10_hotBehind_105 (by decide) ?_
                exact ih v1 v2 (k_w (Int32.toNatClampNeg (748 + v5))) r1 (v5 + 1) _ ls hf (lv_sub hl [5, 6, 7, 2, 1, 0] rfl) hk
              · have hf := it_n hf c10
                refine lv_iload hx hb dX10_hotBehind_72 (lv_at hl 0 rfl) ?_
                refine lv_iload hx hb dX10_hotBehind_74 (lv_at hl 6 rfl) ?_
                refine lv_icmp_lt (tgt := 102) hx hb dX10_hotBehind_76 (by decide) (fun c9 => ?_) (fun c9 => ?_)
                · have hf := it_p hf c9
                  refine lv_iinc (v := (v5 + 1)) (lv' := [(5, .int (v5 + 1)), (7, .int r1), (6, .int (k_w (Int32.toNatClampNeg (748 + v5)))), (0, .ref a0), (1, .int v1), (2, .int v2), (3, .int v3), (4, .int v4)]) hx hb dX10_hotBehind_102 hl (k := 7) rfl rfl (by decide) rfl (fun ls hl => ?_)
                  refine lv_goto (tgt := 8) hx hb dX10_hotBehind_105 (by decide) ?_
                  exact ih v1 v2 v3 v4 (v5 + 1) _ ls hf (lv_sub hl [3, 4, 5, 6, 7, 0] rfl) hk
                · have hf := it_n hf c9
                  refine lv_iload hx hb dX10_hotBehind_79 (lv_at hl 0 rfl) ?_
                  refine lv_iload hx hb dX10_hotBehind_81 (lv_at hl 6 rfl) ?_
                  refine lv_icmp_ne (tgt := 95) hx hb dX10_hotBehind_83 (by decide) (fun c8 => ?_) (fun c8 => ?_)
                  · have hf := it_n hf c8
                    refine lv_iload hx hb dX10_hotBehind_95 (lv_at hl 1 rfl) ?_
                    refine lv_istore_n (lv' := [(3, .int (k_w (Int32.toNatClampNeg (748 + v5)))), (7, .int r1), (6, .int (k_w (Int32.toNatClampNeg (748 + v5)))), (0, .ref a0), (1, .int v1), (2, .int v2), (4, .int v4), (5, .int v5)]) hx hb dX10_hotBehind_97 rfl hl (by decide) rfl (fun ls hl => ?_)
                    refine lv_iload hx hb dX10_hotBehind_98 (lv_at hl 1 rfl) ?_
                    refine lv_istore (lv' := [(4, .int r1), (3, .int (k_w (Int32.toNatClampNeg (748 + v5)))), (7, .int r1), (6, .int (k_w (Int32.toNatClampNeg (748 + v5)))), (0, .ref a0), (1, .int v1), (2, .int v2), (5, .int v5)]) hx hb dX10_hotBehind_100 hl (by decide) rfl (fun ls hl => ?_)
                    refine lv_iinc (v := (v5 + 1)) (lv' := [(5, .int (v5 + 1)), (4, .int r1), (3, .int (k_w (Int32.toNatClampNeg (748 + v5)))), (7, .int r1), (6, .int (k_w (Int32.toNatClampNeg (748 + v5)))), (0, .ref a0), (1, .int v1), (2, .int v2)]) hx hb dX10_hotBehind_102 hl (k := 7) rfl rfl (by decide) rfl (fun ls hl => ?_)
                    refine lv_goto (tgt := 8) hx hb dX10_hotBehind_105 (by decide) ?_
                    exact ih v1 v2 (k_w (Int32.toNatClampNeg (748 + v5))) r1 (v5 + 1) _ ls hf (lv_sub hl [5, 6, 7, 2, 1, 0] rfl) hk
                  · have hf := it_p hf c8
                    refine lv_iload hx hb dX10_hotBehind_86 (lv_at hl 1 rfl) ?_
                    refine lv_iload_n hx hb dX10_hotBehind_88 rfl (lv_at hl 5 rfl) ?_
                    refine lv_icmp_lt (tgt := 95) hx hb dX10_hotBehind_89 (by decide) (fun c7 => ?_) (fun c7 => ?_)
                    · have hf := it_p hf c7
                      refine lv_iload hx hb dX10_hotBehind_95 (lv_at hl 1 rfl) ?_
                      refine lv_istore_n (lv' := [(3, .int (k_w (Int32.toNatClampNeg (748 + v5)))), (7, .int r1), (6, .int (k_w (Int32.toNatClampNeg (748 + v5)))), (0, .ref a0), (1, .int v1), (2, .int v2), (4, .int v4), (5, .int v5)]) hx hb dX10_hotBehind_97 rfl hl (by decide) rfl (fun ls hl => ?_)
                      refine lv_iload hx hb dX10_hotBehind_98 (lv_at hl 1 rfl) ?_
                      refine lv_istore (lv' := [(4, .int r1), (3, .int (k_w (Int32.toNatClampNeg (748 + v5)))), (7, .int r1), (6, .int (k_w (Int32.toNatClampNeg (748 + v5)))), (0, .ref a0), (1, .int v1), (2, .int v2), (5, .int v5)]) hx hb dX10_hotBehind_100 hl (by decide) rfl (fun ls hl => ?_)
                      refine lv_iinc (v := (v5 + 1)) (lv' := [(5, .int (v5 + 1)), (4, .int r1), (3, .int (k_w (Int32.toNatClampNeg (748 + v5)))), (7, .int r1), (6, .int (k_w (Int32.toNatClampNeg (748 + v5)))), (0, .ref a0), (1, .int v1), (2, .int v2)]) hx hb dX10_hotBehind_102 hl (k := 7) rfl rfl (by decide) rfl (fun ls hl => ?_)
                      refine lv_goto (tgt := 8) hx hb dX10_hotBehind_105 (by decide) ?_
                      exact ih v1 v2 (k_w (Int32.toNatClampNeg (748 + v5))) r1 (v5 + 1) _ ls hf (lv_sub hl [5, 6, 7, 2, 1, 0] rfl) hk
                    · have hf := it_n hf c7
                      refine lv_goto (tgt := 102) hx hb dX10_hotBehind_92 (by decide) ?_
                      refine lv_iinc (v := (v5 + 1)) (lv' := [(5, .int (v5 + 1)), (7, .int r1), (6, .int (k_w (Int32.toNatClampNeg (748 + v5)))), (0, .ref a0), (1, .int v1), (2, .int v2), (3, .int v3), (4, .int v4)]) hx hb dX10_hotBehind_102 hl (k := 7) rfl rfl (by decide) rfl (fun ls hl => ?_)
                      refine lv_goto (tgt := 8) hx hb dX10_hotBehind_105 (by decide) ?_
                      exact ih v1 v2 v3 v4 (v5 + 1) _ ls hf (lv_sub hl [3, 4, 5, 6, 7, 0] rfl) hk
            · have hf := it_p hf c16
              refine lv_iload hx hb dX10_hotBehind_58 (lv_at hl 1 rfl) ?_
              refine lv_iload_n hx hb dX10_hotBehind_60 rfl (lv_at hl 3 rfl) ?_
              refine lv_icmp_gt (tgt := 67) hx hb dX10_hotBehind_61 (by decide) (fun c15 => ?_) (fun c15 => ?_)
              · have hf := it_p hf c15
                refine lv_iload_n hx hb dX10_hotBehind_67 rfl (lv_at hl 5 rfl) ?_
                refine lv_iconst (v := (-1)) hx hb dX10_hotBehind_68 (by decide) ?_
                refine lv_icmp_eq (tgt := 95) hx hb dX10_hotBehind_69 (by decide) (fun c14 => ?_) (fun c14 => ?_)
                · have hf := it_p hf c14
                  refine lv_iload hx hb dX10_hotBehind_95 (lv_at hl 1 rfl) ?_
                  refine lv_istore_n (lv' := [(3, .int (k_w (Int32.toNatClampNeg (748 + v5)))), (7, .int r1), (6, .int (k_w (Int32.toNatClampNeg (748 + v5)))), (0, .ref a0), (1, .int v1), (2, .int v2), (4, .int v4), (5, .int v5)]) hx hb dX10_hotBehind_97 rfl hl (by decide) rfl (fun ls hl => ?_)
                  refine lv_iload hx hb dX10_hotBehind_98 (lv_at hl 1 rfl) ?_
                  refine lv_istore (lv' := [(4, .int r1), (3, .int (k_w (Int32.toNatClampNeg (748 + v5)))), (7, .int r1), (6, .int (k_w (Int32.toNatClampNeg (748 + v5)))), (0, .ref a0), (1, .int v1), (2, .int v2), (5, .int v5)]) hx hb dX10_hotBehind_100 hl (by decide) rfl (fun ls hl => ?_)
                  refine lv_iinc (v := (v5 + 1)) (lv' := [(5, .int (v5 + 1)), (4, .int r1), (3, .int (k_w (Int32.toNatClampNeg (748 + v5)))), (7, .int r1), (6, .int (k_w (Int32.toNatClampNeg (748 + v5)))), (0, .ref a0), (1, .int v1), (2, .int v2)]) hx hb dX10_hotBehind_102 hl (k := 7) rfl rfl (by decide) rfl (fun ls hl => ?_)
                  refine lv_goto (tgt := 8) hx hb dX10_hotBehind_105 (by decide) ?_
                  exact ih v1 v2 (k_w (Int32.toNatClampNeg (748 + v5))) r1 (v5 + 1) _ ls hf (lv_sub hl [5, 6, 7, 2, 1, 0] rfl) hk
                · have hf := it_n hf c14
                  refine lv_iload hx hb dX10_hotBehind_72 (lv_at hl 0 rfl) ?_
                  refine lv_iload hx hb dX10_hotBehind_74 (lv_at hl 6 rfl) ?_
                  refine lv_icmp_lt (tgt := 102) hx hb dX10_hotBehind_76 (by decide) (fun c13 => ?_) (fun c13 => ?_)
                  · have hf := it_p hf c13
                    refine lv_iinc (v := (v5 + 1)) (lv' := [(5, .int (v5 + 1)), (7, .int r1), (6, .int (k_w (Int32.toNatClampNeg (748 + v5)))), (0, .ref a0), (1, .int v1), (2, .int v2), (3, .int v3), (4, .int v4)]) hx hb dX10_hotBehind_102 hl (k := 7) rfl rfl (by decide) rfl (fun ls hl => ?_)
                    refine lv_goto (tgt := 8) hx hb dX10_hotBehind_105 (by decide) ?_
                    exact ih v1 v2 v3 v4 (v5 + 1) _ ls hf (lv_sub hl [3, 4, 5, 6, 7, 0] rfl) hk
                  · have hf := it_n hf c13
                    refine lv_iload hx hb dX10_hotBehind_79 (lv_at hl 0 rfl) ?_
                    refine lv_iload hx hb dX10_hotBehind_81 (lv_at hl 6 rfl) ?_
                    refine lv_icmp_ne (tgt := 95) hx hb dX10_hotBehind_83 (by decide) (fun c12 => ?_) (fun c12 => ?_)
                    · have hf := it_n hf c12
                      refine lv_iload hx hb dX10_hotBehind_95 (lv_at hl 1 rfl) ?_
                      refine lv_istore_n (lv' := [(3, .int (k_w (Int32.toNatClampNeg (748 + v5)))), (7, .int r1), (6, .int (k_w (Int32.toNatClampNeg (748 + v5)))), (0, .ref a0), (1, .int v1), (2, .int v2), (4, .int v4), (5, .int v5)]) hx hb dX10_hotBehind_97 rfl hl (by decide) rfl (fun ls hl => ?_)
                      refine lv_iload hx hb dX10_hotBehind_98 (lv_at hl 1 rfl) ?_
                      refine lv_istore (lv' := [(4, .int r1), (3, .int (k_w (Int32.toNatClampNeg (748 + v5)))), (7, .int r1), (6, .int (k_w (Int32.toNatClampNeg (748 + v5)))), (0, .ref a0), (1, .int v1), (2, .int v2), (5, .int v5)]) hx hb dX10_hotBehind_100 hl (by decide) rfl (fun ls hl => ?_)
                      refine lv_iinc (v := (v5 + 1)) (lv' := [(5, .int (v5 + 1)), (4, .int r1), (3, .int (k_w (Int32.toNatClampNeg (748 + v5)))), (7, .int r1), (6, .int (k_w (Int32.toNatClampNeg (748 + v5)))), (0, .ref a0), (1, .int v1), (2, .int v2)]) hx hb dX10_hotBehind_102 hl (k := 7) rfl rfl (by decide) rfl (fun ls hl => ?_)
                      refine lv_goto (tgt := 8) hx hb dX10_hotBehind_105 (by decide) ?_
                      exact ih v1 v2 (k_w (Int32.toNatClampNeg (748 + v5))) r1 (v5 + 1) _ ls hf (lv_sub hl [5, 6, 7, 2, 1, 0] rfl) hk
                    · have hf := it_p hf c12
                      refine lv_iload hx hb dX10_hotBehind_86 (lv_at hl 1 rfl) ?_
                      refine lv_iload_n hx hb dX10_hotBehind_88 rfl (lv_at hl 5 rfl) ?_
                      refine lv_icmp_lt (tgt := 95) hx hb dX10_hotBehind_89 (by decide) (fun c11 => ?_) (fun c11 => ?_)
                      · have hf := it_p hf c11
                        refine lv_iload hx hb dX10_hotBehind_95 (lv_at hl 1 rfl) ?_
                        refine lv_istore_n (lv' := [(3, .int (k_w (Int32.toNatClampNeg (748 + v5)))), (7, .int r1), (6, .int (k_w (Int32.toNatClampNeg (748 + v5)))), (0, .ref a0), (1, .int v1), (2, .int v2), (4, .int v4), (5, .int v5)]) hx hb dX10_hotBehind_97 rfl hl (by decide) rfl (fun ls hl => ?_)
                        refine lv_iload hx hb dX10_hotBehind_98 (lv_at hl 1 rfl) ?_
                        refine lv_istore (lv' := [(4, .int r1), (3, .int (k_w (Int32.toNatClampNeg (748 + v5)))), (7, .int r1), (6, .int (k_w (Int32.toNatClampNeg (748 + v5)))), (0, .ref a0), (1, .int v1), (2, .int v2), (5, .int v5)]) hx hb dX10_hotBehind_100 hl (by decide) rfl (fun ls hl => ?_)
                        refine lv_iinc (v := (v5 + 1)) (lv' := [(5, .int (v5 + 1)), (4, .int r1), (3, .int (k_w (Int32.toNatClampNeg (748 + v5)))), (7, .int r1), (6, .int (k_w (Int32.toNatClampNeg (748 + v5)))), (0, .ref a0), (1, .int v1), (2, .int v2)]) hx hb dX10_hotBehind_102 hl (k := 7) rfl rfl (by decide) rfl (fun ls hl => ?_)
                        refine lv_goto (tgt := 8) hx hb dX10_hotBehind_105 (by decide) ?_
                        exact ih v1 v2 (k_w (Int32.toNatClampNeg (748 + v5))) r1 (v5 + 1) _ ls hf (lv_sub hl [5, 6, 7, 2, 1, 0] rfl) hk
                      · have hf := it_n hf c11
                        refine lv_goto (tgt := 102) hx hb dX10_hotBehind_92 (by decide) ?_
                        refine lv_iinc (v := (v5 + 1)) (lv' := [(5, .int (v5 + 1)), (7, .int r1), (6, .int (k_w (Int32.toNatClampNeg (748 + v5)))), (0, .ref a0), (1, .int v1), (2, .int v2), (3, .int v3), (4, .int v4)]) hx hb dX10_hotBehind_102 hl (k := 7) rfl rfl (by decide) rfl (fun ls hl => ?_)
                        refine lv_goto (tgt := 8) hx hb dX10_hotBehind_105 (by decide) ?_
                        exact ih v1 v2 v3 v4 (v5 + 1) _ ls hf (lv_sub hl [3, 4, 5, 6, 7, 0] rfl) hk
              · have hf := it_n hf c15
                refine lv_goto (tgt := 102) hx hb dX10_hotBehind_64 (by decide) ?_
                refine lv_iinc (v := (v5 + 1)) (lv' := [(5, .int (v5 + 1)), (7, .int r1), (6, .int (k_w (Int32.toNatClampNeg (748 + v5)))), (0, .ref a0), (1, .int v1), (2, .int v2), (3, .int v3), (4, .int v4)]) hx hb dX10_hotBehind_102 hl (k := 7) rfl rfl (by decide) rfl (fun ls hl => ?_)
                refine lv_goto (tgt := 8) hx hb dX10_hotBehind_105 (by decide) ?_
                exact ih v1 v2 v3 v4 (v5 + 1) _ ls hf (lv_sub hl [3, 4, 5, 6, 7, 0] rfl) hk
  refine lv_iconst (v := (-1)) hx hb dX10_hotBehind_0 (by decide) ?_
  refine lv_istore_n (lv' := [(3, .int (-1)), (0, .ref a0), (1, .int p1), (2, .int p2)]) hx hb dX10_hotBehind_1 rfl hl (by decide) rfl (fun ls hl => ?_)
  refine lv_iconst (v := 0) hx hb dX10_hotBehind_2 (by decide) ?_
  refine lv_istore (lv' := [(4, .int 0), (3, .int (-1)), (0, .ref a0), (1, .int p1), (2, .int p2)]) hx hb dX10_hotBehind_3 hl (by decide) rfl (fun ls hl => ?_)
  refine lv_iconst (v := 0) hx hb dX10_hotBehind_5 (by decide) ?_
  refine lv_istore (lv' := [(5, .int 0), (4, .int 0), (3, .int (-1)), (0, .ref a0), (1, .int p1), (2, .int p2)]) hx hb dX10_hotBehind_6 hl (by decide) rfl (fun ls hl => ?_)
  obtain ⟨x21, h22, hf⟩ := bd_s hf
  refine L8 _ F p1 p2 (-1) 0 0 x21 ls h22 (lv_sub hl [3, 4, 5, 2, 1, 0] rfl) (fun ls hl => ?_)
  refine lv_iload_n hx hb dX10_hotBehind_108 rfl (lv_at hl 0 rfl) ?_
  exact rt_i C hr hlk dX10_hotBehind_109 (congrArg (fun o => o.map Value.int) hf)
def X10_hot_L37 (F : Nat) : Nat → Int32 → Int32 → Int32 → Int32 → Int32 → (Nat → Int32) → Option (Int32 × Int32)
  | 0, _, _, _, _, _, _ => none
  | n + 1, v1, v2, v3, v4, k_thrown, k_w => if (v4 : Int32) = (-1) then (if (v1 : Int32) = (-1) then (some (v3, k_thrown)) else (some ((-1), k_thrown))) else (if (v3 : Int32) = v1 then (if (v2 : Int32) = 0 then (some (v4, k_thrown)) else ((X10_oftenOf F v4 k_w).bind fun r8 => (some (r8, k_thrown)))) else ((X10_oftenOf F v4 k_w).bind fun r4 => ((X10_hotBehind F v4 r4 k_w).bind fun r6 => (X10_hot_L37 F n v1 v2 (v3 + 1) r6 k_thrown k_w))))
def X10_hot (F : Nat) (p1 : Int32) (p2 : Int32) (k_thrown : Int32) (k_w : (Nat → Int32)) : Option (Int32 × Int32) := if (p1 : Int32) < (-1) then (some ((-1), 0)) else (if (p1 : Int32) = (-1) then ((X10_hotBehind F (-1) 0 k_w).bind fun r1 => (X10_hot_L37 F F p1 p2 0 r1 0 k_w)) else ((X10_isIn F p2.toInt64 0 1).bind fun r13 => (if (r13 : Int32) = 0 then (some ((-1), 0)) else ((X10_hotBehind F (-1) 0 k_w).bind fun r15 => (X10_hot_L37 F F p1 p2 0 r15 0 k_w)))))
abbrev rm_X10_hot : Room := { frames := 3, cells := 0, slots := 0, locals := 70 }
theorem ok_X10_hot : OKV RX10 yX10_hot cX10_hot 5 (some .int) 2 := ⟨by decide +kernel, qV_X10_hot, qL_X10_hot, qI_X10, qD_X10_hot⟩
set_option maxHeartbeats 4000000 in
set_option maxRecDepth 100000 in
theorem c_X10_hot (l : Launch) (D : va_G) (cI cZ cL cW : ClassId) (F : Nat) (a0 : Nat) (a1 : Nat) (a2 : Nat) (a3 : Nat) (a4 : Nat) (a5 : Nat) (a6 : Nat) (k_thrown : Int32) (k_w : (Nat → Int32)) (k_o : Int32) (k_isKept : (Nat → Int32)) (k_went : (Nat → Int32)) (k_wentMany : Int32) (k_waiting : (Nat → Int32)) (k_came : Int32) (k_depth : Int32) (k_isSilent : Int32) (k_x : Int64) (k_packed : (Nat → Int32)) (k_hits : Int32) (k_rues : Int32) (k_soonest : Int32) (k_inAll : (Nat → Int32)) (p1 : Int32) (p2 : Int32) (r : Int32) (k_thrown' : Int32) (hf : X10_hot F p1 p2 k_thrown k_w = some (r, k_thrown')) : CtrW l D (tyL cI cZ cL cW) nestW yX10_hot cX10_hot 5 (some .int) rm_X10_hot [.ref a0, .int p1, .int p2] (MX10 cI cZ cL cW a0 a1 a2 a3 a4 a5 a6 k_thrown k_w k_o k_isKept k_went k_wentMany k_waiting k_came k_depth k_isSilent k_x k_packed k_hits k_rues k_soonest k_inAll) (MX10 cI cZ cL cW a0 a1 a2 a3 a4 a5 a6 (k_thrown') k_w k_o k_isKept k_went k_wentMany k_waiting k_came k_depth k_isSilent k_x k_packed k_hits k_rues k_soonest k_inAll) (some (.int r)) := by
  refine ofA RX10 (by decide) rfl (Nat.le_of_ble_eq_true rfl) ?_
  intro p e s m below meth c ls A C hr hlk hE hA hP hD hS hl
  generalize (List.toArray ([.ref a0, .int p1, .int p2] : List Value)) = args at C ⊢
  obtain ⟨hx, hb, hml, hown, ht⟩ := id C
  have hl : lv_has ls 5 [(0, .ref a0), (1, .int p1), (2, .int p2)] := hl
  have L37 : ∀ (n : Nat) (v1 : Int32) (v2 : Int32) (v3 : Int32) (v4 : Int32) (k_thrown : Int32) (k_w : (Nat → Int32)) (k_o : Int32) (k_isKept : (Nat → Int32)) (k_went : (Nat → Int32)) (k_wentMany : Int32) (k_waiting : (Nat → Int32)) (k_came : Int32) (k_depth : Int32) (k_isSilent : Int32) (k_x : Int64) (k_packed : (Nat → Int32)) (k_hits : Int32) (k_rues : Int32) (k_soonest : Int32) (k_inAll : (Nat → Int32)) (H : Heap) (locs : List Loc) (ls : Array Slot), X10_hot_L37 F n v1 v2 v3 v4 k_thrown k_w = some (r, k_thrown') → va_P D vwCl (MX10 cI cZ cL cW a0 a1 a2 a3 a4 a5 a6 k_thrown k_w k_o k_isKept k_went k_wentMany k_waiting k_came k_depth k_isSilent k_x k_packed k_hits k_rues k_soonest k_inAll) H → va_D A (MX10 cI cZ cL cW a0 a1 a2 a3 a4 a5 a6 k_thrown k_w k_o k_isKept k_went k_wentMany k_waiting k_came k_depth k_isSilent k_x k_packed k_hits k_rues k_soonest k_inAll) → va_S A s.heap H locs → lv_has ls 5 [(0, .ref a0), (1, .int v1), (2, .int v2), (3, .int v3), (4, .int v4)] → W p l e rm_X10_hot s m args below meth c H locs 0 0 (MQ below (QA D A (MX10 cI cZ cL cW a0 a1 a2 a3 a4 a5 a6 (k_thrown') k_w k_o k_isKept k_went k_wentMany k_waiting k_came k_depth k_isSilent k_x k_packed k_hits k_rues k_soonest k_inAll) (some (.int r))) args s 0 0 A) (F0 m 37 ls []) := by
    intro n
    induction n with
    | zero => intro v1 v2 v3 v4 k_thrown k_w k_o k_isKept k_went k_wentMany k_waiting k_came k_depth k_isSilent k_x k_packed k_hits k_rues k_soonest k_inAll H locs ls hf hP hD hS hl; exact nn_s hf
    | succ n ih =>
      intro v1 v2 v3 v4 k_thrown k_w k_o k_isKept k_went k_wentMany k_waiting k_came k_depth k_isSilent k_x k_packed k_hits k_rues k_soonest k_inAll H locs ls hf hP hD hS hl
      refine lv_iload hx hb dX10_hot_37 (lv_at hl 4 rfl) ?_
      refine lv_iconst (v := (-1)) hx hb dX10_hot_39 (by decide) ?_
      refine lv_icmp_eq (tgt := 84) hx hb dX10_hot_40 (by decide) (fun c12 => ?_) (fun c12 => ?_)
      · have hf := it_p hf c12
        refine lv_iload_n hx hb dX10_hot_84 rfl (lv_at hl 1 rfl) ?_
        refine lv_iconst (v := (-1)) hx hb dX10_hot_85 (by decide) ?_
        refine lv_icmp_ne (tgt := 93) hx hb dX10_hot_86 (by decide) (fun c3 => ?_) (fun c3 => ?_)
        · have hf := it_n hf c3
          refine lv_iconst (v := (-1)) hx hb dX10_hot_93 (by decide) ?_
          cases hf
          exact rw_i C hr hlk hP hD hS dX10_hot_94 rfl
        · have hf := it_p hf c3
          refine lv_iload_n hx hb dX10_hot_89 rfl (lv_at hl 3 rfl) ?_
          refine lv_goto (tgt := 94) hx hb dX10_hot_90 (by decide) ?_
          cases hf
          exact rw_i C hr hlk hP hD hS dX10_hot_94 rfl
      · have hf := it_n hf c12
        refine lv_iload_n hx hb dX10_hot_43 rfl (lv_at hl 3 rfl) ?_
        refine lv_iload_n hx hb dX10_hot_44 rfl (lv_at hl 1 rfl) ?_
        refine lv_icmp_ne (tgt := 64) hx hb dX10_hot_45 (by decide) (fun c11 => ?_) (fun c11 => ?_)
        · have hf := it_n hf c11
          refine lv_iinc (v := (v3 + 1)) (lv' := [(3, .int (v3 + 1)), (0, .ref a0), (1, .int v1), (2, .int v2), (4, .int v4)]) hx hb dX10_hot_64 hl (k := 3) rfl rfl (by decide) rfl (fun ls hl => ?_)
          refine lv_aload_n hx hb dX10_hot_67 rfl (lv_at hl 1 rfl) ?_
          refine lv_iload hx hb dX10_hot_68 (lv_at hl 4 rfl) ?_
          refine lv_aload_n hx hb dX10_hot_70 rfl (lv_at hl 1 rfl) ?_
          refine lv_iload hx hb dX10_hot_71 (lv_at hl 4 rfl) ?_
          obtain ⟨r4, h5, hf⟩ := bd_s hf
          refine iv_R (rest := [.int v4, .ref a0]) (st1 := [.int r4, .int v4, .ref a0]) C hE hP (c_X10_oftenOf l D cI cZ cL cW F a0 a1 a2 a3 a4 a5 a6 k_thrown k_w k_o k_isKept k_went k_wentMany k_waiting k_came k_depth k_isSilent k_x k_packed k_hits k_rues k_soonest k_inAll v4 r4  h5) ok_X10_oftenOf qM_X10_318 rfl rfl ⟨(Nat.le_of_ble_eq_true rfl), (Nat.le_of_ble_eq_true rfl)⟩ rfl rfl hl.1 (Nat.le_of_ble_eq_true rfl) ⟨Nat.zero_le _, Nat.zero_le _⟩ dX10_hot_73 rfl rfl ?_
          obtain ⟨r6, h7, hf⟩ := bd_s hf
          refine iv_R (rest := []) (st1 := [.int r6]) C hE hP (c_X10_hotBehind l D cI cZ cL cW F a0 a1 a2 a3 a4 a5 a6 k_thrown k_w k_o k_isKept k_went k_wentMany k_waiting k_came k_depth k_isSilent k_x k_packed k_hits k_rues k_soonest k_inAll v4 r4 r6  h7) ok_X10_hotBehind qM_X10_321 rfl rfl ⟨(Nat.le_of_ble_eq_true rfl), (Nat.le_of_ble_eq_true rfl)⟩ rfl rfl hl.1 (Nat.le_of_ble_eq_true rfl) ⟨Nat.zero_le _, Nat.zero_le _⟩ dX10_hot_76 rfl rfl ?_
          refine lv_istore (lv' := [(4, .int r6), (3, .int (v3 + 1)), (0, .ref a0), (1, .int v1), (2, .int v2)]) hx hb dX10_hot_79 hl (by decide) rfl (fun ls hl => ?_)
          refine lv_goto (tgt := 37) hx hb dX10_hot_81 (by decide) ?_
          exact ih v1 v2 (v3 + 1) r6 k_thrown k_w k_o k_isKept k_went k_wentMany k_waiting k_came k_depth k_isSilent k_x k_packed k_hits k_rues k_soonest k_inAll _ _ ls hf hP hD hS (lv_sub hl [2, 3, 4, 1, 0] rfl)
        · have hf := it_p hf c11
          refine lv_iload_n hx hb dX10_hot_48 rfl (lv_at hl 2 rfl) ?_
          refine lv_if_ne (tgt := 57) hx hb dX10_hot_49 (by decide) (fun c10 => ?_) (fun c10 => ?_)
          · have hf := it_n hf c10
            refine lv_aload_n hx hb dX10_hot_57 rfl (lv_at hl 0 rfl) ?_
            refine lv_iload hx hb dX10_hot_58 (lv_at hl 4 rfl) ?_
            obtain ⟨r8, h9, hf⟩ := bd_s hf
            refine iv_R (rest := []) (st1 := [.int r8]) C hE hP (c_X10_oftenOf l D cI cZ cL cW F a0 a1 a2 a3 a4 a5 a6 k_thrown k_w k_o k_isKept k_went k_wentMany k_waiting k_came k_depth k_isSilent k_x k_packed k_hits k_rues k_soonest k_inAll v4 r8  h9) ok_X10_oftenOf qM_X10_318 rfl rfl ⟨(Nat.le_of_ble_eq_true rfl), (Nat.le_of_ble_eq_true rfl)⟩ rfl rfl hl.1 (Nat.le_of_ble_eq_true rfl) ⟨Nat.zero_le _, Nat.zero_le _⟩ dX10_hot_60 rfl rfl ?_
            cases hf
            exact rw_i C hr hlk hP hD hS dX10_hot_63 rfl
          · have hf := it_p hf c10
            refine lv_iload hx hb dX10_hot_52 (lv_at hl 4 rfl) ?_
            refine lv_goto (tgt := 63) hx hb dX10_hot_54 (by decide) ?_
            cases hf
            exact rw_i C hr hlk hP hD hS dX10_hot_63 rfl
  refine lv_aload_n hx hb dX10_hot_0 rfl (lv_at hl 0 rfl) ?_
  refine lv_iconst (v := 0) hx hb dX10_hot_1 (by decide) ?_
  refine pf_X10 (v := .int 0) C hE hP hD hS 0 0 rfl (by decide) qF_X10_1 rfl rfl rfl (Nat.le_of_ble_eq_true rfl) dX10_hot_2 (fun H locs (hP : va_P D vwCl (MX10 cI cZ cL cW a0 a1 a2 a3 a4 a5 a6 0 k_w k_o k_isKept k_went k_wentMany k_waiting k_came k_depth k_isSilent k_x k_packed k_hits k_rues k_soonest k_inAll) H) (hD : va_D A (MX10 cI cZ cL cW a0 a1 a2 a3 a4 a5 a6 0 k_w k_o k_isKept k_went k_wentMany k_waiting k_came k_depth k_isSilent k_x k_packed k_hits k_rues k_soonest k_inAll)) hS => ?_)
  refine lv_iload_n hx hb dX10_hot_5 rfl (lv_at hl 1 rfl) ?_
  refine lv_iconst (v := (-1)) hx hb dX10_hot_6 (by decide) ?_
  refine lv_icmp_lt (tgt := 25) hx hb dX10_hot_7 (by decide) (fun c19 => ?_) (fun c19 => ?_)
  · have hf := it_p hf c19
    refine lv_iconst (v := (-1)) hx hb dX10_hot_25 (by decide) ?_
    cases hf
    exact rw_i C hr hlk hP hD hS dX10_hot_26 rfl
  · have hf := it_n hf c19
    refine lv_iload_n hx hb dX10_hot_10 rfl (lv_at hl 1 rfl) ?_
    refine lv_iconst (v := (-1)) hx hb dX10_hot_11 (by decide) ?_
    refine lv_icmp_eq (tgt := 27) hx hb dX10_hot_12 (by decide) (fun c18 => ?_) (fun c18 => ?_)
    · have hf := it_p hf c18
      refine lv_iconst (v := 0) hx hb dX10_hot_27 (by decide) ?_
      refine lv_istore_n (lv' := [(3, .int 0), (0, .ref a0), (1, .int p1), (2, .int p2)]) hx hb dX10_hot_28 rfl hl (by decide) rfl (fun ls hl => ?_)
      refine lv_aload_n hx hb dX10_hot_29 rfl (lv_at hl 1 rfl) ?_
      refine lv_iconst (v := (-1)) hx hb dX10_hot_30 (by decide) ?_
      refine lv_iconst (v := 0) hx hb dX10_hot_31 (by decide) ?_
      obtain ⟨r1, h2, hf⟩ := bd_s hf
      refine iv_R (rest := []) (st1 := [.int r1]) C hE hP (c_X10_hotBehind l D cI cZ cL cW F a0 a1 a2 a3 a4 a5 a6 0 k_w k_o k_isKept k_went k_wentMany k_waiting k_came k_depth k_isSilent k_x k_packed k_hits k_rues k_soonest k_inAll (-1) 0 r1  h2) ok_X10_hotBehind qM_X10_321 rfl rfl ⟨(Nat.le_of_ble_eq_true rfl), (Nat.le_of_ble_eq_true rfl)⟩ rfl rfl hl.1 (Nat.le_of_ble_eq_true rfl) ⟨Nat.zero_le _, Nat.zero_le _⟩ dX10_hot_32 rfl rfl ?_
      refine lv_istore (lv' := [(4, .int r1), (3, .int 0), (0, .ref a0), (1, .int p1), (2, .int p2)]) hx hb dX10_hot_35 hl (by decide) rfl (fun ls hl => ?_)
      exact L37 F p1 p2 0 r1 0 k_w k_o k_isKept k_went k_wentMany k_waiting k_came k_depth k_isSilent k_x k_packed k_hits k_rues k_soonest k_inAll _ _ ls hf hP hD hS (lv_sub hl [2, 3, 4, 1, 0] rfl)
    · have hf := it_n hf c18
      refine lv_iload_n hx hb dX10_hot_15 rfl (lv_at hl 2 rfl) ?_
      refine lv_i2l hx hb dX10_hot_16 rfl ?_
      refine lv_lconst (v := 0) hx hb dX10_hot_17 (by decide) ?_
      refine lv_lconst (v := 1) hx hb dX10_hot_18 (by decide) ?_
      obtain ⟨r13, h14, hf⟩ := bd_s hf
      refine is_R (rest := []) (st1 := [.int r13]) C hE va_P_nil (c_X10_isIn l D cI cZ cL cW F   p2.toInt64 0 1 r13  h14) ok_X10_isIn qM_X10_49 rfl rfl ⟨(Nat.le_of_ble_eq_true rfl), (Nat.le_of_ble_eq_true rfl)⟩ hl.1 (Nat.le_of_ble_eq_true rfl) ⟨Nat.zero_le _, Nat.zero_le _⟩ dX10_hot_19 rfl rfl ?_
      refine lv_if_ne (tgt := 27) hx hb dX10_hot_22 (by decide) (fun c17 => ?_) (fun c17 => ?_)
      · have hf := it_n hf c17
        refine lv_iconst (v := 0) hx hb dX10_hot_27 (by decide) ?_
        refine lv_istore_n (lv' := [(3, .int 0), (0, .ref a0), (1, .int p1), (2, .int p2)]) hx hb dX10_hot_28 rfl hl (by decide) rfl (fun ls hl => ?_)
        refine lv_aload_n hx hb dX10_hot_29 rfl (lv_at hl 1 rfl) ?_
        refine lv_iconst (v := (-1)) hx hb dX10_hot_30 (by decide) ?_
        refine lv_iconst (v := 0) hx hb dX10_hot_31 (by decide) ?_
        obtain ⟨r15, h16, hf⟩ := bd_s hf
        refine iv_R (rest := []) (st1 := [.int r15]) C hE hP (c_X10_hotBehind l D cI cZ cL cW F a0 a1 a2 a3 a4 a5 a6 0 k_w k_o k_isKept k_went k_wentMany k_waiting k_came k_depth k_isSilent k_x k_packed k_hits k_rues k_soonest k_inAll (-1) 0 r15  h16) ok_X10_hotBehind qM_X10_321 rfl rfl ⟨(Nat.le_of_ble_eq_true rfl), (Nat.le_of_ble_eq_true rfl)⟩ rfl rfl hl.1 (Nat.le_of_ble_eq_true rfl) ⟨Nat.zero_le _, Nat.zero_le _⟩ dX10_hot_32 rfl rfl ?_
        refine lv_istore (lv' := [(4, .int r15), (3, .int 0), (0, .ref a0), (1, .int p1), (2, .int p2)]) hx hb dX10_hot_35 hl (by decide) rfl (fun ls hl => ?_)
        exact L37 F p1 p2 0 r15 0 k_w k_o k_isKept k_went k_wentMany k_waiting k_came k_depth k_isSilent k_x k_packed k_hits k_rues k_soonest k_inAll _ _ ls hf hP hD hS (lv_sub hl [2, 3, 4, 1, 0] rfl)
      · have hf := it_p hf c17
        refine lv_iconst (v := (-1)) hx hb dX10_hot_25 (by decide) ?_
        cases hf
        exact rw_i C hr hlk hP hD hS dX10_hot_26 rfl
def X10_profile_L9 (F : Nat) : Nat → Int32 → Int32 → Int32 → Int32 → (Nat → Int32) → Option (Int32 × Int32)
  | 0, _, _, _, _, _ => none
  | n + 1, v1, v2, v3, k_thrown, k_w => if ((k_w (Int32.toNatClampNeg 14)) : Int32) ≤ v3 then (some (v2, k_thrown)) else ((X10_distance F v3 k_thrown k_w).bind fun (r1, k_thrown_2) => (if (r1 : Int32) = v1 then ((X10_flag F 1).bind fun r6 => (X10_profile_L9 F n v1 (v2 + r6) (v3 + 1) k_thrown_2 k_w)) else ((X10_flag F 0).bind fun r4 => (X10_profile_L9 F n v1 (v2 + r4) (v3 + 1) k_thrown_2 k_w))))
def X10_profile (F : Nat) (p1 : Int32) (k_thrown : Int32) (k_w : (Nat → Int32)) : Option (Int32 × Int32) := (X10_profile_L9 F F p1 0 0 0 k_w).bind fun (x10, k11) => (some (x10, k11))
abbrev rm_X10_profile : Room := { frames := 2, cells := 0, slots := 0, locals := 49 }
theorem ok_X10_profile : OKV RX10 yX10_profile cX10_profile 4 (some .int) 1 := ⟨by decide +kernel, qV_X10_profile, qL_X10_profile, qI_X10, qD_X10_profile⟩
set_option maxHeartbeats 4000000 in
set_option maxRecDepth 100000 in
theorem c_X10_profile (l : Launch) (D : va_G) (cI cZ cL cW : ClassId) (F : Nat) (a0 : Nat) (a1 : Nat) (a2 : Nat) (a3 : Nat) (a4 : Nat) (a5 : Nat) (a6 : Nat) (k_thrown : Int32) (k_w : (Nat → Int32)) (k_o : Int32) (k_isKept : (Nat → Int32)) (k_went : (Nat → Int32)) (k_wentMany : Int32) (k_waiting : (Nat → Int32)) (k_came : Int32) (k_depth : Int32) (k_isSilent : Int32) (k_x : Int64) (k_packed : (Nat → Int32)) (k_hits : Int32) (k_rues : Int32) (k_soonest : Int32) (k_inAll : (Nat → Int32)) (p1 : Int32) (r : Int32) (k_thrown' : Int32) (hf : X10_profile F p1 k_thrown k_w = some (r, k_thrown')) : CtrW l D (tyL cI cZ cL cW) nestW yX10_profile cX10_profile 4 (some .int) rm_X10_profile [.ref a0, .int p1] (MX10 cI cZ cL cW a0 a1 a2 a3 a4 a5 a6 k_thrown k_w k_o k_isKept k_went k_wentMany k_waiting k_came k_depth k_isSilent k_x k_packed k_hits k_rues k_soonest k_inAll) (MX10 cI cZ cL cW a0 a1 a2 a3 a4 a5 a6 (k_thrown') k_w k_o k_isKept k_went k_wentMany k_waiting k_came k_depth k_isSilent k_x k_packed k_hits k_rues k_soonest k_inAll) (some (.int r)) := by
  refine ofA RX10 (by decide) rfl (Nat.le_of_ble_eq_true rfl) ?_
  intro p e s m below meth c ls A C hr hlk hE hA hP hD hS hl
  generalize (List.toArray ([.ref a0, .int p1] : List Value)) = args at C ⊢
  obtain ⟨hx, hb, hml, hown, ht⟩ := id C
  have hl : lv_has ls 4 [(0, .ref a0), (1, .int p1)] := hl
  have L9 : ∀ (Q : State → Prop) (n : Nat) (v1 : Int32) (v2 : Int32) (v3 : Int32) (k_thrown : Int32) (k_w : (Nat → Int32)) (k_o : Int32) (k_isKept : (Nat → Int32)) (k_went : (Nat → Int32)) (k_wentMany : Int32) (k_waiting : (Nat → Int32)) (k_came : Int32) (k_depth : Int32) (k_isSilent : Int32) (k_x : Int64) (k_packed : (Nat → Int32)) (k_hits : Int32) (k_rues : Int32) (k_soonest : Int32) (k_inAll : (Nat → Int32)) (x2 : Int32) (k_thrown' : Int32) (H : Heap) (locs : List Loc) (ls : Array Slot), X10_profile_L9 F n v1 v2 v3 k_thrown k_w = some (x2, k_thrown') → va_P D vwCl (MX10 cI cZ cL cW a0 a1 a2 a3 a4 a5 a6 k_thrown k_w k_o k_isKept k_went k_wentMany k_waiting k_came k_depth k_isSilent k_x k_packed k_hits k_rues k_soonest k_inAll) H → va_D A (MX10 cI cZ cL cW a0 a1 a2 a3 a4 a5 a6 k_thrown k_w k_o k_isKept k_went k_wentMany k_waiting k_came k_depth k_isSilent k_x k_packed k_hits k_rues k_soonest k_inAll) → va_S A s.heap H locs → lv_has ls 4 [(0, .ref a0), (1, .int v1), (2, .int v2), (3, .int v3)] → (∀ (H : Heap) (locs : List Loc) (ls : Array Slot), va_P D vwCl (MX10 cI cZ cL cW a0 a1 a2 a3 a4 a5 a6 (k_thrown') k_w k_o k_isKept k_went k_wentMany k_waiting k_came k_depth k_isSilent k_x k_packed k_hits k_rues k_soonest k_inAll) H → va_D A (MX10 cI cZ cL cW a0 a1 a2 a3 a4 a5 a6 (k_thrown') k_w k_o k_isKept k_went k_wentMany k_waiting k_came k_depth k_isSilent k_x k_packed k_hits k_rues k_soonest k_inAll) → va_S A s.heap H locs → lv_has ls 4 [(2, .int x2)] → W p l e rm_X10_profile s m args below meth c H locs 0 0 Q (F0 m 46 ls [])) → W p l e rm_X10_profile s m args below meth c H locs 0 0 Q (F0 m 9 ls []) := by
    intro Q n
    induction n with
    | zero => intro v1 v2 v3 k_thrown k_w k_o k_isKept k_went k_wentMany k_waiting k_came k_depth k_isSilent k_x k_packed k_hits k_rues k_soonest k_inAll x2 k_thrown' H locs ls hf hP hD hS hl hk; exact nn_s hf
    | succ n ih =>
      intro v1 v2 v3 k_thrown k_w k_o k_isKept k_went k_wentMany k_waiting k_came k_depth k_isSilent k_x k_packed k_hits k_rues k_soonest k_inAll x2 k_thrown' H locs ls hf hP hD hS hl hk
      refine lv_iload_n hx hb dX10_profile_9 rfl (lv_at hl 3 rfl) ?_
      refine lv_aload_n hx hb dX10_profile_10 rfl (lv_at hl 0 rfl) ?_
      refine gf_X10 (v := .ref a1) C hE hP 0 1 rfl (by decide) qF_X10_17 rfl dX10_profile_11 ?_
      refine lv_bipush (v := 14) hx hb dX10_profile_14 (by decide) ?_
      refine va_iald hx hb hE.1 hP 1 0 rfl rfl (vp_l (by decide)) dX10_profile_16 ?_
      refine lv_icmp_ge (tgt := 46) hx hb dX10_profile_17 (by decide) (fun c9 => ?_) (fun c9 => ?_)
      · have hf := it_p hf c9
        cases hf
        exact hk _ _ ls hP hD hS (lv_sub hl [2] rfl)
      · have hf := it_n hf c9
        refine lv_iload_n hx hb dX10_profile_20 rfl (lv_at hl 2 rfl) ?_
        refine lv_aload_n hx hb dX10_profile_21 rfl (lv_at hl 0 rfl) ?_
        refine lv_iload_n hx hb dX10_profile_22 rfl (lv_at hl 3 rfl) ?_
        obtain ⟨⟨r1, k_thrown_2⟩, h3, hf⟩ := bd_s hf
        refine iv_A (rest := [.int v2]) (st1 := [.int r1, .int v2]) C hE hP hD hS hA (c_X10_distance l D cI cZ cL cW F a0 a1 a2 a3 a4 a5 a6 k_thrown k_w k_o k_isKept k_went k_wentMany k_waiting k_came k_depth k_isSilent k_x k_packed k_hits k_rues k_soonest k_inAll v3 r1 k_thrown_2 h3) ok_X10_distance qM_X10_324 rfl rfl ⟨(Nat.le_of_ble_eq_true rfl), (Nat.le_of_ble_eq_true rfl)⟩ rfl rfl hl.1 (Nat.le_of_ble_eq_true rfl) ⟨Nat.zero_le _, Nat.zero_le _⟩ dX10_profile_23 rfl rfl (fun H locs (hP : va_P D vwCl (MX10 cI cZ cL cW a0 a1 a2 a3 a4 a5 a6 k_thrown_2 k_w k_o k_isKept k_went k_wentMany k_waiting k_came k_depth k_isSilent k_x k_packed k_hits k_rues k_soonest k_inAll) H) (hD : va_D A (MX10 cI cZ cL cW a0 a1 a2 a3 a4 a5 a6 k_thrown_2 k_w k_o k_isKept k_went k_wentMany k_waiting k_came k_depth k_isSilent k_x k_packed k_hits k_rues k_soonest k_inAll)) hS => ?_)
        refine lv_iload_n hx hb dX10_profile_26 rfl (lv_at hl 1 rfl) ?_
        refine lv_icmp_ne (tgt := 34) hx hb dX10_profile_27 (by decide) (fun c8 => ?_) (fun c8 => ?_)
        · have hf := it_n hf c8
          refine lv_iconst (v := 0) hx hb dX10_profile_34 (by decide) ?_
          obtain ⟨r4, h5, hf⟩ := bd_s hf
          refine is_R (rest := [.int v2]) (st1 := [.int r4, .int v2]) C hE va_P_nil (c_X10_flag l D cI cZ cL cW F   0 r4  h5) ok_X10_flag qM_X10_57 rfl rfl ⟨(Nat.le_of_ble_eq_true rfl), (Nat.le_of_ble_eq_true rfl)⟩ hl.1 (Nat.le_of_ble_eq_true rfl) ⟨Nat.zero_le _, Nat.zero_le _⟩ dX10_profile_35 rfl rfl ?_
          refine lv_iadd hx hb dX10_profile_38 ?_
          refine lv_istore_n (lv' := [(2, .int (v2 + r4)), (0, .ref a0), (1, .int v1), (3, .int v3)]) hx hb dX10_profile_39 rfl hl (by decide) rfl (fun ls hl => ?_)
          refine lv_iinc (v := (v3 + 1)) (lv' := [(3, .int (v3 + 1)), (2, .int (v2 + r4)), (0, .ref a0), (1, .int v1)]) hx hb dX10_profile_40 hl (k := 3) rfl rfl (by decide) rfl (fun ls hl => ?_)
          refine lv_goto (tgt := 9) hx hb dX10_profile_43 (by decide) ?_
          exact ih v1 (v2 + r4) (v3 + 1) k_thrown_2 k_w k_o k_isKept k_went k_wentMany k_waiting k_came k_depth k_isSilent k_x k_packed k_hits k_rues k_soonest k_inAll _ _ _ _ ls hf hP hD hS (lv_sub hl [2, 3, 1, 0] rfl) hk
        · have hf := it_p hf c8
          refine lv_iconst (v := 1) hx hb dX10_profile_30 (by decide) ?_
          refine lv_goto (tgt := 35) hx hb dX10_profile_31 (by decide) ?_
          obtain ⟨r6, h7, hf⟩ := bd_s hf
          refine is_R (rest := [.int v2]) (st1 := [.int r6, .int v2]) C hE va_P_nil (c_X10_flag l D cI cZ cL cW F   1 r6  h7) ok_X10_flag qM_X10_57 rfl rfl ⟨(Nat.le_of_ble_eq_true rfl), (Nat.le_of_ble_eq_true rfl)⟩ hl.1 (Nat.le_of_ble_eq_true rfl) ⟨Nat.zero_le _, Nat.zero_le _⟩ dX10_profile_35 rfl rfl ?_
          refine lv_iadd hx hb dX10_profile_38 ?_
          refine lv_istore_n (lv' := [(2, .int (v2 + r6)), (0, .ref a0), (1, .int v1), (3, .int v3)]) hx hb dX10_profile_39 rfl hl (by decide) rfl (fun ls hl => ?_)
          refine lv_iinc (v := (v3 + 1)) (lv' := [(3, .int (v3 + 1)), (2, .int (v2 + r6)), (0, .ref a0), (1, .int v1)]) hx hb dX10_profile_40 hl (k := 3) rfl rfl (by decide) rfl (fun ls hl => ?_)
          refine lv_goto (tgt := 9) hx hb dX10_profile_43 (by decide) ?_
          exact ih v1 (v2 + r6) (v3 + 1) k_thrown_2 k_w k_o k_isKept k_went k_wentMany k_waiting k_came k_depth k_isSilent k_x k_packed k_hits k_rues k_soonest k_inAll _ _ _ _ ls hf hP hD hS (lv_sub hl [2, 3, 1, 0] rfl) hk
  refine lv_aload_n hx hb dX10_profile_0 rfl (lv_at hl 0 rfl) ?_
  refine lv_iconst (v := 0) hx hb dX10_profile_1 (by decide) ?_
  refine pf_X10 (v := .int 0) C hE hP hD hS 0 0 rfl (by decide) qF_X10_1 rfl rfl rfl (Nat.le_of_ble_eq_true rfl) dX10_profile_2 (fun H locs (hP : va_P D vwCl (MX10 cI cZ cL cW a0 a1 a2 a3 a4 a5 a6 0 k_w k_o k_isKept k_went k_wentMany k_waiting k_came k_depth k_isSilent k_x k_packed k_hits k_rues k_soonest k_inAll) H) (hD : va_D A (MX10 cI cZ cL cW a0 a1 a2 a3 a4 a5 a6 0 k_w k_o k_isKept k_went k_wentMany k_waiting k_came k_depth k_isSilent k_x k_packed k_hits k_rues k_soonest k_inAll)) hS => ?_)
  refine lv_iconst (v := 0) hx hb dX10_profile_5 (by decide) ?_
  refine lv_istore_n (lv' := [(2, .int 0), (0, .ref a0), (1, .int p1)]) hx hb dX10_profile_6 rfl hl (by decide) rfl (fun ls hl => ?_)
  refine lv_iconst (v := 0) hx hb dX10_profile_7 (by decide) ?_
  refine lv_istore_n (lv' := [(3, .int 0), (2, .int 0), (0, .ref a0), (1, .int p1)]) hx hb dX10_profile_8 rfl hl (by decide) rfl (fun ls hl => ?_)
  obtain ⟨⟨x10, k11⟩, h12, hf⟩ := bd_s hf
  refine L9 _ F p1 0 0 0 k_w k_o k_isKept k_went k_wentMany k_waiting k_came k_depth k_isSilent k_x k_packed k_hits k_rues k_soonest k_inAll x10 k11 _ _ ls h12 hP hD hS (lv_sub hl [2, 3, 1, 0] rfl) (fun H locs ls hP hD hS hl => ?_)
  refine lv_iload_n hx hb dX10_profile_46 rfl (lv_at hl 0 rfl) ?_
  cases hf
  exact rw_i C hr hlk hP hD hS dX10_profile_47 rfl
def X10_logged_L42 (F : Nat) : Nat → Int32 → Int32 → Int32 → Int32 → Int32 → Int32 → (Nat → Int32) → Option (Int32 × Int32 × Int32)
  | 0, _, _, _, _, _, _, _ => none
  | n + 1, v1, v2, v3, v4, v5, v6, k_w => if ((k_w (Int32.toNatClampNeg 18)) : Int32) ≤ v6 then (some (v3, v4, v5)) else (if ((548 + (5 * v6)) : Int32) < 0 ∨ 3392 ≤ (Int32.toNatClampNeg (548 + (5 * v6))) then none else (if ((k_w (Int32.toNatClampNeg (548 + (5 * v6)))) : Int32) = v1 then (if (((548 + (5 * v6)) + 2) : Int32) < 0 ∨ 3392 ≤ (Int32.toNatClampNeg ((548 + (5 * v6)) + 2)) then none else (if ((k_w (Int32.toNatClampNeg ((548 + (5 * v6)) + 2))) : Int32) ≤ v4 then (if (((548 + (5 * v6)) + 4) : Int32) < 0 ∨ 3392 ≤ (Int32.toNatClampNeg ((548 + (5 * v6)) + 4)) then none else (if ((k_w (Int32.toNatClampNeg ((548 + (5 * v6)) + 4))) : Int32) = 0 then ((X10_flag F 1).bind fun r7 => (X10_logged_L42 F n v1 v2 (v3 + 1) v4 (v5 + r7) (v6 + 1) k_w)) else ((X10_flag F 0).bind fun r5 => (X10_logged_L42 F n v1 v2 (v3 + 1) v4 (v5 + r5) (v6 + 1) k_w)))) else (if (((548 + (5 * v6)) + 2) : Int32) < 0 ∨ 3392 ≤ (Int32.toNatClampNeg ((548 + (5 * v6)) + 2)) then none else (if (((548 + (5 * v6)) + 4) : Int32) < 0 ∨ 3392 ≤ (Int32.toNatClampNeg ((548 + (5 * v6)) + 4)) then none else (if ((k_w (Int32.toNatClampNeg ((548 + (5 * v6)) + 4))) : Int32) = 0 then ((X10_flag F 1).bind fun r13 => (X10_logged_L42 F n v1 v2 (v3 + 1) (k_w (Int32.toNatClampNeg ((548 + (5 * v6)) + 2))) (v5 + r13) (v6 + 1) k_w)) else ((X10_flag F 0).bind fun r11 => (X10_logged_L42 F n v1 v2 (v3 + 1) (k_w (Int32.toNatClampNeg ((548 + (5 * v6)) + 2))) (v5 + r11) (v6 + 1) k_w))))))) else (X10_logged_L42 F n v1 v2 v3 v4 v5 (v6 + 1) k_w)))
def X10_logged (F : Nat) (p1 : Int32) (p2 : Int32) (k_thrown : Int32) (k_w : (Nat → Int32)) : Option (Int32 × Int32) := (X10_isIn F p1.toInt64 0 6).bind fun r1 => (if (r1 : Int32) = 0 then (some ((-1), 0)) else ((X10_isIn F p2.toInt64 0 2).bind fun r3 => (if (r3 : Int32) = 0 then (some ((-1), 0)) else ((X10_logged_L42 F F p1 p2 0 (-1) 0 0 k_w).bind fun (x23, x24, x25) => (if (p2 : Int32) = 0 then (some (x23, 0)) else (if (p2 : Int32) = 1 then (some (x24, 0)) else (some (x25, 0))))))))
abbrev rm_X10_logged : Room := { frames := 1, cells := 0, slots := 0, locals := 25 }
theorem ok_X10_logged : OKV RX10 yX10_logged cX10_logged 7 (some .int) 2 := ⟨by decide +kernel, qV_X10_logged, qL_X10_logged, qI_X10, qD_X10_logged⟩
set_option maxHeartbeats 4000000 in
set_option maxRecDepth 100000 in
theorem c_X10_logged (l : Launch) (D : va_G) (cI cZ cL cW : ClassId) (F : Nat) (a0 : Nat) (a1 : Nat) (a2 : Nat) (a3 : Nat) (a4 : Nat) (a5 : Nat) (a6 : Nat) (k_thrown : Int32) (k_w : (Nat → Int32)) (k_o : Int32) (k_isKept : (Nat → Int32)) (k_went : (Nat → Int32)) (k_wentMany : Int32) (k_waiting : (Nat → Int32)) (k_came : Int32) (k_depth : Int32) (k_isSilent : Int32) (k_x : Int64) (k_packed : (Nat → Int32)) (k_hits : Int32) (k_rues : Int32) (k_soonest : Int32) (k_inAll : (Nat → Int32)) (p1 : Int32) (p2 : Int32) (r : Int32) (k_thrown' : Int32) (hf : X10_logged F p1 p2 k_thrown k_w = some (r, k_thrown')) : CtrW l D (tyL cI cZ cL cW) nestW yX10_logged cX10_logged 7 (some .int) rm_X10_logged [.ref a0, .int p1, .int p2] (MX10 cI cZ cL cW a0 a1 a2 a3 a4 a5 a6 k_thrown k_w k_o k_isKept k_went k_wentMany k_waiting k_came k_depth k_isSilent k_x k_packed k_hits k_rues k_soonest k_inAll) (MX10 cI cZ cL cW a0 a1 a2 a3 a4 a5 a6 (k_thrown') k_w k_o k_isKept k_went k_wentMany k_waiting k_came k_depth k_isSilent k_x k_packed k_hits k_rues k_soonest k_inAll) (some (.int r)) := by
  refine ofA RX10 (by decide) rfl (Nat.le_of_ble_eq_true rfl) ?_
  intro p e s m below meth c ls A C hr hlk hE hA hP hD hS hl
  generalize (List.toArray ([.ref a0, .int p1, .int p2] : List Value)) = args at C ⊢
  obtain ⟨hx, hb, hml, hown, ht⟩ := id C
  have hl : lv_has ls 7 [(0, .ref a0), (1, .int p1), (2, .int p2)] := hl
  have L42 : ∀ (Q : State → Prop) (H : Heap) (locs : List Loc) (n : Nat) (v1 : Int32) (v2 : Int32) (v3 : Int32) (v4 : Int32) (v5 : Int32) (v6 : Int32) (k_thrown : Int32) (k_w : (Nat → Int32)) (k_o : Int32) (k_isKept : (Nat → Int32)) (k_went : (Nat → Int32)) (k_wentMany : Int32) (k_waiting : (Nat → Int32)) (k_came : Int32) (k_depth : Int32) (k_isSilent : Int32) (k_x : Int64) (k_packed : (Nat → Int32)) (k_hits : Int32) (k_rues : Int32) (k_soonest : Int32) (k_inAll : (Nat → Int32)) (hP : va_P D vwCl (MX10 cI cZ cL cW a0 a1 a2 a3 a4 a5 a6 k_thrown k_w k_o k_isKept k_went k_wentMany k_waiting k_came k_depth k_isSilent k_x k_packed k_hits k_rues k_soonest k_inAll) H) (x3 : Int32) (x4 : Int32) (x5 : Int32) (ls : Array Slot), X10_logged_L42 F n v1 v2 v3 v4 v5 v6 k_w = some (x3, x4, x5) → lv_has ls 7 [(0, .ref a0), (1, .int v1), (2, .int v2), (3, .int v3), (4, .int v4), (5, .int v5), (6, .int v6)] → (∀ ls : Array Slot, lv_has ls 7 [(2, .int v2), (3, .int x3), (4, .int x4), (5, .int x5)] → W p l e rm_X10_logged s m args below meth c H locs 0 0 Q (F0 m 156 ls [])) → W p l e rm_X10_logged s m args below meth c H locs 0 0 Q (F0 m 42 ls []) := by
    intro Q H locs n
    induction n with
    | zero => intro v1 v2 v3 v4 v5 v6 k_thrown k_w k_o k_isKept k_went k_wentMany k_waiting k_came k_depth k_isSilent k_x k_packed k_hits k_rues k_soonest k_inAll hP x3 x4 x5 ls hf hl hk; exact nn_s hf
    | succ n ih =>
      intro v1 v2 v3 v4 v5 v6 k_thrown k_w k_o k_isKept k_went k_wentMany k_waiting k_came k_depth k_isSilent k_x k_packed k_hits k_rues k_soonest k_inAll hP x3 x4 x5 ls hf hl hk
      refine lv_iload hx hb dX10_logged_42 (lv_at hl 6 rfl) ?_
      refine lv_aload_n hx hb dX10_logged_44 rfl (lv_at hl 0 rfl) ?_
      refine gf_X10 (v := .ref a1) C hE hP 0 1 rfl (by decide) qF_X10_17 rfl dX10_logged_45 ?_
      refine lv_bipush (v := 18) hx hb dX10_logged_48 (by decide) ?_
      refine va_iald hx hb hE.1 hP 1 0 rfl rfl (vp_l (by decide)) dX10_logged_50 ?_
      refine lv_icmp_ge (tgt := 156) hx hb dX10_logged_51 (by decide) (fun c22 => ?_) (fun c22 => ?_)
      · have hf := it_p hf c22
        cases hf
        exact hk ls (lv_sub hl [2, 3, 4, 5] rfl)
      · have hf := it_n hf c22
        refine lv_aload_n hx hb dX10_logged_54 rfl (lv_at hl 0 rfl) ?_
        refine gf_X10 (v := .ref a1) C hE hP 0 1 rfl (by decide) qF_X10_17 rfl dX10_logged_55 ?_
        refine lv_sipush (v := 548) hx hb dX10_logged_58 (by decide) ?_
        refine lv_iconst (v := 5) hx hb dX10_logged_61 (by decide) ?_
        refine lv_iload hx hb dX10_logged_62 (lv_at hl 6 rfl) ?_
        refine lv_imul hx hb dX10_logged_64 ?_
        refine lv_iadd hx hb dX10_logged_65 ?_
        obtain ⟨g21, hf⟩ := it_g hf
        refine va_iald hx hb hE.1 hP 1 0 rfl rfl g21 dX10_logged_66 ?_
        refine lv_iload_n hx hb dX10_logged_67 rfl (lv_at hl 1 rfl) ?_
        refine lv_icmp_eq (tgt := 74) hx hb dX10_logged_68 (by decide) (fun c20 => ?_) (fun c20 => ?_)
        · have hf := it_p hf c20
          refine lv_iinc (v := (v3 + 1)) (lv' := [(3, .int (v3 + 1)), (0, .ref a0), (1, .int v1), (2, .int v2), (4, .int v4), (5, .int v5), (6, .int v6)]) hx hb dX10_logged_74 hl (k := 3) rfl rfl (by decide) rfl (fun ls hl => ?_)
          refine lv_aload_n hx hb dX10_logged_77 rfl (lv_at hl 1 rfl) ?_
          refine gf_X10 (v := .ref a1) C hE hP 0 1 rfl (by decide) qF_X10_17 rfl dX10_logged_78 ?_
          refine lv_sipush (v := 548) hx hb dX10_logged_81 (by decide) ?_
          refine lv_iconst (v := 5) hx hb dX10_logged_84 (by decide) ?_
          refine lv_iload hx hb dX10_logged_85 (lv_at hl 6 rfl) ?_
          refine lv_imul hx hb dX10_logged_87 ?_
          refine lv_iadd hx hb dX10_logged_88 ?_
          refine lv_iconst (v := 2) hx hb dX10_logged_89 (by decide) ?_
          refine lv_iadd hx hb dX10_logged_90 ?_
          obtain ⟨g19, hf⟩ := it_g hf
          refine va_iald hx hb hE.1 hP 1 0 rfl rfl g19 dX10_logged_91 ?_
          refine lv_iload hx hb dX10_logged_92 (lv_at hl 4 rfl) ?_
          refine lv_icmp_le (tgt := 115) hx hb dX10_logged_94 (by decide) (fun c18 => ?_) (fun c18 => ?_)
          · have hf := it_p hf c18
            refine lv_iload hx hb dX10_logged_115 (lv_at hl 4 rfl) ?_
            refine lv_istore (lv' := [(4, .int v4), (3, .int (v3 + 1)), (0, .ref a0), (1, .int v1), (2, .int v2), (5, .int v5), (6, .int v6)]) hx hb dX10_logged_117 hl (by decide) rfl (fun ls hl => ?_)
            refine lv_iload hx hb dX10_logged_119 (lv_at hl 5 rfl) ?_
            refine lv_aload_n hx hb dX10_logged_121 rfl (lv_at hl 2 rfl) ?_
            refine gf_X10 (v := .ref a1) C hE hP 0 1 rfl (by decide) qF_X10_17 rfl dX10_logged_122 ?_
            refine lv_sipush (v := 548) hx hb dX10_logged_125 (by decide) ?_
            refine lv_iconst (v := 5) hx hb dX10_logged_128 (by decide) ?_
            refine lv_iload hx hb dX10_logged_129 (lv_at hl 6 rfl) ?_
            refine lv_imul hx hb dX10_logged_131 ?_
            refine lv_iadd hx hb dX10_logged_132 ?_
            refine lv_iconst (v := 4) hx hb dX10_logged_133 (by decide) ?_
            refine lv_iadd hx hb dX10_logged_134 ?_
            obtain ⟨g10, hf⟩ := it_g hf
            refine va_iald hx hb hE.1 hP 1 0 rfl rfl g10 dX10_logged_135 ?_
            refine lv_if_ne (tgt := 143) hx hb dX10_logged_136 (by decide) (fun c9 => ?_) (fun c9 => ?_)
            · have hf := it_n hf c9
              refine lv_iconst (v := 0) hx hb dX10_logged_143 (by decide) ?_
              obtain ⟨r5, h6, hf⟩ := bd_s hf
              refine is_R (rest := [.int v5]) (st1 := [.int r5, .int v5]) C hE va_P_nil (c_X10_flag l D cI cZ cL cW F   0 r5  h6) ok_X10_flag qM_X10_57 rfl rfl ⟨(Nat.le_of_ble_eq_true rfl), (Nat.le_of_ble_eq_true rfl)⟩ hl.1 (Nat.le_of_ble_eq_true rfl) ⟨Nat.zero_le _, Nat.zero_le _⟩ dX10_logged_144 rfl rfl ?_
              refine lv_iadd hx hb dX10_logged_147 ?_
              refine lv_istore (lv' := [(5, .int (v5 + r5)), (4, .int v4), (3, .int (v3 + 1)), (0, .ref a0), (1, .int v1), (2, .int v2), (6, .int v6)]) hx hb dX10_logged_148 hl (by decide) rfl (fun ls hl => ?_)
              refine lv_iinc (v := (v6 + 1)) (lv' := [(6, .int (v6 + 1)), (5, .int (v5 + r5)), (4, .int v4), (3, .int (v3 + 1)), (0, .ref a0), (1, .int v1), (2, .int v2)]) hx hb dX10_logged_150 hl (k := 6) rfl rfl (by decide) rfl (fun ls hl => ?_)
              refine lv_goto (tgt := 42) hx hb dX10_logged_153 (by decide) ?_
              exact ih v1 v2 (v3 + 1) v4 (v5 + r5) (v6 + 1) k_thrown k_w k_o k_isKept k_went k_wentMany k_waiting k_came k_depth k_isSilent k_x k_packed k_hits k_rues k_soonest k_inAll hP _ _ _ ls hf (lv_sub hl [4, 5, 6, 3, 2, 1, 0] rfl) hk
            · have hf := it_p hf c9
              refine lv_iconst (v := 1) hx hb dX10_logged_139 (by decide) ?_
              refine lv_goto (tgt := 144) hx hb dX10_logged_140 (by decide) ?_
              obtain ⟨r7, h8, hf⟩ := bd_s hf
              refine is_R (rest := [.int v5]) (st1 := [.int r7, .int v5]) C hE va_P_nil (c_X10_flag l D cI cZ cL cW F   1 r7  h8) ok_X10_flag qM_X10_57 rfl rfl ⟨(Nat.le_of_ble_eq_true rfl), (Nat.le_of_ble_eq_true rfl)⟩ hl.1 (Nat.le_of_ble_eq_true rfl) ⟨Nat.zero_le _, Nat.zero_le _⟩ dX10_logged_144 rfl rfl ?_
              refine lv_iadd hx hb dX10_logged_147 ?_
              refine lv_istore (lv' := [(5, .int (v5 + r7)), (4, .int v4), (3, .int (v3 + 1)), (0, .ref a0), (1, .int v1), (2, .int v2), (6, .int v6)]) hx hb dX10_logged_148 hl (by decide) rfl (fun ls hl => ?_)
              refine lv_iinc (v := (v6 + 1)) (lv' := [(6, .int (v6 + 1)), (5, .int (v5 + r7)), (4, .int v4), (3, .int (v3 + 1)), (0, .ref a0), (1, .int v1), (2, .int v2)]) hx hb dX10_logged_150 hl (k := 6) rfl rfl (by decide) rfl (fun ls hl => ?_)
              refine lv_goto (tgt := 42) hx hb dX10_logged_153 (by decide) ?_
              exact ih v1 v2 (v3 + 1) v4 (v5 + r7) (v6 + 1) k_thrown k_w k_o k_isKept k_went k_wentMany k_waiting k_came k_depth k_isSilent k_x k_packed k_hits k_rues k_soonest k_inAll hP _ _ _ ls hf (lv_sub hl [4, 5, 6, 3, 2, 1, 0] rfl) hk
          · have hf := it_n hf c18
            refine lv_aload_n hx hb dX10_logged_97 rfl (lv_at hl 1 rfl) ?_
            refine gf_X10 (v := .ref a1) C hE hP 0 1 rfl (by decide) qF_X10_17 rfl dX10_logged_98 ?_
            refine lv_sipush (v := 548) hx hb dX10_logged_101 (by decide) ?_
            refine lv_iconst (v := 5) hx hb dX10_logged_104 (by decide) ?_
            refine lv_iload hx hb dX10_logged_105 (lv_at hl 6 rfl) ?_
            refine lv_imul hx hb dX10_logged_107 ?_
            refine lv_iadd hx hb dX10_logged_108 ?_
            refine lv_iconst (v := 2) hx hb dX10_logged_109 (by decide) ?_
            refine lv_iadd hx hb dX10_logged_110 ?_
            obtain ⟨g17, hf⟩ := it_g hf
            refine va_iald hx hb hE.1 hP 1 0 rfl rfl g17 dX10_logged_111 ?_
            refine lv_goto (tgt := 117) hx hb dX10_logged_112 (by decide) ?_
            refine lv_istore (lv' := [(4, .int (k_w (Int32.toNatClampNeg ((548 + (5 * v6)) + 2)))), (3, .int (v3 + 1)), (0, .ref a0), (1, .int v1), (2, .int v2), (5, .int v5), (6, .int v6)]) hx hb dX10_logged_117 hl (by decide) rfl (fun ls hl => ?_)
            refine lv_iload hx hb dX10_logged_119 (lv_at hl 5 rfl) ?_
            refine lv_aload_n hx hb dX10_logged_121 rfl (lv_at hl 2 rfl) ?_
            refine gf_X10 (v := .ref a1) C hE hP 0 1 rfl (by decide) qF_X10_17 rfl dX10_logged_122 ?_
            refine lv_sipush (v := 548) hx hb dX10_logged_125 (by decide) ?_
            refine lv_iconst (v := 5) hx hb dX10_logged_128 (by decide) ?_
            refine lv_iload hx hb dX10_logged_129 (lv_at hl 6 rfl) ?_
            refine lv_imul hx hb dX10_logged_131 ?_
            refine lv_iadd hx hb dX10_logged_132 ?_
            refine lv_iconst (v := 4) hx hb dX10_logged_133 (by decide) ?_
            refine lv_iadd hx hb dX10_logged_134 ?_
            obtain ⟨g16, hf⟩ := it_g hf
            refine va_iald hx hb hE.1 hP 1 0 rfl rfl g16 dX10_logged_135 ?_
            refine lv_if_ne (tgt := 143) hx hb dX10_logged_136 (by decide) (fun c15 => ?_) (fun c15 => ?_)
            · have hf := it_n hf c15
              refine lv_iconst (v := 0) hx hb dX10_logged_143 (by decide) ?_
              obtain ⟨r11, h12, hf⟩ := bd_s hf
              refine is_R (rest := [.int v5]) (st1 := [.int r11, .int v5]) C hE va_P_nil (c_X10_flag l D cI cZ cL cW F   0 r11  h12) ok_X10_flag qM_X10_57 rfl rfl ⟨(Nat.le_of_ble_eq_true rfl), (Nat.le_of_ble_eq_true rfl)⟩ hl.1 (Nat.le_of_ble_eq_true rfl) ⟨Nat.zero_le _, Nat.zero_le _⟩ dX10_logged_144 rfl rfl ?_
              refine lv_iadd hx hb dX10_logged_147 ?_
              refine lv_istore (lv' := [(5, .int (v5 + r11)), (4, .int (k_w (Int32.toNatClampNeg ((548 + (5 * v6)) + 2)))), (3, .int (v3 + 1)), (0, .ref a0), (1, .int v1), (2, .int v2), (6, .int v6)]) hx hb dX10_logged_148 hl (by decide) rfl (fun ls hl => ?_)
              refine lv_iinc (v := (v6 + 1)) (lv' := [(6, .int (v6 + 1)), (5, .int (v5 + r11)), (4, .int (k_w (Int32.toNatClampNeg ((548 + (5 * v6)) + 2)))), (3, .int (v3 + 1)), (0, .ref a0), (1, .int v1), (2, .int v2)]) hx hb dX10_logged_150 hl (k := 6) rfl rfl (by decide) rfl (fun ls hl => ?_)
              refine lv_goto (tgt := 42) hx hb dX10_logged_153 (by decide) ?_
              exact ih v1 v2 (v3 + 1) (k_w (Int32.toNatClampNeg ((548 + (5 * v6)) + 2))) (v5 + r11) (v6 + 1) k_thrown k_w k_o k_isKept k_went k_wentMany k_waiting k_came k_depth k_isSilent k_x k_packed k_hits k_rues k_soonest k_inAll hP _ _ _ ls hf (lv_sub hl [4, 5, 6, 3, 2, 1, 0] rfl) hk
            · have hf := it_p hf c15
              refine lv_iconst (v := 1) hx hb dX10_logged_139 (by decide) ?_
              refine lv_goto (tgt := 144) hx hb dX10_logged_140 (by decide) ?_
              obtain ⟨r13, h14, hf⟩ := bd_s hf
              refine is_R (rest := [.int v5]) (st1 := [.int r13, .int v5]) C hE va_P_nil (c_X10_flag l D cI cZ cL cW F   1 r13  h14) ok_X10_flag qM_X10_57 rfl rfl ⟨(Nat.le_of_ble_eq_true rfl), (Nat.le_of_ble_eq_true rfl)⟩ hl.1 (Nat.le_of_ble_eq_true rfl) ⟨Nat.zero_le _, Nat.zero_le _⟩ dX10_logged_144 rfl rfl ?_
              refine lv_iadd hx hb dX10_logged_147 ?_
              refine lv_istore (lv' := [(5, .int (v5 + r13)), (4, .int (k_w (Int32.toNatClampNeg ((548 + (5 * v6)) + 2)))), (3, .int (v3 + 1)), (0, .ref a0), (1, .int v1), (2, .int v2), (6, .int v6)]) hx hb dX10_logged_148 hl (by decide) rfl (fun ls hl => ?_)
              refine lv_iinc (v := (v6 + 1)) (lv' := [(6, .int (v6 + 1)), (5, .int (v5 + r13)), (4, .int (k_w (Int32.toNatClampNeg ((548 + (5 * v6)) + 2)))), (3, .int (v3 + 1)), (0, .ref a0), (1, .int v1), (2, .int v2)]) hx hb dX10_logged_150 hl (k := 6) rfl rfl (by decide) rfl (fun ls hl => ?_)
              refine lv_goto (tgt := 42) hx hb dX10_logged_153 (by decide) ?_
              exact ih v1 v2 (v3 + 1) (k_w (Int32.toNatClampNeg ((548 + (5 * v6)) + 2))) (v5 + r13) (v6 + 1) k_thrown k_w k_o k_isKept k_went k_wentMany k_waiting k_came k_depth k_isSilent k_x k_packed k_hits k_rues k_soonest k_inAll hP _ _ _ ls hf (lv_sub hl [4, 5, 6, 3, 2, 1, 0] rfl) hk
        · have hf := it_n hf c20
          refine lv_goto (tgt := 150) hx hb dX10_logged_71 (by decide) ?_
          refine lv_iinc (v := (v6 + 1)) (lv' := [(6, .int (v6 + 1)), (0, .ref a0), (1, .int v1), (2, .int v2), (3, .int v3), (4, .int v4), (5, .int v5)]) hx hb dX10_logged_150 hl (k := 6) rfl rfl (by decide) rfl (fun ls hl => ?_)
          refine lv_goto (tgt := 42) hx hb dX10_logged_153 (by decide) ?_
          exact ih v1 v2 v3 v4 v5 (v6 + 1) k_thrown k_w k_o k_isKept k_went k_wentMany k_waiting k_came k_depth k_isSilent k_x k_packed k_hits k_rues k_soonest k_inAll hP _ _ _ ls hf (lv_sub hl [1, 2, 3, 4, 5, 6, 0] rfl) hk
  refine lv_aload_n hx hb dX10_logged_0 rfl (lv_at hl 0 rfl) ?_
  refine lv_iconst (v := 0) hx hb dX10_logged_1 (by decide) ?_
  refine pf_X10 (v := .int 0) C hE hP hD hS 0 0 rfl (by decide) qF_X10_1 rfl rfl rfl (Nat.le_of_ble_eq_true rfl) dX10_logged_2 (fun H locs (hP : va_P D vwCl (MX10 cI cZ cL cW a0 a1 a2 a3 a4 a5 a6 0 k_w k_o k_isKept k_went k_wentMany k_waiting k_came k_depth k_isSilent k_x k_packed k_hits k_rues k_soonest k_inAll) H) (hD : va_D A (MX10 cI cZ cL cW a0 a1 a2 a3 a4 a5 a6 0 k_w k_o k_isKept k_went k_wentMany k_waiting k_came k_depth k_isSilent k_x k_packed k_hits k_rues k_soonest k_inAll)) hS => ?_)
  refine lv_iload_n hx hb dX10_logged_5 rfl (lv_at hl 1 rfl) ?_
  refine lv_i2l hx hb dX10_logged_6 rfl ?_
  refine lv_lconst (v := 0) hx hb dX10_logged_7 (by decide) ?_
  refine lv_ldc2 (v := 6) hx hb hown (ht _ qJ_X10_216) dX10_logged_8 ?_
  obtain ⟨r1, h2, hf⟩ := bd_s hf
  refine is_R (rest := []) (st1 := [.int r1]) C hE va_P_nil (c_X10_isIn l D cI cZ cL cW F   p1.toInt64 0 6 r1  h2) ok_X10_isIn qM_X10_49 rfl rfl ⟨(Nat.le_of_ble_eq_true rfl), (Nat.le_of_ble_eq_true rfl)⟩ hl.1 (Nat.le_of_ble_eq_true rfl) ⟨Nat.zero_le _, Nat.zero_le _⟩ dX10_logged_11 rfl rfl ?_
  refine lv_if_eq (tgt := 29) hx hb dX10_logged_14 (by decide) (fun c30 => ?_) (fun c30 => ?_)
  · have hf := it_p hf c30
    refine lv_iconst (v := (-1)) hx hb dX10_logged_29 (by decide) ?_
    cases hf
    exact rw_i C hr hlk hP hD hS dX10_logged_30 rfl
  · have hf := it_n hf c30
    refine lv_iload_n hx hb dX10_logged_17 rfl (lv_at hl 2 rfl) ?_
    refine lv_i2l hx hb dX10_logged_18 rfl ?_
    refine lv_lconst (v := 0) hx hb dX10_logged_19 (by decide) ?_
    refine lv_ldc2 (v := 2) hx hb hown (ht _ qJ_X10_260) dX10_logged_20 ?_
    obtain ⟨r3, h4, hf⟩ := bd_s hf
    refine is_R (rest := []) (st1 := [.int r3]) C hE va_P_nil (c_X10_isIn l D cI cZ cL cW F   p2.toInt64 0 2 r3  h4) ok_X10_isIn qM_X10_49 rfl rfl ⟨(Nat.le_of_ble_eq_true rfl), (Nat.le_of_ble_eq_true rfl)⟩ hl.1 (Nat.le_of_ble_eq_true rfl) ⟨Nat.zero_le _, Nat.zero_le _⟩ dX10_logged_23 rfl rfl ?_
    refine lv_if_ne (tgt := 31) hx hb dX10_logged_26 (by decide) (fun c29 => ?_) (fun c29 => ?_)
    · have hf := it_n hf c29
      refine lv_iconst (v := 0) hx hb dX10_logged_31 (by decide) ?_
      refine lv_istore_n (lv' := [(3, .int 0), (0, .ref a0), (1, .int p1), (2, .int p2)]) hx hb dX10_logged_32 rfl hl (by decide) rfl (fun ls hl => ?_)
      refine lv_iconst (v := (-1)) hx hb dX10_logged_33 (by decide) ?_
      refine lv_istore (lv' := [(4, .int (-1)), (3, .int 0), (0, .ref a0), (1, .int p1), (2, .int p2)]) hx hb dX10_logged_34 hl (by decide) rfl (fun ls hl => ?_)
      refine lv_iconst (v := 0) hx hb dX10_logged_36 (by decide) ?_
      refine lv_istore (lv' := [(5, .int 0), (4, .int (-1)), (3, .int 0), (0, .ref a0), (1, .int p1), (2, .int p2)]) hx hb dX10_logged_37 hl (by decide) rfl (fun ls hl => ?_)
      refine lv_iconst (v := 0) hx hb dX10_logged_39 (by decide) ?_
      refine lv_istore (lv' := [(6, .int 0), (5, .int 0), (4, .int (-1)), (3, .int 0), (0, .ref a0), (1, .int p1), (2, .int p2)]) hx hb dX10_logged_40 hl (by decide) rfl (fun ls hl => ?_)
      obtain ⟨⟨x23, x24, x25⟩, h26, hf⟩ := bd_s hf
      refine L42 _ _ _ F p1 p2 0 (-1) 0 0 0 k_w k_o k_isKept k_went k_wentMany k_waiting k_came k_depth k_isSilent k_x k_packed k_hits k_rues k_soonest k_inAll hP x23 x24 x25 ls h26 (lv_sub hl [4, 5, 6, 3, 2, 1, 0] rfl) (fun ls hl => ?_)
      refine lv_iload_n hx hb dX10_logged_156 rfl (lv_at hl 0 rfl) ?_
      refine lv_if_ne (tgt := 164) hx hb dX10_logged_157 (by decide) (fun c28 => ?_) (fun c28 => ?_)
      · have hf := it_n hf c28
        refine lv_iload_n hx hb dX10_logged_164 rfl (lv_at hl 0 rfl) ?_
        refine lv_iconst (v := 1) hx hb dX10_logged_165 (by decide) ?_
        refine lv_icmp_ne (tgt := 174) hx hb dX10_logged_166 (by decide) (fun c27 => ?_) (fun c27 => ?_)
        · have hf := it_n hf c27
          refine lv_iload hx hb dX10_logged_174 (lv_at hl 3 rfl) ?_
          cases hf
          exact rw_i C hr hlk hP hD hS dX10_logged_176 rfl
        · have hf := it_p hf c27
          refine lv_iload hx hb dX10_logged_169 (lv_at hl 2 rfl) ?_
          refine lv_goto (tgt := 176) hx hb dX10_logged_171 (by decide) ?_
          cases hf
          exact rw_i C hr hlk hP hD hS dX10_logged_176 rfl
      · have hf := it_p hf c28
        refine lv_iload_n hx hb dX10_logged_160 rfl (lv_at hl 1 rfl) ?_
        refine lv_goto (tgt := 176) hx hb dX10_logged_161 (by decide) ?_
        cases hf
        exact rw_i C hr hlk hP hD hS dX10_logged_176 rfl
    · have hf := it_p hf c29
      refine lv_iconst (v := (-1)) hx hb dX10_logged_29 (by decide) ?_
      cases hf
      exact rw_i C hr hlk hP hD hS dX10_logged_30 rfl
def X10_lead_L26 (F : Nat) : Nat → Int32 → Int32 → Int32 → Int32 → (Nat → Int32) → Int32 → Option (Int32)
  | 0, _, _, _, _, _, _ => none
  | n + 1, v1, v2, v3, v4, k_w, k_o => if ((k_w (Int32.toNatClampNeg 0)) : Int32) ≤ v4 then (some v3) else ((X10_placeOf F v1 v4 k_w k_o).bind fun r3 => (if (v2 : Int32) ≤ r3 then (X10_lead_L26 F n v1 v2 (v3 + 0) (v4 + 1) k_w k_o) else ((X10_of F v4 2 k_w k_o).bind fun r5 => (X10_lead_L26 F n v1 v2 (v3 + r5) (v4 + 1) k_w k_o))))
def X10_lead (F : Nat) (p1 : Int32) (p2 : Int32) (k_thrown : Int32) (k_w : (Nat → Int32)) (k_o : Int32) : Option (Int32 × Int32) := (X10_isIn F p1.toInt64 0 1).bind fun r1 => (if (r1 : Int32) = 0 then (some ((-1), 0)) else (if (0 : Int32) ≤ p2 then ((X10_lead_L26 F F p1 p2 0 0 k_w k_o).bind fun x9 => (some (x9, 0))) else (some ((-1), 0))))
abbrev rm_X10_lead : Room := { frames := 3, cells := 0, slots := 0, locals := 69 }
theorem ok_X10_lead : OKV RX10 yX10_lead cX10_lead 5 (some .int) 2 := ⟨by decide +kernel, qV_X10_lead, qL_X10_lead, qI_X10, qD_X10_lead⟩
set_option maxHeartbeats 4000000 in
set_option maxRecDepth 100000 in
theorem c_X10_lead (l : Launch) (D : va_G) (cI cZ cL cW : ClassId) (F : Nat) (a0 : Nat) (a1 : Nat) (a2 : Nat) (a3 : Nat) (a4 : Nat) (a5 : Nat) (a6 : Nat) (k_thrown : Int32) (k_w : (Nat → Int32)) (k_o : Int32) (k_isKept : (Nat → Int32)) (k_went : (Nat → Int32)) (k_wentMany : Int32) (k_waiting : (Nat → Int32)) (k_came : Int32) (k_depth : Int32) (k_isSilent : Int32) (k_x : Int64) (k_packed : (Nat → Int32)) (k_hits : Int32) (k_rues : Int32) (k_soonest : Int32) (k_inAll : (Nat → Int32)) (p1 : Int32) (p2 : Int32) (r : Int32) (k_thrown' : Int32) (hf : X10_lead F p1 p2 k_thrown k_w k_o = some (r, k_thrown')) : CtrW l D (tyL cI cZ cL cW) nestW yX10_lead cX10_lead 5 (some .int) rm_X10_lead [.ref a0, .int p1, .int p2] (MX10 cI cZ cL cW a0 a1 a2 a3 a4 a5 a6 k_thrown k_w k_o k_isKept k_went k_wentMany k_waiting k_came k_depth k_isSilent k_x k_packed k_hits k_rues k_soonest k_inAll) (MX10 cI cZ cL cW a0 a1 a2 a3 a4 a5 a6 (k_thrown') k_w k_o k_isKept k_went k_wentMany k_waiting k_came k_depth k_isSilent k_x k_packed k_hits k_rues k_soonest k_inAll) (some (.int r)) := by
  refine ofA RX10 (by decide) rfl (Nat.le_of_ble_eq_true rfl) ?_
  intro p e s m below meth c ls A C hr hlk hE hA hP hD hS hl
  generalize (List.toArray ([.ref a0, .int p1, .int p2] : List Value)) = args at C ⊢
  obtain ⟨hx, hb, hml, hown, ht⟩ := id C
  have hl : lv_has ls 5 [(0, .ref a0), (1, .int p1), (2, .int p2)] := hl
  have L26 : ∀ (Q : State → Prop) (H : Heap) (locs : List Loc) (n : Nat) (v1 : Int32) (v2 : Int32) (v3 : Int32) (v4 : Int32) (k_thrown : Int32) (k_w : (Nat → Int32)) (k_o : Int32) (k_isKept : (Nat → Int32)) (k_went : (Nat → Int32)) (k_wentMany : Int32) (k_waiting : (Nat → Int32)) (k_came : Int32) (k_depth : Int32) (k_isSilent : Int32) (k_x : Int64) (k_packed : (Nat → Int32)) (k_hits : Int32) (k_rues : Int32) (k_soonest : Int32) (k_inAll : (Nat → Int32)) (hP : va_P D vwCl (MX10 cI cZ cL cW a0 a1 a2 a3 a4 a5 a6 k_thrown k_w k_o k_isKept k_went k_wentMany k_waiting k_came k_depth k_isSilent k_x k_packed k_hits k_rues k_soonest k_inAll) H) (x3 : Int32) (ls : Array Slot), X10_lead_L26 F n v1 v2 v3 v4 k_w k_o = some x3 → lv_has ls 5 [(0, .ref a0), (1, .int v1), (2, .int v2), (3, .int v3), (4, .int v4)] → (∀ ls : Array Slot, lv_has ls 5 [(3, .int x3)] → W p l e rm_X10_lead s m args below meth c H locs 0 0 Q (F0 m 68 ls [])) → W p l e rm_X10_lead s m args below meth c H locs 0 0 Q (F0 m 26 ls []) := by
    intro Q H locs n
    induction n with
    | zero => intro v1 v2 v3 v4 k_thrown k_w k_o k_isKept k_went k_wentMany k_waiting k_came k_depth k_isSilent k_x k_packed k_hits k_rues k_soonest k_inAll hP x3 ls hf hl hk; exact nn_s hf
    | succ n ih =>
      intro v1 v2 v3 v4 k_thrown k_w k_o k_isKept k_went k_wentMany k_waiting k_came k_depth k_isSilent k_x k_packed k_hits k_rues k_soonest k_inAll hP x3 ls hf hl hk
      refine lv_iload hx hb dX10_lead_26 (lv_at hl 4 rfl) ?_
      refine lv_aload_n hx hb dX10_lead_28 rfl (lv_at hl 0 rfl) ?_
      refine gf_X10 (v := .ref a1) C hE hP 0 1 rfl (by decide) qF_X10_17 rfl dX10_lead_29 ?_
      refine lv_iconst (v := 0) hx hb dX10_lead_32 (by decide) ?_
      refine va_iald hx hb hE.1 hP 1 0 rfl rfl (vp_l (by decide)) dX10_lead_33 ?_
      refine lv_icmp_ge (tgt := 68) hx hb dX10_lead_34 (by decide) (fun c8 => ?_) (fun c8 => ?_)
      · have hf := it_p hf c8
        cases hf
        exact hk ls (lv_sub hl [3] rfl)
      · have hf := it_n hf c8
        refine lv_iload_n hx hb dX10_lead_37 rfl (lv_at hl 3 rfl) ?_
        refine lv_aload_n hx hb dX10_lead_38 rfl (lv_at hl 0 rfl) ?_
        refine lv_iload_n hx hb dX10_lead_39 rfl (lv_at hl 1 rfl) ?_
        refine lv_iload hx hb dX10_lead_40 (lv_at hl 4 rfl) ?_
        obtain ⟨r3, h4, hf⟩ := bd_s hf
        refine iv_R (rest := [.int v3]) (st1 := [.int r3, .int v3]) C hE hP (c_X10_placeOf l D cI cZ cL cW F a0 a1 a2 a3 a4 a5 a6 k_thrown k_w k_o k_isKept k_went k_wentMany k_waiting k_came k_depth k_isSilent k_x k_packed k_hits k_rues k_soonest k_inAll v1 v4 r3  h4) ok_X10_placeOf qM_X10_61 rfl rfl ⟨(Nat.le_of_ble_eq_true rfl), (Nat.le_of_ble_eq_true rfl)⟩ rfl rfl hl.1 (Nat.le_of_ble_eq_true rfl) ⟨Nat.zero_le _, Nat.zero_le _⟩ dX10_lead_42 rfl rfl ?_
        refine lv_iload_n hx hb dX10_lead_45 rfl (lv_at hl 2 rfl) ?_
        refine lv_icmp_ge (tgt := 59) hx hb dX10_lead_46 (by decide) (fun c7 => ?_) (fun c7 => ?_)
        · have hf := it_p hf c7
          refine lv_iconst (v := 0) hx hb dX10_lead_59 (by decide) ?_
          refine lv_iadd hx hb dX10_lead_60 ?_
          refine lv_istore_n (lv' := [(3, .int (v3 + 0)), (0, .ref a0), (1, .int v1), (2, .int v2), (4, .int v4)]) hx hb dX10_lead_61 rfl hl (by decide) rfl (fun ls hl => ?_)
          refine lv_iinc (v := (v4 + 1)) (lv' := [(4, .int (v4 + 1)), (3, .int (v3 + 0)), (0, .ref a0), (1, .int v1), (2, .int v2)]) hx hb dX10_lead_62 hl (k := 4) rfl rfl (by decide) rfl (fun ls hl => ?_)
          refine lv_goto (tgt := 26) hx hb dX10_lead_65 (by decide) ?_
          exact ih v1 v2 (v3 + 0) (v4 + 1) k_thrown k_w k_o k_isKept k_went k_wentMany k_waiting k_came k_depth k_isSilent k_x k_packed k_hits k_rues k_soonest k_inAll hP _ ls hf (lv_sub hl [2, 3, 4, 1, 0] rfl) hk
        · have hf := it_n hf c7
          refine lv_aload_n hx hb dX10_lead_49 rfl (lv_at hl 0 rfl) ?_
          refine lv_iload hx hb dX10_lead_50 (lv_at hl 4 rfl) ?_
          refine lv_iconst (v := 2) hx hb dX10_lead_52 (by decide) ?_
          obtain ⟨r5, h6, hf⟩ := bd_s hf
          refine iv_R (rest := [.int v3]) (st1 := [.int r5, .int v3]) C hE hP (c_X10_of l D cI cZ cL cW F a0 a1 a2 a3 a4 a5 a6 k_thrown k_w k_o k_isKept k_went k_wentMany k_waiting k_came k_depth k_isSilent k_x k_packed k_hits k_rues k_soonest k_inAll v4 2 r5  h6) ok_X10_of qM_X10_44 rfl rfl ⟨(Nat.le_of_ble_eq_true rfl), (Nat.le_of_ble_eq_true rfl)⟩ rfl rfl hl.1 (Nat.le_of_ble_eq_true rfl) ⟨Nat.zero_le _, Nat.zero_le _⟩ dX10_lead_53 rfl rfl ?_
          refine lv_goto (tgt := 60) hx hb dX10_lead_56 (by decide) ?_
          refine lv_iadd hx hb dX10_lead_60 ?_
          refine lv_istore_n (lv' := [(3, .int (v3 + r5)), (0, .ref a0), (1, .int v1), (2, .int v2), (4, .int v4)]) hx hb dX10_lead_61 rfl hl (by decide) rfl (fun ls hl => ?_)
          refine lv_iinc (v := (v4 + 1)) (lv' := [(4, .int (v4 + 1)), (3, .int (v3 + r5)), (0, .ref a0), (1, .int v1), (2, .int v2)]) hx hb dX10_lead_62 hl (k := 4) rfl rfl (by decide) rfl (fun ls hl => ?_)
          refine lv_goto (tgt := 26) hx hb dX10_lead_65 (by decide) ?_
          exact ih v1 v2 (v3 + r5) (v4 + 1) k_thrown k_w k_o k_isKept k_went k_wentMany k_waiting k_came k_depth k_isSilent k_x k_packed k_hits k_rues k_soonest k_inAll hP _ ls hf (lv_sub hl [2, 3, 4, 1, 0] rfl) hk
  refine lv_aload_n hx hb dX10_lead_0 rfl (lv_at hl 0 rfl) ?_
  refine lv_iconst (v := 0) hx hb dX10_lead_1 (by decide) ?_
  refine pf_X10 (v := .int 0) C hE hP hD hS 0 0 rfl (by decide) qF_X10_1 rfl rfl rfl (Nat.le_of_ble_eq_true rfl) dX10_lead_2 (fun H locs (hP : va_P D vwCl (MX10 cI cZ cL cW a0 a1 a2 a3 a4 a5 a6 0 k_w k_o k_isKept k_went k_wentMany k_waiting k_came k_depth k_isSilent k_x k_packed k_hits k_rues k_soonest k_inAll) H) (hD : va_D A (MX10 cI cZ cL cW a0 a1 a2 a3 a4 a5 a6 0 k_w k_o k_isKept k_went k_wentMany k_waiting k_came k_depth k_isSilent k_x k_packed k_hits k_rues k_soonest k_inAll)) hS => ?_)
  refine lv_iload_n hx hb dX10_lead_5 rfl (lv_at hl 1 rfl) ?_
  refine lv_i2l hx hb dX10_lead_6 rfl ?_
  refine lv_lconst (v := 0) hx hb dX10_lead_7 (by decide) ?_
  refine lv_lconst (v := 1) hx hb dX10_lead_8 (by decide) ?_
  obtain ⟨r1, h2, hf⟩ := bd_s hf
  refine is_R (rest := []) (st1 := [.int r1]) C hE va_P_nil (c_X10_isIn l D cI cZ cL cW F   p1.toInt64 0 1 r1  h2) ok_X10_isIn qM_X10_49 rfl rfl ⟨(Nat.le_of_ble_eq_true rfl), (Nat.le_of_ble_eq_true rfl)⟩ hl.1 (Nat.le_of_ble_eq_true rfl) ⟨Nat.zero_le _, Nat.zero_le _⟩ dX10_lead_9 rfl rfl ?_
  refine lv_if_eq (tgt := 19) hx hb dX10_lead_12 (by decide) (fun c12 => ?_) (fun c12 => ?_)
  · have hf := it_p hf c12
    refine lv_iconst (v := (-1)) hx hb dX10_lead_19 (by decide) ?_
    cases hf
    exact rw_i C hr hlk hP hD hS dX10_lead_20 rfl
  · have hf := it_n hf c12
    refine lv_iload_n hx hb dX10_lead_15 rfl (lv_at hl 2 rfl) ?_
    refine lv_if_ge (tgt := 21) hx hb dX10_lead_16 (by decide) (fun c11 => ?_) (fun c11 => ?_)
    · have hf := it_p hf c11
      refine lv_iconst (v := 0) hx hb dX10_lead_21 (by decide) ?_
      refine lv_istore_n (lv' := [(3, .int 0), (0, .ref a0), (1, .int p1), (2, .int p2)]) hx hb dX10_lead_22 rfl hl (by decide) rfl (fun ls hl => ?_)
      refine lv_iconst (v := 0) hx hb dX10_lead_23 (by decide) ?_
      refine lv_istore (lv' := [(4, .int 0), (3, .int 0), (0, .ref a0), (1, .int p1), (2, .int p2)]) hx hb dX10_lead_24 hl (by decide) rfl (fun ls hl => ?_)
      obtain ⟨x9, h10, hf⟩ := bd_s hf
      refine L26 _ _ _ F p1 p2 0 0 0 k_w k_o k_isKept k_went k_wentMany k_waiting k_came k_depth k_isSilent k_x k_packed k_hits k_rues k_soonest k_inAll hP x9 ls h10 (lv_sub hl [2, 3, 4, 1, 0] rfl) (fun ls hl => ?_)
      refine lv_iload_n hx hb dX10_lead_68 rfl (lv_at hl 0 rfl) ?_
      cases hf
      exact rw_i C hr hlk hP hD hS dX10_lead_69 rfl
    · have hf := it_n hf c11
      refine lv_iconst (v := (-1)) hx hb dX10_lead_19 (by decide) ?_
      cases hf
      exact rw_i C hr hlk hP hD hS dX10_lead_20 rfl
def X10_turnOf_L33 (F : Nat) : Nat → Int32 → (Nat → Int32) → Int32 → (Nat → Int32) → Int32 → (Nat → Int32) → Int32 → Int32 → Int32 → Option ((Nat → Int32) × (Nat → Int32) × Int32 × (Nat → Int32) × Int32)
  | 0, _, _, _, _, _, _, _, _, _ => none
  | n + 1, v1, k_w, k_o, k_went, k_wentMany, k_waiting, k_came, k_depth, k_isSilent => (X10_entryOf F v1 k_w k_o).bind fun r10 => (if (r10 : Int32) = (-1) then (some (k_w, k_went, k_wentMany, k_waiting, k_came)) else ((X10_evicts F (-1) k_w k_o k_went k_wentMany k_waiting k_came k_depth k_isSilent).bind fun (r12, k_w_13, k_went_14, k_wentMany_15, k_waiting_16, k_came_17) => (X10_turnOf_L33 F n v1 k_w_13 k_o k_went_14 k_wentMany_15 k_waiting_16 k_came_17 k_depth k_isSilent)))
def X10_turnOf (F : Nat) (p1 : Int32) (k_thrown : Int32) (k_w : (Nat → Int32)) (k_o : Int32) (k_went : (Nat → Int32)) (k_wentMany : Int32) (k_waiting : (Nat → Int32)) (k_came : Int32) (k_depth : Int32) (k_isSilent : Int32) : Option (Int32 × Int32 × (Nat → Int32) × Int32 × (Nat → Int32) × Int32 × (Nat → Int32) × Int32 × Int32) := (X10_entryOf F p1 k_w k_o).bind fun r1 => (if (r1 : Int32) = (-1) then (some ((-1), 0, k_w, k_o, k_went, k_wentMany, k_waiting, k_came, k_isSilent)) else ((X10_of F r1 6 k_w k_o).bind fun r3 => (if (r3 : Int32) = 1 then (some ((-1), 0, k_w, k_o, k_went, k_wentMany, k_waiting, k_came, k_isSilent)) else ((X10_toPaper F k_w k_o k_wentMany k_isSilent).bind fun (k_w_5, k_o_6, k_wentMany_7, k_isSilent_8) => ((X10_turnOf_L33 F F p1 k_w_5 k_o_6 k_went k_wentMany_7 k_waiting k_came k_depth k_isSilent_8).bind fun (k20, k21, k22, k23, k24) => ((X10_comesBack F k_o_6 k_isSilent_8).bind fun (k_o_26, k_isSilent_27) => (some ((k22 - 1), 0, k20, k_o_26, k21, k22, k23, k24, k_isSilent_27))))))))
abbrev rm_X10_turnOf : Room := { frames := 6, cells := 0, slots := 0, locals := 139 }
theorem ok_X10_turnOf : OKV RX10 yX10_turnOf cX10_turnOf 4 (some .int) 1 := ⟨by decide +kernel, qV_X10_turnOf, qL_X10_turnOf, qI_X10, qD_X10_turnOf⟩
set_option maxHeartbeats 4000000 in
set_option maxRecDepth 100000 in
theorem c_X10_turnOf (l : Launch) (D : va_G) (cI cZ cL cW : ClassId) (F : Nat) (a0 : Nat) (a1 : Nat) (a2 : Nat) (a3 : Nat) (a4 : Nat) (a5 : Nat) (a6 : Nat) (k_thrown : Int32) (k_w : (Nat → Int32)) (k_o : Int32) (k_isKept : (Nat → Int32)) (k_went : (Nat → Int32)) (k_wentMany : Int32) (k_waiting : (Nat → Int32)) (k_came : Int32) (k_depth : Int32) (k_isSilent : Int32) (k_x : Int64) (k_packed : (Nat → Int32)) (k_hits : Int32) (k_rues : Int32) (k_soonest : Int32) (k_inAll : (Nat → Int32)) (p1 : Int32) (r : Int32) (k_thrown' : Int32) (k_w' : (Nat → Int32)) (k_o' : Int32) (k_went' : (Nat → Int32)) (k_wentMany' : Int32) (k_waiting' : (Nat → Int32)) (k_came' : Int32) (k_isSilent' : Int32) (hf : X10_turnOf F p1 k_thrown k_w k_o k_went k_wentMany k_waiting k_came k_depth k_isSilent = some (r, k_thrown', k_w', k_o', k_went', k_wentMany', k_waiting', k_came', k_isSilent')) : CtrW l D (tyL cI cZ cL cW) nestW yX10_turnOf cX10_turnOf 4 (some .int) rm_X10_turnOf [.ref a0, .int p1] (MX10 cI cZ cL cW a0 a1 a2 a3 a4 a5 a6 k_thrown k_w k_o k_isKept k_went k_wentMany k_waiting k_came k_depth k_isSilent k_x k_packed k_hits k_rues k_soonest k_inAll) (MX10 cI cZ cL cW a0 a1 a2 a3 a4 a5 a6 (k_thrown') (k_w') (k_o') k_isKept (k_went') (k_wentMany') (k_waiting') (k_came') k_depth (k_isSilent') k_x k_packed k_hits k_rues k_soonest k_inAll) (some (.int r)) := by
  refine ofA RX10 (by decide) rfl (Nat.le_of_ble_eq_true rfl) ?_
  intro p e s m below meth c ls A C hr hlk hE hA hP hD hS hl
  generalize (List.toArray ([.ref a0, .int p1] : List Value)) = args at C ⊢
  obtain ⟨hx, hb, hml, hown, ht⟩ := id C
  have hl : lv_has ls 4 [(0, .ref a0), (1, .int p1)] := hl
  have L33 : ∀ (Q : State → Prop) (n : Nat) (v1 : Int32) (k_thrown : Int32) (k_w : (Nat → Int32)) (k_o : Int32) (k_isKept : (Nat → Int32)) (k_went : (Nat → Int32)) (k_wentMany : Int32) (k_waiting : (Nat → Int32)) (k_came : Int32) (k_depth : Int32) (k_isSilent : Int32) (k_x : Int64) (k_packed : (Nat → Int32)) (k_hits : Int32) (k_rues : Int32) (k_soonest : Int32) (k_inAll : (Nat → Int32)) (k_w' : (Nat → Int32)) (k_went' : (Nat → Int32)) (k_wentMany' : Int32) (k_waiting' : (Nat → Int32)) (k_came' : Int32) (H : Heap) (locs : List Loc) (ls : Array Slot), X10_turnOf_L33 F n v1 k_w k_o k_went k_wentMany k_waiting k_came k_depth k_isSilent = some (k_w', k_went', k_wentMany', k_waiting', k_came') → va_P D vwCl (MX10 cI cZ cL cW a0 a1 a2 a3 a4 a5 a6 k_thrown k_w k_o k_isKept k_went k_wentMany k_waiting k_came k_depth k_isSilent k_x k_packed k_hits k_rues k_soonest k_inAll) H → va_D A (MX10 cI cZ cL cW a0 a1 a2 a3 a4 a5 a6 k_thrown k_w k_o k_isKept k_went k_wentMany k_waiting k_came k_depth k_isSilent k_x k_packed k_hits k_rues k_soonest k_inAll) → va_S A s.heap H locs → lv_has ls 4 [(0, .ref a0), (1, .int v1)] → (∀ (H : Heap) (locs : List Loc) (ls : Array Slot), va_P D vwCl (MX10 cI cZ cL cW a0 a1 a2 a3 a4 a5 a6 k_thrown (k_w') k_o k_isKept (k_went') (k_wentMany') (k_waiting') (k_came') k_depth k_isSilent k_x k_packed k_hits k_rues k_soonest k_inAll) H → va_D A (MX10 cI cZ cL cW a0 a1 a2 a3 a4 a5 a6 k_thrown (k_w') k_o k_isKept (k_went') (k_wentMany') (k_waiting') (k_came') k_depth k_isSilent k_x k_packed k_hits k_rues k_soonest k_inAll) → va_S A s.heap H locs → lv_has ls 4 [(0, .ref a0)] → W p l e rm_X10_turnOf s m args below meth c H locs 0 0 Q (F0 m 51 ls [])) → W p l e rm_X10_turnOf s m args below meth c H locs 0 0 Q (F0 m 33 ls []) := by
    intro Q n
    induction n with
    | zero => intro v1 k_thrown k_w k_o k_isKept k_went k_wentMany k_waiting k_came k_depth k_isSilent k_x k_packed k_hits k_rues k_soonest k_inAll k_w' k_went' k_wentMany' k_waiting' k_came' H locs ls hf hP hD hS hl hk; exact nn_s hf
    | succ n ih =>
      intro v1 k_thrown k_w k_o k_isKept k_went k_wentMany k_waiting k_came k_depth k_isSilent k_x k_packed k_hits k_rues k_soonest k_inAll k_w' k_went' k_wentMany' k_waiting' k_came' H locs ls hf hP hD hS hl hk
      refine lv_aload_n hx hb dX10_turnOf_33 rfl (lv_at hl 0 rfl) ?_
      refine lv_iload_n hx hb dX10_turnOf_34 rfl (lv_at hl 1 rfl) ?_
      obtain ⟨r10, h11, hf⟩ := bd_s hf
      refine iv_R (rest := []) (st1 := [.int r10]) C hE hP (c_X10_entryOf l D cI cZ cL cW F a0 a1 a2 a3 a4 a5 a6 k_thrown k_w k_o k_isKept k_went k_wentMany k_waiting k_came k_depth k_isSilent k_x k_packed k_hits k_rues k_soonest k_inAll v1 r10  h11) ok_X10_entryOf qM_X10_118 rfl rfl ⟨(Nat.le_of_ble_eq_true rfl), (Nat.le_of_ble_eq_true rfl)⟩ rfl rfl hl.1 (Nat.le_of_ble_eq_true rfl) ⟨Nat.zero_le _, Nat.zero_le _⟩ dX10_turnOf_35 rfl rfl ?_
      refine lv_iconst (v := (-1)) hx hb dX10_turnOf_38 (by decide) ?_
      refine lv_icmp_eq (tgt := 51) hx hb dX10_turnOf_39 (by decide) (fun c19 => ?_) (fun c19 => ?_)
      · have hf := it_p hf c19
        cases hf
        exact hk _ _ ls hP hD hS (lv_sub hl [0] rfl)
      · have hf := it_n hf c19
        refine lv_aload_n hx hb dX10_turnOf_42 rfl (lv_at hl 0 rfl) ?_
        refine lv_iconst (v := (-1)) hx hb dX10_turnOf_43 (by decide) ?_
        obtain ⟨⟨r12, k_w_13, k_went_14, k_wentMany_15, k_waiting_16, k_came_17⟩, h18, hf⟩ := bd_s hf
        refine iv_A (rest := []) (st1 := [.int r12]) C hE hP hD hS hA (c_X10_evicts l D cI cZ cL cW F a0 a1 a2 a3 a4 a5 a6 k_thrown k_w k_o k_isKept k_went k_wentMany k_waiting k_came k_depth k_isSilent k_x k_packed k_hits k_rues k_soonest k_inAll (-1) r12 k_w_13 k_went_14 k_wentMany_15 k_waiting_16 k_came_17 h18) ok_X10_evicts qM_X10_173 rfl rfl ⟨(Nat.le_of_ble_eq_true rfl), (Nat.le_of_ble_eq_true rfl)⟩ rfl rfl hl.1 (Nat.le_of_ble_eq_true rfl) ⟨Nat.zero_le _, Nat.zero_le _⟩ dX10_turnOf_44 rfl rfl (fun H locs (hP : va_P D vwCl (MX10 cI cZ cL cW a0 a1 a2 a3 a4 a5 a6 k_thrown k_w_13 k_o k_isKept k_went_14 k_wentMany_15 k_waiting_16 k_came_17 k_depth k_isSilent k_x k_packed k_hits k_rues k_soonest k_inAll) H) (hD : va_D A (MX10 cI cZ cL cW a0 a1 a2 a3 a4 a5 a6 k_thrown k_w_13 k_o k_isKept k_went_14 k_wentMany_15 k_waiting_16 k_came_17 k_depth k_isSilent k_x k_packed k_hits k_rues k_soonest k_inAll)) hS => ?_)
        refine lv_pop hx hb dX10_turnOf_47 rfl ?_
        refine lv_goto (tgt := 33) hx hb dX10_turnOf_48 (by decide) ?_
        exact ih v1 k_thrown k_w_13 k_o k_isKept k_went_14 k_wentMany_15 k_waiting_16 k_came_17 k_depth k_isSilent k_x k_packed k_hits k_rues k_soonest k_inAll _ _ _ _ _ _ _ ls hf hP hD hS (lv_sub hl [0, 1] rfl) hk
  refine lv_aload_n hx hb dX10_turnOf_0 rfl (lv_at hl 0 rfl) ?_
  refine lv_iconst (v := 0) hx hb dX10_turnOf_1 (by decide) ?_
  refine pf_X10 (v := .int 0) C hE hP hD hS 0 0 rfl (by decide) qF_X10_1 rfl rfl rfl (Nat.le_of_ble_eq_true rfl) dX10_turnOf_2 (fun H locs (hP : va_P D vwCl (MX10 cI cZ cL cW a0 a1 a2 a3 a4 a5 a6 0 k_w k_o k_isKept k_went k_wentMany k_waiting k_came k_depth k_isSilent k_x k_packed k_hits k_rues k_soonest k_inAll) H) (hD : va_D A (MX10 cI cZ cL cW a0 a1 a2 a3 a4 a5 a6 0 k_w k_o k_isKept k_went k_wentMany k_waiting k_came k_depth k_isSilent k_x k_packed k_hits k_rues k_soonest k_inAll)) hS => ?_)
  refine lv_aload_n hx hb dX10_turnOf_5 rfl (lv_at hl 0 rfl) ?_
  refine lv_iload_n hx hb dX10_turnOf_6 rfl (lv_at hl 1 rfl) ?_
  obtain ⟨r1, h2, hf⟩ := bd_s hf
  refine iv_R (rest := []) (st1 := [.int r1]) C hE hP (c_X10_entryOf l D cI cZ cL cW F a0 a1 a2 a3 a4 a5 a6 0 k_w k_o k_isKept k_went k_wentMany k_waiting k_came k_depth k_isSilent k_x k_packed k_hits k_rues k_soonest k_inAll p1 r1  h2) ok_X10_entryOf qM_X10_118 rfl rfl ⟨(Nat.le_of_ble_eq_true rfl), (Nat.le_of_ble_eq_true rfl)⟩ rfl rfl hl.1 (Nat.le_of_ble_eq_true rfl) ⟨Nat.zero_le _, Nat.zero_le _⟩ dX10_turnOf_7 rfl rfl ?_
  refine lv_istore_n (lv' := [(2, .int r1), (0, .ref a0), (1, .int p1)]) hx hb dX10_turnOf_10 rfl hl (by decide) rfl (fun ls hl => ?_)
  refine lv_iload_n hx hb dX10_turnOf_11 rfl (lv_at hl 0 rfl) ?_
  refine lv_iconst (v := (-1)) hx hb dX10_turnOf_12 (by decide) ?_
  refine lv_icmp_eq (tgt := 27) hx hb dX10_turnOf_13 (by decide) (fun c30 => ?_) (fun c30 => ?_)
  · have hf := it_p hf c30
    refine lv_iconst (v := (-1)) hx hb dX10_turnOf_27 (by decide) ?_
    cases hf
    exact rw_i C hr hlk hP hD hS dX10_turnOf_28 rfl
  · have hf := it_n hf c30
    refine lv_aload_n hx hb dX10_turnOf_16 rfl (lv_at hl 1 rfl) ?_
    refine lv_iload_n hx hb dX10_turnOf_17 rfl (lv_at hl 0 rfl) ?_
    refine lv_bipush (v := 6) hx hb dX10_turnOf_18 (by decide) ?_
    obtain ⟨r3, h4, hf⟩ := bd_s hf
    refine iv_R (rest := []) (st1 := [.int r3]) C hE hP (c_X10_of l D cI cZ cL cW F a0 a1 a2 a3 a4 a5 a6 0 k_w k_o k_isKept k_went k_wentMany k_waiting k_came k_depth k_isSilent k_x k_packed k_hits k_rues k_soonest k_inAll r1 6 r3  h4) ok_X10_of qM_X10_44 rfl rfl ⟨(Nat.le_of_ble_eq_true rfl), (Nat.le_of_ble_eq_true rfl)⟩ rfl rfl hl.1 (Nat.le_of_ble_eq_true rfl) ⟨Nat.zero_le _, Nat.zero_le _⟩ dX10_turnOf_20 rfl rfl ?_
    refine lv_iconst (v := 1) hx hb dX10_turnOf_23 (by decide) ?_
    refine lv_icmp_ne (tgt := 29) hx hb dX10_turnOf_24 (by decide) (fun c29 => ?_) (fun c29 => ?_)
    · have hf := it_n hf c29
      refine lv_aload_n hx hb dX10_turnOf_29 rfl (lv_at hl 1 rfl) ?_
      obtain ⟨⟨k_w_5, k_o_6, k_wentMany_7, k_isSilent_8⟩, h9, hf⟩ := bd_s hf
      refine iv_A (rest := []) (st1 := []) C hE hP hD hS hA (c_X10_toPaper l D cI cZ cL cW F a0 a1 a2 a3 a4 a5 a6 0 k_w k_o k_isKept k_went k_wentMany k_waiting k_came k_depth k_isSilent k_x k_packed k_hits k_rues k_soonest k_inAll   k_w_5 k_o_6 k_wentMany_7 k_isSilent_8 h9) ok_X10_toPaper qM_X10_265 rfl rfl ⟨(Nat.le_of_ble_eq_true rfl), (Nat.le_of_ble_eq_true rfl)⟩ rfl rfl hl.1 (Nat.le_of_ble_eq_true rfl) ⟨Nat.zero_le _, Nat.zero_le _⟩ dX10_turnOf_30 rfl rfl (fun H locs (hP : va_P D vwCl (MX10 cI cZ cL cW a0 a1 a2 a3 a4 a5 a6 0 k_w_5 k_o_6 k_isKept k_went k_wentMany_7 k_waiting k_came k_depth k_isSilent_8 k_x k_packed k_hits k_rues k_soonest k_inAll) H) (hD : va_D A (MX10 cI cZ cL cW a0 a1 a2 a3 a4 a5 a6 0 k_w_5 k_o_6 k_isKept k_went k_wentMany_7 k_waiting k_came k_depth k_isSilent_8 k_x k_packed k_hits k_rues k_soonest k_inAll)) hS => ?_)
      obtain ⟨⟨k20, k21, k22, k23, k24⟩, h25, hf⟩ := bd_s hf
      refine L33 _ F p1 0 k_w_5 k_o_6 k_isKept k_went k_wentMany_7 k_waiting k_came k_depth k_isSilent_8 k_x k_packed k_hits k_rues k_soonest k_inAll k20 k21 k22 k23 k24 _ _ ls h25 hP hD hS (lv_sub hl [1, 2] rfl) (fun H locs ls hP hD hS hl => ?_)
      refine lv_aload_n hx hb dX10_turnOf_51 rfl (lv_at hl 0 rfl) ?_
      refine gf_X10 (v := .int k22) C hE hP 0 5 rfl (by decide) qF_X10_95 rfl dX10_turnOf_52 ?_
      refine lv_iconst (v := 1) hx hb dX10_turnOf_55 (by decide) ?_
      refine lv_isub hx hb dX10_turnOf_56 ?_
      refine lv_istore_n (lv' := [(3, .int (k22 - 1)), (0, .ref a0)]) hx hb dX10_turnOf_57 rfl hl (by decide) rfl (fun ls hl => ?_)
      refine lv_aload_n hx hb dX10_turnOf_58 rfl (lv_at hl 1 rfl) ?_
      obtain ⟨⟨k_o_26, k_isSilent_27⟩, h28, hf⟩ := bd_s hf
      refine iv_A (rest := []) (st1 := []) C hE hP hD hS hA (c_X10_comesBack l D cI cZ cL cW F a0 a1 a2 a3 a4 a5 a6 0 k20 k_o_6 k_isKept k21 k22 k23 k24 k_depth k_isSilent_8 k_x k_packed k_hits k_rues k_soonest k_inAll   k_o_26 k_isSilent_27 h28) ok_X10_comesBack qM_X10_268 rfl rfl ⟨(Nat.le_of_ble_eq_true rfl), (Nat.le_of_ble_eq_true rfl)⟩ rfl rfl hl.1 (Nat.le_of_ble_eq_true rfl) ⟨Nat.zero_le _, Nat.zero_le _⟩ dX10_turnOf_59 rfl rfl (fun H locs (hP : va_P D vwCl (MX10 cI cZ cL cW a0 a1 a2 a3 a4 a5 a6 0 k20 k_o_26 k_isKept k21 k22 k23 k24 k_depth k_isSilent_27 k_x k_packed k_hits k_rues k_soonest k_inAll) H) (hD : va_D A (MX10 cI cZ cL cW a0 a1 a2 a3 a4 a5 a6 0 k20 k_o_26 k_isKept k21 k22 k23 k24 k_depth k_isSilent_27 k_x k_packed k_hits k_rues k_soonest k_inAll)) hS => ?_)
      refine lv_iload_n hx hb dX10_turnOf_62 rfl (lv_at hl 0 rfl) ?_
      cases hf
      exact rw_i C hr hlk hP hD hS dX10_turnOf_63 rfl
    · have hf := it_p hf c29
      refine lv_iconst (v := (-1)) hx hb dX10_turnOf_27 (by decide) ?_
      cases hf
      exact rw_i C hr hlk hP hD hS dX10_turnOf_28 rfl
def X10_behind_L68 (F : Nat) : Nat → Int32 → Int32 → Int32 → Int32 → Int32 → (Nat → Int32) → Int32 → Option ((Nat → Int32))
  | 0, _, _, _, _, _, _, _ => none
  | n + 1, v2, v3, v4, v5, v6, k_w, k_o => if (v2 : Int32) ≤ v6 then (some k_w) else ((X10_uses F v5 k_w k_o).bind fun k_w_14 => (X10_behind_L68 F n v2 v3 v4 v5 (v6 + 1) k_w_14 k_o))
def X10_behind (F : Nat) (p1 : Int32) (p2 : Int32) (p3 : Int32) (k_thrown : Int32) (k_w : (Nat → Int32)) (k_o : Int32) (k_wentMany : Int32) (k_isSilent : Int32) : Option (Int32 × Int32 × (Nat → Int32) × Int32 × Int32 × Int32) := (X10_entryOf F p1 k_w k_o).bind fun r1 => (if (r1 : Int32) = (-1) then (some ((-1), 0, k_w, k_o, k_wentMany, k_isSilent)) else ((X10_isIn F p2.toInt64 1 99).bind fun r3 => (if (r3 : Int32) = 0 then (some ((-1), 0, k_w, k_o, k_wentMany, k_isSilent)) else ((X10_isIn F p3.toInt64 0 2).bind fun r5 => (if (r5 : Int32) = 0 then (some ((-1), 0, k_w, k_o, k_wentMany, k_isSilent)) else ((X10_toPaper F k_w k_o k_wentMany k_isSilent).bind fun (k_w_7, k_o_8, k_wentMany_9, k_isSilent_10) => (if ((k_o_8 + 15) : Int32) < 0 ∨ 3392 ≤ (Int32.toNatClampNeg (k_o_8 + 15)) then none else ((X10_entryOf F p1 k_w_7 k_o_8).bind fun r12 => ((X10_behind_L68 F F p2 p3 (k_w_7 (Int32.toNatClampNeg (k_o_8 + 15))) r12 0 k_w_7 k_o_8).bind fun k17 => (if (p3 : Int32) = 0 then ((X10_of F r12 3 k17 k_o_8).bind fun r29 => ((X10_comesBack F k_o_8 k_isSilent_10).bind fun (k_o_31, k_isSilent_32) => (some (r29, 0, k17, k_o_31, k_wentMany_9, k_isSilent_32)))) else (if (p3 : Int32) = 1 then ((X10_placeOf F 1 r12 k17 k_o_8).bind fun r23 => ((X10_comesBack F k_o_8 k_isSilent_10).bind fun (k_o_25, k_isSilent_26) => (some (r23, 0, k17, k_o_25, k_wentMany_9, k_isSilent_26)))) else (if ((k_o_8 + 15) : Int32) < 0 ∨ 3392 ≤ (Int32.toNatClampNeg (k_o_8 + 15)) then none else ((X10_comesBack F k_o_8 k_isSilent_10).bind fun (k_o_19, k_isSilent_20) => (some (((k17 (Int32.toNatClampNeg (k_o_8 + 15))) - (k_w_7 (Int32.toNatClampNeg (k_o_8 + 15)))), 0, k17, k_o_19, k_wentMany_9, k_isSilent_20)))))))))))))))
abbrev rm_X10_behind : Room := { frames := 3, cells := 0, slots := 0, locals := 69 }
theorem ok_X10_behind : OKV RX10 yX10_behind cX10_behind 7 (some .int) 3 := ⟨by decide +kernel, qV_X10_behind, qL_X10_behind, qI_X10, qD_X10_behind⟩
set_option maxHeartbeats 4000000 in
set_option maxRecDepth 100000 in
theorem c_X10_behind (l : Launch) (D : va_G) (cI cZ cL cW : ClassId) (F : Nat) (a0 : Nat) (a1 : Nat) (a2 : Nat) (a3 : Nat) (a4 : Nat) (a5 : Nat) (a6 : Nat) (k_thrown : Int32) (k_w : (Nat → Int32)) (k_o : Int32) (k_isKept : (Nat → Int32)) (k_went : (Nat → Int32)) (k_wentMany : Int32) (k_waiting : (Nat → Int32)) (k_came : Int32) (k_depth : Int32) (k_isSilent : Int32) (k_x : Int64) (k_packed : (Nat → Int32)) (k_hits : Int32) (k_rues : Int32) (k_soonest : Int32) (k_inAll : (Nat → Int32)) (p1 : Int32) (p2 : Int32) (p3 : Int32) (r : Int32) (k_thrown' : Int32) (k_w' : (Nat → Int32)) (k_o' : Int32) (k_wentMany' : Int32) (k_isSilent' : Int32) (hf : X10_behind F p1 p2 p3 k_thrown k_w k_o k_wentMany k_isSilent = some (r, k_thrown', k_w', k_o', k_wentMany', k_isSilent')) : CtrW l D (tyL cI cZ cL cW) nestW yX10_behind cX10_behind 7 (some .int) rm_X10_behind [.ref a0, .int p1, .int p2, .int p3] (MX10 cI cZ cL cW a0 a1 a2 a3 a4 a5 a6 k_thrown k_w k_o k_isKept k_went k_wentMany k_waiting k_came k_depth k_isSilent k_x k_packed k_hits k_rues k_soonest k_inAll) (MX10 cI cZ cL cW a0 a1 a2 a3 a4 a5 a6 (k_thrown') (k_w') (k_o') k_isKept k_went (k_wentMany') k_waiting k_came k_depth (k_isSilent') k_x k_packed k_hits k_rues k_soonest k_inAll) (some (.int r)) := by
  refine ofA RX10 (by decide) rfl (Nat.le_of_ble_eq_true rfl) ?_
  intro p e s m below meth c ls A C hr hlk hE hA hP hD hS hl
  generalize (List.toArray ([.ref a0, .int p1, .int p2, .int p3] : List Value)) = args at C ⊢
  obtain ⟨hx, hb, hml, hown, ht⟩ := id C
  have hl : lv_has ls 7 [(0, .ref a0), (1, .int p1), (2, .int p2), (3, .int p3)] := hl
  have L68 : ∀ (Q : State → Prop) (n : Nat) (v2 : Int32) (v3 : Int32) (v4 : Int32) (v5 : Int32) (v6 : Int32) (k_thrown : Int32) (k_w : (Nat → Int32)) (k_o : Int32) (k_isKept : (Nat → Int32)) (k_went : (Nat → Int32)) (k_wentMany : Int32) (k_waiting : (Nat → Int32)) (k_came : Int32) (k_depth : Int32) (k_isSilent : Int32) (k_x : Int64) (k_packed : (Nat → Int32)) (k_hits : Int32) (k_rues : Int32) (k_soonest : Int32) (k_inAll : (Nat → Int32)) (k_w' : (Nat → Int32)) (H : Heap) (locs : List Loc) (ls : Array Slot), X10_behind_L68 F n v2 v3 v4 v5 v6 k_w k_o = some (k_w') → va_P D vwCl (MX10 cI cZ cL cW a0 a1 a2 a3 a4 a5 a6 k_thrown k_w k_o k_isKept k_went k_wentMany k_waiting k_came k_depth k_isSilent k_x k_packed k_hits k_rues k_soonest k_inAll) H → va_D A (MX10 cI cZ cL cW a0 a1 a2 a3 a4 a5 a6 k_thrown k_w k_o k_isKept k_went k_wentMany k_waiting k_came k_depth k_isSilent k_x k_packed k_hits k_rues k_soonest k_inAll) → va_S A s.heap H locs → lv_has ls 7 [(0, .ref a0), (2, .int v2), (3, .int v3), (4, .int v4), (5, .int v5), (6, .int v6)] → (∀ (H : Heap) (locs : List Loc) (ls : Array Slot), va_P D vwCl (MX10 cI cZ cL cW a0 a1 a2 a3 a4 a5 a6 k_thrown (k_w') k_o k_isKept k_went k_wentMany k_waiting k_came k_depth k_isSilent k_x k_packed k_hits k_rues k_soonest k_inAll) H → va_D A (MX10 cI cZ cL cW a0 a1 a2 a3 a4 a5 a6 k_thrown (k_w') k_o k_isKept k_went k_wentMany k_waiting k_came k_depth k_isSilent k_x k_packed k_hits k_rues k_soonest k_inAll) → va_S A s.heap H locs → lv_has ls 7 [(0, .ref a0), (3, .int v3), (4, .int v4), (5, .int v5)] → W p l e rm_X10_behind s m args below meth c H locs 0 0 Q (F0 m 86 ls [])) → W p l e rm_X10_behind s m args below meth c H locs 0 0 Q (F0 m 68 ls []) := by
    intro Q n
    induction n with
    | zero => intro v2 v3 v4 v5 v6 k_thrown k_w k_o k_isKept k_went k_wentMany k_waiting k_came k_depth k_isSilent k_x k_packed k_hits k_rues k_soonest k_inAll k_w' H locs ls hf hP hD hS hl hk; exact nn_s hf
    | succ n ih =>
      intro v2 v3 v4 v5 v6 k_thrown k_w k_o k_isKept k_went k_wentMany k_waiting k_came k_depth k_isSilent k_x k_packed k_hits k_rues k_soonest k_inAll k_w' H locs ls hf hP hD hS hl hk
      refine lv_iload hx hb dX10_behind_68 (lv_at hl 5 rfl) ?_
      refine lv_iload_n hx hb dX10_behind_70 rfl (lv_at hl 1 rfl) ?_
      refine lv_icmp_ge (tgt := 86) hx hb dX10_behind_71 (by decide) (fun c16 => ?_) (fun c16 => ?_)
      · have hf := it_p hf c16
        cases hf
        exact hk _ _ ls hP hD hS (lv_sub hl [0, 2, 3, 4] rfl)
      · have hf := it_n hf c16
        refine lv_aload_n hx hb dX10_behind_74 rfl (lv_at hl 0 rfl) ?_
        refine lv_iload hx hb dX10_behind_75 (lv_at hl 4 rfl) ?_
        obtain ⟨k_w_14, h15, hf⟩ := bd_s hf
        refine iv_A (rest := []) (st1 := []) C hE hP hD hS hA (c_X10_uses l D cI cZ cL cW F a0 a1 a2 a3 a4 a5 a6 k_thrown k_w k_o k_isKept k_went k_wentMany k_waiting k_came k_depth k_isSilent k_x k_packed k_hits k_rues k_soonest k_inAll v5  k_w_14 h15) ok_X10_uses qM_X10_182 rfl rfl ⟨(Nat.le_of_ble_eq_true rfl), (Nat.le_of_ble_eq_true rfl)⟩ rfl rfl hl.1 (Nat.le_of_ble_eq_true rfl) ⟨Nat.zero_le _, Nat.zero_le _⟩ dX10_behind_77 rfl rfl (fun H locs (hP : va_P D vwCl (MX10 cI cZ cL cW a0 a1 a2 a3 a4 a5 a6 k_thrown k_w_14 k_o k_isKept k_went k_wentMany k_waiting k_came k_depth k_isSilent k_x k_packed k_hits k_rues k_soonest k_inAll) H) (hD : va_D A (MX10 cI cZ cL cW a0 a1 a2 a3 a4 a5 a6 k_thrown k_w_14 k_o k_isKept k_went k_wentMany k_waiting k_came k_depth k_isSilent k_x k_packed k_hits k_rues k_soonest k_inAll)) hS => ?_)
        refine lv_iinc (v := (v6 + 1)) (lv' := [(6, .int (v6 + 1)), (0, .ref a0), (2, .int v2), (3, .int v3), (4, .int v4), (5, .int v5)]) hx hb dX10_behind_80 hl (k := 5) rfl rfl (by decide) rfl (fun ls hl => ?_)
        refine lv_goto (tgt := 68) hx hb dX10_behind_83 (by decide) ?_
        exact ih v2 v3 v4 v5 (v6 + 1) k_thrown k_w_14 k_o k_isKept k_went k_wentMany k_waiting k_came k_depth k_isSilent k_x k_packed k_hits k_rues k_soonest k_inAll _ _ _ ls hf hP hD hS (lv_sub hl [1, 2, 3, 4, 5, 0] rfl) hk
  refine lv_aload_n hx hb dX10_behind_0 rfl (lv_at hl 0 rfl) ?_
  refine lv_iconst (v := 0) hx hb dX10_behind_1 (by decide) ?_
  refine pf_X10 (v := .int 0) C hE hP hD hS 0 0 rfl (by decide) qF_X10_1 rfl rfl rfl (Nat.le_of_ble_eq_true rfl) dX10_behind_2 (fun H locs (hP : va_P D vwCl (MX10 cI cZ cL cW a0 a1 a2 a3 a4 a5 a6 0 k_w k_o k_isKept k_went k_wentMany k_waiting k_came k_depth k_isSilent k_x k_packed k_hits k_rues k_soonest k_inAll) H) (hD : va_D A (MX10 cI cZ cL cW a0 a1 a2 a3 a4 a5 a6 0 k_w k_o k_isKept k_went k_wentMany k_waiting k_came k_depth k_isSilent k_x k_packed k_hits k_rues k_soonest k_inAll)) hS => ?_)
  refine lv_aload_n hx hb dX10_behind_5 rfl (lv_at hl 0 rfl) ?_
  refine lv_iload_n hx hb dX10_behind_6 rfl (lv_at hl 1 rfl) ?_
  obtain ⟨r1, h2, hf⟩ := bd_s hf
  refine iv_R (rest := []) (st1 := [.int r1]) C hE hP (c_X10_entryOf l D cI cZ cL cW F a0 a1 a2 a3 a4 a5 a6 0 k_w k_o k_isKept k_went k_wentMany k_waiting k_came k_depth k_isSilent k_x k_packed k_hits k_rues k_soonest k_inAll p1 r1  h2) ok_X10_entryOf qM_X10_118 rfl rfl ⟨(Nat.le_of_ble_eq_true rfl), (Nat.le_of_ble_eq_true rfl)⟩ rfl rfl hl.1 (Nat.le_of_ble_eq_true rfl) ⟨Nat.zero_le _, Nat.zero_le _⟩ dX10_behind_7 rfl rfl ?_
  refine lv_iconst (v := (-1)) hx hb dX10_behind_10 (by decide) ?_
  refine lv_icmp_eq (tgt := 38) hx hb dX10_behind_11 (by decide) (fun c38 => ?_) (fun c38 => ?_)
  · have hf := it_p hf c38
    refine lv_iconst (v := (-1)) hx hb dX10_behind_38 (by decide) ?_
    cases hf
    exact rw_i C hr hlk hP hD hS dX10_behind_39 rfl
  · have hf := it_n hf c38
    refine lv_iload_n hx hb dX10_behind_14 rfl (lv_at hl 2 rfl) ?_
    refine lv_i2l hx hb dX10_behind_15 rfl ?_
    refine lv_lconst (v := 1) hx hb dX10_behind_16 (by decide) ?_
    refine lv_ldc2 (v := 99) hx hb hown (ht _ qJ_X10_201) dX10_behind_17 ?_
    obtain ⟨r3, h4, hf⟩ := bd_s hf
    refine is_R (rest := []) (st1 := [.int r3]) C hE va_P_nil (c_X10_isIn l D cI cZ cL cW F   p2.toInt64 1 99 r3  h4) ok_X10_isIn qM_X10_49 rfl rfl ⟨(Nat.le_of_ble_eq_true rfl), (Nat.le_of_ble_eq_true rfl)⟩ hl.1 (Nat.le_of_ble_eq_true rfl) ⟨Nat.zero_le _, Nat.zero_le _⟩ dX10_behind_20 rfl rfl ?_
    refine lv_if_eq (tgt := 38) hx hb dX10_behind_23 (by decide) (fun c37 => ?_) (fun c37 => ?_)
    · have hf := it_p hf c37
      refine lv_iconst (v := (-1)) hx hb dX10_behind_38 (by decide) ?_
      cases hf
      exact rw_i C hr hlk hP hD hS dX10_behind_39 rfl
    · have hf := it_n hf c37
      refine lv_iload_n hx hb dX10_behind_26 rfl (lv_at hl 3 rfl) ?_
      refine lv_i2l hx hb dX10_behind_27 rfl ?_
      refine lv_lconst (v := 0) hx hb dX10_behind_28 (by decide) ?_
      refine lv_ldc2 (v := 2) hx hb hown (ht _ qJ_X10_260) dX10_behind_29 ?_
      obtain ⟨r5, h6, hf⟩ := bd_s hf
      refine is_R (rest := []) (st1 := [.int r5]) C hE va_P_nil (c_X10_isIn l D cI cZ cL cW F   p3.toInt64 0 2 r5  h6) ok_X10_isIn qM_X10_49 rfl rfl ⟨(Nat.le_of_ble_eq_true rfl), (Nat.le_of_ble_eq_true rfl)⟩ hl.1 (Nat.le_of_ble_eq_true rfl) ⟨Nat.zero_le _, Nat.zero_le _⟩ dX10_behind_32 rfl rfl ?_
      refine lv_if_ne (tgt := 40) hx hb dX10_behind_35 (by decide) (fun c36 => ?_) (fun c36 => ?_)
      · have hf := it_n hf c36
        refine lv_aload_n hx hb dX10_behind_40 rfl (lv_at hl 0 rfl) ?_
        obtain ⟨⟨k_w_7, k_o_8, k_wentMany_9, k_isSilent_10⟩, h11, hf⟩ := bd_s hf
        refine iv_A (rest := []) (st1 := []) C hE hP hD hS hA (c_X10_toPaper l D cI cZ cL cW F a0 a1 a2 a3 a4 a5 a6 0 k_w k_o k_isKept k_went k_wentMany k_waiting k_came k_depth k_isSilent k_x k_packed k_hits k_rues k_soonest k_inAll   k_w_7 k_o_8 k_wentMany_9 k_isSilent_10 h11) ok_X10_toPaper qM_X10_265 rfl rfl ⟨(Nat.le_of_ble_eq_true rfl), (Nat.le_of_ble_eq_true rfl)⟩ rfl rfl hl.1 (Nat.le_of_ble_eq_true rfl) ⟨Nat.zero_le _, Nat.zero_le _⟩ dX10_behind_41 rfl rfl (fun H locs (hP : va_P D vwCl (MX10 cI cZ cL cW a0 a1 a2 a3 a4 a5 a6 0 k_w_7 k_o_8 k_isKept k_went k_wentMany_9 k_waiting k_came k_depth k_isSilent_10 k_x k_packed k_hits k_rues k_soonest k_inAll) H) (hD : va_D A (MX10 cI cZ cL cW a0 a1 a2 a3 a4 a5 a6 0 k_w_7 k_o_8 k_isKept k_went k_wentMany_9 k_waiting k_came k_depth k_isSilent_10 k_x k_packed k_hits k_rues k_soonest k_inAll)) hS => ?_)
        refine lv_aload_n hx hb dX10_behind_44 rfl (lv_at hl 0 rfl) ?_
        refine gf_X10 (v := .ref a1) C hE hP 0 1 rfl (by decide) qF_X10_17 rfl dX10_behind_45 ?_
        refine lv_aload_n hx hb dX10_behind_48 rfl (lv_at hl 0 rfl) ?_
        refine gf_X10 (v := .int k_o_8) C hE hP 0 2 rfl (by decide) qF_X10_41 rfl dX10_behind_49 ?_
        refine lv_bipush (v := 15) hx hb dX10_behind_52 (by decide) ?_
        refine lv_iadd hx hb dX10_behind_54 ?_
        obtain ⟨g35, hf⟩ := it_g hf
        refine va_iald hx hb hE.1 hP 1 0 rfl rfl g35 dX10_behind_55 ?_
        refine lv_istore (lv' := [(4, .int (k_w_7 (Int32.toNatClampNeg (k_o_8 + 15)))), (0, .ref a0), (1, .int p1), (2, .int p2), (3, .int p3)]) hx hb dX10_behind_56 hl (by decide) rfl (fun ls hl => ?_)
        refine lv_aload_n hx hb dX10_behind_58 rfl (lv_at hl 1 rfl) ?_
        refine lv_iload_n hx hb dX10_behind_59 rfl (lv_at hl 2 rfl) ?_
        obtain ⟨r12, h13, hf⟩ := bd_s hf
        refine iv_R (rest := []) (st1 := [.int r12]) C hE hP (c_X10_entryOf l D cI cZ cL cW F a0 a1 a2 a3 a4 a5 a6 0 k_w_7 k_o_8 k_isKept k_went k_wentMany_9 k_waiting k_came k_depth k_isSilent_10 k_x k_packed k_hits k_rues k_soonest k_inAll p1 r12  h13) ok_X10_entryOf qM_X10_118 rfl rfl ⟨(Nat.le_of_ble_eq_true rfl), (Nat.le_of_ble_eq_true rfl)⟩ rfl rfl hl.1 (Nat.le_of_ble_eq_true rfl) ⟨Nat.zero_le _, Nat.zero_le _⟩ dX10_behind_60 rfl rfl ?_
        refine lv_istore (lv' := [(5, .int r12), (4, .int (k_w_7 (Int32.toNatClampNeg (k_o_8 + 15)))), (0, .ref a0), (1, .int p1), (2, .int p2), (3, .int p3)]) hx hb dX10_behind_63 hl (by decide) rfl (fun ls hl => ?_)
        refine lv_iconst (v := 0) hx hb dX10_behind_65 (by decide) ?_
        refine lv_istore (lv' := [(6, .int 0), (5, .int r12), (4, .int (k_w_7 (Int32.toNatClampNeg (k_o_8 + 15)))), (0, .ref a0), (1, .int p1), (2, .int p2), (3, .int p3)]) hx hb dX10_behind_66 hl (by decide) rfl (fun ls hl => ?_)
        obtain ⟨k17, h18, hf⟩ := bd_s hf
        refine L68 _ F p2 p3 (k_w_7 (Int32.toNatClampNeg (k_o_8 + 15))) r12 0 0 k_w_7 k_o_8 k_isKept k_went k_wentMany_9 k_waiting k_came k_depth k_isSilent_10 k_x k_packed k_hits k_rues k_soonest k_inAll k17 _ _ ls h18 hP hD hS (lv_sub hl [3, 5, 6, 2, 1, 0] rfl) (fun H locs ls hP hD hS hl => ?_)
        refine lv_iload_n hx hb dX10_behind_86 rfl (lv_at hl 1 rfl) ?_
        refine lv_if_ne (tgt := 100) hx hb dX10_behind_87 (by decide) (fun c34 => ?_) (fun c34 => ?_)
        · have hf := it_n hf c34
          refine lv_iload_n hx hb dX10_behind_100 rfl (lv_at hl 1 rfl) ?_
          refine lv_iconst (v := 1) hx hb dX10_behind_101 (by decide) ?_
          refine lv_icmp_ne (tgt := 115) hx hb dX10_behind_102 (by decide) (fun c28 => ?_) (fun c28 => ?_)
          · have hf := it_n hf c28
            refine lv_aload_n hx hb dX10_behind_115 rfl (lv_at hl 0 rfl) ?_
            refine gf_X10 (v := .ref a1) C hE hP 0 1 rfl (by decide) qF_X10_17 rfl dX10_behind_116 ?_
            refine lv_aload_n hx hb dX10_behind_119 rfl (lv_at hl 0 rfl) ?_
            refine gf_X10 (v := .int k_o_8) C hE hP 0 2 rfl (by decide) qF_X10_41 rfl dX10_behind_120 ?_
            refine lv_bipush (v := 15) hx hb dX10_behind_123 (by decide) ?_
            refine lv_iadd hx hb dX10_behind_125 ?_
            obtain ⟨g22, hf⟩ := it_g hf
            refine va_iald hx hb hE.1 hP 1 0 rfl rfl g22 dX10_behind_126 ?_
            refine lv_iload hx hb dX10_behind_127 (lv_at hl 2 rfl) ?_
            refine lv_isub hx hb dX10_behind_129 ?_
            refine lv_istore (lv' := [(6, .int ((k17 (Int32.toNatClampNeg (k_o_8 + 15))) - (k_w_7 (Int32.toNatClampNeg (k_o_8 + 15))))), (0, .ref a0), (3, .int p3), (4, .int (k_w_7 (Int32.toNatClampNeg (k_o_8 + 15)))), (5, .int r12)]) hx hb dX10_behind_130 hl (by decide) rfl (fun ls hl => ?_)
            refine lv_aload_n hx hb dX10_behind_132 rfl (lv_at hl 1 rfl) ?_
            obtain ⟨⟨k_o_19, k_isSilent_20⟩, h21, hf⟩ := bd_s hf
            refine iv_A (rest := []) (st1 := []) C hE hP hD hS hA (c_X10_comesBack l D cI cZ cL cW F a0 a1 a2 a3 a4 a5 a6 0 k17 k_o_8 k_isKept k_went k_wentMany_9 k_waiting k_came k_depth k_isSilent_10 k_x k_packed k_hits k_rues k_soonest k_inAll   k_o_19 k_isSilent_20 h21) ok_X10_comesBack qM_X10_268 rfl rfl ⟨(Nat.le_of_ble_eq_true rfl), (Nat.le_of_ble_eq_true rfl)⟩ rfl rfl hl.1 (Nat.le_of_ble_eq_true rfl) ⟨Nat.zero_le _, Nat.zero_le _⟩ dX10_behind_133 rfl rfl (fun H locs (hP : va_P D vwCl (MX10 cI cZ cL cW a0 a1 a2 a3 a4 a5 a6 0 k17 k_o_19 k_isKept k_went k_wentMany_9 k_waiting k_came k_depth k_isSilent_20 k_x k_packed k_hits k_rues k_soonest k_inAll) H) (hD : va_D A (MX10 cI cZ cL cW a0 a1 a2 a3 a4 a5 a6 0 k17 k_o_19 k_isKept k_went k_wentMany_9 k_waiting k_came k_depth k_isSilent_20 k_x k_packed k_hits k_rues k_soonest k_inAll)) hS => ?_)
            refine lv_iload hx hb dX10_behind_136 (lv_at hl 0 rfl) ?_
            cases hf
            exact rw_i C hr hlk hP hD hS dX10_behind_138 rfl
          · have hf := it_p hf c28
            refine lv_aload_n hx hb dX10_behind_105 rfl (lv_at hl 0 rfl) ?_
            refine lv_iconst (v := 1) hx hb dX10_behind_106 (by decide) ?_
            refine lv_iload hx hb dX10_behind_107 (lv_at hl 3 rfl) ?_
            obtain ⟨r23, h24, hf⟩ := bd_s hf
            refine iv_R (rest := []) (st1 := [.int r23]) C hE hP (c_X10_placeOf l D cI cZ cL cW F a0 a1 a2 a3 a4 a5 a6 0 k17 k_o_8 k_isKept k_went k_wentMany_9 k_waiting k_came k_depth k_isSilent_10 k_x k_packed k_hits k_rues k_soonest k_inAll 1 r12 r23  h24) ok_X10_placeOf qM_X10_61 rfl rfl ⟨(Nat.le_of_ble_eq_true rfl), (Nat.le_of_ble_eq_true rfl)⟩ rfl rfl hl.1 (Nat.le_of_ble_eq_true rfl) ⟨Nat.zero_le _, Nat.zero_le _⟩ dX10_behind_109 rfl rfl ?_
            refine lv_goto (tgt := 130) hx hb dX10_behind_112 (by decide) ?_
            refine lv_istore (lv' := [(6, .int r23), (0, .ref a0), (3, .int p3), (4, .int (k_w_7 (Int32.toNatClampNeg (k_o_8 + 15)))), (5, .int r12)]) hx hb dX10_behind_130 hl (by decide) rfl (fun ls hl => ?_)
            refine lv_aload_n hx hb dX10_behind_132 rfl (lv_at hl 1 rfl) ?_
            obtain ⟨⟨k_o_25, k_isSilent_26⟩, h27, hf⟩ := bd_s hf
            refine iv_A (rest := []) (st1 := []) C hE hP hD hS hA (c_X10_comesBack l D cI cZ cL cW F a0 a1 a2 a3 a4 a5 a6 0 k17 k_o_8 k_isKept k_went k_wentMany_9 k_waiting k_came k_depth k_isSilent_10 k_x k_packed k_hits k_rues k_soonest k_inAll   k_o_25 k_isSilent_26 h27) ok_X10_comesBack qM_X10_268 rfl rfl ⟨(Nat.le_of_ble_eq_true rfl), (Nat.le_of_ble_eq_true rfl)⟩ rfl rfl hl.1 (Nat.le_of_ble_eq_true rfl) ⟨Nat.zero_le _, Nat.zero_le _⟩ dX10_behind_133 rfl rfl (fun H locs (hP : va_P D vwCl (MX10 cI cZ cL cW a0 a1 a2 a3 a4 a5 a6 0 k17 k_o_25 k_isKept k_went k_wentMany_9 k_waiting k_came k_depth k_isSilent_26 k_x k_packed k_hits k_rues k_soonest k_inAll) H) (hD : va_D A (MX10 cI cZ cL cW a0 a1 a2 a3 a4 a5 a6 0 k17 k_o_25 k_isKept k_went k_wentMany_9 k_waiting k_came k_depth k_isSilent_26 k_x k_packed k_hits k_rues k_soonest k_inAll)) hS => ?_)
            refine lv_iload hx hb dX10_behind_136 (lv_at hl 0 rfl) ?_
            cases hf
            exact rw_i C hr hlk hP hD hS dX10_behind_138 rfl
        · have hf := it_p hf c34
          refine lv_aload_n hx hb dX10_behind_90 rfl (lv_at hl 0 rfl) ?_
          refine lv_iload hx hb dX10_behind_91 (lv_at hl 3 rfl) ?_
          refine lv_iconst (v := 3) hx hb dX10_behind_93 (by decide) ?_
          obtain ⟨r29, h30, hf⟩ := bd_s hf
          refine iv_R (rest := []) (st1 := [.int r29]) C hE hP (c_X10_of l D cI cZ cL cW F a0 a1 a2 a3 a4 a5 a6 0 k17 k_o_8 k_isKept k_went k_wentMany_9 k_waiting k_came k_depth k_isSilent_10 k_x k_packed k_hits k_rues k_soonest k_inAll r12 3 r29  h30) ok_X10_of qM_X10_44 rfl rfl ⟨(Nat.le_of_ble_eq_true rfl), (Nat.le_of_ble_eq_true rfl)⟩ rfl rfl hl.1 (Nat.le_of_ble_eq_true rfl) ⟨Nat.zero_le _, Nat.zero_le _⟩ dX10_behind_94 rfl rfl ?_
          refine lv_goto (tgt := 130) hx hb dX10_behind_97 (by decide) ?_
          refine lv_istore (lv' := [(6, .int r29), (0, .ref a0), (3, .int p3), (4, .int (k_w_7 (Int32.toNatClampNeg (k_o_8 + 15)))), (5, .int r12)]) hx hb dX10_behind_130 hl (by decide) rfl (fun ls hl => ?_)
          refine lv_aload_n hx hb dX10_behind_132 rfl (lv_at hl 1 rfl) ?_
          obtain ⟨⟨k_o_31, k_isSilent_32⟩, h33, hf⟩ := bd_s hf
          refine iv_A (rest := []) (st1 := []) C hE hP hD hS hA (c_X10_comesBack l D cI cZ cL cW F a0 a1 a2 a3 a4 a5 a6 0 k17 k_o_8 k_isKept k_went k_wentMany_9 k_waiting k_came k_depth k_isSilent_10 k_x k_packed k_hits k_rues k_soonest k_inAll   k_o_31 k_isSilent_32 h33) ok_X10_comesBack qM_X10_268 rfl rfl ⟨(Nat.le_of_ble_eq_true rfl), (Nat.le_of_ble_eq_true rfl)⟩ rfl rfl hl.1 (Nat.le_of_ble_eq_true rfl) ⟨Nat.zero_le _, Nat.zero_le _⟩ dX10_behind_133 rfl rfl (fun H locs (hP : va_P D vwCl (MX10 cI cZ cL cW a0 a1 a2 a3 a4 a5 a6 0 k17 k_o_31 k_isKept k_went k_wentMany_9 k_waiting k_came k_depth k_isSilent_32 k_x k_packed k_hits k_rues k_soonest k_inAll) H) (hD : va_D A (MX10 cI cZ cL cW a0 a1 a2 a3 a4 a5 a6 0 k17 k_o_31 k_isKept k_went k_wentMany_9 k_waiting k_came k_depth k_isSilent_32 k_x k_packed k_hits k_rues k_soonest k_inAll)) hS => ?_)
          refine lv_iload hx hb dX10_behind_136 (lv_at hl 0 rfl) ?_
          cases hf
          exact rw_i C hr hlk hP hD hS dX10_behind_138 rfl
      · have hf := it_p hf c36
        refine lv_iconst (v := (-1)) hx hb dX10_behind_38 (by decide) ?_
        cases hf
        exact rw_i C hr hlk hP hD hS dX10_behind_39 rfl
def X10_ofStir (F : Nat) (p1 : Int32) (p2 : Int32) (k_w : (Nat → Int32)) (k_waiting : (Nat → Int32)) (k_came : Int32) : Option (Int32) := (X10_lesser F 100 k_came).bind fun r1 => (if (p1 : Int32) = (-1) then (if (p2 : Int32) = 0 then (some r1) else (if (p2 : Int32) = 1 then (some (k_came - r1)) else (if (p2 : Int32) = 2 then (some (k_w (Int32.toNatClampNeg 2544))) else (some (-1))))) else ((X10_isIn F p1.toInt64 0 ((r1 - 1).toInt64)).bind fun r3 => (if (r3 : Int32) = 0 then (some (-1)) else ((X10_isIn F p2.toInt64 0 2).bind fun r5 => (if (r5 : Int32) = 0 then (some (-1)) else (if (p2 : Int32) = 2 then (if (((5 * p1) + 4) : Int32) < 0 ∨ 500 ≤ (Int32.toNatClampNeg ((5 * p1) + 4)) then none else (some (k_waiting (Int32.toNatClampNeg ((5 * p1) + 4))))) else (if (((5 * p1) + p2) : Int32) < 0 ∨ 500 ≤ (Int32.toNatClampNeg ((5 * p1) + p2)) then none else (some (k_waiting (Int32.toNatClampNeg ((5 * p1) + p2)))))))))))
abbrev rm_X10_ofStir : Room := { frames := 1, cells := 0, slots := 0, locals := 25 }
theorem ok_X10_ofStir : OKV RX10 yX10_ofStir cX10_ofStir 4 (some .int) 2 := ⟨by decide +kernel, qV_X10_ofStir, qL_X10_ofStir, qI_X10, qD_X10_ofStir⟩
set_option maxHeartbeats 4000000 in
set_option maxRecDepth 100000 in
theorem c_X10_ofStir (l : Launch) (D : va_G) (cI cZ cL cW : ClassId) (F : Nat) (a0 : Nat) (a1 : Nat) (a2 : Nat) (a3 : Nat) (a4 : Nat) (a5 : Nat) (a6 : Nat) (k_thrown : Int32) (k_w : (Nat → Int32)) (k_o : Int32) (k_isKept : (Nat → Int32)) (k_went : (Nat → Int32)) (k_wentMany : Int32) (k_waiting : (Nat → Int32)) (k_came : Int32) (k_depth : Int32) (k_isSilent : Int32) (k_x : Int64) (k_packed : (Nat → Int32)) (k_hits : Int32) (k_rues : Int32) (k_soonest : Int32) (k_inAll : (Nat → Int32)) (p1 : Int32) (p2 : Int32) (r : Int32) (hf : X10_ofStir F p1 p2 k_w k_waiting k_came = some r) : CtrR l D (tyL cI cZ cL cW) nestW yX10_ofStir cX10_ofStir 4 (some .int) rm_X10_ofStir [.ref a0, .int p1, .int p2] (MX10 cI cZ cL cW a0 a1 a2 a3 a4 a5 a6 k_thrown k_w k_o k_isKept k_went k_wentMany k_waiting k_came k_depth k_isSilent k_x k_packed k_hits k_rues k_soonest k_inAll) (some (.int r)) := by
  refine ofR RX10 (by decide) rfl (Nat.le_of_ble_eq_true rfl) ?_
  intro p e s m below meth c ls C hr hlk hE hP hl
  generalize (List.toArray ([.ref a0, .int p1, .int p2] : List Value)) = args at C ⊢
  obtain ⟨hx, hb, hml, hown, ht⟩ := id C
  have hl : lv_has ls 4 [(0, .ref a0), (1, .int p1), (2, .int p2)] := hl
  refine lv_bipush (v := 100) hx hb dX10_ofStir_0 (by decide) ?_
  refine lv_aload_n hx hb dX10_ofStir_2 rfl (lv_at hl 0 rfl) ?_
  refine gf_X10 (v := .int k_came) C hE hP 0 7 rfl (by decide) qF_X10_109 rfl dX10_ofStir_3 ?_
  obtain ⟨r1, h2, hf⟩ := bd_s hf
  refine is_R (rest := []) (st1 := [.int r1]) C hE va_P_nil (c_X10_lesser l D cI cZ cL cW F   100 k_came r1  h2) ok_X10_lesser qM_X10_7 rfl rfl ⟨(Nat.le_of_ble_eq_true rfl), (Nat.le_of_ble_eq_true rfl)⟩ hl.1 (Nat.le_of_ble_eq_true rfl) ⟨Nat.zero_le _, Nat.zero_le _⟩ dX10_ofStir_6 rfl rfl ?_
  refine lv_istore_n (lv' := [(3, .int r1), (0, .ref a0), (1, .int p1), (2, .int p2)]) hx hb dX10_ofStir_9 rfl hl (by decide) rfl (fun ls hl => ?_)
  refine lv_iload_n hx hb dX10_ofStir_10 rfl (lv_at hl 2 rfl) ?_
  refine lv_iconst (v := (-1)) hx hb dX10_ofStir_11 (by decide) ?_
  refine lv_icmp_ne (tgt := 55) hx hb dX10_ofStir_12 (by decide) (fun c15 => ?_) (fun c15 => ?_)
  · have hf := it_n hf c15
    refine lv_iload_n hx hb dX10_ofStir_55 rfl (lv_at hl 2 rfl) ?_
    refine lv_i2l hx hb dX10_ofStir_56 rfl ?_
    refine lv_lconst (v := 0) hx hb dX10_ofStir_57 (by decide) ?_
    refine lv_iload_n hx hb dX10_ofStir_58 rfl (lv_at hl 0 rfl) ?_
    refine lv_iconst (v := 1) hx hb dX10_ofStir_59 (by decide) ?_
    refine lv_isub hx hb dX10_ofStir_60 ?_
    refine lv_i2l hx hb dX10_ofStir_61 rfl ?_
    obtain ⟨r3, h4, hf⟩ := bd_s hf
    refine is_R (rest := []) (st1 := [.int r3]) C hE va_P_nil (c_X10_isIn l D cI cZ cL cW F   p1.toInt64 0 ((r1 - 1).toInt64) r3  h4) ok_X10_isIn qM_X10_49 rfl rfl ⟨(Nat.le_of_ble_eq_true rfl), (Nat.le_of_ble_eq_true rfl)⟩ hl.1 (Nat.le_of_ble_eq_true rfl) ⟨Nat.zero_le _, Nat.zero_le _⟩ dX10_ofStir_62 rfl rfl ?_
    refine lv_if_eq (tgt := 80) hx hb dX10_ofStir_65 (by decide) (fun c11 => ?_) (fun c11 => ?_)
    · have hf := it_p hf c11
      refine lv_iconst (v := (-1)) hx hb dX10_ofStir_80 (by decide) ?_
      exact rt_i C hr hlk dX10_ofStir_81 (congrArg (fun o => o.map Value.int) hf)
    · have hf := it_n hf c11
      refine lv_iload_n hx hb dX10_ofStir_68 rfl (lv_at hl 3 rfl) ?_
      refine lv_i2l hx hb dX10_ofStir_69 rfl ?_
      refine lv_lconst (v := 0) hx hb dX10_ofStir_70 (by decide) ?_
      refine lv_ldc2 (v := 2) hx hb hown (ht _ qJ_X10_260) dX10_ofStir_71 ?_
      obtain ⟨r5, h6, hf⟩ := bd_s hf
      refine is_R (rest := []) (st1 := [.int r5]) C hE va_P_nil (c_X10_isIn l D cI cZ cL cW F   p2.toInt64 0 2 r5  h6) ok_X10_isIn qM_X10_49 rfl rfl ⟨(Nat.le_of_ble_eq_true rfl), (Nat.le_of_ble_eq_true rfl)⟩ hl.1 (Nat.le_of_ble_eq_true rfl) ⟨Nat.zero_le _, Nat.zero_le _⟩ dX10_ofStir_74 rfl rfl ?_
      refine lv_if_ne (tgt := 82) hx hb dX10_ofStir_77 (by decide) (fun c10 => ?_) (fun c10 => ?_)
      · have hf := it_n hf c10
        refine lv_aload_n hx hb dX10_ofStir_82 rfl (lv_at hl 1 rfl) ?_
        refine gf_X10 (v := .ref a4) C hE hP 0 6 rfl (by decide) qF_X10_28 rfl dX10_ofStir_83 ?_
        refine lv_iconst (v := 5) hx hb dX10_ofStir_86 (by decide) ?_
        refine lv_iload_n hx hb dX10_ofStir_87 rfl (lv_at hl 2 rfl) ?_
        refine lv_imul hx hb dX10_ofStir_88 ?_
        refine lv_iload_n hx hb dX10_ofStir_89 rfl (lv_at hl 3 rfl) ?_
        refine lv_iconst (v := 2) hx hb dX10_ofStir_90 (by decide) ?_
        refine lv_icmp_ne (tgt := 98) hx hb dX10_ofStir_91 (by decide) (fun c9 => ?_) (fun c9 => ?_)
        · have hf := it_n hf c9
          refine lv_iload_n hx hb dX10_ofStir_98 rfl (lv_at hl 3 rfl) ?_
          refine lv_iadd hx hb dX10_ofStir_99 ?_
          obtain ⟨g7, hf⟩ := it_g hf
          refine va_iald hx hb hE.1 hP 4 0 rfl rfl g7 dX10_ofStir_100 ?_
          exact rt_i C hr hlk dX10_ofStir_101 (congrArg (fun o => o.map Value.int) hf)
        · have hf := it_p hf c9
          refine lv_iconst (v := 4) hx hb dX10_ofStir_94 (by decide) ?_
          refine lv_goto (tgt := 99) hx hb dX10_ofStir_95 (by decide) ?_
          refine lv_iadd hx hb dX10_ofStir_99 ?_
          obtain ⟨g8, hf⟩ := it_g hf
          refine va_iald hx hb hE.1 hP 4 0 rfl rfl g8 dX10_ofStir_100 ?_
          exact rt_i C hr hlk dX10_ofStir_101 (congrArg (fun o => o.map Value.int) hf)
      · have hf := it_p hf c10
        refine lv_iconst (v := (-1)) hx hb dX10_ofStir_80 (by decide) ?_
        exact rt_i C hr hlk dX10_ofStir_81 (congrArg (fun o => o.map Value.int) hf)
  · have hf := it_p hf c15
    refine lv_iload_n hx hb dX10_ofStir_15 rfl (lv_at hl 3 rfl) ?_
    refine lv_if_ne (tgt := 23) hx hb dX10_ofStir_16 (by decide) (fun c14 => ?_) (fun c14 => ?_)
    · have hf := it_n hf c14
      refine lv_iload_n hx hb dX10_ofStir_23 rfl (lv_at hl 3 rfl) ?_
      refine lv_iconst (v := 1) hx hb dX10_ofStir_24 (by decide) ?_
      refine lv_icmp_ne (tgt := 37) hx hb dX10_ofStir_25 (by decide) (fun c13 => ?_) (fun c13 => ?_)
      · have hf := it_n hf c13
        refine lv_iload_n hx hb dX10_ofStir_37 rfl (lv_at hl 3 rfl) ?_
        refine lv_iconst (v := 2) hx hb dX10_ofStir_38 (by decide) ?_
        refine lv_icmp_ne (tgt := 53) hx hb dX10_ofStir_39 (by decide) (fun c12 => ?_) (fun c12 => ?_)
        · have hf := it_n hf c12
          refine lv_iconst (v := (-1)) hx hb dX10_ofStir_53 (by decide) ?_
          exact rt_i C hr hlk dX10_ofStir_54 (congrArg (fun o => o.map Value.int) hf)
        · have hf := it_p hf c12
          refine lv_aload_n hx hb dX10_ofStir_42 rfl (lv_at hl 1 rfl) ?_
          refine gf_X10 (v := .ref a1) C hE hP 0 1 rfl (by decide) qF_X10_17 rfl dX10_ofStir_43 ?_
          refine lv_sipush (v := 2544) hx hb dX10_ofStir_46 (by decide) ?_
          refine va_iald hx hb hE.1 hP 1 0 rfl rfl (vp_l (by decide)) dX10_ofStir_49 ?_
          refine lv_goto (tgt := 54) hx hb dX10_ofStir_50 (by decide) ?_
          exact rt_i C hr hlk dX10_ofStir_54 (congrArg (fun o => o.map Value.int) hf)
      · have hf := it_p hf c13
        refine lv_aload_n hx hb dX10_ofStir_28 rfl (lv_at hl 1 rfl) ?_
        refine gf_X10 (v := .int k_came) C hE hP 0 7 rfl (by decide) qF_X10_109 rfl dX10_ofStir_29 ?_
        refine lv_iload_n hx hb dX10_ofStir_32 rfl (lv_at hl 0 rfl) ?_
        refine lv_isub hx hb dX10_ofStir_33 ?_
        refine lv_goto (tgt := 54) hx hb dX10_ofStir_34 (by decide) ?_
        exact rt_i C hr hlk dX10_ofStir_54 (congrArg (fun o => o.map Value.int) hf)
    · have hf := it_p hf c14
      refine lv_iload_n hx hb dX10_ofStir_19 rfl (lv_at hl 0 rfl) ?_
      refine lv_goto (tgt := 54) hx hb dX10_ofStir_20 (by decide) ?_
      exact rt_i C hr hlk dX10_ofStir_54 (congrArg (fun o => o.map Value.int) hf)
def X10_stir (F : Nat) (p1 : Int32) (p2 : Int32) (p3 : Int32) (p4 : Int32) (k_thrown : Int32) (k_w : (Nat → Int32)) (k_o : Int32) (k_went : (Nat → Int32)) (k_wentMany : Int32) (k_waiting : (Nat → Int32)) (k_came : Int32) (k_depth : Int32) (k_isSilent : Int32) : Option (Int32 × Int32 × (Nat → Int32) × Int32 × (Nat → Int32) × Int32 × (Nat → Int32) × Int32 × Int32 × Int32) := (X10_call F k_thrown k_came k_depth).bind fun (k_thrown_1, k_came_2, k_depth_3) => ((X10_isKey F p1).bind fun r5 => (if (r5 : Int32) = 0 then (some ((-1), k_thrown_1, k_w, k_o, k_went, k_wentMany, k_waiting, k_came_2, k_depth_3, k_isSilent)) else ((X10_isIn F p2.toInt64 1 99).bind fun r7 => (if (r7 : Int32) = 0 then (some ((-1), k_thrown_1, k_w, k_o, k_went, k_wentMany, k_waiting, k_came_2, k_depth_3, k_isSilent)) else ((X10_toPaper F k_w k_o k_wentMany k_isSilent).bind fun (k_w_9, k_o_10, k_wentMany_11, k_isSilent_12) => ((X10_puts F p1 0 p2 (-1) k_w_9 k_o_10 k_went k_wentMany_11 k_waiting k_came_2 k_depth_3 0).bind fun (r14, k_w_15, k_went_16, k_wentMany_17, k_waiting_18, k_came_19) => ((X10_done F r14 k_w_15 k_o_10 k_went_16 k_wentMany_17 k_waiting_18 k_came_19 k_depth_3 0).bind fun (r21, k_w_22, k_went_23, k_wentMany_24, k_waiting_25, k_came_26, k_depth_27) => ((X10_comesBack F k_o_10 0).bind fun (k_o_29, k_isSilent_30) => ((X10_ofStir F p3 p4 k_w_22 k_waiting_25 k_came_26).bind fun r32 => (some (r32, k_thrown_1, k_w_22, k_o_29, k_went_23, k_wentMany_24, k_waiting_25, k_came_26, k_depth_27, k_isSilent_30)))))))))))
abbrev rm_X10_stir : Room := { frames := 10, cells := 0, slots := 0, locals := 236 }
theorem ok_X10_stir : OKV RX10 yX10_stir cX10_stir 5 (some .int) 4 := ⟨by decide +kernel, qV_X10_stir, qL_X10_stir, qI_X10, qD_X10_stir⟩
set_option maxHeartbeats 4000000 in
set_option maxRecDepth 100000 in
theorem c_X10_stir (l : Launch) (D : va_G) (cI cZ cL cW : ClassId) (F : Nat) (a0 : Nat) (a1 : Nat) (a2 : Nat) (a3 : Nat) (a4 : Nat) (a5 : Nat) (a6 : Nat) (k_thrown : Int32) (k_w : (Nat → Int32)) (k_o : Int32) (k_isKept : (Nat → Int32)) (k_went : (Nat → Int32)) (k_wentMany : Int32) (k_waiting : (Nat → Int32)) (k_came : Int32) (k_depth : Int32) (k_isSilent : Int32) (k_x : Int64) (k_packed : (Nat → Int32)) (k_hits : Int32) (k_rues : Int32) (k_soonest : Int32) (k_inAll : (Nat → Int32)) (p1 : Int32) (p2 : Int32) (p3 : Int32) (p4 : Int32) (r : Int32) (k_thrown' : Int32) (k_w' : (Nat → Int32)) (k_o' : Int32) (k_went' : (Nat → Int32)) (k_wentMany' : Int32) (k_waiting' : (Nat → Int32)) (k_came' : Int32) (k_depth' : Int32) (k_isSilent' : Int32) (hf : X10_stir F p1 p2 p3 p4 k_thrown k_w k_o k_went k_wentMany k_waiting k_came k_depth k_isSilent = some (r, k_thrown', k_w', k_o', k_went', k_wentMany', k_waiting', k_came', k_depth', k_isSilent')) : CtrW l D (tyL cI cZ cL cW) nestW yX10_stir cX10_stir 5 (some .int) rm_X10_stir [.ref a0, .int p1, .int p2, .int p3, .int p4] (MX10 cI cZ cL cW a0 a1 a2 a3 a4 a5 a6 k_thrown k_w k_o k_isKept k_went k_wentMany k_waiting k_came k_depth k_isSilent k_x k_packed k_hits k_rues k_soonest k_inAll) (MX10 cI cZ cL cW a0 a1 a2 a3 a4 a5 a6 (k_thrown') (k_w') (k_o') k_isKept (k_went') (k_wentMany') (k_waiting') (k_came') (k_depth') (k_isSilent') k_x k_packed k_hits k_rues k_soonest k_inAll) (some (.int r)) := by
  refine ofA RX10 (by decide) rfl (Nat.le_of_ble_eq_true rfl) ?_
  intro p e s m below meth c ls A C hr hlk hE hA hP hD hS hl
  generalize (List.toArray ([.ref a0, .int p1, .int p2, .int p3, .int p4] : List Value)) = args at C ⊢
  obtain ⟨hx, hb, hml, hown, ht⟩ := id C
  have hl : lv_has ls 5 [(0, .ref a0), (1, .int p1), (2, .int p2), (3, .int p3), (4, .int p4)] := hl
  refine lv_aload_n hx hb dX10_stir_0 rfl (lv_at hl 0 rfl) ?_
  obtain ⟨⟨k_thrown_1, k_came_2, k_depth_3⟩, h4, hf⟩ := bd_s hf
  refine iv_A (rest := []) (st1 := []) C hE hP hD hS hA (c_X10_call l D cI cZ cL cW F a0 a1 a2 a3 a4 a5 a6 k_thrown k_w k_o k_isKept k_went k_wentMany k_waiting k_came k_depth k_isSilent k_x k_packed k_hits k_rues k_soonest k_inAll   k_thrown_1 k_came_2 k_depth_3 h4) ok_X10_call qM_X10_185 rfl rfl ⟨(Nat.le_of_ble_eq_true rfl), (Nat.le_of_ble_eq_true rfl)⟩ rfl rfl hl.1 (Nat.le_of_ble_eq_true rfl) ⟨Nat.zero_le _, Nat.zero_le _⟩ dX10_stir_1 rfl rfl (fun H locs (hP : va_P D vwCl (MX10 cI cZ cL cW a0 a1 a2 a3 a4 a5 a6 k_thrown_1 k_w k_o k_isKept k_went k_wentMany k_waiting k_came_2 k_depth_3 k_isSilent k_x k_packed k_hits k_rues k_soonest k_inAll) H) (hD : va_D A (MX10 cI cZ cL cW a0 a1 a2 a3 a4 a5 a6 k_thrown_1 k_w k_o k_isKept k_went k_wentMany k_waiting k_came_2 k_depth_3 k_isSilent k_x k_packed k_hits k_rues k_soonest k_inAll)) hS => ?_)
  refine lv_iload_n hx hb dX10_stir_4 rfl (lv_at hl 1 rfl) ?_
  obtain ⟨r5, h6, hf⟩ := bd_s hf
  refine is_R (rest := []) (st1 := [.int r5]) C hE va_P_nil (c_X10_isKey l D cI cZ cL cW F   p1 r5  h6) ok_X10_isKey qM_X10_194 rfl rfl ⟨(Nat.le_of_ble_eq_true rfl), (Nat.le_of_ble_eq_true rfl)⟩ hl.1 (Nat.le_of_ble_eq_true rfl) ⟨Nat.zero_le _, Nat.zero_le _⟩ dX10_stir_5 rfl rfl ?_
  refine lv_if_eq (tgt := 23) hx hb dX10_stir_8 (by decide) (fun c35 => ?_) (fun c35 => ?_)
  · have hf := it_p hf c35
    refine lv_iconst (v := (-1)) hx hb dX10_stir_23 (by decide) ?_
    cases hf
    exact rw_i C hr hlk hP hD hS dX10_stir_24 rfl
  · have hf := it_n hf c35
    refine lv_iload_n hx hb dX10_stir_11 rfl (lv_at hl 2 rfl) ?_
    refine lv_i2l hx hb dX10_stir_12 rfl ?_
    refine lv_lconst (v := 1) hx hb dX10_stir_13 (by decide) ?_
    refine lv_ldc2 (v := 99) hx hb hown (ht _ qJ_X10_201) dX10_stir_14 ?_
    obtain ⟨r7, h8, hf⟩ := bd_s hf
    refine is_R (rest := []) (st1 := [.int r7]) C hE va_P_nil (c_X10_isIn l D cI cZ cL cW F   p2.toInt64 1 99 r7  h8) ok_X10_isIn qM_X10_49 rfl rfl ⟨(Nat.le_of_ble_eq_true rfl), (Nat.le_of_ble_eq_true rfl)⟩ hl.1 (Nat.le_of_ble_eq_true rfl) ⟨Nat.zero_le _, Nat.zero_le _⟩ dX10_stir_17 rfl rfl ?_
    refine lv_if_ne (tgt := 25) hx hb dX10_stir_20 (by decide) (fun c34 => ?_) (fun c34 => ?_)
    · have hf := it_n hf c34
      refine lv_aload_n hx hb dX10_stir_25 rfl (lv_at hl 0 rfl) ?_
      obtain ⟨⟨k_w_9, k_o_10, k_wentMany_11, k_isSilent_12⟩, h13, hf⟩ := bd_s hf
      refine iv_A (rest := []) (st1 := []) C hE hP hD hS hA (c_X10_toPaper l D cI cZ cL cW F a0 a1 a2 a3 a4 a5 a6 k_thrown_1 k_w k_o k_isKept k_went k_wentMany k_waiting k_came_2 k_depth_3 k_isSilent k_x k_packed k_hits k_rues k_soonest k_inAll   k_w_9 k_o_10 k_wentMany_11 k_isSilent_12 h13) ok_X10_toPaper qM_X10_265 rfl rfl ⟨(Nat.le_of_ble_eq_true rfl), (Nat.le_of_ble_eq_true rfl)⟩ rfl rfl hl.1 (Nat.le_of_ble_eq_true rfl) ⟨Nat.zero_le _, Nat.zero_le _⟩ dX10_stir_26 rfl rfl (fun H locs (hP : va_P D vwCl (MX10 cI cZ cL cW a0 a1 a2 a3 a4 a5 a6 k_thrown_1 k_w_9 k_o_10 k_isKept k_went k_wentMany_11 k_waiting k_came_2 k_depth_3 k_isSilent_12 k_x k_packed k_hits k_rues k_soonest k_inAll) H) (hD : va_D A (MX10 cI cZ cL cW a0 a1 a2 a3 a4 a5 a6 k_thrown_1 k_w_9 k_o_10 k_isKept k_went k_wentMany_11 k_waiting k_came_2 k_depth_3 k_isSilent_12 k_x k_packed k_hits k_rues k_soonest k_inAll)) hS => ?_)
      refine lv_aload_n hx hb dX10_stir_29 rfl (lv_at hl 0 rfl) ?_
      refine lv_iconst (v := 0) hx hb dX10_stir_30 (by decide) ?_
      refine pf_X10 (v := .int 0) C hE hP hD hS 0 9 rfl (by decide) qF_X10_105 rfl (by decide) (by decide) (Nat.le_of_ble_eq_true rfl) dX10_stir_31 (fun H locs (hP : va_P D vwCl (MX10 cI cZ cL cW a0 a1 a2 a3 a4 a5 a6 k_thrown_1 k_w_9 k_o_10 k_isKept k_went k_wentMany_11 k_waiting k_came_2 k_depth_3 0 k_x k_packed k_hits k_rues k_soonest k_inAll) H) (hD : va_D A (MX10 cI cZ cL cW a0 a1 a2 a3 a4 a5 a6 k_thrown_1 k_w_9 k_o_10 k_isKept k_went k_wentMany_11 k_waiting k_came_2 k_depth_3 0 k_x k_packed k_hits k_rues k_soonest k_inAll)) hS => ?_)
      refine lv_aload_n hx hb dX10_stir_34 rfl (lv_at hl 0 rfl) ?_
      refine lv_aload_n hx hb dX10_stir_35 rfl (lv_at hl 0 rfl) ?_
      refine lv_iload_n hx hb dX10_stir_36 rfl (lv_at hl 1 rfl) ?_
      refine lv_iconst (v := 0) hx hb dX10_stir_37 (by decide) ?_
      refine lv_iload_n hx hb dX10_stir_38 rfl (lv_at hl 2 rfl) ?_
      refine lv_iconst (v := (-1)) hx hb dX10_stir_39 (by decide) ?_
      obtain ⟨⟨r14, k_w_15, k_went_16, k_wentMany_17, k_waiting_18, k_came_19⟩, h20, hf⟩ := bd_s hf
      refine iv_A (rest := [.ref a0]) (st1 := [.int r14, .ref a0]) C hE hP hD hS hA (c_X10_puts l D cI cZ cL cW F a0 a1 a2 a3 a4 a5 a6 k_thrown_1 k_w_9 k_o_10 k_isKept k_went k_wentMany_11 k_waiting k_came_2 k_depth_3 0 k_x k_packed k_hits k_rues k_soonest k_inAll p1 0 p2 (-1) r14 k_w_15 k_went_16 k_wentMany_17 k_waiting_18 k_came_19 h20) ok_X10_puts qM_X10_133 rfl rfl ⟨(Nat.le_of_ble_eq_true rfl), (Nat.le_of_ble_eq_true rfl)⟩ rfl rfl hl.1 (Nat.le_of_ble_eq_true rfl) ⟨Nat.zero_le _, Nat.zero_le _⟩ dX10_stir_40 rfl rfl (fun H locs (hP : va_P D vwCl (MX10 cI cZ cL cW a0 a1 a2 a3 a4 a5 a6 k_thrown_1 k_w_15 k_o_10 k_isKept k_went_16 k_wentMany_17 k_waiting_18 k_came_19 k_depth_3 0 k_x k_packed k_hits k_rues k_soonest k_inAll) H) (hD : va_D A (MX10 cI cZ cL cW a0 a1 a2 a3 a4 a5 a6 k_thrown_1 k_w_15 k_o_10 k_isKept k_went_16 k_wentMany_17 k_waiting_18 k_came_19 k_depth_3 0 k_x k_packed k_hits k_rues k_soonest k_inAll)) hS => ?_)
      obtain ⟨⟨r21, k_w_22, k_went_23, k_wentMany_24, k_waiting_25, k_came_26, k_depth_27⟩, h28, hf⟩ := bd_s hf
      refine iv_A (rest := []) (st1 := [.int r21]) C hE hP hD hS hA (c_X10_done l D cI cZ cL cW F a0 a1 a2 a3 a4 a5 a6 k_thrown_1 k_w_15 k_o_10 k_isKept k_went_16 k_wentMany_17 k_waiting_18 k_came_19 k_depth_3 0 k_x k_packed k_hits k_rues k_soonest k_inAll r14 r21 k_w_22 k_went_23 k_wentMany_24 k_waiting_25 k_came_26 k_depth_27 h28) ok_X10_done qM_X10_191 rfl rfl ⟨(Nat.le_of_ble_eq_true rfl), (Nat.le_of_ble_eq_true rfl)⟩ rfl rfl hl.1 (Nat.le_of_ble_eq_true rfl) ⟨Nat.zero_le _, Nat.zero_le _⟩ dX10_stir_43 rfl rfl (fun H locs (hP : va_P D vwCl (MX10 cI cZ cL cW a0 a1 a2 a3 a4 a5 a6 k_thrown_1 k_w_22 k_o_10 k_isKept k_went_23 k_wentMany_24 k_waiting_25 k_came_26 k_depth_27 0 k_x k_packed k_hits k_rues k_soonest k_inAll) H) (hD : va_D A (MX10 cI cZ cL cW a0 a1 a2 a3 a4 a5 a6 k_thrown_1 k_w_22 k_o_10 k_isKept k_went_23 k_wentMany_24 k_waiting_25 k_came_26 k_depth_27 0 k_x k_packed k_hits k_rues k_soonest k_inAll)) hS => ?_)
      refine lv_pop hx hb dX10_stir_46 rfl ?_
      refine lv_aload_n hx hb dX10_stir_47 rfl (lv_at hl 0 rfl) ?_
      obtain ⟨⟨k_o_29, k_isSilent_30⟩, h31, hf⟩ := bd_s hf
      refine iv_A (rest := []) (st1 := []) C hE hP hD hS hA (c_X10_comesBack l D cI cZ cL cW F a0 a1 a2 a3 a4 a5 a6 k_thrown_1 k_w_22 k_o_10 k_isKept k_went_23 k_wentMany_24 k_waiting_25 k_came_26 k_depth_27 0 k_x k_packed k_hits k_rues k_soonest k_inAll   k_o_29 k_isSilent_30 h31) ok_X10_comesBack qM_X10_268 rfl rfl ⟨(Nat.le_of_ble_eq_true rfl), (Nat.le_of_ble_eq_true rfl)⟩ rfl rfl hl.1 (Nat.le_of_ble_eq_true rfl) ⟨Nat.zero_le _, Nat.zero_le _⟩ dX10_stir_48 rfl rfl (fun H locs (hP : va_P D vwCl (MX10 cI cZ cL cW a0 a1 a2 a3 a4 a5 a6 k_thrown_1 k_w_22 k_o_29 k_isKept k_went_23 k_wentMany_24 k_waiting_25 k_came_26 k_depth_27 k_isSilent_30 k_x k_packed k_hits k_rues k_soonest k_inAll) H) (hD : va_D A (MX10 cI cZ cL cW a0 a1 a2 a3 a4 a5 a6 k_thrown_1 k_w_22 k_o_29 k_isKept k_went_23 k_wentMany_24 k_waiting_25 k_came_26 k_depth_27 k_isSilent_30 k_x k_packed k_hits k_rues k_soonest k_inAll)) hS => ?_)
      refine lv_aload_n hx hb dX10_stir_51 rfl (lv_at hl 0 rfl) ?_
      refine lv_iload_n hx hb dX10_stir_52 rfl (lv_at hl 3 rfl) ?_
      refine lv_iload hx hb dX10_stir_53 (lv_at hl 4 rfl) ?_
      obtain ⟨r32, h33, hf⟩ := bd_s hf
      refine iv_R (rest := []) (st1 := [.int r32]) C hE hP (c_X10_ofStir l D cI cZ cL cW F a0 a1 a2 a3 a4 a5 a6 k_thrown_1 k_w_22 k_o_29 k_isKept k_went_23 k_wentMany_24 k_waiting_25 k_came_26 k_depth_27 k_isSilent_30 k_x k_packed k_hits k_rues k_soonest k_inAll p3 p4 r32  h33) ok_X10_ofStir qM_X10_327 rfl rfl ⟨(Nat.le_of_ble_eq_true rfl), (Nat.le_of_ble_eq_true rfl)⟩ rfl rfl hl.1 (Nat.le_of_ble_eq_true rfl) ⟨Nat.zero_le _, Nat.zero_le _⟩ dX10_stir_55 rfl rfl ?_
      cases hf
      exact rw_i C hr hlk hP hD hS dX10_stir_58 rfl
    · have hf := it_p hf c34
      refine lv_iconst (v := (-1)) hx hb dX10_stir_23 (by decide) ?_
      cases hf
      exact rw_i C hr hlk hP hD hS dX10_stir_24 rfl
