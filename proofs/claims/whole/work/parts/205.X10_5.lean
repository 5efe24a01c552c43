def X10_bucket_L54 (F : Nat) : Nat → Int32 → Int32 → Int32 → Int32 → (Nat → Int32) → Int32 → Option (Int32)
  | 0, _, _, _, _, _, _ => none
  | n + 1, v1, v2, v3, v4, k_w, k_o => if (v1 : Int32) ≤ v4 then (some v3) else ((X10_countAbove F v3 k_w k_o).bind fun r9 => (X10_bucket_L54 F n v1 v2 r9 (v4 + 1) k_w k_o))
def X10_bucket (F : Nat) (p1 : Int32) (p2 : Int32) (k_thrown : Int32) (k_w : (Nat → Int32)) (k_o : Int32) : Option (Int32 × Int32) := if (p1 : Int32) = (-1) then ((X10_unlike F k_w k_o).bind fun r18 => (some (r18, 0))) else ((X10_unlike F k_w k_o).bind fun r1 => ((X10_isIn F p1.toInt64 0 ((r1 - 1).toInt64)).bind fun r3 => (if (r3 : Int32) = 0 then (some ((-1), 0)) else ((X10_isIn F p2.toInt64 0 2).bind fun r5 => (if (r5 : Int32) = 0 then (some ((-1), 0)) else ((X10_countAbove F (-1) k_w k_o).bind fun r7 => ((X10_bucket_L54 F F p1 p2 r7 0 k_w k_o).bind fun x12 => ((X10_ofCount F x12 p2 k_w k_o).bind fun r14 => (some (r14, 0))))))))))
abbrev rm_X10_bucket : Room := { frames := 3, cells := 0, slots := 0, locals := 67 }
theorem ok_X10_bucket : OKV RX10 yX10_bucket cX10_bucket 5 (some .int) 2 := ⟨by decide +kernel, qV_X10_bucket, qL_X10_bucket, qI_X10, qD_X10_bucket⟩
set_option maxHeartbeats 4000000 in
set_option maxRecDepth 100000 in
theorem c_X10_bucket (l : Launch) (D : va_G) (cI cZ cL cW : ClassId) (F : Nat) (a0 : Nat) (a1 : Nat) (a2 : Nat) (a3 : Nat) (a4 : Nat) (a5 : Nat) (a6 : Nat) (k_thrown : Int32) (k_w : (Nat → Int32)) (k_o : Int32) (k_isKept : (Nat → Int32)) (k_went : (Nat → Int32)) (k_wentMany : Int32) (k_waiting : (Nat → Int32)) (k_came : Int32) (k_depth : Int32) (k_isSilent : Int32) (k_x : Int64) (k_packed : (Nat → Int32)) (k_hits : Int32) (k_rues : Int32) (k_soonest : Int32) (k_inAll : (Nat → Int32)) (p1 : Int32) (p2 : Int32) (r : Int32) (k_thrown' : Int32) (hf : X10_bucket F p1 p2 k_thrown k_w k_o = some (r, k_thrown')) : CtrW l D (tyL cI cZ cL cW) nestW yX10_bucket cX10_bucket 5 (some .int) rm_X10_bucket [.ref a0, .int p1, .int p2] (MX10 cI cZ cL cW a0 a1 a2 a3 a4 a5 a6 k_thrown k_w k_o k_isKept k_went k_wentMany k_waiting k_came k_depth k_isSilent k_x k_packed k_hits k_rues k_soonest k_inAll) (MX10 cI cZ cL cW a0 a1 a2 a3 a4 a5 a6 (k_thrown') k_w k_o k_isKept k_went k_wentMany k_waiting k_came k_depth k_isSilent k_x k_packed k_hits k_rues k_soonest k_inAll) (some (.int r)) := by
  refine ofA RX10 (by decide) rfl (Nat.le_of_ble_eq_true rfl) ?_
  intro p e s m below meth c ls A C hr hlk hE hA hP hD hS hl
  generalize (List.toArray ([.ref a0, .int p1, .int p2] : List Value)) = args at C ⊢
  obtain ⟨hx, hb, hml, hown, ht⟩ := id C
  have hl : lv_has ls 5 [(0, .ref a0), (1, .int p1), (2, .int p2)] := hl
  have L54 : ∀ (Q : State → Prop) (H : Heap) (locs : List Loc) (n : Nat) (v1 : Int32) (v2 : Int32) (v3 : Int32) (v4 : Int32) (k_thrown : Int32) (k_w : (Nat → Int32)) (k_o : Int32) (k_isKept : (Nat → Int32)) (k_went : (Nat → Int32)) (k_wentMany : Int32) (k_waiting : (Nat → Int32)) (k_came : Int32) (k_depth : Int32) (k_isSilent : Int32) (k_x : Int64) (k_packed : (Nat → Int32)) (k_hits : Int32) (k_rues : Int32) (k_soonest : Int32) (k_inAll : (Nat → Int32)) (hP : va_P D vwCl (MX10 cI cZ cL cW a0 a1 a2 a3 a4 a5 a6 k_thrown k_w k_o k_isKept k_went k_wentMany k_waiting k_came k_depth k_isSilent k_x k_packed k_hits k_rues k_soonest k_inAll) H) (x3 : Int32) (ls : Array Slot), X10_bucket_L54 F n v1 v2 v3 v4 k_w k_o = some x3 → lv_has ls 5 [(0, .ref a0), (1, .int v1), (2, .int v2), (3, .int v3), (4, .int v4)] → (∀ ls : Array Slot, lv_has ls 5 [(0, .ref a0), (2, .int v2), (3, .int x3)] → W p l e rm_X10_bucket s m args below meth c H locs 0 0 Q (F0 m 72 ls [])) → W p l e rm_X10_bucket s m args below meth c H locs 0 0 Q (F0 m 54 ls []) := by
    intro Q H locs n
    induction n with
    | zero => intro v1 v2 v3 v4 k_thrown k_w k_o k_isKept k_went k_wentMany k_waiting k_came k_depth k_isSilent k_x k_packed k_hits k_rues k_soonest k_inAll hP x3 ls hf hl hk; exact nn_s hf
    | succ n ih =>
      intro v1 v2 v3 v4 k_thrown k_w k_o k_isKept k_went k_wentMany k_waiting k_came k_depth k_isSilent k_x k_packed k_hits k_rues k_soonest k_inAll hP x3 ls hf hl hk
      refine lv_iload hx hb dX10_bucket_54 (lv_at hl 4 rfl) ?_
      refine lv_iload_n hx hb dX10_bucket_56 rfl (lv_at hl 1 rfl) ?_
      refine lv_icmp_ge (tgt := 72) hx hb dX10_bucket_57 (by decide) (fun c11 => ?_) (fun c11 => ?_)
      · have hf := it_p hf c11
        cases hf
        exact hk ls (lv_sub hl [0, 2, 3] rfl)
      · have hf := it_n hf c11
        refine lv_aload_n hx hb dX10_bucket_60 rfl (lv_at hl 0 rfl) ?_
        refine lv_iload_n hx hb dX10_bucket_61 rfl (lv_at hl 3 rfl) ?_
        obtain ⟨r9, h10, hf⟩ := bd_s hf
        refine iv_R (rest := []) (st1 := [.int r9]) C hE hP (c_X10_countAbove l D cI cZ cL cW F a0 a1 a2 a3 a4 a5 a6 k_thrown k_w k_o k_isKept k_went k_wentMany k_waiting k_came k_depth k_isSilent k_x k_packed k_hits k_rues k_soonest k_inAll v3 r9  h10) ok_X10_countAbove qM_X10_254 rfl rfl ⟨(Nat.le_of_ble_eq_true rfl), (Nat.le_of_ble_eq_true rfl)⟩ rfl rfl hl.1 (Nat.le_of_ble_eq_true rfl) ⟨Nat.zero_le _, Nat.zero_le _⟩ dX10_bucket_62 rfl rfl ?_
        refine lv_istore_n (lv' := [(3, .int r9), (0, .ref a0), (1, .int v1), (2, .int v2), (4, .int v4)]) hx hb dX10_bucket_65 rfl hl (by decide) rfl (fun ls hl => ?_)
        refine lv_iinc (v := (v4 + 1)) (lv' := [(4, .int (v4 + 1)), (3, .int r9), (0, .ref a0), (1, .int v1), (2, .int v2)]) hx hb dX10_bucket_66 hl (k := 4) rfl rfl (by decide) rfl (fun ls hl => ?_)
        refine lv_goto (tgt := 54) hx hb dX10_bucket_69 (by decide) ?_
        exact ih v1 v2 r9 (v4 + 1) k_thrown k_w k_o k_isKept k_went k_wentMany k_waiting k_came k_depth k_isSilent k_x k_packed k_hits k_rues k_soonest k_inAll hP _ ls hf (lv_sub hl [2, 3, 4, 1, 0] rfl) hk
  refine lv_aload_n hx hb dX10_bucket_0 rfl (lv_at hl 0 rfl) ?_
  refine lv_iconst (v := 0) hx hb dX10_bucket_1 (by decide) ?_
  refine pf_X10 (v := .int 0) C hE hP hD hS 0 0 rfl (by decide) qF_X10_1 rfl rfl rfl (Nat.le_of_ble_eq_true rfl) dX10_bucket_2 (fun H locs (hP : va_P D vwCl (MX10 cI cZ cL cW a0 a1 a2 a3 a4 a5 a6 0 k_w k_o k_isKept k_went k_wentMany k_waiting k_came k_depth k_isSilent k_x k_packed k_hits k_rues k_soonest k_inAll) H) (hD : va_D A (MX10 cI cZ cL cW a0 a1 a2 a3 a4 a5 a6 0 k_w k_o k_isKept k_went k_wentMany k_waiting k_came k_depth k_isSilent k_x k_packed k_hits k_rues k_soonest k_inAll)) hS => ?_)
  refine lv_iload_n hx hb dX10_bucket_5 rfl (lv_at hl 1 rfl) ?_
  refine lv_iconst (v := (-1)) hx hb dX10_bucket_6 (by decide) ?_
  refine lv_icmp_ne (tgt := 15) hx hb dX10_bucket_7 (by decide) (fun c20 => ?_) (fun c20 => ?_)
  · have hf := it_n hf c20
    refine lv_iload_n hx hb dX10_bucket_15 rfl (lv_at hl 1 rfl) ?_
    refine lv_i2l hx hb dX10_bucket_16 rfl ?_
    refine lv_lconst (v := 0) hx hb dX10_bucket_17 (by decide) ?_
    refine lv_aload_n hx hb dX10_bucket_18 rfl (lv_at hl 0 rfl) ?_
    obtain ⟨r1, h2, hf⟩ := bd_s hf
    refine iv_R (rest := [.long 0, .long p1.toInt64]) (st1 := [.int r1, .long 0, .long p1.toInt64]) C hE hP (c_X10_unlike l D cI cZ cL cW F a0 a1 a2 a3 a4 a5 a6 0 k_w k_o k_isKept k_went k_wentMany k_waiting k_came k_depth k_isSilent k_x k_packed k_hits k_rues k_soonest k_inAll  r1  h2) ok_X10_unlike qM_X10_257 rfl rfl ⟨(Nat.le_of_ble_eq_true rfl), (Nat.le_of_ble_eq_true rfl)⟩ rfl rfl hl.1 (Nat.le_of_ble_eq_true rfl) ⟨Nat.zero_le _, Nat.zero_le _⟩ dX10_bucket_19 rfl rfl ?_
    refine lv_iconst (v := 1) hx hb dX10_bucket_22 (by decide) ?_
    refine lv_isub hx hb dX10_bucket_23 ?_
    refine lv_i2l hx hb dX10_bucket_24 rfl ?_
    obtain ⟨r3, h4, hf⟩ := bd_s hf
    refine is_R (rest := []) (st1 := [.int r3]) C hE va_P_nil (c_X10_isIn l D cI cZ cL cW F   p1.toInt64 0 ((r1 - 1).toInt64) r3  h4) ok_X10_isIn qM_X10_49 rfl rfl ⟨(Nat.le_of_ble_eq_true rfl), (Nat.le_of_ble_eq_true rfl)⟩ hl.1 (Nat.le_of_ble_eq_true rfl) ⟨Nat.zero_le _, Nat.zero_le _⟩ dX10_bucket_25 rfl rfl ?_
    refine lv_if_eq (tgt := 43) hx hb dX10_bucket_28 (by decide) (fun c17 => ?_) (fun c17 => ?_)
    · have hf := it_p hf c17
      refine lv_iconst (v := (-1)) hx hb dX10_bucket_43 (by decide) ?_
      cases hf
      exact rw_i C hr hlk hP hD hS dX10_bucket_44 rfl
    · have hf := it_n hf c17
      refine lv_iload_n hx hb dX10_bucket_31 rfl (lv_at hl 2 rfl) ?_
      refine lv_i2l hx hb dX10_bucket_32 rfl ?_
      refine lv_lconst (v := 0) hx hb dX10_bucket_33 (by decide) ?_
      refine lv_ldc2 (v := 2) hx hb hown (ht _ qJ_X10_260) dX10_bucket_34 ?_
      obtain ⟨r5, h6, hf⟩ := bd_s hf
      refine is_R (rest := []) (st1 := [.int r5]) C hE va_P_nil (c_X10_isIn l D cI cZ cL cW F   p2.toInt64 0 2 r5  h6) ok_X10_isIn qM_X10_49 rfl rfl ⟨(Nat.le_of_ble_eq_true rfl), (Nat.le_of_ble_eq_true rfl)⟩ hl.1 (Nat.le_of_ble_eq_true rfl) ⟨Nat.zero_le _, Nat.zero_le _⟩ dX10_bucket_37 rfl rfl ?_
      refine lv_if_ne (tgt := 45) hx hb dX10_bucket_40 (by decide) (fun c16 => ?_) (fun c16 => ?_)
      · have hf := it_n hf c16
        refine lv_aload_n hx hb dX10_bucket_45 rfl (lv_at hl 0 rfl) ?_
        refine lv_iconst (v := (-1)) hx hb dX10_bucket_46 (by decide) ?_
        obtain ⟨r7, h8, hf⟩ := bd_s hf
        refine iv_R (rest := []) (st1 := [.int r7]) C hE hP (c_X10_countAbove l D cI cZ cL cW F a0 a1 a2 a3 a4 a5 a6 0 k_w k_o k_isKept k_went k_wentMany k_waiting k_came k_depth k_isSilent k_x k_packed k_hits k_rues k_soonest k_inAll (-1) r7  h8) ok_X10_countAbove qM_X10_254 rfl rfl ⟨(Nat.le_of_ble_eq_true rfl), (Nat.le_of_ble_eq_true rfl)⟩ rfl rfl hl.1 (Nat.le_of_ble_eq_true rfl) ⟨Nat.zero_le _, Nat.zero_le _⟩ dX10_bucket_47 rfl rfl ?_
        refine lv_istore_n (lv' := [(3, .int r7), (0, .ref a0), (1, .int p1), (2, .int p2)]) hx hb dX10_bucket_50 rfl hl (by decide) rfl (fun ls hl => ?_)
        refine lv_iconst (v := 0) hx hb dX10_bucket_51 (by decide) ?_
        refine lv_istore (lv' := [(4, .int 0), (3, .int r7), (0, .ref a0), (1, .int p1), (2, .int p2)]) hx hb dX10_bucket_52 hl (by decide) rfl (fun ls hl => ?_)
        obtain ⟨x12, h13, hf⟩ := bd_s hf
        refine L54 _ _ _ F p1 p2 r7 0 0 k_w k_o k_isKept k_went k_wentMany k_waiting k_came k_depth k_isSilent k_x k_packed k_hits k_rues k_soonest k_inAll hP x12 ls h13 (lv_sub hl [2, 3, 4, 1, 0] rfl) (fun ls hl => ?_)
        refine lv_aload_n hx hb dX10_bucket_72 rfl (lv_at hl 0 rfl) ?_
        refine lv_iload_n hx hb dX10_bucket_73 rfl (lv_at hl 2 rfl) ?_
        refine lv_iload_n hx hb dX10_bucket_74 rfl (lv_at hl 1 rfl) ?_
        obtain ⟨r14, h15, hf⟩ := bd_s hf
        refine iv_R (rest := []) (st1 := [.int r14]) C hE hP (c_X10_ofCount l D cI cZ cL cW F a0 a1 a2 a3 a4 a5 a6 0 k_w k_o k_isKept k_went k_wentMany k_waiting k_came k_depth k_isSilent k_x k_packed k_hits k_rues k_soonest k_inAll x12 p2 r14  h15) ok_X10_ofCount qM_X10_262 rfl rfl ⟨(Nat.le_of_ble_eq_true rfl), (Nat.le_of_ble_eq_true rfl)⟩ rfl rfl hl.1 (Nat.le_of_ble_eq_true rfl) ⟨Nat.zero_le _, Nat.zero_le _⟩ dX10_bucket_75 rfl rfl ?_
        cases hf
        exact rw_i C hr hlk hP hD hS dX10_bucket_78 rfl
      · have hf := it_p hf c16
        refine lv_iconst (v := (-1)) hx hb dX10_bucket_43 (by decide) ?_
        cases hf
        exact rw_i C hr hlk hP hD hS dX10_bucket_44 rfl
  · have hf := it_p hf c20
    refine lv_aload_n hx hb dX10_bucket_10 rfl (lv_at hl 0 rfl) ?_
    obtain ⟨r18, h19, hf⟩ := bd_s hf
    refine iv_R (rest := []) (st1 := [.int r18]) C hE hP (c_X10_unlike l D cI cZ cL cW F a0 a1 a2 a3 a4 a5 a6 0 k_w k_o k_isKept k_went k_wentMany k_waiting k_came k_depth k_isSilent k_x k_packed k_hits k_rues k_soonest k_inAll  r18  h19) ok_X10_unlike qM_X10_257 rfl rfl ⟨(Nat.le_of_ble_eq_true rfl), (Nat.le_of_ble_eq_true rfl)⟩ rfl rfl hl.1 (Nat.le_of_ble_eq_true rfl) ⟨Nat.zero_le _, Nat.zero_le _⟩ dX10_bucket_11 rfl rfl ?_
    cases hf
    exact rw_i C hr hlk hP hD hS dX10_bucket_14 rfl
def X10_listener (F : Nat) (p1 : Int32) (p2 : Int32) (k_thrown : Int32) (k_w : (Nat → Int32)) (k_o : Int32) : Option (Int32 × Int32) := (X10_isHearer F p1 k_w).bind fun r1 => (if (r1 : Int32) = 0 then (some ((-1), 0)) else ((X10_isIn F p2.toInt64 0 2).bind fun r3 => (if (r3 : Int32) = 0 then (some ((-1), 0)) else ((X10_hearerAt F p1 k_o).bind fun r5 => (if (((r5 + 6) + p2) : Int32) < 0 ∨ 3392 ≤ (Int32.toNatClampNeg ((r5 + 6) + p2)) then none else (some ((k_w (Int32.toNatClampNeg ((r5 + 6) + p2))), 0)))))))
abbrev rm_X10_listener : Room := { frames := 2, cells := 0, slots := 0, locals := 46 }
theorem ok_X10_listener : OKV RX10 yX10_listener cX10_listener 3 (some .int) 2 := ⟨by decide +kernel, qV_X10_listener, qL_X10_listener, qI_X10, qD_X10_listener⟩
set_option maxHeartbeats 4000000 in
set_option maxRecDepth 100000 in
theorem c_X10_listener (l : Launch) (D : va_G) (cI cZ cL cW : ClassId) (F : Nat) (a0 : Nat) (a1 : Nat) (a2 : Nat) (a3 : Nat) (a4 : Nat) (a5 : Nat) (a6 : Nat) (k_thrown : Int32) (k_w : (Nat → Int32)) (k_o : Int32) (k_isKept : (Nat → Int32)) (k_went : (Nat → Int32)) (k_wentMany : Int32) (k_waiting : (Nat → Int32)) (k_came : Int32) (k_depth : Int32) (k_isSilent : Int32) (k_x : Int64) (k_packed : (Nat → Int32)) (k_hits : Int32) (k_rues : Int32) (k_soonest : Int32) (k_inAll : (Nat → Int32)) (p1 : Int32) (p2 : Int32) (r : Int32) (k_thrown' : Int32) (hf : X10_listener F p1 p2 k_thrown k_w k_o = some (r, k_thrown')) : CtrW l D (tyL cI cZ cL cW) nestW yX10_listener cX10_listener 3 (some .int) rm_X10_listener [.ref a0, .int p1, .int p2] (MX10 cI cZ cL cW a0 a1 a2 a3 a4 a5 a6 k_thrown k_w k_o k_isKept k_went k_wentMany k_waiting k_came k_depth k_isSilent k_x k_packed k_hits k_rues k_soonest k_inAll) (MX10 cI cZ cL cW a0 a1 a2 a3 a4 a5 a6 (k_thrown') k_w k_o k_isKept k_went k_wentMany k_waiting k_came k_depth k_isSilent k_x k_packed k_hits k_rues k_soonest k_inAll) (some (.int r)) := by
  refine ofA RX10 (by decide) rfl (Nat.le_of_ble_eq_true rfl) ?_
  intro p e s m below meth c ls A C hr hlk hE hA hP hD hS hl
  generalize (List.toArray ([.ref a0, .int p1, .int p2] : List Value)) = args at C ⊢
  obtain ⟨hx, hb, hml, hown, ht⟩ := id C
  have hl : lv_has ls 3 [(0, .ref a0), (1, .int p1), (2, .int p2)] := hl
  refine lv_aload_n hx hb dX10_listener_0 rfl (lv_at hl 0 rfl) ?_
  refine lv_iconst (v := 0) hx hb dX10_listener_1 (by decide) ?_
  refine pf_X10 (v := .int 0) C hE hP hD hS 0 0 rfl (by decide) qF_X10_1 rfl rfl rfl (Nat.le_of_ble_eq_true rfl) dX10_listener_2 (fun H locs (hP : va_P D vwCl (MX10 cI cZ cL cW a0 a1 a2 a3 a4 a5 a6 0 k_w k_o k_isKept k_went k_wentMany k_waiting k_came k_depth k_isSilent k_x k_packed k_hits k_rues k_soonest k_inAll) H) (hD : va_D A (MX10 cI cZ cL cW a0 a1 a2 a3 a4 a5 a6 0 k_w k_o k_isKept k_went k_wentMany k_waiting k_came k_depth k_isSilent k_x k_packed k_hits k_rues k_soonest k_inAll)) hS => ?_)
  refine lv_aload_n hx hb dX10_listener_5 rfl (lv_at hl 0 rfl) ?_
  refine lv_iload_n hx hb dX10_listener_6 rfl (lv_at hl 1 rfl) ?_
  obtain ⟨r1, h2, hf⟩ := bd_s hf
  refine iv_R (rest := []) (st1 := [.int r1]) C hE hP (c_X10_isHearer l D cI cZ cL cW F a0 a1 a2 a3 a4 a5 a6 0 k_w k_o k_isKept k_went k_wentMany k_waiting k_came k_depth k_isSilent k_x k_packed k_hits k_rues k_soonest k_inAll p1 r1  h2) ok_X10_isHearer qM_X10_222 rfl rfl ⟨(Nat.le_of_ble_eq_true rfl), (Nat.le_of_ble_eq_true rfl)⟩ rfl rfl hl.1 (Nat.le_of_ble_eq_true rfl) ⟨Nat.zero_le _, Nat.zero_le _⟩ dX10_listener_7 rfl rfl ?_
  refine lv_if_eq (tgt := 43) hx hb dX10_listener_10 (by decide) (fun c9 => ?_) (fun c9 => ?_)
  · have hf := it_p hf c9
    refine lv_iconst (v := (-1)) hx hb dX10_listener_43 (by decide) ?_
    cases hf
    exact rw_i C hr hlk hP hD hS dX10_listener_44 rfl
  · have hf := it_n hf c9
    refine lv_iload_n hx hb dX10_listener_13 rfl (lv_at hl 2 rfl) ?_
    refine lv_i2l hx hb dX10_listener_14 rfl ?_
    refine lv_lconst (v := 0) hx hb dX10_listener_15 (by decide) ?_
    refine lv_ldc2 (v := 2) hx hb hown (ht _ qJ_X10_260) dX10_listener_16 ?_
    obtain ⟨r3, h4, hf⟩ := bd_s hf
    refine is_R (rest := []) (st1 := [.int r3]) C hE va_P_nil (c_X10_isIn l D cI cZ cL cW F   p2.toInt64 0 2 r3  h4) ok_X10_isIn qM_X10_49 rfl rfl ⟨(Nat.le_of_ble_eq_true rfl), (Nat.le_of_ble_eq_true rfl)⟩ hl.1 (Nat.le_of_ble_eq_true rfl) ⟨Nat.zero_le _, Nat.zero_le _⟩ dX10_listener_19 rfl rfl ?_
    refine lv_if_eq (tgt := 43) hx hb dX10_listener_22 (by decide) (fun c8 => ?_) (fun c8 => ?_)
    · have hf := it_p hf c8
      refine lv_iconst (v := (-1)) hx hb dX10_listener_43 (by decide) ?_
      cases hf
      exact rw_i C hr hlk hP hD hS dX10_listener_44 rfl
    · have hf := it_n hf c8
      refine lv_aload_n hx hb dX10_listener_25 rfl (lv_at hl 0 rfl) ?_
      refine gf_X10 (v := .ref a1) C hE hP 0 1 rfl (by decide) qF_X10_17 rfl dX10_listener_26 ?_
      refine lv_aload_n hx hb dX10_listener_29 rfl (lv_at hl 0 rfl) ?_
      refine lv_iload_n hx hb dX10_listener_30 rfl (lv_at hl 1 rfl) ?_
      obtain ⟨r5, h6, hf⟩ := bd_s hf
      refine iv_R (rest := [.ref a1]) (st1 := [.int r5, .ref a1]) C hE hP (c_X10_hearerAt l D cI cZ cL cW F a0 a1 a2 a3 a4 a5 a6 0 k_w k_o k_isKept k_went k_wentMany k_waiting k_came k_depth k_isSilent k_x k_packed k_hits k_rues k_soonest k_inAll p1 r5  h6) ok_X10_hearerAt qM_X10_115 rfl rfl ⟨(Nat.le_of_ble_eq_true rfl), (Nat.le_of_ble_eq_true rfl)⟩ rfl rfl hl.1 (Nat.le_of_ble_eq_true rfl) ⟨Nat.zero_le _, Nat.zero_le _⟩ dX10_listener_31 rfl rfl ?_
      refine lv_bipush (v := 6) hx hb dX10_listener_34 (by decide) ?_
      refine lv_iadd hx hb dX10_listener_36 ?_
      refine lv_iload_n hx hb dX10_listener_37 rfl (lv_at hl 2 rfl) ?_
      refine lv_iadd hx hb dX10_listener_38 ?_
      obtain ⟨g7, hf⟩ := it_g hf
      refine va_iald hx hb hE.1 hP 1 0 rfl rfl g7 dX10_listener_39 ?_
      refine lv_goto (tgt := 44) hx hb dX10_listener_40 (by decide) ?_
      cases hf
      exact rw_i C hr hlk hP hD hS dX10_listener_44 rfl
def X10_heard (F : Nat) (p1 : Int32) (p2 : Int32) (k_thrown : Int32) (k_w : (Nat → Int32)) : Option (Int32 × Int32) := (X10_isIn F p1.toInt64 0 (((k_w (Int32.toNatClampNeg 18)) - 1).toInt64)).bind fun r1 => (if (r1 : Int32) = 0 then (some ((-1), 0)) else ((X10_isIn F p2.toInt64 0 4).bind fun r3 => (if (r3 : Int32) = 0 then (some ((-1), 0)) else (if (((548 + (5 * p1)) + p2) : Int32) < 0 ∨ 3392 ≤ (Int32.toNatClampNeg ((548 + (5 * p1)) + p2)) then none else (some ((k_w (Int32.toNatClampNeg ((548 + (5 * p1)) + p2))), 0))))))
abbrev rm_X10_heard : Room := { frames := 1, cells := 0, slots := 0, locals := 25 }
theorem ok_X10_heard : OKV RX10 yX10_heard cX10_heard 3 (some .int) 2 := ⟨by decide +kernel, qV_X10_heard, qL_X10_heard, qI_X10, qD_X10_heard⟩
set_option maxHeartbeats 4000000 in
set_option maxRecDepth 100000 in
theorem c_X10_heard (l : Launch) (D : va_G) (cI cZ cL cW : ClassId) (F : Nat) (a0 : Nat) (a1 : Nat) (a2 : Nat) (a3 : Nat) (a4 : Nat) (a5 : Nat) (a6 : Nat) (k_thrown : Int32) (k_w : (Nat → Int32)) (k_o : Int32) (k_isKept : (Nat → Int32)) (k_went : (Nat → Int32)) (k_wentMany : Int32) (k_waiting : (Nat → Int32)) (k_came : Int32) (k_depth : Int32) (k_isSilent : Int32) (k_x : Int64) (k_packed : (Nat → Int32)) (k_hits : Int32) (k_rues : Int32) (k_soonest : Int32) (k_inAll : (Nat → Int32)) (p1 : Int32) (p2 : Int32) (r : Int32) (k_thrown' : Int32) (hf : X10_heard F p1 p2 k_thrown k_w = some (r, k_thrown')) : CtrW l D (tyL cI cZ cL cW) nestW yX10_heard cX10_heard 3 (some .int) rm_X10_heard [.ref a0, .int p1, .int p2] (MX10 cI cZ cL cW a0 a1 a2 a3 a4 a5 a6 k_thrown k_w k_o k_isKept k_went k_wentMany k_waiting k_came k_depth k_isSilent k_x k_packed k_hits k_rues k_soonest k_inAll) (MX10 cI cZ cL cW a0 a1 a2 a3 a4 a5 a6 (k_thrown') k_w k_o k_isKept k_went k_wentMany k_waiting k_came k_depth k_isSilent k_x k_packed k_hits k_rues k_soonest k_inAll) (some (.int r)) := by
  refine ofA RX10 (by decide) rfl (Nat.le_of_ble_eq_true rfl) ?_
  intro p e s m below meth c ls A C hr hlk hE hA hP hD hS hl
  generalize (List.toArray ([.ref a0, .int p1, .int p2] : List Value)) = args at C ⊢
  obtain ⟨hx, hb, hml, hown, ht⟩ := id C
  have hl : lv_has ls 3 [(0, .ref a0), (1, .int p1), (2, .int p2)] := hl
  refine lv_aload_n hx hb dX10_heard_0 rfl (lv_at hl 0 rfl) ?_
  refine lv_iconst (v := 0) hx hb dX10_heard_1 (by decide) ?_
  refine pf_X10 (v := .int 0) C hE hP hD hS 0 0 rfl (by decide) qF_X10_1 rfl rfl rfl (Nat.le_of_ble_eq_true rfl) dX10_heard_2 (fun H locs (hP : va_P D vwCl (MX10 cI cZ cL cW a0 a1 a2 a3 a4 a5 a6 0 k_w k_o k_isKept k_went k_wentMany k_waiting k_came k_depth k_isSilent k_x k_packed k_hits k_rues k_soonest k_inAll) H) (hD : va_D A (MX10 cI cZ cL cW a0 a1 a2 a3 a4 a5 a6 0 k_w k_o k_isKept k_went k_wentMany k_waiting k_came k_depth k_isSilent k_x k_packed k_hits k_rues k_soonest k_inAll)) hS => ?_)
  refine lv_iload_n hx hb dX10_heard_5 rfl (lv_at hl 1 rfl) ?_
  refine lv_i2l hx hb dX10_heard_6 rfl ?_
  refine lv_lconst (v := 0) hx hb dX10_heard_7 (by decide) ?_
  refine lv_aload_n hx hb dX10_heard_8 rfl (lv_at hl 0 rfl) ?_
  refine gf_X10 (v := .ref a1) C hE hP 0 1 rfl (by decide) qF_X10_17 rfl dX10_heard_9 ?_
  refine lv_bipush (v := 18) hx hb dX10_heard_12 (by decide) ?_
  refine va_iald hx hb hE.1 hP 1 0 rfl rfl (vp_l (by decide)) dX10_heard_14 ?_
  refine lv_iconst (v := 1) hx hb dX10_heard_15 (by decide) ?_
  refine lv_isub hx hb dX10_heard_16 ?_
  refine lv_i2l hx hb dX10_heard_17 rfl ?_
  obtain ⟨r1, h2, hf⟩ := bd_s hf
  refine is_R (rest := []) (st1 := [.int r1]) C hE va_P_nil (c_X10_isIn l D cI cZ cL cW F   p1.toInt64 0 (((k_w (Int32.toNatClampNeg 18)) - 1).toInt64) r1  h2) ok_X10_isIn qM_X10_49 rfl rfl ⟨(Nat.le_of_ble_eq_true rfl), (Nat.le_of_ble_eq_true rfl)⟩ hl.1 (Nat.le_of_ble_eq_true rfl) ⟨Nat.zero_le _, Nat.zero_le _⟩ dX10_heard_18 rfl rfl ?_
  refine lv_if_eq (tgt := 53) hx hb dX10_heard_21 (by decide) (fun c7 => ?_) (fun c7 => ?_)
  · have hf := it_p hf c7
    refine lv_iconst (v := (-1)) hx hb dX10_heard_53 (by decide) ?_
    cases hf
    exact rw_i C hr hlk hP hD hS dX10_heard_54 rfl
  · have hf := it_n hf c7
    refine lv_iload_n hx hb dX10_heard_24 rfl (lv_at hl 2 rfl) ?_
    refine lv_i2l hx hb dX10_heard_25 rfl ?_
    refine lv_lconst (v := 0) hx hb dX10_heard_26 (by decide) ?_
    refine lv_ldc2 (v := 4) hx hb hown (ht _ qJ_X10_209) dX10_heard_27 ?_
    obtain ⟨r3, h4, hf⟩ := bd_s hf
    refine is_R (rest := []) (st1 := [.int r3]) C hE va_P_nil (c_X10_isIn l D cI cZ cL cW F   p2.toInt64 0 4 r3  h4) ok_X10_isIn qM_X10_49 rfl rfl ⟨(Nat.le_of_ble_eq_true rfl), (Nat.le_of_ble_eq_true rfl)⟩ hl.1 (Nat.le_of_ble_eq_true rfl) ⟨Nat.zero_le _, Nat.zero_le _⟩ dX10_heard_30 rfl rfl ?_
    refine lv_if_eq (tgt := 53) hx hb dX10_heard_33 (by decide) (fun c6 => ?_) (fun c6 => ?_)
    · have hf := it_p hf c6
      refine lv_iconst (v := (-1)) hx hb dX10_heard_53 (by decide) ?_
      cases hf
      exact rw_i C hr hlk hP hD hS dX10_heard_54 rfl
    · have hf := it_n hf c6
      refine lv_aload_n hx hb dX10_heard_36 rfl (lv_at hl 0 rfl) ?_
      refine gf_X10 (v := .ref a1) C hE hP 0 1 rfl (by decide) qF_X10_17 rfl dX10_heard_37 ?_
      refine lv_sipush (v := 548) hx hb dX10_heard_40 (by decide) ?_
      refine lv_iconst (v := 5) hx hb dX10_heard_43 (by decide) ?_
      refine lv_iload_n hx hb dX10_heard_44 rfl (lv_at hl 1 rfl) ?_
      refine lv_imul hx hb dX10_heard_45 ?_
      refine lv_iadd hx hb dX10_heard_46 ?_
      refine lv_iload_n hx hb dX10_heard_47 rfl (lv_at hl 2 rfl) ?_
      refine lv_iadd hx hb dX10_heard_48 ?_
      obtain ⟨g5, hf⟩ := it_g hf
      refine va_iald hx hb hE.1 hP 1 0 rfl rfl g5 dX10_heard_49 ?_
      refine lv_goto (tgt := 54) hx hb dX10_heard_50 (by decide) ?_
      cases hf
      exact rw_i C hr hlk hP hD hS dX10_heard_54 rfl
def X10_request (F : Nat) (p1 : Int32) (k_thrown : Int32) (k_w : (Nat → Int32)) : Option (Int32 × Int32) := (X10_isIn F p1.toInt64 0 (((k_w (Int32.toNatClampNeg 14)) - 1).toInt64)).bind fun r1 => (if (r1 : Int32) = 0 then (some ((-1), 0)) else (if ((748 + p1) : Int32) < 0 ∨ 3392 ≤ (Int32.toNatClampNeg (748 + p1)) then none else (some ((k_w (Int32.toNatClampNeg (748 + p1))), 0))))
abbrev rm_X10_request : Room := { frames := 1, cells := 0, slots := 0, locals := 25 }
theorem ok_X10_request : OKV RX10 yX10_request cX10_request 2 (some .int) 1 := ⟨by decide +kernel, qV_X10_request, qL_X10_request, qI_X10, qD_X10_request⟩
set_option maxHeartbeats 4000000 in
set_option maxRecDepth 100000 in
theorem c_X10_request (l : Launch) (D : va_G) (cI cZ cL cW : ClassId) (F : Nat) (a0 : Nat) (a1 : Nat) (a2 : Nat) (a3 : Nat) (a4 : Nat) (a5 : Nat) (a6 : Nat) (k_thrown : Int32) (k_w : (Nat → Int32)) (k_o : Int32) (k_isKept : (Nat → Int32)) (k_went : (Nat → Int32)) (k_wentMany : Int32) (k_waiting : (Nat → Int32)) (k_came : Int32) (k_depth : Int32) (k_isSilent : Int32) (k_x : Int64) (k_packed : (Nat → Int32)) (k_hits : Int32) (k_rues : Int32) (k_soonest : Int32) (k_inAll : (Nat → Int32)) (p1 : Int32) (r : Int32) (k_thrown' : Int32) (hf : X10_request F p1 k_thrown k_w = some (r, k_thrown')) : CtrW l D (tyL cI cZ cL cW) nestW yX10_request cX10_request 2 (some .int) rm_X10_request [.ref a0, .int p1] (MX10 cI cZ cL cW a0 a1 a2 a3 a4 a5 a6 k_thrown k_w k_o k_isKept k_went k_wentMany k_waiting k_came k_depth k_isSilent k_x k_packed k_hits k_rues k_soonest k_inAll) (MX10 cI cZ cL cW a0 a1 a2 a3 a4 a5 a6 (k_thrown') k_w k_o k_isKept k_went k_wentMany k_waiting k_came k_depth k_isSilent k_x k_packed k_hits k_rues k_soonest k_inAll) (some (.int r)) := by
  refine ofA RX10 (by decide) rfl (Nat.le_of_ble_eq_true rfl) ?_
  intro p e s m below meth c ls A C hr hlk hE hA hP hD hS hl
  generalize (List.toArray ([.ref a0, .int p1] : List Value)) = args at C ⊢
  obtain ⟨hx, hb, hml, hown, ht⟩ := id C
  have hl : lv_has ls 2 [(0, .ref a0), (1, .int p1)] := hl
  refine lv_aload_n hx hb dX10_request_0 rfl (lv_at hl 0 rfl) ?_
  refine lv_iconst (v := 0) hx hb dX10_request_1 (by decide) ?_
  refine pf_X10 (v := .int 0) C hE hP hD hS 0 0 rfl (by decide) qF_X10_1 rfl rfl rfl (Nat.le_of_ble_eq_true rfl) dX10_request_2 (fun H locs (hP : va_P D vwCl (MX10 cI cZ cL cW a0 a1 a2 a3 a4 a5 a6 0 k_w k_o k_isKept k_went k_wentMany k_waiting k_came k_depth k_isSilent k_x k_packed k_hits k_rues k_soonest k_inAll) H) (hD : va_D A (MX10 cI cZ cL cW a0 a1 a2 a3 a4 a5 a6 0 k_w k_o k_isKept k_went k_wentMany k_waiting k_came k_depth k_isSilent k_x k_packed k_hits k_rues k_soonest k_inAll)) hS => ?_)
  refine lv_iload_n hx hb dX10_request_5 rfl (lv_at hl 1 rfl) ?_
  refine lv_i2l hx hb dX10_request_6 rfl ?_
  refine lv_lconst (v := 0) hx hb dX10_request_7 (by decide) ?_
  refine lv_aload_n hx hb dX10_request_8 rfl (lv_at hl 0 rfl) ?_
  refine gf_X10 (v := .ref a1) C hE hP 0 1 rfl (by decide) qF_X10_17 rfl dX10_request_9 ?_
  refine lv_bipush (v := 14) hx hb dX10_request_12 (by decide) ?_
  refine va_iald hx hb hE.1 hP 1 0 rfl rfl (vp_l (by decide)) dX10_request_14 ?_
  refine lv_iconst (v := 1) hx hb dX10_request_15 (by decide) ?_
  refine lv_isub hx hb dX10_request_16 ?_
  refine lv_i2l hx hb dX10_request_17 rfl ?_
  obtain ⟨r1, h2, hf⟩ := bd_s hf
  refine is_R (rest := []) (st1 := [.int r1]) C hE va_P_nil (c_X10_isIn l D cI cZ cL cW F   p1.toInt64 0 (((k_w (Int32.toNatClampNeg 14)) - 1).toInt64) r1  h2) ok_X10_isIn qM_X10_49 rfl rfl ⟨(Nat.le_of_ble_eq_true rfl), (Nat.le_of_ble_eq_true rfl)⟩ hl.1 (Nat.le_of_ble_eq_true rfl) ⟨Nat.zero_le _, Nat.zero_le _⟩ dX10_request_18 rfl rfl ?_
  refine lv_if_eq (tgt := 37) hx hb dX10_request_21 (by decide) (fun c4 => ?_) (fun c4 => ?_)
  · have hf := it_p hf c4
    refine lv_iconst (v := (-1)) hx hb dX10_request_37 (by decide) ?_
    cases hf
    exact rw_i C hr hlk hP hD hS dX10_request_38 rfl
  · have hf := it_n hf c4
    refine lv_aload_n hx hb dX10_request_24 rfl (lv_at hl 0 rfl) ?_
    refine gf_X10 (v := .ref a1) C hE hP 0 1 rfl (by decide) qF_X10_17 rfl dX10_request_25 ?_
    refine lv_sipush (v := 748) hx hb dX10_request_28 (by decide) ?_
    refine lv_iload_n hx hb dX10_request_31 rfl (lv_at hl 1 rfl) ?_
    refine lv_iadd hx hb dX10_request_32 ?_
    obtain ⟨g3, hf⟩ := it_g hf
    refine va_iald hx hb hE.1 hP 1 0 rfl rfl g3 dX10_request_33 ?_
    refine lv_goto (tgt := 38) hx hb dX10_request_34 (by decide) ?_
    cases hf
    exact rw_i C hr hlk hP hD hS dX10_request_38 rfl
def X10_victim (F : Nat) (p1 : Int32) (k_thrown : Int32) (k_w : (Nat → Int32)) (k_o : Int32) : Option (Int32 × Int32) := (X10_isIn F p1.toInt64 0 4).bind fun r1 => (if (r1 : Int32) = 0 then (some ((-1), 0)) else ((X10_chosen F p1 (-1) k_w k_o).bind fun r3 => (if (r3 : Int32) = (-1) then (some ((-1), 0)) else ((X10_of F r3 0 k_w k_o).bind fun r5 => (some (r5, 0))))))
abbrev rm_X10_victim : Room := { frames := 5, cells := 0, slots := 0, locals := 116 }
theorem ok_X10_victim : OKV RX10 yX10_victim cX10_victim 3 (some .int) 1 := ⟨by decide +kernel, qV_X10_victim, qL_X10_victim, qI_X10, qD_X10_victim⟩
set_option maxHeartbeats 4000000 in
set_option maxRecDepth 100000 in
theorem c_X10_victim (l : Launch) (D : va_G) (cI cZ cL cW : ClassId) (F : Nat) (a0 : Nat) (a1 : Nat) (a2 : Nat) (a3 : Nat) (a4 : Nat) (a5 : Nat) (a6 : Nat) (k_thrown : Int32) (k_w : (Nat → Int32)) (k_o : Int32) (k_isKept : (Nat → Int32)) (k_went : (Nat → Int32)) (k_wentMany : Int32) (k_waiting : (Nat → Int32)) (k_came : Int32) (k_depth : Int32) (k_isSilent : Int32) (k_x : Int64) (k_packed : (Nat → Int32)) (k_hits : Int32) (k_rues : Int32) (k_soonest : Int32) (k_inAll : (Nat → Int32)) (p1 : Int32) (r : Int32) (k_thrown' : Int32) (hf : X10_victim F p1 k_thrown k_w k_o = some (r, k_thrown')) : CtrW l D (tyL cI cZ cL cW) nestW yX10_victim cX10_victim 3 (some .int) rm_X10_victim [.ref a0, .int p1] (MX10 cI cZ cL cW a0 a1 a2 a3 a4 a5 a6 k_thrown k_w k_o k_isKept k_went k_wentMany k_waiting k_came k_depth k_isSilent k_x k_packed k_hits k_rues k_soonest k_inAll) (MX10 cI cZ cL cW a0 a1 a2 a3 a4 a5 a6 (k_thrown') k_w k_o k_isKept k_went k_wentMany k_waiting k_came k_depth k_isSilent k_x k_packed k_hits k_rues k_soonest k_inAll) (some (.int r)) := by
  refine ofA RX10 (by decide) rfl (Nat.le_of_ble_eq_true rfl) ?_
  intro p e s m below meth c ls A C hr hlk hE hA hP hD hS hl
  generalize (List.toArray ([.ref a0, .int p1] : List Value)) = args at C ⊢
  obtain ⟨hx, hb, hml, hown, ht⟩ := id C
  have hl : lv_has ls 3 [(0, .ref a0), (1, .int p1)] := hl
  refine lv_aload_n hx hb dX10_victim_0 rfl (lv_at hl 0 rfl) ?_
  refine lv_iconst (v := 0) hx hb dX10_victim_1 (by decide) ?_
  refine pf_X10 (v := .int 0) C hE hP hD hS 0 0 rfl (by decide) qF_X10_1 rfl rfl rfl (Nat.le_of_ble_eq_true rfl) dX10_victim_2 (fun H locs (hP : va_P D vwCl (MX10 cI cZ cL cW a0 a1 a2 a3 a4 a5 a6 0 k_w k_o k_isKept k_went k_wentMany k_waiting k_came k_depth k_isSilent k_x k_packed k_hits k_rues k_soonest k_inAll) H) (hD : va_D A (MX10 cI cZ cL cW a0 a1 a2 a3 a4 a5 a6 0 k_w k_o k_isKept k_went k_wentMany k_waiting k_came k_depth k_isSilent k_x k_packed k_hits k_rues k_soonest k_inAll)) hS => ?_)
  refine lv_iload_n hx hb dX10_victim_5 rfl (lv_at hl 1 rfl) ?_
  refine lv_i2l hx hb dX10_victim_6 rfl ?_
  refine lv_lconst (v := 0) hx hb dX10_victim_7 (by decide) ?_
  refine lv_ldc2 (v := 4) hx hb hown (ht _ qJ_X10_209) dX10_victim_8 ?_
  obtain ⟨r1, h2, hf⟩ := bd_s hf
  refine is_R (rest := []) (st1 := [.int r1]) C hE va_P_nil (c_X10_isIn l D cI cZ cL cW F   p1.toInt64 0 4 r1  h2) ok_X10_isIn qM_X10_49 rfl rfl ⟨(Nat.le_of_ble_eq_true rfl), (Nat.le_of_ble_eq_true rfl)⟩ hl.1 (Nat.le_of_ble_eq_true rfl) ⟨Nat.zero_le _, Nat.zero_le _⟩ dX10_victim_11 rfl rfl ?_
  refine lv_if_ne (tgt := 19) hx hb dX10_victim_14 (by decide) (fun c8 => ?_) (fun c8 => ?_)
  · have hf := it_n hf c8
    refine lv_aload_n hx hb dX10_victim_19 rfl (lv_at hl 0 rfl) ?_
    refine lv_iload_n hx hb dX10_victim_20 rfl (lv_at hl 1 rfl) ?_
    refine lv_iconst (v := (-1)) hx hb dX10_victim_21 (by decide) ?_
    obtain ⟨r3, h4, hf⟩ := bd_s hf
    refine iv_R (rest := []) (st1 := [.int r3]) C hE hP (c_X10_chosen l D cI cZ cL cW F a0 a1 a2 a3 a4 a5 a6 0 k_w k_o k_isKept k_went k_wentMany k_waiting k_came k_depth k_isSilent k_x k_packed k_hits k_rues k_soonest k_inAll p1 (-1) r3  h4) ok_X10_chosen qM_X10_88 rfl rfl ⟨(Nat.le_of_ble_eq_true rfl), (Nat.le_of_ble_eq_true rfl)⟩ rfl rfl hl.1 (Nat.le_of_ble_eq_true rfl) ⟨Nat.zero_le _, Nat.zero_le _⟩ dX10_victim_22 rfl rfl ?_
    refine lv_istore_n (lv' := [(2, .int r3), (0, .ref a0), (1, .int p1)]) hx hb dX10_victim_25 rfl hl (by decide) rfl (fun ls hl => ?_)
    refine lv_iload_n hx hb dX10_victim_26 rfl (lv_at hl 0 rfl) ?_
    refine lv_iconst (v := (-1)) hx hb dX10_victim_27 (by decide) ?_
    refine lv_icmp_ne (tgt := 35) hx hb dX10_victim_28 (by decide) (fun c7 => ?_) (fun c7 => ?_)
    · have hf := it_n hf c7
      refine lv_aload_n hx hb dX10_victim_35 rfl (lv_at hl 1 rfl) ?_
      refine lv_iload_n hx hb dX10_victim_36 rfl (lv_at hl 0 rfl) ?_
      refine lv_iconst (v := 0) hx hb dX10_victim_37 (by decide) ?_
      obtain ⟨r5, h6, hf⟩ := bd_s hf
      refine iv_R (rest := []) (st1 := [.int r5]) C hE hP (c_X10_of l D cI cZ cL cW F a0 a1 a2 a3 a4 a5 a6 0 k_w k_o k_isKept k_went k_wentMany k_waiting k_came k_depth k_isSilent k_x k_packed k_hits k_rues k_soonest k_inAll r3 0 r5  h6) ok_X10_of qM_X10_44 rfl rfl ⟨(Nat.le_of_ble_eq_true rfl), (Nat.le_of_ble_eq_true rfl)⟩ rfl rfl hl.1 (Nat.le_of_ble_eq_true rfl) ⟨Nat.zero_le _, Nat.zero_le _⟩ dX10_victim_38 rfl rfl ?_
      cases hf
      exact rw_i C hr hlk hP hD hS dX10_victim_41 rfl
    · have hf := it_p hf c7
      refine lv_iconst (v := (-1)) hx hb dX10_victim_31 (by decide) ?_
      refine lv_goto (tgt := 41) hx hb dX10_victim_32 (by decide) ?_
      cases hf
      exact rw_i C hr hlk hP hD hS dX10_victim_41 rfl
  · have hf := it_p hf c8
    refine lv_iconst (v := (-1)) hx hb dX10_victim_17 (by decide) ?_
    cases hf
    exact rw_i C hr hlk hP hD hS dX10_victim_18 rfl
def X10_toPaper (F : Nat) (k_w : (Nat → Int32)) (k_o : Int32) (k_wentMany : Int32) (k_isSilent : Int32) : Option ((Nat → Int32) × Int32 × Int32 × Int32) := (X10_copies F 2544 0 k_w).bind fun k_w_1 => (some (k_w_1, 2544, 0, 1))
abbrev rm_X10_toPaper : Room := { frames := 1, cells := 0, slots := 0, locals := 23 }
theorem ok_X10_toPaper : OKV RX10 yX10_toPaper cX10_toPaper 1 none 0 := ⟨by decide +kernel, qV_X10_toPaper, qL_X10_toPaper, qI_X10, qD_X10_toPaper⟩
set_option maxHeartbeats 4000000 in
set_option maxRecDepth 100000 in
theorem c_X10_toPaper (l : Launch) (D : va_G) (cI cZ cL cW : ClassId) (F : Nat) (a0 : Nat) (a1 : Nat) (a2 : Nat) (a3 : Nat) (a4 : Nat) (a5 : Nat) (a6 : Nat) (k_thrown : Int32) (k_w : (Nat → Int32)) (k_o : Int32) (k_isKept : (Nat → Int32)) (k_went : (Nat → Int32)) (k_wentMany : Int32) (k_waiting : (Nat → Int32)) (k_came : Int32) (k_depth : Int32) (k_isSilent : Int32) (k_x : Int64) (k_packed : (Nat → Int32)) (k_hits : Int32) (k_rues : Int32) (k_soonest : Int32) (k_inAll : (Nat → Int32)) (k_w' : (Nat → Int32)) (k_o' : Int32) (k_wentMany' : Int32) (k_isSilent' : Int32) (hf : X10_toPaper F k_w k_o k_wentMany k_isSilent = some (k_w', k_o', k_wentMany', k_isSilent')) : CtrW l D (tyL cI cZ cL cW) nestW yX10_toPaper cX10_toPaper 1 none rm_X10_toPaper [.ref a0] (MX10 cI cZ cL cW a0 a1 a2 a3 a4 a5 a6 k_thrown k_w k_o k_isKept k_went k_wentMany k_waiting k_came k_depth k_isSilent k_x k_packed k_hits k_rues k_soonest k_inAll) (MX10 cI cZ cL cW a0 a1 a2 a3 a4 a5 a6 k_thrown (k_w') (k_o') k_isKept k_went (k_wentMany') k_waiting k_came k_depth (k_isSilent') k_x k_packed k_hits k_rues k_soonest k_inAll) none := by
  refine ofA RX10 (by decide) rfl (Nat.le_of_ble_eq_true rfl) ?_
  intro p e s m below meth c ls A C hr hlk hE hA hP hD hS hl
  generalize (List.toArray ([.ref a0] : List Value)) = args at C ⊢
  obtain ⟨hx, hb, hml, hown, ht⟩ := id C
  have hl : lv_has ls 1 [(0, .ref a0)] := hl
  refine lv_aload_n hx hb dX10_toPaper_0 rfl (lv_at hl 0 rfl) ?_
  refine lv_sipush (v := 2544) hx hb dX10_toPaper_1 (by decide) ?_
  refine lv_iconst (v := 0) hx hb dX10_toPaper_4 (by decide) ?_
  obtain ⟨k_w_1, h2, hf⟩ := bd_s hf
  refine iv_A (rest := []) (st1 := []) C hE hP hD hS hA (c_X10_copies l D cI cZ cL cW F a0 a1 a2 a3 a4 a5 a6 k_thrown k_w k_o k_isKept k_went k_wentMany k_waiting k_came k_depth k_isSilent k_x k_packed k_hits k_rues k_soonest k_inAll 2544 0  k_w_1 h2) ok_X10_copies qM_X10_246 rfl rfl ⟨(Nat.le_of_ble_eq_true rfl), (Nat.le_of_ble_eq_true rfl)⟩ rfl rfl hl.1 (Nat.le_of_ble_eq_true rfl) ⟨Nat.zero_le _, Nat.zero_le _⟩ dX10_toPaper_5 rfl rfl (fun H locs (hP : va_P D vwCl (MX10 cI cZ cL cW a0 a1 a2 a3 a4 a5 a6 k_thrown k_w_1 k_o k_isKept k_went k_wentMany k_waiting k_came k_depth k_isSilent k_x k_packed k_hits k_rues k_soonest k_inAll) H) (hD : va_D A (MX10 cI cZ cL cW a0 a1 a2 a3 a4 a5 a6 k_thrown k_w_1 k_o k_isKept k_went k_wentMany k_waiting k_came k_depth k_isSilent k_x k_packed k_hits k_rues k_soonest k_inAll)) hS => ?_)
  refine lv_aload_n hx hb dX10_toPaper_8 rfl (lv_at hl 0 rfl) ?_
  refine lv_sipush (v := 2544) hx hb dX10_toPaper_9 (by decide) ?_
  refine pf_X10 (v := .int 2544) C hE hP hD hS 0 2 rfl (by decide) qF_X10_41 rfl rfl rfl (Nat.le_of_ble_eq_true rfl) dX10_toPaper_12 (fun H locs (hP : va_P D vwCl (MX10 cI cZ cL cW a0 a1 a2 a3 a4 a5 a6 k_thrown k_w_1 2544 k_isKept k_went k_wentMany k_waiting k_came k_depth k_isSilent k_x k_packed k_hits k_rues k_soonest k_inAll) H) (hD : va_D A (MX10 cI cZ cL cW a0 a1 a2 a3 a4 a5 a6 k_thrown k_w_1 2544 k_isKept k_went k_wentMany k_waiting k_came k_depth k_isSilent k_x k_packed k_hits k_rues k_soonest k_inAll)) hS => ?_)
  refine lv_aload_n hx hb dX10_toPaper_15 rfl (lv_at hl 0 rfl) ?_
  refine lv_iconst (v := 1) hx hb dX10_toPaper_16 (by decide) ?_
  refine pf_X10 (v := .int 1) C hE hP hD hS 0 9 rfl (by decide) qF_X10_105 rfl (by decide) (by decide) (Nat.le_of_ble_eq_true rfl) dX10_toPaper_17 (fun H locs (hP : va_P D vwCl (MX10 cI cZ cL cW a0 a1 a2 a3 a4 a5 a6 k_thrown k_w_1 2544 k_isKept k_went k_wentMany k_waiting k_came k_depth 1 k_x k_packed k_hits k_rues k_soonest k_inAll) H) (hD : va_D A (MX10 cI cZ cL cW a0 a1 a2 a3 a4 a5 a6 k_thrown k_w_1 2544 k_isKept k_went k_wentMany k_waiting k_came k_depth 1 k_x k_packed k_hits k_rues k_soonest k_inAll)) hS => ?_)
  refine lv_aload_n hx hb dX10_toPaper_20 rfl (lv_at hl 0 rfl) ?_
  refine lv_iconst (v := 0) hx hb dX10_toPaper_21 (by decide) ?_
  refine pf_X10 (v := .int 0) C hE hP hD hS 0 5 rfl (by decide) qF_X10_95 rfl rfl rfl (Nat.le_of_ble_eq_true rfl) dX10_toPaper_22 (fun H locs (hP : va_P D vwCl (MX10 cI cZ cL cW a0 a1 a2 a3 a4 a5 a6 k_thrown k_w_1 2544 k_isKept k_went 0 k_waiting k_came k_depth 1 k_x k_packed k_hits k_rues k_soonest k_inAll) H) (hD : va_D A (MX10 cI cZ cL cW a0 a1 a2 a3 a4 a5 a6 k_thrown k_w_1 2544 k_isKept k_went 0 k_waiting k_came k_depth 1 k_x k_packed k_hits k_rues k_soonest k_inAll)) hS => ?_)
  cases hf
  exact rw_v C hr hlk hP hD hS dX10_toPaper_25
def X10_comesBack (F : Nat) (k_o : Int32) (k_isSilent : Int32) : Option (Int32 × Int32) := some (0, 0)
abbrev rm_X10_comesBack : Room := { frames := 0, cells := 0, slots := 0, locals := 0 }
theorem ok_X10_comesBack : OKV RX10 yX10_comesBack cX10_comesBack 1 none 0 := ⟨by decide +kernel, qV_X10_comesBack, qL_X10_comesBack, qI_X10, qD_X10_comesBack⟩
set_option maxHeartbeats 4000000 in
set_option maxRecDepth 100000 in
theorem c_X10_comesBack (l : Launch) (D : va_G) (cI cZ cL cW : ClassId) (F : Nat) (a0 : Nat) (a1 : Nat) (a2 : Nat) (a3 : Nat) (a4 : Nat) (a5 : Nat) (a6 : Nat) (k_thrown : Int32) (k_w : (Nat → Int32)) (k_o : Int32) (k_isKept : (Nat → Int32)) (k_went : (Nat → Int32)) (k_wentMany : Int32) (k_waiting : (Nat → Int32)) (k_came : Int32) (k_depth : Int32) (k_isSilent : Int32) (k_x : Int64) (k_packed : (Nat → Int32)) (k_hits : Int32) (k_rues : Int32) (k_soonest : Int32) (k_inAll : (Nat → Int32)) (k_o' : Int32) (k_isSilent' : Int32) (hf : X10_comesBack F k_o k_isSilent = some (k_o', k_isSilent')) : CtrW l D (tyL cI cZ cL cW) nestW yX10_comesBack cX10_comesBack 1 none rm_X10_comesBack [.ref a0] (MX10 cI cZ cL cW a0 a1 a2 a3 a4 a5 a6 k_thrown k_w k_o k_isKept k_went k_wentMany k_waiting k_came k_depth k_isSilent k_x k_packed k_hits k_rues k_soonest k_inAll) (MX10 cI cZ cL cW a0 a1 a2 a3 a4 a5 a6 k_thrown k_w (k_o') k_isKept k_went k_wentMany k_waiting k_came k_depth (k_isSilent') k_x k_packed k_hits k_rues k_soonest k_inAll) none := by
  refine ofA RX10 (by decide) rfl (Nat.le_of_ble_eq_true rfl) ?_
  intro p e s m below meth c ls A C hr hlk hE hA hP hD hS hl
  generalize (List.toArray ([.ref a0] : List Value)) = args at C ⊢
  obtain ⟨hx, hb, hml, hown, ht⟩ := id C
  have hl : lv_has ls 1 [(0, .ref a0)] := hl
  refine lv_aload_n hx hb dX10_comesBack_0 rfl (lv_at hl 0 rfl) ?_
  refine lv_iconst (v := 0) hx hb dX10_comesBack_1 (by decide) ?_
  refine pf_X10 (v := .int 0) C hE hP hD hS 0 2 rfl (by decide) qF_X10_41 rfl rfl rfl (Nat.le_of_ble_eq_true rfl) dX10_comesBack_2 (fun H locs (hP : va_P D vwCl (MX10 cI cZ cL cW a0 a1 a2 a3 a4 a5 a6 k_thrown k_w 0 k_isKept k_went k_wentMany k_waiting k_came k_depth k_isSilent k_x k_packed k_hits k_rues k_soonest k_inAll) H) (hD : va_D A (MX10 cI cZ cL cW a0 a1 a2 a3 a4 a5 a6 k_thrown k_w 0 k_isKept k_went k_wentMany k_waiting k_came k_depth k_isSilent k_x k_packed k_hits k_rues k_soonest k_inAll)) hS => ?_)
  refine lv_aload_n hx hb dX10_comesBack_5 rfl (lv_at hl 0 rfl) ?_
  refine lv_iconst (v := 0) hx hb dX10_comesBack_6 (by decide) ?_
  refine pf_X10 (v := .int 0) C hE hP hD hS 0 9 rfl (by decide) qF_X10_105 rfl (by decide) (by decide) (Nat.le_of_ble_eq_true rfl) dX10_comesBack_7 (fun H locs (hP : va_P D vwCl (MX10 cI cZ cL cW a0 a1 a2 a3 a4 a5 a6 k_thrown k_w 0 k_isKept k_went k_wentMany k_waiting k_came k_depth 0 k_x k_packed k_hits k_rues k_soonest k_inAll) H) (hD : va_D A (MX10 cI cZ cL cW a0 a1 a2 a3 a4 a5 a6 k_thrown k_w 0 k_isKept k_went k_wentMany k_waiting k_came k_depth 0 k_x k_packed k_hits k_rues k_soonest k_inAll)) hS => ?_)
  cases hf
  exact rw_v C hr hlk hP hD hS dX10_comesBack_10
def X10_makesRoom_L4 (F : Nat) : Nat → Int32 → (Nat → Int32) → Int32 → (Nat → Int32) → Int32 → (Nat → Int32) → Int32 → Int32 → Int32 → Option ((Nat → Int32) × (Nat → Int32) × Int32 × (Nat → Int32) × Int32)
  | 0, _, _, _, _, _, _, _, _, _ => none
  | n + 1, v1, k_w, k_o, k_went, k_wentMany, k_waiting, k_came, k_depth, k_isSilent => if ((k_o + 0) : Int32) < 0 ∨ 3392 ≤ (Int32.toNatClampNeg (k_o + 0)) then none else (if ((k_w (Int32.toNatClampNeg (k_o + 0))) : Int32) = 60 then ((X10_evicts F (-1) k_w k_o k_went k_wentMany k_waiting k_came k_depth k_isSilent).bind fun (r6, k_w_7, k_went_8, k_wentMany_9, k_waiting_10, k_came_11) => (X10_makesRoom_L4 F n v1 k_w_7 k_o k_went_8 k_wentMany_9 k_waiting_10 k_came_11 k_depth k_isSilent)) else (some (k_w, k_went, k_wentMany, k_waiting, k_came)))
def X10_makesRoom_L29 (F : Nat) : Nat → Int32 → (Nat → Int32) → Int32 → (Nat → Int32) → Int32 → (Nat → Int32) → Int32 → Int32 → Int32 → Option ((Nat → Int32) × (Nat → Int32) × Int32 × (Nat → Int32) × Int32)
  | 0, _, _, _, _, _, _, _, _, _ => none
  | n + 1, v1, k_w, k_o, k_went, k_wentMany, k_waiting, k_came, k_depth, k_isSilent => (X10_load F k_w k_o).bind fun r21 => (if ((k_o + 1) : Int32) < 0 ∨ 3392 ≤ (Int32.toNatClampNeg (k_o + 1)) then none else (if ((r21 + v1) : Int32) ≤ (k_w (Int32.toNatClampNeg (k_o + 1))) then (some (k_w, k_went, k_wentMany, k_waiting, k_came)) else ((X10_evicts F (-1) k_w k_o k_went k_wentMany k_waiting k_came k_depth k_isSilent).bind fun (r23, k_w_24, k_went_25, k_wentMany_26, k_waiting_27, k_came_28) => (X10_makesRoom_L29 F n v1 k_w_24 k_o k_went_25 k_wentMany_26 k_waiting_27 k_came_28 k_depth k_isSilent))))
def X10_makesRoom (F : Nat) (p1 : Int32) (k_w : (Nat → Int32)) (k_o : Int32) (k_went : (Nat → Int32)) (k_wentMany : Int32) (k_waiting : (Nat → Int32)) (k_came : Int32) (k_depth : Int32) (k_isSilent : Int32) : Option ((Nat → Int32) × Int32 × (Nat → Int32) × Int32 × (Nat → Int32) × Int32 × Int32) := (X10_toPaper F k_w k_o k_wentMany k_isSilent).bind fun (k_w_1, k_o_2, k_wentMany_3, k_isSilent_4) => ((X10_makesRoom_L4 F F p1 k_w_1 k_o_2 k_went k_wentMany_3 k_waiting k_came k_depth k_isSilent_4).bind fun (k15, k16, k17, k18, k19) => ((X10_makesRoom_L29 F F p1 k15 k_o_2 k16 k17 k18 k19 k_depth k_isSilent_4).bind fun (k32, k33, k34, k35, k36) => ((X10_comesBack F k_o_2 k_isSilent_4).bind fun (k_o_38, k_isSilent_39) => (some (k32, k_o_38, k33, k34, k35, k36, k_isSilent_39)))))
abbrev rm_X10_makesRoom : Room := { frames := 6, cells := 0, slots := 0, locals := 139 }
theorem ok_X10_makesRoom : OKV RX10 yX10_makesRoom cX10_makesRoom 2 none 1 := ⟨by decide +kernel, qV_X10_makesRoom, qL_X10_makesRoom, qI_X10, qD_X10_makesRoom⟩
set_option maxHeartbeats 4000000 in
set_option maxRecDepth 100000 in
theorem c_X10_makesRoom (l : Launch) (D : va_G) (cI cZ cL cW : ClassId) (F : Nat) (a0 : Nat) (a1 : Nat) (a2 : Nat) (a3 : Nat) (a4 : Nat) (a5 : Nat) (a6 : Nat) (k_thrown : Int32) (k_w : (Nat → Int32)) (k_o : Int32) (k_isKept : (Nat → Int32)) (k_went : (Nat → Int32)) (k_wentMany : Int32) (k_waiting : (Nat → Int32)) (k_came : Int32) (k_depth : Int32) (k_isSilent : Int32) (k_x : Int64) (k_packed : (Nat → Int32)) (k_hits : Int32) (k_rues : Int32) (k_soonest : Int32) (k_inAll : (Nat → Int32)) (p1 : Int32) (k_w' : (Nat → Int32)) (k_o' : Int32) (k_went' : (Nat → Int32)) (k_wentMany' : Int32) (k_waiting' : (Nat → Int32)) (k_came' : Int32) (k_isSilent' : Int32) (hf : X10_makesRoom F p1 k_w k_o k_went k_wentMany k_waiting k_came k_depth k_isSilent = some (k_w', k_o', k_went', k_wentMany', k_waiting', k_came', k_isSilent')) : CtrW l D (tyL cI cZ cL cW) nestW yX10_makesRoom cX10_makesRoom 2 none rm_X10_makesRoom [.ref a0, .int p1] (MX10 cI cZ cL cW a0 a1 a2 a3 a4 a5 a6 k_thrown k_w k_o k_isKept k_went k_wentMany k_waiting k_came k_depth k_isSilent k_x k_packed k_hits k_rues k_soonest k_inAll) (MX10 cI cZ cL cW a0 a1 a2 a3 a4 a5 a6 k_thrown (k_w') (k_o') k_isKept (k_went') (k_wentMany') (k_waiting') (k_came') k_depth (k_isSilent') k_x k_packed k_hits k_rues k_soonest k_inAll) none := by
  refine ofA RX10 (by decide) rfl (Nat.le_of_ble_eq_true rfl) ?_
  intro p e s m below meth c ls A C hr hlk hE hA hP hD hS hl
  generalize (List.toArray ([.ref a0, .int p1] : List Value)) = args at C ⊢
  obtain ⟨hx, hb, hml, hown, ht⟩ := id C
  have hl : lv_has ls 2 [(0, .ref a0), (1, .int p1)] := hl
  have L4 : ∀ (Q : State → Prop) (n : Nat) (v1 : Int32) (k_thrown : Int32) (k_w : (Nat → Int32)) (k_o : Int32) (k_isKept : (Nat → Int32)) (k_went : (Nat → Int32)) (k_wentMany : Int32) (k_waiting : (Nat → Int32)) (k_came : Int32) (k_depth : Int32) (k_isSilent : Int32) (k_x : Int64) (k_packed : (Nat → Int32)) (k_hits : Int32) (k_rues : Int32) (k_soonest : Int32) (k_inAll : (Nat → Int32)) (k_w' : (Nat → Int32)) (k_went' : (Nat → Int32)) (k_wentMany' : Int32) (k_waiting' : (Nat → Int32)) (k_came' : Int32) (H : Heap) (locs : List Loc) (ls : Array Slot), X10_makesRoom_L4 F n v1 k_w k_o k_went k_wentMany k_waiting k_came k_depth k_isSilent = some (k_w', k_went', k_wentMany', k_waiting', k_came') → va_P D vwCl (MX10 cI cZ cL cW a0 a1 a2 a3 a4 a5 a6 k_thrown k_w k_o k_isKept k_went k_wentMany k_waiting k_came k_depth k_isSilent k_x k_packed k_hits k_rues k_soonest k_inAll) H → va_D A (MX10 cI cZ cL cW a0 a1 a2 a3 a4 a5 a6 k_thrown k_w k_o k_isKept k_went k_wentMany k_waiting k_came k_depth k_isSilent k_x k_packed k_hits k_rues k_soonest k_inAll) → va_S A s.heap H locs → lv_has ls 2 [(0, .ref a0), (1, .int v1)] → (∀ (H : Heap) (locs : List Loc) (ls : Array Slot), va_P D vwCl (MX10 cI cZ cL cW a0 a1 a2 a3 a4 a5 a6 k_thrown (k_w') k_o k_isKept (k_went') (k_wentMany') (k_waiting') (k_came') k_depth k_isSilent k_x k_packed k_hits k_rues k_soonest k_inAll) H → va_D A (MX10 cI cZ cL cW a0 a1 a2 a3 a4 a5 a6 k_thrown (k_w') k_o k_isKept (k_went') (k_wentMany') (k_waiting') (k_came') k_depth k_isSilent k_x k_packed k_hits k_rues k_soonest k_inAll) → va_S A s.heap H locs → lv_has ls 2 [(0, .ref a0), (1, .int v1)] → W p l e rm_X10_makesRoom s m args below meth c H locs 0 0 Q (F0 m 29 ls [])) → W p l e rm_X10_makesRoom s m args below meth c H locs 0 0 Q (F0 m 4 ls []) := by
    intro Q n
    induction n with
    | zero => intro v1 k_thrown k_w k_o k_isKept k_went k_wentMany k_waiting k_came k_depth k_isSilent k_x k_packed k_hits k_rues k_soonest k_inAll k_w' k_went' k_wentMany' k_waiting' k_came' H locs ls hf hP hD hS hl hk; exact nn_s hf
    | succ n ih =>
      intro v1 k_thrown k_w k_o k_isKept k_went k_wentMany k_waiting k_came k_depth k_isSilent k_x k_packed k_hits k_rues k_soonest k_inAll k_w' k_went' k_wentMany' k_waiting' k_came' H locs ls hf hP hD hS hl hk
      refine lv_aload_n hx hb dX10_makesRoom_4 rfl (lv_at hl 0 rfl) ?_
      refine gf_X10 (v := .ref a1) C hE hP 0 1 rfl (by decide) qF_X10_17 rfl dX10_makesRoom_5 ?_
      refine lv_aload_n hx hb dX10_makesRoom_8 rfl (lv_at hl 0 rfl) ?_
      refine gf_X10 (v := .int k_o) C hE hP 0 2 rfl (by decide) qF_X10_41 rfl dX10_makesRoom_9 ?_
      refine lv_iconst (v := 0) hx hb dX10_makesRoom_12 (by decide) ?_
      refine lv_iadd hx hb dX10_makesRoom_13 ?_
      obtain ⟨g14, hf⟩ := it_g hf
      refine va_iald hx hb hE.1 hP 1 0 rfl rfl g14 dX10_makesRoom_14 ?_
      refine lv_bipush (v := 60) hx hb dX10_makesRoom_15 (by decide) ?_
      refine lv_icmp_ne (tgt := 29) hx hb dX10_makesRoom_17 (by decide) (fun c13 => ?_) (fun c13 => ?_)
      · have hf := it_n hf c13
        cases hf
        exact hk _ _ ls hP hD hS (lv_sub hl [0, 1] rfl)
      · have hf := it_p hf c13
        refine lv_aload_n hx hb dX10_makesRoom_20 rfl (lv_at hl 0 rfl) ?_
        refine lv_iconst (v := (-1)) hx hb dX10_makesRoom_21 (by decide) ?_
        obtain ⟨⟨r6, k_w_7, k_went_8, k_wentMany_9, k_waiting_10, k_came_11⟩, h12, hf⟩ := bd_s hf
        refine iv_A (rest := []) (st1 := [.int r6]) C hE hP hD hS hA (c_X10_evicts l D cI cZ cL cW F a0 a1 a2 a3 a4 a5 a6 k_thrown k_w k_o k_isKept k_went k_wentMany k_waiting k_came k_depth k_isSilent k_x k_packed k_hits k_rues k_soonest k_inAll (-1) r6 k_w_7 k_went_8 k_wentMany_9 k_waiting_10 k_came_11 h12) ok_X10_evicts qM_X10_173 rfl rfl ⟨(Nat.le_of_ble_eq_true rfl), (Nat.le_of_ble_eq_true rfl)⟩ rfl rfl hl.1 (Nat.le_of_ble_eq_true rfl) ⟨Nat.zero_le _, Nat.zero_le _⟩ dX10_makesRoom_22 rfl rfl (fun H locs (hP : va_P D vwCl (MX10 cI cZ cL cW a0 a1 a2 a3 a4 a5 a6 k_thrown k_w_7 k_o k_isKept k_went_8 k_wentMany_9 k_waiting_10 k_came_11 k_depth k_isSilent k_x k_packed k_hits k_rues k_soonest k_inAll) H) (hD : va_D A (MX10 cI cZ cL cW a0 a1 a2 a3 a4 a5 a6 k_thrown k_w_7 k_o k_isKept k_went_8 k_wentMany_9 k_waiting_10 k_came_11 k_depth k_isSilent k_x k_packed k_hits k_rues k_soonest k_inAll)) hS => ?_)
        refine lv_pop hx hb dX10_makesRoom_25 rfl ?_
        refine lv_goto (tgt := 4) hx hb dX10_makesRoom_26 (by decide) ?_
        exact ih v1 k_thrown k_w_7 k_o k_isKept k_went_8 k_wentMany_9 k_waiting_10 k_came_11 k_depth k_isSilent k_x k_packed k_hits k_rues k_soonest k_inAll _ _ _ _ _ _ _ ls hf hP hD hS (lv_sub hl [0, 1] rfl) hk
  have L29 : ∀ (Q : State → Prop) (n : Nat) (v1 : Int32) (k_thrown : Int32) (k_w : (Nat → Int32)) (k_o : Int32) (k_isKept : (Nat → Int32)) (k_went : (Nat → Int32)) (k_wentMany : Int32) (k_waiting : (Nat → Int32)) (k_came : Int32) (k_depth : Int32) (k_isSilent : Int32) (k_x : Int64) (k_packed : (Nat → Int32)) (k_hits : Int32) (k_rues : Int32) (k_soonest : Int32) (k_inAll : (Nat → Int32)) (k_w' : (Nat → Int32)) (k_went' : (Nat → Int32)) (k_wentMany' : Int32) (k_waiting' : (Nat → Int32)) (k_came' : Int32) (H : Heap) (locs : List Loc) (ls : Array Slot), X10_makesRoom_L29 F n v1 k_w k_o k_went k_wentMany k_waiting k_came k_depth k_isSilent = some (k_w', k_went', k_wentMany', k_waiting', k_came') → va_P D vwCl (MX10 cI cZ cL cW a0 a1 a2 a3 a4 a5 a6 k_thrown k_w k_o k_isKept k_went k_wentMany k_waiting k_came k_depth k_isSilent k_x k_packed k_hits k_rues k_soonest k_inAll) H → va_D A (MX10 cI cZ cL cW a0 a1 a2 a3 a4 a5 a6 k_thrown k_w k_o k_isKept k_went k_wentMany k_waiting k_came k_depth k_isSilent k_x k_packed k_hits k_rues k_soonest k_inAll) → va_S A s.heap H locs → lv_has ls 2 [(0, .ref a0), (1, .int v1)] → (∀ (H : Heap) (locs : List Loc) (ls : Array Slot), va_P D vwCl (MX10 cI cZ cL cW a0 a1 a2 a3 a4 a5 a6 k_thrown (k_w') k_o k_isKept (k_went') (k_wentMany') (k_waiting') (k_came') k_depth k_isSilent k_x k_packed k_hits k_rues k_soonest k_inAll) H → va_D A (MX10 cI cZ cL cW a0 a1 a2 a3 a4 a5 a6 k_thrown (k_w') k_o k_isKept (k_went') (k_wentMany') (k_waiting') (k_came') k_depth k_isSilent k_x k_packed k_hits k_rues k_soonest k_inAll) → va_S A s.heap H locs → lv_has ls 2 [(0, .ref a0)] → W p l e rm_X10_makesRoom s m args below meth c H locs 0 0 Q (F0 m 58 ls [])) → W p l e rm_X10_makesRoom s m args below meth c H locs 0 0 Q (F0 m 29 ls []) := by
    intro Q n
    induction n with
    | zero => intro v1 k_thrown k_w k_o k_isKept k_went k_wentMany k_waiting k_came k_depth k_isSilent k_x k_packed k_hits k_rues k_soonest k_inAll k_w' k_went' k_wentMany' k_waiting' k_came' H locs ls hf hP hD hS hl hk; exact nn_s hf
    | succ n ih =>
      intro v1 k_thrown k_w k_o k_isKept k_went k_wentMany k_waiting k_came k_depth k_isSilent k_x k_packed k_hits k_rues k_soonest k_inAll k_w' k_went' k_wentMany' k_waiting' k_came' H locs ls hf hP hD hS hl hk
      refine lv_aload_n hx hb dX10_makesRoom_29 rfl (lv_at hl 0 rfl) ?_
      obtain ⟨r21, h22, hf⟩ := bd_s hf
      refine iv_R (rest := []) (st1 := [.int r21]) C hE hP (c_X10_load l D cI cZ cL cW F a0 a1 a2 a3 a4 a5 a6 k_thrown k_w k_o k_isKept k_went k_wentMany k_waiting k_came k_depth k_isSilent k_x k_packed k_hits k_rues k_soonest k_inAll  r21  h22) ok_X10_load qM_X10_179 rfl rfl ⟨(Nat.le_of_ble_eq_true rfl), (Nat.le_of_ble_eq_true rfl)⟩ rfl rfl hl.1 (Nat.le_of_ble_eq_true rfl) ⟨Nat.zero_le _, Nat.zero_le _⟩ dX10_makesRoom_30 rfl rfl ?_
      refine lv_iload_n hx hb dX10_makesRoom_33 rfl (lv_at hl 1 rfl) ?_
      refine lv_iadd hx hb dX10_makesRoom_34 ?_
      refine lv_aload_n hx hb dX10_makesRoom_35 rfl (lv_at hl 0 rfl) ?_
      refine gf_X10 (v := .ref a1) C hE hP 0 1 rfl (by decide) qF_X10_17 rfl dX10_makesRoom_36 ?_
      refine lv_aload_n hx hb dX10_makesRoom_39 rfl (lv_at hl 0 rfl) ?_
      refine gf_X10 (v := .int k_o) C hE hP 0 2 rfl (by decide) qF_X10_41 rfl dX10_makesRoom_40 ?_
      refine lv_iconst (v := 1) hx hb dX10_makesRoom_43 (by decide) ?_
      refine lv_iadd hx hb dX10_makesRoom_44 ?_
      obtain ⟨g31, hf⟩ := it_g hf
      refine va_iald hx hb hE.1 hP 1 0 rfl rfl g31 dX10_makesRoom_45 ?_
      refine lv_icmp_le (tgt := 58) hx hb dX10_makesRoom_46 (by decide) (fun c30 => ?_) (fun c30 => ?_)
      · have hf := it_p hf c30
        cases hf
        exact hk _ _ ls hP hD hS (lv_sub hl [0] rfl)
      · have hf := it_n hf c30
        refine lv_aload_n hx hb dX10_makesRoom_49 rfl (lv_at hl 0 rfl) ?_
        refine lv_iconst (v := (-1)) hx hb dX10_makesRoom_50 (by decide) ?_
        obtain ⟨⟨r23, k_w_24, k_went_25, k_wentMany_26, k_waiting_27, k_came_28⟩, h29, hf⟩ := bd_s hf
        refine iv_A (rest := []) (st1 := [.int r23]) C hE hP hD hS hA (c_X10_evicts l D cI cZ cL cW F a0 a1 a2 a3 a4 a5 a6 k_thrown k_w k_o k_isKept k_went k_wentMany k_waiting k_came k_depth k_isSilent k_x k_packed k_hits k_rues k_soonest k_inAll (-1) r23 k_w_24 k_went_25 k_wentMany_26 k_waiting_27 k_came_28 h29) ok_X10_evicts qM_X10_173 rfl rfl ⟨(Nat.le_of_ble_eq_true rfl), (Nat.le_of_ble_eq_true rfl)⟩ rfl rfl hl.1 (Nat.le_of_ble_eq_true rfl) ⟨Nat.zero_le _, Nat.zero_le _⟩ dX10_makesRoom_51 rfl rfl (fun H locs (hP : va_P D vwCl (MX10 cI cZ cL cW a0 a1 a2 a3 a4 a5 a6 k_thrown k_w_24 k_o k_isKept k_went_25 k_wentMany_26 k_waiting_27 k_came_28 k_depth k_isSilent k_x k_packed k_hits k_rues k_soonest k_inAll) H) (hD : va_D A (MX10 cI cZ cL cW a0 a1 a2 a3 a4 a5 a6 k_thrown k_w_24 k_o k_isKept k_went_25 k_wentMany_26 k_waiting_27 k_came_28 k_depth k_isSilent k_x k_packed k_hits k_rues k_soonest k_inAll)) hS => ?_)
        refine lv_pop hx hb dX10_makesRoom_54 rfl ?_
        refine lv_goto (tgt := 29) hx hb dX10_makesRoom_55 (by decide) ?_
        exact ih v1 k_thrown k_w_24 k_o k_isKept k_went_25 k_wentMany_26 k_waiting_27 k_came_28 k_depth k_isSilent k_x k_packed k_hits k_rues k_soonest k_inAll _ _ _ _ _ _ _ ls hf hP hD hS (lv_sub hl [0, 1] rfl) hk
  refine lv_aload_n hx hb dX10_makesRoom_0 rfl (lv_at hl 0 rfl) ?_
  obtain ⟨⟨k_w_1, k_o_2, k_wentMany_3, k_isSilent_4⟩, h5, hf⟩ := bd_s hf
  refine iv_A (rest := []) (st1 := []) C hE hP hD hS hA (c_X10_toPaper l D cI cZ cL cW F a0 a1 a2 a3 a4 a5 a6 k_thrown k_w k_o k_isKept k_went k_wentMany k_waiting k_came k_depth k_isSilent k_x k_packed k_hits k_rues k_soonest k_inAll   k_w_1 k_o_2 k_wentMany_3 k_isSilent_4 h5) ok_X10_toPaper qM_X10_265 rfl rfl ⟨(Nat.le_of_ble_eq_true rfl), (Nat.le_of_ble_eq_true rfl)⟩ rfl rfl hl.1 (Nat.le_of_ble_eq_true rfl) ⟨Nat.zero_le _, Nat.zero_le _⟩ dX10_makesRoom_1 rfl rfl (fun H locs (hP : va_P D vwCl (MX10 cI cZ cL cW a0 a1 a2 a3 a4 a5 a6 k_thrown k_w_1 k_o_2 k_isKept k_went k_wentMany_3 k_waiting k_came k_depth k_isSilent_4 k_x k_packed k_hits k_rues k_soonest k_inAll) H) (hD : va_D A (MX10 cI cZ cL cW a0 a1 a2 a3 a4 a5 a6 k_thrown k_w_1 k_o_2 k_isKept k_went k_wentMany_3 k_waiting k_came k_depth k_isSilent_4 k_x k_packed k_hits k_rues k_soonest k_inAll)) hS => ?_)
  obtain ⟨⟨k15, k16, k17, k18, k19⟩, h20, hf⟩ := bd_s hf
  refine L4 _ F p1 k_thrown k_w_1 k_o_2 k_isKept k_went k_wentMany_3 k_waiting k_came k_depth k_isSilent_4 k_x k_packed k_hits k_rues k_soonest k_inAll k15 k16 k17 k18 k19 _ _ ls h20 hP hD hS (lv_sub hl [0, 1] rfl) (fun H locs ls hP hD hS hl => ?_)
  obtain ⟨⟨k32, k33, k34, k35, k36⟩, h37, hf⟩ := bd_s hf
  refine L29 _ F p1 k_thrown k15 k_o_2 k_isKept k16 k17 k18 k19 k_depth k_isSilent_4 k_x k_packed k_hits k_rues k_soonest k_inAll k32 k33 k34 k35 k36 _ _ ls h37 hP hD hS (lv_sub hl [0, 1] rfl) (fun H locs ls hP hD hS hl => ?_)
  refine lv_aload_n hx hb dX10_makesRoom_58 rfl (lv_at hl 0 rfl) ?_
  obtain ⟨⟨k_o_38, k_isSilent_39⟩, h40, hf⟩ := bd_s hf
  refine iv_A (rest := []) (st1 := []) C hE hP hD hS hA (c_X10_comesBack l D cI cZ cL cW F a0 a1 a2 a3 a4 a5 a6 k_thrown k32 k_o_2 k_isKept k33 k34 k35 k36 k_depth k_isSilent_4 k_x k_packed k_hits k_rues k_soonest k_inAll   k_o_38 k_isSilent_39 h40) ok_X10_comesBack qM_X10_268 rfl rfl ⟨(Nat.le_of_ble_eq_true rfl), (Nat.le_of_ble_eq_true rfl)⟩ rfl rfl hl.1 (Nat.le_of_ble_eq_true rfl) ⟨Nat.zero_le _, Nat.zero_le _⟩ dX10_makesRoom_59 rfl rfl (fun H locs (hP : va_P D vwCl (MX10 cI cZ cL cW a0 a1 a2 a3 a4 a5 a6 k_thrown k32 k_o_38 k_isKept k33 k34 k35 k36 k_depth k_isSilent_39 k_x k_packed k_hits k_rues k_soonest k_inAll) H) (hD : va_D A (MX10 cI cZ cL cW a0 a1 a2 a3 a4 a5 a6 k_thrown k32 k_o_38 k_isKept k33 k34 k35 k36 k_depth k_isSilent_39 k_x k_packed k_hits k_rues k_soonest k_inAll)) hS => ?_)
  cases hf
  exact rw_v C hr hlk hP hD hS dX10_makesRoom_62
def X10_victims (F : Nat) (p1 : Int32) (p2 : Int32) (k_thrown : Int32) (k_w : (Nat → Int32)) (k_o : Int32) (k_went : (Nat → Int32)) (k_wentMany : Int32) (k_waiting : (Nat → Int32)) (k_came : Int32) (k_depth : Int32) (k_isSilent : Int32) : Option (Int32 × Int32 × (Nat → Int32) × Int32 × (Nat → Int32) × Int32 × (Nat → Int32) × Int32 × Int32) := (X10_isIn F p1.toInt64 1 99).bind fun r1 => (if (r1 : Int32) = 0 then (some ((-1), 0, k_w, k_o, k_went, k_wentMany, k_waiting, k_came, k_isSilent)) else (if (p2 : Int32) < (-1) then (some ((-1), 0, k_w, k_o, k_went, k_wentMany, k_waiting, k_came, k_isSilent)) else ((X10_isRejected F (-1) p1 k_w k_o).bind fun r3 => (if (r3 : Int32) = 0 then ((X10_makesRoom F p1 k_w k_o k_went k_wentMany k_waiting k_came k_depth k_isSilent).bind fun (k_w_5, k_o_6, k_went_7, k_wentMany_8, k_waiting_9, k_came_10, k_isSilent_11) => (if (p2 : Int32) = (-1) then (some (k_wentMany_8, 0, k_w_5, k_o_6, k_went_7, k_wentMany_8, k_waiting_9, k_came_10, k_isSilent_11)) else (if (k_wentMany_8 : Int32) ≤ p2 then (some ((-1), 0, k_w_5, k_o_6, k_went_7, k_wentMany_8, k_waiting_9, k_came_10, k_isSilent_11)) else (if (p2 : Int32) < 0 ∨ 128 ≤ (Int32.toNatClampNeg p2) then none else (some ((k_went_7 (Int32.toNatClampNeg p2)), 0, k_w_5, k_o_6, k_went_7, k_wentMany_8, k_waiting_9, k_came_10, k_isSilent_11)))))) else (some ((-1), 0, k_w, k_o, k_went, k_wentMany, k_waiting, k_came, k_isSilent))))))
abbrev rm_X10_victims : Room := { frames := 7, cells := 0, slots := 0, locals := 160 }
theorem ok_X10_victims : OKV RX10 yX10_victims cX10_victims 3 (some .int) 2 := ⟨by decide +kernel, qV_X10_victims, qL_X10_victims, qI_X10, qD_X10_victims⟩
set_option maxHeartbeats 4000000 in
set_option maxRecDepth 100000 in
theorem c_X10_victims (l : Launch) (D : va_G) (cI cZ cL cW : ClassId) (F : Nat) (a0 : Nat) (a1 : Nat) (a2 : Nat) (a3 : Nat) (a4 : Nat) (a5 : Nat) (a6 : Nat) (k_thrown : Int32) (k_w : (Nat → Int32)) (k_o : Int32) (k_isKept : (Nat → Int32)) (k_went : (Nat → Int32)) (k_wentMany : Int32) (k_waiting : (Nat → Int32)) (k_came : Int32) (k_depth : Int32) (k_isSilent : Int32) (k_x : Int64) (k_packed : (Nat → Int32)) (k_hits : Int32) (k_rues : Int32) (k_soonest : Int32) (k_inAll : (Nat → Int32)) (p1 : Int32) (p2 : Int32) (r : Int32) (k_thrown' : Int32) (k_w' : (Nat → Int32)) (k_o' : Int32) (k_went' : (Nat → Int32)) (k_wentMany' : Int32) (k_waiting' : (Nat → Int32)) (k_came' : Int32) (k_isSilent' : Int32) (hf : X10_victims F p1 p2 k_thrown k_w k_o k_went k_wentMany k_waiting k_came k_depth k_isSilent = some (r, k_thrown', k_w', k_o', k_went', k_wentMany', k_waiting', k_came', k_isSilent')) : CtrW l D (tyL cI cZ cL cW) nestW yX10_victims cX10_victims 3 (some .int) rm_X10_victims [.ref a0, .int p1, .int p2] (MX10 cI cZ cL cW a0 a1 a2 a3 a4 a5 a6 k_thrown k_w k_o k_isKept k_went k_wentMany k_waiting k_came k_depth k_isSilent k_x k_packed k_hits k_rues k_soonest k_inAll) (MX10 cI cZ cL cW a0 a1 a2 a3 a4 a5 a6 (k_thrown') (k_w') (k_o') k_isKept (k_went') (k_wentMany') (k_waiting') (k_came') k_depth (k_isSilent') k_x k_packed k_hits k_rues k_soonest k_inAll) (some (.int r)) := by
  refine ofA RX10 (by decide) rfl (Nat.le_of_ble_eq_true rfl) ?_
  intro p e s m below meth c ls A C hr hlk hE hA hP hD hS hl
  generalize (List.toArray ([.ref a0, .int p1, .int p2] : List Value)) = args at C ⊢
  obtain ⟨hx, hb, hml, hown, ht⟩ := id C
  have hl : lv_has ls 3 [(0, .ref a0), (1, .int p1), (2, .int p2)] := hl
  refine lv_aload_n hx hb dX10_victims_0 rfl (lv_at hl 0 rfl) ?_
  refine lv_iconst (v := 0) hx hb dX10_victims_1 (by decide) ?_
  refine pf_X10 (v := .int 0) C hE hP hD hS 0 0 rfl (by decide) qF_X10_1 rfl rfl rfl (Nat.le_of_ble_eq_true rfl) dX10_victims_2 (fun H locs (hP : va_P D vwCl (MX10 cI cZ cL cW a0 a1 a2 a3 a4 a5 a6 0 k_w k_o k_isKept k_went k_wentMany k_waiting k_came k_depth k_isSilent k_x k_packed k_hits k_rues k_soonest k_inAll) H) (hD : va_D A (MX10 cI cZ cL cW a0 a1 a2 a3 a4 a5 a6 0 k_w k_o k_isKept k_went k_wentMany k_waiting k_came k_depth k_isSilent k_x k_packed k_hits k_rues k_soonest k_inAll)) hS => ?_)
  refine lv_iload_n hx hb dX10_victims_5 rfl (lv_at hl 1 rfl) ?_
  refine lv_i2l hx hb dX10_victims_6 rfl ?_
  refine lv_lconst (v := 1) hx hb dX10_victims_7 (by decide) ?_
  refine lv_ldc2 (v := 99) hx hb hown (ht _ qJ_X10_201) dX10_victims_8 ?_
  obtain ⟨r1, h2, hf⟩ := bd_s hf
  refine is_R (rest := []) (st1 := [.int r1]) C hE va_P_nil (c_X10_isIn l D cI cZ cL cW F   p1.toInt64 1 99 r1  h2) ok_X10_isIn qM_X10_49 rfl rfl ⟨(Nat.le_of_ble_eq_true rfl), (Nat.le_of_ble_eq_true rfl)⟩ hl.1 (Nat.le_of_ble_eq_true rfl) ⟨Nat.zero_le _, Nat.zero_le _⟩ dX10_victims_11 rfl rfl ?_
  refine lv_if_eq (tgt := 31) hx hb dX10_victims_14 (by decide) (fun c18 => ?_) (fun c18 => ?_)
  · have hf := it_p hf c18
    refine lv_iconst (v := (-1)) hx hb dX10_victims_31 (by decide) ?_
    cases hf
    exact rw_i C hr hlk hP hD hS dX10_victims_32 rfl
  · have hf := it_n hf c18
    refine lv_iload_n hx hb dX10_victims_17 rfl (lv_at hl 2 rfl) ?_
    refine lv_iconst (v := (-1)) hx hb dX10_victims_18 (by decide) ?_
    refine lv_icmp_lt (tgt := 31) hx hb dX10_victims_19 (by decide) (fun c17 => ?_) (fun c17 => ?_)
    · have hf := it_p hf c17
      refine lv_iconst (v := (-1)) hx hb dX10_victims_31 (by decide) ?_
      cases hf
      exact rw_i C hr hlk hP hD hS dX10_victims_32 rfl
    · have hf := it_n hf c17
      refine lv_aload_n hx hb dX10_victims_22 rfl (lv_at hl 0 rfl) ?_
      refine lv_iconst (v := (-1)) hx hb dX10_victims_23 (by decide) ?_
      refine lv_iload_n hx hb dX10_victims_24 rfl (lv_at hl 1 rfl) ?_
      obtain ⟨r3, h4, hf⟩ := bd_s hf
      refine iv_R (rest := []) (st1 := [.int r3]) C hE hP (c_X10_isRejected l D cI cZ cL cW F a0 a1 a2 a3 a4 a5 a6 0 k_w k_o k_isKept k_went k_wentMany k_waiting k_came k_depth k_isSilent k_x k_packed k_hits k_rues k_soonest k_inAll (-1) p1 r3  h4) ok_X10_isRejected qM_X10_167 rfl rfl ⟨(Nat.le_of_ble_eq_true rfl), (Nat.le_of_ble_eq_true rfl)⟩ rfl rfl hl.1 (Nat.le_of_ble_eq_true rfl) ⟨Nat.zero_le _, Nat.zero_le _⟩ dX10_victims_25 rfl rfl ?_
      refine lv_if_eq (tgt := 33) hx hb dX10_victims_28 (by decide) (fun c16 => ?_) (fun c16 => ?_)
      · have hf := it_p hf c16
        refine lv_aload_n hx hb dX10_victims_33 rfl (lv_at hl 0 rfl) ?_
        refine lv_iload_n hx hb dX10_victims_34 rfl (lv_at hl 1 rfl) ?_
        obtain ⟨⟨k_w_5, k_o_6, k_went_7, k_wentMany_8, k_waiting_9, k_came_10, k_isSilent_11⟩, h12, hf⟩ := bd_s hf
        refine iv_A (rest := []) (st1 := []) C hE hP hD hS hA (c_X10_makesRoom l D cI cZ cL cW F a0 a1 a2 a3 a4 a5 a6 0 k_w k_o k_isKept k_went k_wentMany k_waiting k_came k_depth k_isSilent k_x k_packed k_hits k_rues k_soonest k_inAll p1  k_w_5 k_o_6 k_went_7 k_wentMany_8 k_waiting_9 k_came_10 k_isSilent_11 h12) ok_X10_makesRoom qM_X10_271 rfl rfl ⟨(Nat.le_of_ble_eq_true rfl), (Nat.le_of_ble_eq_true rfl)⟩ rfl rfl hl.1 (Nat.le_of_ble_eq_true rfl) ⟨Nat.zero_le _, Nat.zero_le _⟩ dX10_victims_35 rfl rfl (fun H locs (hP : va_P D vwCl (MX10 cI cZ cL cW a0 a1 a2 a3 a4 a5 a6 0 k_w_5 k_o_6 k_isKept k_went_7 k_wentMany_8 k_waiting_9 k_came_10 k_depth k_isSilent_11 k_x k_packed k_hits k_rues k_soonest k_inAll) H) (hD : va_D A (MX10 cI cZ cL cW a0 a1 a2 a3 a4 a5 a6 0 k_w_5 k_o_6 k_isKept k_went_7 k_wentMany_8 k_waiting_9 k_came_10 k_depth k_isSilent_11 k_x k_packed k_hits k_rues k_soonest k_inAll)) hS => ?_)
        refine lv_iload_n hx hb dX10_victims_38 rfl (lv_at hl 2 rfl) ?_
        refine lv_iconst (v := (-1)) hx hb dX10_victims_39 (by decide) ?_
        refine lv_icmp_ne (tgt := 50) hx hb dX10_victims_40 (by decide) (fun c15 => ?_) (fun c15 => ?_)
        · have hf := it_n hf c15
          refine lv_iload_n hx hb dX10_victims_50 rfl (lv_at hl 2 rfl) ?_
          refine lv_aload_n hx hb dX10_victims_51 rfl (lv_at hl 0 rfl) ?_
          refine gf_X10 (v := .int k_wentMany_8) C hE hP 0 5 rfl (by decide) qF_X10_95 rfl dX10_victims_52 ?_
          refine lv_icmp_ge (tgt := 67) hx hb dX10_victims_55 (by decide) (fun c14 => ?_) (fun c14 => ?_)
          · have hf := it_p hf c14
            refine lv_iconst (v := (-1)) hx hb dX10_victims_67 (by decide) ?_
            cases hf
            exact rw_i C hr hlk hP hD hS dX10_victims_68 rfl
          · have hf := it_n hf c14
            refine lv_aload_n hx hb dX10_victims_58 rfl (lv_at hl 0 rfl) ?_
            refine gf_X10 (v := .ref a3) C hE hP 0 4 rfl (by decide) qF_X10_25 rfl dX10_victims_59 ?_
            refine lv_iload_n hx hb dX10_victims_62 rfl (lv_at hl 2 rfl) ?_
            obtain ⟨g13, hf⟩ := it_g hf
            refine va_iald hx hb hE.1 hP 3 0 rfl rfl g13 dX10_victims_63 ?_
            refine lv_goto (tgt := 68) hx hb dX10_victims_64 (by decide) ?_
            cases hf
            exact rw_i C hr hlk hP hD hS dX10_victims_68 rfl
        · have hf := it_p hf c15
          refine lv_aload_n hx hb dX10_victims_43 rfl (lv_at hl 0 rfl) ?_
          refine gf_X10 (v := .int k_wentMany_8) C hE hP 0 5 rfl (by decide) qF_X10_95 rfl dX10_victims_44 ?_
          refine lv_goto (tgt := 68) hx hb dX10_victims_47 (by decide) ?_
          cases hf
          exact rw_i C hr hlk hP hD hS dX10_victims_68 rfl
      · have hf := it_n hf c16
        refine lv_iconst (v := (-1)) hx hb dX10_victims_31 (by decide) ?_
        cases hf
        exact rw_i C hr hlk hP hD hS dX10_victims_32 rfl
def X10_room (F : Nat) (p1 : Int32) (k_thrown : Int32) (k_w : (Nat → Int32)) (k_o : Int32) : Option (Int32 × Int32) := if (p1 : Int32) = 0 then (if ((k_w (Int32.toNatClampNeg 0)) : Int32) = 60 then ((X10_pinnedMany F k_w k_o).bind fun r11 => (if (r11 : Int32) = 60 then (some (0, 0)) else ((X10_pinned F (-1) k_w k_o).bind fun r13 => ((X10_lesser F 99 ((k_w (Int32.toNatClampNeg 1)) - r13)).bind fun r15 => (some (r15, 0)))))) else ((X10_pinned F (-1) k_w k_o).bind fun r7 => ((X10_lesser F 99 ((k_w (Int32.toNatClampNeg 1)) - r7)).bind fun r9 => (some (r9, 0))))) else (if (p1 : Int32) = 1 then (if ((k_w (Int32.toNatClampNeg 0)) : Int32) = 60 then (some (0, 0)) else ((X10_load F k_w k_o).bind fun r1 => ((X10_lesser F 99 ((k_w (Int32.toNatClampNeg 1)) - r1)).bind fun r3 => (some (r3, 0))))) else (some ((-1), 0)))
abbrev rm_X10_room : Room := { frames := 2, cells := 0, slots := 0, locals := 45 }
theorem ok_X10_room : OKV RX10 yX10_room cX10_room 2 (some .int) 1 := ⟨by decide +kernel, qV_X10_room, qL_X10_room, qI_X10, qD_X10_room⟩
set_option maxHeartbeats 4000000 in
set_option maxRecDepth 100000 in
theorem c_X10_room (l : Launch) (D : va_G) (cI cZ cL cW : ClassId) (F : Nat) (a0 : Nat) (a1 : Nat) (a2 : Nat) (a3 : Nat) (a4 : Nat) (a5 : Nat) (a6 : Nat) (k_thrown : Int32) (k_w : (Nat → Int32)) (k_o : Int32) (k_isKept : (Nat → Int32)) (k_went : (Nat → Int32)) (k_wentMany : Int32) (k_waiting : (Nat → Int32)) (k_came : Int32) (k_depth : Int32) (k_isSilent : Int32) (k_x : Int64) (k_packed : (Nat → Int32)) (k_hits : Int32) (k_rues : Int32) (k_soonest : Int32) (k_inAll : (Nat → Int32)) (p1 : Int32) (r : Int32) (k_thrown' : Int32) (hf : X10_room F p1 k_thrown k_w k_o = some (r, k_thrown')) : CtrW l D (tyL cI cZ cL cW) nestW yX10_room cX10_room 2 (some .int) rm_X10_room [.ref a0, .int p1] (MX10 cI cZ cL cW a0 a1 a2 a3 a4 a5 a6 k_thrown k_w k_o k_isKept k_went k_wentMany k_waiting k_came k_depth k_isSilent k_x k_packed k_hits k_rues k_soonest k_inAll) (MX10 cI cZ cL cW a0 a1 a2 a3 a4 a5 a6 (k_thrown') k_w k_o k_isKept k_went k_wentMany k_waiting k_came k_depth k_isSilent k_x k_packed k_hits k_rues k_soonest k_inAll) (some (.int r)) := by
  refine ofA RX10 (by decide) rfl (Nat.le_of_ble_eq_true rfl) ?_
  intro p e s m below meth c ls A C hr hlk hE hA hP hD hS hl
  generalize (List.toArray ([.ref a0, .int p1] : List Value)) = args at C ⊢
  obtain ⟨hx, hb, hml, hown, ht⟩ := id C
  have hl : lv_has ls 2 [(0, .ref a0), (1, .int p1)] := hl
  refine lv_aload_n hx hb dX10_room_0 rfl (lv_at hl 0 rfl) ?_
  refine lv_iconst (v := 0) hx hb dX10_room_1 (by decide) ?_
  refine pf_X10 (v := .int 0) C hE hP hD hS 0 0 rfl (by decide) qF_X10_1 rfl rfl rfl (Nat.le_of_ble_eq_true rfl) dX10_room_2 (fun H locs (hP : va_P D vwCl (MX10 cI cZ cL cW a0 a1 a2 a3 a4 a5 a6 0 k_w k_o k_isKept k_went k_wentMany k_waiting k_came k_depth k_isSilent k_x k_packed k_hits k_rues k_soonest k_inAll) H) (hD : va_D A (MX10 cI cZ cL cW a0 a1 a2 a3 a4 a5 a6 0 k_w k_o k_isKept k_went k_wentMany k_waiting k_came k_depth k_isSilent k_x k_packed k_hits k_rues k_soonest k_inAll)) hS => ?_)
  refine lv_iload_n hx hb dX10_room_5 rfl (lv_at hl 1 rfl) ?_
  refine lv_if_ne (tgt := 51) hx hb dX10_room_6 (by decide) (fun c19 => ?_) (fun c19 => ?_)
  · have hf := it_n hf c19
    refine lv_iload_n hx hb dX10_room_51 rfl (lv_at hl 1 rfl) ?_
    refine lv_iconst (v := 1) hx hb dX10_room_52 (by decide) ?_
    refine lv_icmp_eq (tgt := 60) hx hb dX10_room_53 (by decide) (fun c6 => ?_) (fun c6 => ?_)
    · have hf := it_p hf c6
      refine lv_aload_n hx hb dX10_room_60 rfl (lv_at hl 0 rfl) ?_
      refine gf_X10 (v := .ref a1) C hE hP 0 1 rfl (by decide) qF_X10_17 rfl dX10_room_61 ?_
      refine lv_iconst (v := 0) hx hb dX10_room_64 (by decide) ?_
      refine va_iald hx hb hE.1 hP 1 0 rfl rfl (vp_l (by decide)) dX10_room_65 ?_
      refine lv_bipush (v := 60) hx hb dX10_room_66 (by decide) ?_
      refine lv_icmp_ne (tgt := 75) hx hb dX10_room_68 (by decide) (fun c5 => ?_) (fun c5 => ?_)
      · have hf := it_n hf c5
        refine lv_bipush (v := 99) hx hb dX10_room_75 (by decide) ?_
        refine lv_aload_n hx hb dX10_room_77 rfl (lv_at hl 0 rfl) ?_
        refine gf_X10 (v := .ref a1) C hE hP 0 1 rfl (by decide) qF_X10_17 rfl dX10_room_78 ?_
        refine lv_iconst (v := 1) hx hb dX10_room_81 (by decide) ?_
        refine va_iald hx hb hE.1 hP 1 0 rfl rfl (vp_l (by decide)) dX10_room_82 ?_
        refine lv_aload_n hx hb dX10_room_83 rfl (lv_at hl 0 rfl) ?_
        obtain ⟨r1, h2, hf⟩ := bd_s hf
        refine iv_R (rest := [.int (k_w (Int32.toNatClampNeg 1)), .int 99]) (st1 := [.int r1, .int (k_w (Int32.toNatClampNeg 1)), .int 99]) C hE hP (c_X10_load l D cI cZ cL cW F a0 a1 a2 a3 a4 a5 a6 0 k_w k_o k_isKept k_went k_wentMany k_waiting k_came k_depth k_isSilent k_x k_packed k_hits k_rues k_soonest k_inAll  r1  h2) ok_X10_load qM_X10_179 rfl rfl ⟨(Nat.le_of_ble_eq_true rfl), (Nat.le_of_ble_eq_true rfl)⟩ rfl rfl hl.1 (Nat.le_of_ble_eq_true rfl) ⟨Nat.zero_le _, Nat.zero_le _⟩ dX10_room_84 rfl rfl ?_
        refine lv_isub hx hb dX10_room_87 ?_
        obtain ⟨r3, h4, hf⟩ := bd_s hf
        refine is_R (rest := []) (st1 := [.int r3]) C hE va_P_nil (c_X10_lesser l D cI cZ cL cW F   99 ((k_w (Int32.toNatClampNeg 1)) - r1) r3  h4) ok_X10_lesser qM_X10_7 rfl rfl ⟨(Nat.le_of_ble_eq_true rfl), (Nat.le_of_ble_eq_true rfl)⟩ hl.1 (Nat.le_of_ble_eq_true rfl) ⟨Nat.zero_le _, Nat.zero_le _⟩ dX10_room_88 rfl rfl ?_
        cases hf
        exact rw_i C hr hlk hP hD hS dX10_room_91 rfl
      · have hf := it_p hf c5
        refine lv_iconst (v := 0) hx hb dX10_room_71 (by decide) ?_
        refine lv_goto (tgt := 91) hx hb dX10_room_72 (by decide) ?_
        cases hf
        exact rw_i C hr hlk hP hD hS dX10_room_91 rfl
    · have hf := it_n hf c6
      refine lv_iconst (v := (-1)) hx hb dX10_room_56 (by decide) ?_
      refine lv_goto (tgt := 91) hx hb dX10_room_57 (by decide) ?_
      cases hf
      exact rw_i C hr hlk hP hD hS dX10_room_91 rfl
  · have hf := it_p hf c19
    refine lv_aload_n hx hb dX10_room_9 rfl (lv_at hl 0 rfl) ?_
    refine gf_X10 (v := .ref a1) C hE hP 0 1 rfl (by decide) qF_X10_17 rfl dX10_room_10 ?_
    refine lv_iconst (v := 0) hx hb dX10_room_13 (by decide) ?_
    refine va_iald hx hb hE.1 hP 1 0 rfl rfl (vp_l (by decide)) dX10_room_14 ?_
    refine lv_bipush (v := 60) hx hb dX10_room_15 (by decide) ?_
    refine lv_icmp_ne (tgt := 33) hx hb dX10_room_17 (by decide) (fun c18 => ?_) (fun c18 => ?_)
    · have hf := it_n hf c18
      refine lv_bipush (v := 99) hx hb dX10_room_33 (by decide) ?_
      refine lv_aload_n hx hb dX10_room_35 rfl (lv_at hl 0 rfl) ?_
      refine gf_X10 (v := .ref a1) C hE hP 0 1 rfl (by decide) qF_X10_17 rfl dX10_room_36 ?_
      refine lv_iconst (v := 1) hx hb dX10_room_39 (by decide) ?_
      refine va_iald hx hb hE.1 hP 1 0 rfl rfl (vp_l (by decide)) dX10_room_40 ?_
      refine lv_aload_n hx hb dX10_room_41 rfl (lv_at hl 0 rfl) ?_
      refine lv_iconst (v := (-1)) hx hb dX10_room_42 (by decide) ?_
      obtain ⟨r7, h8, hf⟩ := bd_s hf
      refine iv_R (rest := [.int (k_w (Int32.toNatClampNeg 1)), .int 99]) (st1 := [.int r7, .int (k_w (Int32.toNatClampNeg 1)), .int 99]) C hE hP (c_X10_pinned l D cI cZ cL cW F a0 a1 a2 a3 a4 a5 a6 0 k_w k_o k_isKept k_went k_wentMany k_waiting k_came k_depth k_isSilent k_x k_packed k_hits k_rues k_soonest k_inAll (-1) r7  h8) ok_X10_pinned qM_X10_127 rfl rfl ⟨(Nat.le_of_ble_eq_true rfl), (Nat.le_of_ble_eq_true rfl)⟩ rfl rfl hl.1 (Nat.le_of_ble_eq_true rfl) ⟨Nat.zero_le _, Nat.zero_le _⟩ dX10_room_43 rfl rfl ?_
      refine lv_isub hx hb dX10_room_46 ?_
      obtain ⟨r9, h10, hf⟩ := bd_s hf
      refine is_R (rest := []) (st1 := [.int r9]) C hE va_P_nil (c_X10_lesser l D cI cZ cL cW F   99 ((k_w (Int32.toNatClampNeg 1)) - r7) r9  h10) ok_X10_lesser qM_X10_7 rfl rfl ⟨(Nat.le_of_ble_eq_true rfl), (Nat.le_of_ble_eq_true rfl)⟩ hl.1 (Nat.le_of_ble_eq_true rfl) ⟨Nat.zero_le _, Nat.zero_le _⟩ dX10_room_47 rfl rfl ?_
      cases hf
      exact rw_i C hr hlk hP hD hS dX10_room_50 rfl
    · have hf := it_p hf c18
      refine lv_aload_n hx hb dX10_room_20 rfl (lv_at hl 0 rfl) ?_
      obtain ⟨r11, h12, hf⟩ := bd_s hf
      refine iv_R (rest := []) (st1 := [.int r11]) C hE hP (c_X10_pinnedMany l D cI cZ cL cW F a0 a1 a2 a3 a4 a5 a6 0 k_w k_o k_isKept k_went k_wentMany k_waiting k_came k_depth k_isSilent k_x k_packed k_hits k_rues k_soonest k_inAll  r11  h12) ok_X10_pinnedMany qM_X10_160 rfl rfl ⟨(Nat.le_of_ble_eq_true rfl), (Nat.le_of_ble_eq_true rfl)⟩ rfl rfl hl.1 (Nat.le_of_ble_eq_true rfl) ⟨Nat.zero_le _, Nat.zero_le _⟩ dX10_room_21 rfl rfl ?_
      refine lv_bipush (v := 60) hx hb dX10_room_24 (by decide) ?_
      refine lv_icmp_ne (tgt := 33) hx hb dX10_room_26 (by decide) (fun c17 => ?_) (fun c17 => ?_)
      · have hf := it_n hf c17
        refine lv_bipush (v := 99) hx hb dX10_room_33 (by decide) ?_
        refine lv_aload_n hx hb dX10_room_35 rfl (lv_at hl 0 rfl) ?_
        refine gf_X10 (v := .ref a1) C hE hP 0 1 rfl (by decide) qF_X10_17 rfl dX10_room_36 ?_
        refine lv_iconst (v := 1) hx hb dX10_room_39 (by decide) ?_
        refine va_iald hx hb hE.1 hP 1 0 rfl rfl (vp_l (by decide)) dX10_room_40 ?_
        refine lv_aload_n hx hb dX10_room_41 rfl (lv_at hl 0 rfl) ?_
        refine lv_iconst (v := (-1)) hx hb dX10_room_42 (by decide) ?_
        obtain ⟨r13, h14, hf⟩ := bd_s hf
        refine iv_R (rest := [.int (k_w (Int32.toNatClampNeg 1)), .int 99]) (st1 := [.int r13, .int (k_w (Int32.toNatClampNeg 1)), .int 99]) C hE hP (c_X10_pinned l D cI cZ cL cW F a0 a1 a2 a3 a4 a5 a6 0 k_w k_o k_isKept k_went k_wentMany k_waiting k_came k_depth k_isSilent k_x k_packed k_hits k_rues k_soonest k_inAll (-1) r13  h14) ok_X10_pinned qM_X10_127 rfl rfl ⟨(Nat.le_of_ble_eq_true rfl), (Nat.le_of_ble_eq_true rfl)⟩ rfl rfl hl.1 (Nat.le_of_ble_eq_true rfl) ⟨Nat.zero_le _, Nat.zero_le _⟩ dX10_room_43 rfl rfl ?_
        refine lv_isub hx hb dX10_room_46 ?_
        obtain ⟨r15, h16, hf⟩ := bd_s hf
        refine is_R (rest := []) (st1 := [.int r15]) C hE va_P_nil (c_X10_lesser l D cI cZ cL cW F   99 ((k_w (Int32.toNatClampNeg 1)) - r13) r15  h16) ok_X10_lesser qM_X10_7 rfl rfl ⟨(Nat.le_of_ble_eq_true rfl), (Nat.le_of_ble_eq_true rfl)⟩ hl.1 (Nat.le_of_ble_eq_true rfl) ⟨Nat.zero_le _, Nat.zero_le _⟩ dX10_room_47 rfl rfl ?_
        cases hf
        exact rw_i C hr hlk hP hD hS dX10_room_50 rfl
      · have hf := it_p hf c17
        refine lv_iconst (v := 0) hx hb dX10_room_29 (by decide) ?_
        refine lv_goto (tgt := 50) hx hb dX10_room_30 (by decide) ?_
        cases hf
        exact rw_i C hr hlk hP hD hS dX10_room_50 rfl
def X10_kept (F : Nat) (p1 : Int32) (p2 : Int32) (k_thrown : Int32) (k_w : (Nat → Int32)) (k_o : Int32) (k_went : (Nat → Int32)) (k_wentMany : Int32) (k_waiting : (Nat → Int32)) (k_came : Int32) (k_depth : Int32) (k_isSilent : Int32) : Option (Int32 × Int32 × (Nat → Int32) × Int32 × (Nat → Int32) × Int32 × (Nat → Int32) × Int32 × Int32) := (X10_isIn F p1.toInt64 0 5000).bind fun r1 => (if (r1 : Int32) = 0 then (some ((-1), 0, k_w, k_o, k_went, k_wentMany, k_waiting, k_came, k_isSilent)) else ((X10_pinned F (-1) k_w k_o).bind fun r3 => (if (p1 : Int32) < r3 then (some ((-1), 0, k_w, k_o, k_went, k_wentMany, k_waiting, k_came, k_isSilent)) else (if ((-1) : Int32) ≤ p2 then ((X10_toPaper F k_w k_o k_wentMany k_isSilent).bind fun (k_w_5, k_o_6, k_wentMany_7, k_isSilent_8) => ((X10_caps F p1 k_w_5 k_o_6 k_went k_wentMany_7 k_waiting k_came k_depth k_isSilent_8).bind fun (r10, k_w_11, k_went_12, k_wentMany_13, k_waiting_14, k_came_15) => (if (p2 : Int32) = (-1) then (if ((k_o_6 + 0) : Int32) < 0 ∨ 3392 ≤ (Int32.toNatClampNeg (k_o_6 + 0)) then none else ((X10_comesBack F k_o_6 k_isSilent_8).bind fun (k_o_27, k_isSilent_28) => (some ((k_w_11 (Int32.toNatClampNeg (k_o_6 + 0))), 0, k_w_11, k_o_27, k_went_12, k_wentMany_13, k_waiting_14, k_came_15, k_isSilent_28)))) else (if ((k_o_6 + 0) : Int32) < 0 ∨ 3392 ≤ (Int32.toNatClampNeg (k_o_6 + 0)) then none else (if ((k_w_11 (Int32.toNatClampNeg (k_o_6 + 0))) : Int32) ≤ p2 then ((X10_comesBack F k_o_6 k_isSilent_8).bind fun (k_o_17, k_isSilent_18) => (some ((-1), 0, k_w_11, k_o_17, k_went_12, k_wentMany_13, k_waiting_14, k_came_15, k_isSilent_18))) else ((X10_keyAt F 0 p2 k_w_11 k_o_6).bind fun r20 => ((X10_comesBack F k_o_6 k_isSilent_8).bind fun (k_o_22, k_isSilent_23) => (some (r20, 0, k_w_11, k_o_22, k_went_12, k_wentMany_13, k_waiting_14, k_came_15, k_isSilent_23))))))))) else (some ((-1), 0, k_w, k_o, k_went, k_wentMany, k_waiting, k_came, k_isSilent))))))
abbrev rm_X10_kept : Room := { frames := 7, cells := 0, slots := 0, locals := 161 }
theorem ok_X10_kept : OKV RX10 yX10_kept cX10_kept 4 (some .int) 2 := ⟨by decide +kernel, qV_X10_kept, qL_X10_kept, qI_X10, qD_X10_kept⟩
set_option maxHeartbeats 4000000 in
set_option maxRecDepth 100000 in
theorem c_X10_kept (l : Launch) (D : va_G) (cI cZ cL cW : ClassId) (F : Nat) (a0 : Nat) (a1 : Nat) (a2 : Nat) (a3 : Nat) (a4 : Nat) (a5 : Nat) (a6 : Nat) (k_thrown : Int32) (k_w : (Nat → Int32)) (k_o : Int32) (k_isKept : (Nat → Int32)) (k_went : (Nat → Int32)) (k_wentMany : Int32) (k_waiting : (Nat → Int32)) (k_came : Int32) (k_depth : Int32) (k_isSilent : Int32) (k_x : Int64) (k_packed : (Nat → Int32)) (k_hits : Int32) (k_rues : Int32) (k_soonest : Int32) (k_inAll : (Nat → Int32)) (p1 : Int32) (p2 : Int32) (r : Int32) (k_thrown' : Int32) (k_w' : (Nat → Int32)) (k_o' : Int32) (k_went' : (Nat → Int32)) (k_wentMany' : Int32) (k_waiting' : (Nat → Int32)) (k_came' : Int32) (k_isSilent' : Int32) (hf : X10_kept F p1 p2 k_thrown k_w k_o k_went k_wentMany k_waiting k_came k_depth k_isSilent = some (r, k_thrown', k_w', k_o', k_went', k_wentMany', k_waiting', k_came', k_isSilent')) : CtrW l D (tyL cI cZ cL cW) nestW yX10_kept cX10_kept 4 (some .int) rm_X10_kept [.ref a0, .int p1, .int p2] (MX10 cI cZ cL cW a0 a1 a2 a3 a4 a5 a6 k_thrown k_w k_o k_isKept k_went k_wentMany k_waiting k_came k_depth k_isSilent k_x k_packed k_hits k_rues k_soonest k_inAll) (MX10 cI cZ cL cW a0 a1 a2 a3 a4 a5 a6 (k_thrown') (k_w') (k_o') k_isKept (k_went') (k_wentMany') (k_waiting') (k_came') k_depth (k_isSilent') k_x k_packed k_hits k_rues k_soonest k_inAll) (some (.int r)) := by
  refine ofA RX10 (by decide) rfl (Nat.le_of_ble_eq_true rfl) ?_
  intro p e s m below meth c ls A C hr hlk hE hA hP hD hS hl
  generalize (List.toArray ([.ref a0, .int p1, .int p2] : List Value)) = args at C ⊢
  obtain ⟨hx, hb, hml, hown, ht⟩ := id C
  have hl : lv_has ls 4 [(0, .ref a0), (1, .int p1), (2, .int p2)] := hl
  refine lv_aload_n hx hb dX10_kept_0 rfl (lv_at hl 0 rfl) ?_
  refine lv_iconst (v := 0) hx hb dX10_kept_1 (by decide) ?_
  refine pf_X10 (v := .int 0) C hE hP hD hS 0 0 rfl (by decide) qF_X10_1 rfl rfl rfl (Nat.le_of_ble_eq_true rfl) dX10_kept_2 (fun H locs (hP : va_P D vwCl (MX10 cI cZ cL cW a0 a1 a2 a3 a4 a5 a6 0 k_w k_o k_isKept k_went k_wentMany k_waiting k_came k_depth k_isSilent k_x k_packed k_hits k_rues k_soonest k_inAll) H) (hD : va_D A (MX10 cI cZ cL cW a0 a1 a2 a3 a4 a5 a6 0 k_w k_o k_isKept k_went k_wentMany k_waiting k_came k_depth k_isSilent k_x k_packed k_hits k_rues k_soonest k_inAll)) hS => ?_)
  refine lv_iload_n hx hb dX10_kept_5 rfl (lv_at hl 1 rfl) ?_
  refine lv_i2l hx hb dX10_kept_6 rfl ?_
  refine lv_lconst (v := 0) hx hb dX10_kept_7 (by decide) ?_
  refine lv_ldc2 (v := 5000) hx hb hown (ht _ qJ_X10_125) dX10_kept_8 ?_
  obtain ⟨r1, h2, hf⟩ := bd_s hf
  refine is_R (rest := []) (st1 := [.int r1]) C hE va_P_nil (c_X10_isIn l D cI cZ cL cW F   p1.toInt64 0 5000 r1  h2) ok_X10_isIn qM_X10_49 rfl rfl ⟨(Nat.le_of_ble_eq_true rfl), (Nat.le_of_ble_eq_true rfl)⟩ hl.1 (Nat.le_of_ble_eq_true rfl) ⟨Nat.zero_le _, Nat.zero_le _⟩ dX10_kept_11 rfl rfl ?_
  refine lv_if_eq (tgt := 31) hx hb dX10_kept_14 (by decide) (fun c34 => ?_) (fun c34 => ?_)
  · have hf := it_p hf c34
    refine lv_iconst (v := (-1)) hx hb dX10_kept_31 (by decide) ?_
    cases hf
    exact rw_i C hr hlk hP hD hS dX10_kept_32 rfl
  · have hf := it_n hf c34
    refine lv_aload_n hx hb dX10_kept_17 rfl (lv_at hl 0 rfl) ?_
    refine lv_iconst (v := (-1)) hx hb dX10_kept_18 (by decide) ?_
    obtain ⟨r3, h4, hf⟩ := bd_s hf
    refine iv_R (rest := []) (st1 := [.int r3]) C hE hP (c_X10_pinned l D cI cZ cL cW F a0 a1 a2 a3 a4 a5 a6 0 k_w k_o k_isKept k_went k_wentMany k_waiting k_came k_depth k_isSilent k_x k_packed k_hits k_rues k_soonest k_inAll (-1) r3  h4) ok_X10_pinned qM_X10_127 rfl rfl ⟨(Nat.le_of_ble_eq_true rfl), (Nat.le_of_ble_eq_true rfl)⟩ rfl rfl hl.1 (Nat.le_of_ble_eq_true rfl) ⟨Nat.zero_le _, Nat.zero_le _⟩ dX10_kept_19 rfl rfl ?_
    refine lv_iload_n hx hb dX10_kept_22 rfl (lv_at hl 1 rfl) ?_
    refine lv_icmp_gt (tgt := 31) hx hb dX10_kept_23 (by decide) (fun c33 => ?_) (fun c33 => ?_)
    · have hf := it_p hf c33
      refine lv_iconst (v := (-1)) hx hb dX10_kept_31 (by decide) ?_
      cases hf
      exact rw_i C hr hlk hP hD hS dX10_kept_32 rfl
    · have hf := it_n hf c33
      refine lv_iload_n hx hb dX10_kept_26 rfl (lv_at hl 2 rfl) ?_
      refine lv_iconst (v := (-1)) hx hb dX10_kept_27 (by decide) ?_
      refine lv_icmp_ge (tgt := 33) hx hb dX10_kept_28 (by decide) (fun c32 => ?_) (fun c32 => ?_)
      · have hf := it_p hf c32
        refine lv_aload_n hx hb dX10_kept_33 rfl (lv_at hl 0 rfl) ?_
        obtain ⟨⟨k_w_5, k_o_6, k_wentMany_7, k_isSilent_8⟩, h9, hf⟩ := bd_s hf
        refine iv_A (rest := []) (st1 := []) C hE hP hD hS hA (c_X10_toPaper l D cI cZ cL cW F a0 a1 a2 a3 a4 a5 a6 0 k_w k_o k_isKept k_went k_wentMany k_waiting k_came k_depth k_isSilent k_x k_packed k_hits k_rues k_soonest k_inAll   k_w_5 k_o_6 k_wentMany_7 k_isSilent_8 h9) ok_X10_toPaper qM_X10_265 rfl rfl ⟨(Nat.le_of_ble_eq_true rfl), (Nat.le_of_ble_eq_true rfl)⟩ rfl rfl hl.1 (Nat.le_of_ble_eq_true rfl) ⟨Nat.zero_le _, Nat.zero_le _⟩ dX10_kept_34 rfl rfl (fun H locs (hP : va_P D vwCl (MX10 cI cZ cL cW a0 a1 a2 a3 a4 a5 a6 0 k_w_5 k_o_6 k_isKept k_went k_wentMany_7 k_waiting k_came k_depth k_isSilent_8 k_x k_packed k_hits k_rues k_soonest k_inAll) H) (hD : va_D A (MX10 cI cZ cL cW a0 a1 a2 a3 a4 a5 a6 0 k_w_5 k_o_6 k_isKept k_went k_wentMany_7 k_waiting k_came k_depth k_isSilent_8 k_x k_packed k_hits k_rues k_soonest k_inAll)) hS => ?_)
        refine lv_aload_n hx hb dX10_kept_37 rfl (lv_at hl 0 rfl) ?_
        refine lv_iload_n hx hb dX10_kept_38 rfl (lv_at hl 1 rfl) ?_
        obtain ⟨⟨r10, k_w_11, k_went_12, k_wentMany_13, k_waiting_14, k_came_15⟩, h16, hf⟩ := bd_s hf
        refine iv_A (rest := []) (st1 := [.int r10]) C hE hP hD hS hA (c_X10_caps l D cI cZ cL cW F a0 a1 a2 a3 a4 a5 a6 0 k_w_5 k_o_6 k_isKept k_went k_wentMany_7 k_waiting k_came k_depth k_isSilent_8 k_x k_packed k_hits k_rues k_soonest k_inAll p1 r10 k_w_11 k_went_12 k_wentMany_13 k_waiting_14 k_came_15 h16) ok_X10_caps qM_X10_130 rfl rfl ⟨(Nat.le_of_ble_eq_true rfl), (Nat.le_of_ble_eq_true rfl)⟩ rfl rfl hl.1 (Nat.le_of_ble_eq_true rfl) ⟨Nat.zero_le _, Nat.zero_le _⟩ dX10_kept_39 rfl rfl (fun H locs (hP : va_P D vwCl (MX10 cI cZ cL cW a0 a1 a2 a3 a4 a5 a6 0 k_w_11 k_o_6 k_isKept k_went_12 k_wentMany_13 k_waiting_14 k_came_15 k_depth k_isSilent_8 k_x k_packed k_hits k_rues k_soonest k_inAll) H) (hD : va_D A (MX10 cI cZ cL cW a0 a1 a2 a3 a4 a5 a6 0 k_w_11 k_o_6 k_isKept k_went_12 k_wentMany_13 k_waiting_14 k_came_15 k_depth k_isSilent_8 k_x k_packed k_hits k_rues k_soonest k_inAll)) hS => ?_)
        refine lv_pop hx hb dX10_kept_42 rfl ?_
        refine lv_iload_n hx hb dX10_kept_43 rfl (lv_at hl 2 rfl) ?_
        refine lv_iconst (v := (-1)) hx hb dX10_kept_44 (by decide) ?_
        refine lv_icmp_ne (tgt := 62) hx hb dX10_kept_45 (by decide) (fun c31 => ?_) (fun c31 => ?_)
        · have hf := it_n hf c31
          refine lv_iload_n hx hb dX10_kept_62 rfl (lv_at hl 2 rfl) ?_
          refine lv_aload_n hx hb dX10_kept_63 rfl (lv_at hl 0 rfl) ?_
          refine gf_X10 (v := .ref a1) C hE hP 0 1 rfl (by decide) qF_X10_17 rfl dX10_kept_64 ?_
          refine lv_aload_n hx hb dX10_kept_67 rfl (lv_at hl 0 rfl) ?_
          refine gf_X10 (v := .int k_o_6) C hE hP 0 2 rfl (by decide) qF_X10_41 rfl dX10_kept_68 ?_
          refine lv_iconst (v := 0) hx hb dX10_kept_71 (by decide) ?_
          refine lv_iadd hx hb dX10_kept_72 ?_
          obtain ⟨g26, hf⟩ := it_g hf
          refine va_iald hx hb hE.1 hP 1 0 rfl rfl g26 dX10_kept_73 ?_
          refine lv_icmp_ge (tgt := 86) hx hb dX10_kept_74 (by decide) (fun c25 => ?_) (fun c25 => ?_)
          · have hf := it_p hf c25
            refine lv_iconst (v := (-1)) hx hb dX10_kept_86 (by decide) ?_
            refine lv_istore_n (lv' := [(3, .int (-1)), (0, .ref a0), (1, .int p1), (2, .int p2)]) hx hb dX10_kept_87 rfl hl (by decide) rfl (fun ls hl => ?_)
            refine lv_aload_n hx hb dX10_kept_88 rfl (lv_at hl 1 rfl) ?_
            obtain ⟨⟨k_o_17, k_isSilent_18⟩, h19, hf⟩ := bd_s hf
            refine iv_A (rest := []) (st1 := []) C hE hP hD hS hA (c_X10_comesBack l D cI cZ cL cW F a0 a1 a2 a3 a4 a5 a6 0 k_w_11 k_o_6 k_isKept k_went_12 k_wentMany_13 k_waiting_14 k_came_15 k_depth k_isSilent_8 k_x k_packed k_hits k_rues k_soonest k_inAll   k_o_17 k_isSilent_18 h19) ok_X10_comesBack qM_X10_268 rfl rfl ⟨(Nat.le_of_ble_eq_true rfl), (Nat.le_of_ble_eq_true rfl)⟩ rfl rfl hl.1 (Nat.le_of_ble_eq_true rfl) ⟨Nat.zero_le _, Nat.zero_le _⟩ dX10_kept_89 rfl rfl (fun H locs (hP : va_P D vwCl (MX10 cI cZ cL cW a0 a1 a2 a3 a4 a5 a6 0 k_w_11 k_o_17 k_isKept k_went_12 k_wentMany_13 k_waiting_14 k_came_15 k_depth k_isSilent_18 k_x k_packed k_hits k_rues k_soonest k_inAll) H) (hD : va_D A (MX10 cI cZ cL cW a0 a1 a2 a3 a4 a5 a6 0 k_w_11 k_o_17 k_isKept k_went_12 k_wentMany_13 k_waiting_14 k_came_15 k_depth k_isSilent_18 k_x k_packed k_hits k_rues k_soonest k_inAll)) hS => ?_)
            refine lv_iload_n hx hb dX10_kept_92 rfl (lv_at hl 0 rfl) ?_
            cases hf
            exact rw_i C hr hlk hP hD hS dX10_kept_93 rfl
          · have hf := it_n hf c25
            refine lv_aload_n hx hb dX10_kept_77 rfl (lv_at hl 0 rfl) ?_
            refine lv_iconst (v := 0) hx hb dX10_kept_78 (by decide) ?_
            refine lv_iload_n hx hb dX10_kept_79 rfl (lv_at hl 2 rfl) ?_
            obtain ⟨r20, h21, hf⟩ := bd_s hf
            refine iv_R (rest := []) (st1 := [.int r20]) C hE hP (c_X10_keyAt l D cI cZ cL cW F a0 a1 a2 a3 a4 a5 a6 0 k_w_11 k_o_6 k_isKept k_went_12 k_wentMany_13 k_waiting_14 k_came_15 k_depth k_isSilent_8 k_x k_packed k_hits k_rues k_soonest k_inAll 0 p2 r20  h21) ok_X10_keyAt qM_X10_251 rfl rfl ⟨(Nat.le_of_ble_eq_true rfl), (Nat.le_of_ble_eq_true rfl)⟩ rfl rfl hl.1 (Nat.le_of_ble_eq_true rfl) ⟨Nat.zero_le _, Nat.zero_le _⟩ dX10_kept_80 rfl rfl ?_
            refine lv_goto (tgt := 87) hx hb dX10_kept_83 (by decide) ?_
            refine lv_istore_n (lv' := [(3, .int r20), (0, .ref a0), (1, .int p1), (2, .int p2)]) hx hb dX10_kept_87 rfl hl (by decide) rfl (fun ls hl => ?_)
            refine lv_aload_n hx hb dX10_kept_88 rfl (lv_at hl 1 rfl) ?_
            obtain ⟨⟨k_o_22, k_isSilent_23⟩, h24, hf⟩ := bd_s hf
            refine iv_A (rest := []) (st1 := []) C hE hP hD hS hA (c_X10_comesBack l D cI cZ cL cW F a0 a1 a2 a3 a4 a5 a6 0 k_w_11 k_o_6 k_isKept k_went_12 k_wentMany_13 k_waiting_14 k_came_15 k_depth k_isSilent_8 k_x k_packed k_hits k_rues k_soonest k_inAll   k_o_22 k_isSilent_23 h24) ok_X10_comesBack qM_X10_268 rfl rfl ⟨(Nat.le_of_ble_eq_true rfl), (Nat.le_of_ble_eq_true rfl)⟩ rfl rfl hl.1 (Nat.le_of_ble_eq_true rfl) ⟨Nat.zero_le _, Nat.zero_le _⟩ dX10_kept_89 rfl rfl (fun H locs (hP : va_P D vwCl (MX10 cI cZ cL cW a0 a1 a2 a3 a4 a5 a6 0 k_w_11 k_o_22 k_isKept k_went_12 k_wentMany_13 k_waiting_14 k_came_15 k_depth k_isSilent_23 k_x k_packed k_hits k_rues k_soonest k_inAll) H) (hD : va_D A (MX10 cI cZ cL cW a0 a1 a2 a3 a4 a5 a6 0 k_w_11 k_o_22 k_isKept k_went_12 k_wentMany_13 k_waiting_14 k_came_15 k_depth k_isSilent_23 k_x k_packed k_hits k_rues k_soonest k_inAll)) hS => ?_)
            refine lv_iload_n hx hb dX10_kept_92 rfl (lv_at hl 0 rfl) ?_
            cases hf
            exact rw_i C hr hlk hP hD hS dX10_kept_93 rfl
        · have hf := it_p hf c31
          refine lv_aload_n hx hb dX10_kept_48 rfl (lv_at hl 0 rfl) ?_
          refine gf_X10 (v := .ref a1) C hE hP 0 1 rfl (by decide) qF_X10_17 rfl dX10_kept_49 ?_
          refine lv_aload_n hx hb dX10_kept_52 rfl (lv_at hl 0 rfl) ?_
          refine gf_X10 (v := .int k_o_6) C hE hP 0 2 rfl (by decide) qF_X10_41 rfl dX10_kept_53 ?_
          refine lv_iconst (v := 0) hx hb dX10_kept_56 (by decide) ?_
          refine lv_iadd hx hb dX10_kept_57 ?_
          obtain ⟨g30, hf⟩ := it_g hf
          refine va_iald hx hb hE.1 hP 1 0 rfl rfl g30 dX10_kept_58 ?_
          refine lv_goto (tgt := 87) hx hb dX10_kept_59 (by decide) ?_
          refine lv_istore_n (lv' := [(3, .int (k_w_11 (Int32.toNatClampNeg (k_o_6 + 0)))), (0, .ref a0), (1, .int p1), (2, .int p2)]) hx hb dX10_kept_87 rfl hl (by decide) rfl (fun ls hl => ?_)
          refine lv_aload_n hx hb dX10_kept_88 rfl (lv_at hl 1 rfl) ?_
          obtain ⟨⟨k_o_27, k_isSilent_28⟩, h29, hf⟩ := bd_s hf
          refine iv_A (rest := []) (st1 := []) C hE hP hD hS hA (c_X10_comesBack l D cI cZ cL cW F a0 a1 a2 a3 a4 a5 a6 0 k_w_11 k_o_6 k_isKept k_went_12 k_wentMany_13 k_waiting_14 k_came_15 k_depth k_isSilent_8 k_x k_packed k_hits k_rues k_soonest k_inAll   k_o_27 k_isSilent_28 h29) ok_X10_comesBack qM_X10_268 rfl rfl ⟨(Nat.le_of_ble_eq_true rfl), (Nat.le_of_ble_eq_true rfl)⟩ rfl rfl hl.1 (Nat.le_of_ble_eq_true rfl) ⟨Nat.zero_le _, Nat.zero_le _⟩ dX10_kept_89 rfl rfl (fun H locs (hP : va_P D vwCl (MX10 cI cZ cL cW a0 a1 a2 a3 a4 a5 a6 0 k_w_11 k_o_27 k_isKept k_went_12 k_wentMany_13 k_waiting_14 k_came_15 k_depth k_isSilent_28 k_x k_packed k_hits k_rues k_soonest k_inAll) H) (hD : va_D A (MX10 cI cZ cL cW a0 a1 a2 a3 a4 a5 a6 0 k_w_11 k_o_27 k_isKept k_went_12 k_wentMany_13 k_waiting_14 k_came_15 k_depth k_isSilent_28 k_x k_packed k_hits k_rues k_soonest k_inAll)) hS => ?_)
          refine lv_iload_n hx hb dX10_kept_92 rfl (lv_at hl 0 rfl) ?_
          cases hf
          exact rw_i C hr hlk hP hD hS dX10_kept_93 rfl
      · have hf := it_n hf c32
        refine lv_iconst (v := (-1)) hx hb dX10_kept_31 (by decide) ?_
        cases hf
        exact rw_i C hr hlk hP hD hS dX10_kept_32 rfl
def X10_pack_L36 (F : Nat) : Nat → Int32 → Int32 → Int32 → (Nat → Int32) → Option ((Nat → Int32))
  | 0, _, _, _, _ => none
  | n + 1, v2, v3, v4, k_packed => if (v2 : Int32) < v4 then (some k_packed) else (if (v4 : Int32) < 0 ∨ 5001 ≤ (Int32.toNatClampNeg v4) then none else (X10_pack_L36 F n v2 v3 (v4 + 1) (upd k_packed (Int32.toNatClampNeg v4) 0)))
def X10_pack_L98 (F : Nat) : Nat → Int32 → Int32 → Int32 → Int32 → (Nat → Int32) → Int32 → (Nat → Int32) → Option ((Nat → Int32))
  | 0, _, _, _, _, _, _, _ => none
  | n + 1, v2, v3, v4, v5, k_w, k_o, k_packed => (X10_of F v4 2 k_w k_o).bind fun r11 => (if (v5 : Int32) < r11 then (some k_packed) else ((X10_of F v4 2 k_w k_o).bind fun r13 => (if ((v5 - r13) : Int32) < 0 ∨ 5001 ≤ (Int32.toNatClampNeg (v5 - r13)) then none else ((X10_of F v4 3 k_w k_o).bind fun r15 => (if (v5 : Int32) < 0 ∨ 5001 ≤ (Int32.toNatClampNeg v5) then none else (if (((k_packed (Int32.toNatClampNeg (v5 - r13))) + r15) : Int32) ≤ (k_packed (Int32.toNatClampNeg v5)) then (if (v5 : Int32) < 0 ∨ 5001 ≤ (Int32.toNatClampNeg v5) then none else (if (v5 : Int32) < 0 ∨ 5001 ≤ (Int32.toNatClampNeg v5) then none else (X10_pack_L98 F n v2 v3 v4 (v5 + (-1)) k_w k_o (upd k_packed (Int32.toNatClampNeg v5) (k_packed (Int32.toNatClampNeg v5)))))) else (if (v5 : Int32) < 0 ∨ 5001 ≤ (Int32.toNatClampNeg v5) then none else (X10_pack_L98 F n v2 v3 v4 (v5 + (-1)) k_w k_o (upd k_packed (Int32.toNatClampNeg v5) ((k_packed (Int32.toNatClampNeg (v5 - r13))) + r15))))))))))
def X10_pack_L59 (F : Nat) : Nat → Int32 → Int32 → Int32 → (Nat → Int32) → Int32 → (Nat → Int32) → Option (Int32 × (Nat → Int32))
  | 0, _, _, _, _, _, _ => none
  | n + 1, v2, v3, v4, k_w, k_o, k_packed => if ((k_w (Int32.toNatClampNeg 0)) : Int32) ≤ v4 then (some (v3, k_packed)) else ((X10_of F v4 6 k_w k_o).bind fun r9 => (if (r9 : Int32) = 1 then ((X10_of F v4 3 k_w k_o).bind fun r26 => (X10_pack_L59 F n v2 (v3 + r26) (v4 + 1) k_w k_o k_packed)) else ((X10_pack_L98 F F v2 v3 v4 v2 k_w k_o k_packed).bind fun k24 => (X10_pack_L59 F n v2 v3 (v4 + 1) k_w k_o k24))))
def X10_pack (F : Nat) (p1 : Int32) (k_thrown : Int32) (k_w : (Nat → Int32)) (k_o : Int32) (k_packed : (Nat → Int32)) : Option (Int32 × Int32 × (Nat → Int32)) := (X10_pinned F (-1) k_w k_o).bind fun r1 => ((X10_isIn F p1.toInt64 0 5000).bind fun r3 => (if (r3 : Int32) = 0 then (some ((-1), 0, k_packed)) else (if (0 : Int32) ≤ (p1 - r1) then ((X10_pack_L36 F F (p1 - r1) 0 0 k_packed).bind fun k7 => ((X10_pack_L59 F F (p1 - r1) 0 0 k_w k_o k7).bind fun (x30, k31) => (if ((p1 - r1) : Int32) < 0 ∨ 5001 ≤ (Int32.toNatClampNeg (p1 - r1)) then none else (some ((x30 + (k31 (Int32.toNatClampNeg (p1 - r1)))), 0, k31))))) else (some ((-1), 0, k_packed)))))
abbrev rm_X10_pack : Room := { frames := 2, cells := 0, slots := 0, locals := 45 }
theorem ok_X10_pack : OKV RX10 yX10_pack cX10_pack 7 (some .int) 1 := ⟨by decide +kernel, qV_X10_pack, qL_X10_pack, qI_X10, qD_X10_pack⟩
set_option maxHeartbeats 4000000 in
set_option maxRecDepth 100000 in
theorem c_X10_pack (l : Launch) (D : va_G) (cI cZ cL cW : ClassId) (F : Nat) (a0 : Nat) (a1 : Nat) (a2 : Nat) (a3 : Nat) (a4 : Nat) (a5 : Nat) (a6 : Nat) (k_thrown : Int32) (k_w : (Nat → Int32)) (k_o : Int32) (k_isKept : (Nat → Int32)) (k_went : (Nat → Int32)) (k_wentMany : Int32) (k_waiting : (Nat → Int32)) (k_came : Int32) (k_depth : Int32) (k_isSilent : Int32) (k_x : Int64) (k_packed : (Nat → Int32)) (k_hits : Int32) (k_rues : Int32) (k_soonest : Int32) (k_inAll : (Nat → Int32)) (p1 : Int32) (r : Int32) (k_thrown' : Int32) (k_packed' : (Nat → Int32)) (hf : X10_pack F p1 k_thrown k_w k_o k_packed = some (r, k_thrown', k_packed')) : CtrW l D (tyL cI cZ cL cW) nestW yX10_pack cX10_pack 7 (some .int) rm_X10_pack [.ref a0, .int p1] (MX10 cI cZ cL cW a0 a1 a2 a3 a4 a5 a6 k_thrown k_w k_o k_isKept k_went k_wentMany k_waiting k_came k_depth k_isSilent k_x k_packed k_hits k_rues k_soonest k_inAll) (MX10 cI cZ cL cW a0 a1 a2 a3 a4 a5 a6 (k_thrown') k_w k_o k_isKept k_went k_wentMany k_waiting k_came k_depth k_isSilent k_x (k_packed') k_hits k_rues k_soonest k_inAll) (some (.int r)) := by
  refine ofA RX10 (by decide) rfl (Nat.le_of_ble_eq_true rfl) ?_
  intro p e s m below meth c ls A C hr hlk hE hA hP hD hS hl
  generalize (List.toArray ([.ref a0, .int p1] : List Value)) = args at C ⊢
  obtain ⟨hx, hb, hml, hown, ht⟩ := id C
  have hl : lv_has ls 7 [(0, .ref a0), (1, .int p1)] := hl
  have L36 : ∀ (Q : State → Prop) (n : Nat) (v2 : Int32) (v3 : Int32) (v4 : Int32) (k_thrown : Int32) (k_w : (Nat → Int32)) (k_o : Int32) (k_isKept : (Nat → Int32)) (k_went : (Nat → Int32)) (k_wentMany : Int32) (k_waiting : (Nat → Int32)) (k_came : Int32) (k_depth : Int32) (k_isSilent : Int32) (k_x : Int64) (k_packed : (Nat → Int32)) (k_hits : Int32) (k_rues : Int32) (k_soonest : Int32) (k_inAll : (Nat → Int32)) (k_packed' : (Nat → Int32)) (H : Heap) (locs : List Loc) (ls : Array Slot), X10_pack_L36 F n v2 v3 v4 k_packed = some (k_packed') → va_P D vwCl (MX10 cI cZ cL cW a0 a1 a2 a3 a4 a5 a6 k_thrown k_w k_o k_isKept k_went k_wentMany k_waiting k_came k_depth k_isSilent k_x k_packed k_hits k_rues k_soonest k_inAll) H → va_D A (MX10 cI cZ cL cW a0 a1 a2 a3 a4 a5 a6 k_thrown k_w k_o k_isKept k_went k_wentMany k_waiting k_came k_depth k_isSilent k_x k_packed k_hits k_rues k_soonest k_inAll) → va_S A s.heap H locs → lv_has ls 7 [(0, .ref a0), (2, .int v2), (3, .int v3), (4, .int v4)] → (∀ (H : Heap) (locs : List Loc) (ls : Array Slot), va_P D vwCl (MX10 cI cZ cL cW a0 a1 a2 a3 a4 a5 a6 k_thrown k_w k_o k_isKept k_went k_wentMany k_waiting k_came k_depth k_isSilent k_x (k_packed') k_hits k_rues k_soonest k_inAll) H → va_D A (MX10 cI cZ cL cW a0 a1 a2 a3 a4 a5 a6 k_thrown k_w k_o k_isKept k_went k_wentMany k_waiting k_came k_depth k_isSilent k_x (k_packed') k_hits k_rues k_soonest k_inAll) → va_S A s.heap H locs → lv_has ls 7 [(0, .ref a0), (2, .int v2), (3, .int v3)] → W p l e rm_X10_pack s m args below meth c H locs 0 0 Q (F0 m 56 ls [])) → W p l e rm_X10_pack s m args below meth c H locs 0 0 Q (F0 m 36 ls []) := by
    intro Q n
    induction n with
    | zero => intro v2 v3 v4 k_thrown k_w k_o k_isKept k_went k_wentMany k_waiting k_came k_depth k_isSilent k_x k_packed k_hits k_rues k_soonest k_inAll k_packed' H locs ls hf hP hD hS hl hk; exact nn_s hf
    | succ n ih =>
      intro v2 v3 v4 k_thrown k_w k_o k_isKept k_went k_wentMany k_waiting k_came k_depth k_isSilent k_x k_packed k_hits k_rues k_soonest k_inAll k_packed' H locs ls hf hP hD hS hl hk
      refine lv_iload hx hb dX10_pack_36 (lv_at hl 3 rfl) ?_
      refine lv_iload_n hx hb dX10_pack_38 rfl (lv_at hl 1 rfl) ?_
      refine lv_icmp_gt (tgt := 56) hx hb dX10_pack_39 (by decide) (fun c6 => ?_) (fun c6 => ?_)
      · have hf := it_p hf c6
        cases hf
        exact hk _ _ ls hP hD hS (lv_sub hl [0, 1, 2] rfl)
      · have hf := it_n hf c6
        refine lv_aload_n hx hb dX10_pack_42 rfl (lv_at hl 0 rfl) ?_
        refine gf_X10 (v := .ref a5) C hE hP 0 11 rfl (by decide) qF_X10_31 rfl dX10_pack_43 ?_
        refine lv_iload hx hb dX10_pack_46 (lv_at hl 3 rfl) ?_
        refine lv_iconst (v := 0) hx hb dX10_pack_48 (by decide) ?_
        obtain ⟨g5, hf⟩ := it_g hf
        refine va_iast hx hb hE.1 hP hD hS 5 0 rfl rfl g5 dX10_pack_49 (fun H locs (hP : va_P D vwCl (MX10 cI cZ cL cW a0 a1 a2 a3 a4 a5 a6 k_thrown k_w k_o k_isKept k_went k_wentMany k_waiting k_came k_depth k_isSilent k_x (upd k_packed (Int32.toNatClampNeg v4) 0) k_hits k_rues k_soonest k_inAll) H) (hD : va_D A (MX10 cI cZ cL cW a0 a1 a2 a3 a4 a5 a6 k_thrown k_w k_o k_isKept k_went k_wentMany k_waiting k_came k_depth k_isSilent k_x (upd k_packed (Int32.toNatClampNeg v4) 0) k_hits k_rues k_soonest k_inAll)) hS => ?_)
        refine lv_iinc (v := (v4 + 1)) (lv' := [(4, .int (v4 + 1)), (0, .ref a0), (2, .int v2), (3, .int v3)]) hx hb dX10_pack_50 hl (k := 3) rfl rfl (by decide) rfl (fun ls hl => ?_)
        refine lv_goto (tgt := 36) hx hb dX10_pack_53 (by decide) ?_
        exact ih v2 v3 (v4 + 1) k_thrown k_w k_o k_isKept k_went k_wentMany k_waiting k_came k_depth k_isSilent k_x (upd k_packed (Int32.toNatClampNeg v4) 0) k_hits k_rues k_soonest k_inAll _ _ _ ls hf hP hD hS (lv_sub hl [1, 2, 3, 0] rfl) hk
  have L98 : ∀ (Q : State → Prop) (n : Nat) (v2 : Int32) (v3 : Int32) (v4 : Int32) (v5 : Int32) (k_thrown : Int32) (k_w : (Nat → Int32)) (k_o : Int32) (k_isKept : (Nat → Int32)) (k_went : (Nat → Int32)) (k_wentMany : Int32) (k_waiting : (Nat → Int32)) (k_came : Int32) (k_depth : Int32) (k_isSilent : Int32) (k_x : Int64) (k_packed : (Nat → Int32)) (k_hits : Int32) (k_rues : Int32) (k_soonest : Int32) (k_inAll : (Nat → Int32)) (k_packed' : (Nat → Int32)) (H : Heap) (locs : List Loc) (ls : Array Slot), X10_pack_L98 F n v2 v3 v4 v5 k_w k_o k_packed = some (k_packed') → va_P D vwCl (MX10 cI cZ cL cW a0 a1 a2 a3 a4 a5 a6 k_thrown k_w k_o k_isKept k_went k_wentMany k_waiting k_came k_depth k_isSilent k_x k_packed k_hits k_rues k_soonest k_inAll) H → va_D A (MX10 cI cZ cL cW a0 a1 a2 a3 a4 a5 a6 k_thrown k_w k_o k_isKept k_went k_wentMany k_waiting k_came k_depth k_isSilent k_x k_packed k_hits k_rues k_soonest k_inAll) → va_S A s.heap H locs → lv_has ls 7 [(0, .ref a0), (2, .int v2), (3, .int v3), (4, .int v4), (5, .int v5)] → (∀ (H : Heap) (locs : List Loc) (ls : Array Slot), va_P D vwCl (MX10 cI cZ cL cW a0 a1 a2 a3 a4 a5 a6 k_thrown k_w k_o k_isKept k_went k_wentMany k_waiting k_came k_depth k_isSilent k_x (k_packed') k_hits k_rues k_soonest k_inAll) H → va_D A (MX10 cI cZ cL cW a0 a1 a2 a3 a4 a5 a6 k_thrown k_w k_o k_isKept k_went k_wentMany k_waiting k_came k_depth k_isSilent k_x (k_packed') k_hits k_rues k_soonest k_inAll) → va_S A s.heap H locs → lv_has ls 7 [(0, .ref a0), (2, .int v2), (3, .int v3), (4, .int v4)] → W p l e rm_X10_pack s m args below meth c H locs 0 0 Q (F0 m 172 ls [])) → W p l e rm_X10_pack s m args below meth c H locs 0 0 Q (F0 m 98 ls []) := by
    intro Q n
    induction n with
    | zero => intro v2 v3 v4 v5 k_thrown k_w k_o k_isKept k_went k_wentMany k_waiting k_came k_depth k_isSilent k_x k_packed k_hits k_rues k_soonest k_inAll k_packed' H locs ls hf hP hD hS hl hk; exact nn_s hf
    | succ n ih =>
      intro v2 v3 v4 v5 k_thrown k_w k_o k_isKept k_went k_wentMany k_waiting k_came k_depth k_isSilent k_x k_packed k_hits k_rues k_soonest k_inAll k_packed' H locs ls hf hP hD hS hl hk
      refine lv_iload hx hb dX10_pack_98 (lv_at hl 4 rfl) ?_
      refine lv_aload_n hx hb dX10_pack_100 rfl (lv_at hl 0 rfl) ?_
      refine lv_iload hx hb dX10_pack_101 (lv_at hl 3 rfl) ?_
      refine lv_iconst (v := 2) hx hb dX10_pack_103 (by decide) ?_
      obtain ⟨r11, h12, hf⟩ := bd_s hf
      refine iv_R (rest := [.int v5]) (st1 := [.int r11, .int v5]) C hE hP (c_X10_of l D cI cZ cL cW F a0 a1 a2 a3 a4 a5 a6 k_thrown k_w k_o k_isKept k_went k_wentMany k_waiting k_came k_depth k_isSilent k_x k_packed k_hits k_rues k_soonest k_inAll v4 2 r11  h12) ok_X10_of qM_X10_44 rfl rfl ⟨(Nat.le_of_ble_eq_true rfl), (Nat.le_of_ble_eq_true rfl)⟩ rfl rfl hl.1 (Nat.le_of_ble_eq_true rfl) ⟨Nat.zero_le _, Nat.zero_le _⟩ dX10_pack_104 rfl rfl ?_
      refine lv_icmp_lt (tgt := 172) hx hb dX10_pack_107 (by decide) (fun c23 => ?_) (fun c23 => ?_)
      · have hf := it_p hf c23
        cases hf
        exact hk _ _ ls hP hD hS (lv_sub hl [0, 1, 2, 3] rfl)
      · have hf := it_n hf c23
        refine lv_aload_n hx hb dX10_pack_110 rfl (lv_at hl 0 rfl) ?_
        refine gf_X10 (v := .ref a5) C hE hP 0 11 rfl (by decide) qF_X10_31 rfl dX10_pack_111 ?_
        refine lv_iload hx hb dX10_pack_114 (lv_at hl 4 rfl) ?_
        refine lv_aload_n hx hb dX10_pack_116 rfl (lv_at hl 0 rfl) ?_
        refine lv_iload hx hb dX10_pack_117 (lv_at hl 3 rfl) ?_
        refine lv_iconst (v := 2) hx hb dX10_pack_119 (by decide) ?_
        obtain ⟨r13, h14, hf⟩ := bd_s hf
        refine iv_R (rest := [.int v5, .ref a5]) (st1 := [.int r13, .int v5, .ref a5]) C hE hP (c_X10_of l D cI cZ cL cW F a0 a1 a2 a3 a4 a5 a6 k_thrown k_w k_o k_isKept k_went k_wentMany k_waiting k_came k_depth k_isSilent k_x k_packed k_hits k_rues k_soonest k_inAll v4 2 r13  h14) ok_X10_of qM_X10_44 rfl rfl ⟨(Nat.le_of_ble_eq_true rfl), (Nat.le_of_ble_eq_true rfl)⟩ rfl rfl hl.1 (Nat.le_of_ble_eq_true rfl) ⟨Nat.zero_le _, Nat.zero_le _⟩ dX10_pack_120 rfl rfl ?_
        refine lv_isub hx hb dX10_pack_123 ?_
        obtain ⟨g22, hf⟩ := it_g hf
        refine va_iald hx hb hE.1 hP 5 0 rfl rfl g22 dX10_pack_124 ?_
        refine lv_aload_n hx hb dX10_pack_125 rfl (lv_at hl 0 rfl) ?_
        refine lv_iload hx hb dX10_pack_126 (lv_at hl 3 rfl) ?_
        refine lv_iconst (v := 3) hx hb dX10_pack_128 (by decide) ?_
        obtain ⟨r15, h16, hf⟩ := bd_s hf
        refine iv_R (rest := [.int (k_packed (Int32.toNatClampNeg (v5 - r13)))]) (st1 := [.int r15, .int (k_packed (Int32.toNatClampNeg (v5 - r13)))]) C hE hP (c_X10_of l D cI cZ cL cW F a0 a1 a2 a3 a4 a5 a6 k_thrown k_w k_o k_isKept k_went k_wentMany k_waiting k_came k_depth k_isSilent k_x k_packed k_hits k_rues k_soonest k_inAll v4 3 r15  h16) ok_X10_of qM_X10_44 rfl rfl ⟨(Nat.le_of_ble_eq_true rfl), (Nat.le_of_ble_eq_true rfl)⟩ rfl rfl hl.1 (Nat.le_of_ble_eq_true rfl) ⟨Nat.zero_le _, Nat.zero_le _⟩ dX10_pack_129 rfl rfl ?_
        refine lv_iadd hx hb dX10_pack_132 ?_
        refine lv_istore (lv' := [(6, .int ((k_packed (Int32.toNatClampNeg (v5 - r13))) + r15)), (0, .ref a0), (2, .int v2), (3, .int v3), (4, .int v4), (5, .int v5)]) hx hb dX10_pack_133 hl (by decide) rfl (fun ls hl => ?_)
        refine lv_aload_n hx hb dX10_pack_135 rfl (lv_at hl 1 rfl) ?_
        refine gf_X10 (v := .ref a5) C hE hP 0 11 rfl (by decide) qF_X10_31 rfl dX10_pack_136 ?_
        refine lv_iload hx hb dX10_pack_139 (lv_at hl 5 rfl) ?_
        refine lv_iload hx hb dX10_pack_141 (lv_at hl 0 rfl) ?_
        refine lv_aload_n hx hb dX10_pack_143 rfl (lv_at hl 1 rfl) ?_
        refine gf_X10 (v := .ref a5) C hE hP 0 11 rfl (by decide) qF_X10_31 rfl dX10_pack_144 ?_
        refine lv_iload hx hb dX10_pack_147 (lv_at hl 5 rfl) ?_
        obtain ⟨g21, hf⟩ := it_g hf
        refine va_iald hx hb hE.1 hP 5 0 rfl rfl g21 dX10_pack_149 ?_
        refine lv_icmp_le (tgt := 158) hx hb dX10_pack_150 (by decide) (fun c20 => ?_) (fun c20 => ?_)
        · have hf := it_p hf c20
          refine lv_aload_n hx hb dX10_pack_158 rfl (lv_at hl 1 rfl) ?_
          refine gf_X10 (v := .ref a5) C hE hP 0 11 rfl (by decide) qF_X10_31 rfl dX10_pack_159 ?_
          refine lv_iload hx hb dX10_pack_162 (lv_at hl 5 rfl) ?_
          obtain ⟨g18, hf⟩ := it_g hf
          refine va_iald hx hb hE.1 hP 5 0 rfl rfl g18 dX10_pack_164 ?_
          obtain ⟨g17, hf⟩ := it_g hf
          refine va_iast hx hb hE.1 hP hD hS 5 0 rfl rfl g17 dX10_pack_165 (fun H locs (hP : va_P D vwCl (MX10 cI cZ cL cW a0 a1 a2 a3 a4 a5 a6 k_thrown k_w k_o k_isKept k_went k_wentMany k_waiting k_came k_depth k_isSilent k_x (upd k_packed (Int32.toNatClampNeg v5) (k_packed (Int32.toNatClampNeg v5))) k_hits k_rues k_soonest k_inAll) H) (hD : va_D A (MX10 cI cZ cL cW a0 a1 a2 a3 a4 a5 a6 k_thrown k_w k_o k_isKept k_went k_wentMany k_waiting k_came k_depth k_isSilent k_x (upd k_packed (Int32.toNatClampNeg v5) (k_packed (Int32.toNatClampNeg v5))) k_hits k_rues k_soonest k_inAll)) hS => ?_)
          refine lv_iinc (v := (v5 + (-1))) (lv' := [(5, .int (v5 + (-1))), (6, .int ((k_packed (Int32.toNatClampNeg (v5 - r13))) + r15)), (0, .ref a0), (2, .int v2), (3, .int v3), (4, .int v4)]) hx hb dX10_pack_166 hl (k := 5) rfl rfl (by decide) rfl (fun ls hl => ?_)
          refine lv_goto (tgt := 98) hx hb dX10_pack_169 (by decide) ?_
          exact ih v2 v3 v4 (v5 + (-1)) k_thrown k_w k_o k_isKept k_went k_wentMany k_waiting k_came k_depth k_isSilent k_x (upd k_packed (Int32.toNatClampNeg v5) (k_packed (Int32.toNatClampNeg v5))) k_hits k_rues k_soonest k_inAll _ _ _ ls hf hP hD hS (lv_sub hl [2, 3, 4, 5, 0] rfl) hk
        · have hf := it_n hf c20
          refine lv_iload hx hb dX10_pack_153 (lv_at hl 0 rfl) ?_
          refine lv_goto (tgt := 165) hx hb dX10_pack_155 (by decide) ?_
          obtain ⟨g19, hf⟩ := it_g hf
          refine va_iast hx hb hE.1 hP hD hS 5 0 rfl rfl g19 dX10_pack_165 (fun H locs (hP : va_P D vwCl (MX10 cI cZ cL cW a0 a1 a2 a3 a4 a5 a6 k_thrown k_w k_o k_isKept k_went k_wentMany k_waiting k_came k_depth k_isSilent k_x (upd k_packed (Int32.toNatClampNeg v5) ((k_packed (Int32.toNatClampNeg (v5 - r13))) + r15)) k_hits k_rues k_soonest k_inAll) H) (hD : va_D A (MX10 cI cZ cL cW a0 a1 a2 a3 a4 a5 a6 k_thrown k_w k_o k_isKept k_went k_wentMany k_waiting k_came k_depth k_isSilent k_x (upd k_packed (Int32.toNatClampNeg v5) ((k_packed (Int32.toNatClampNeg (v5 - r13))) + r15)) k_hits k_rues k_soonest k_inAll)) hS => ?_)
          refine lv_iinc (v := (v5 + (-1))) (lv' := [(5, .int (v5 + (-1))), (6, .int ((k_packed (Int32.toNatClampNeg (v5 - r13))) + r15)), (0, .ref a0), (2, .int v2), (3, .int v3), (4, .int v4)]) hx hb dX10_pack_166 hl (k := 5) rfl rfl (by decide) rfl (fun ls hl => ?_)
          refine lv_goto (tgt := 98) hx hb dX10_pack_169 (by decide) ?_
          exact ih v2 v3 v4 (v5 + (-1)) k_thrown k_w k_o k_isKept k_went k_wentMany k_waiting k_came k_depth k_isSilent k_x (upd k_packed (Int32.toNatClampNeg v5) ((k_packed (Int32.toNatClampNeg (v5 - r13))) + r15)) k_hits k_rues k_soonest k_inAll _ _ _ ls hf hP hD hS (lv_sub hl [2, 3, 4, 5, 0] rfl) hk
  have L59 : ∀ (Q : State → Prop) (n : Nat) (v2 : Int32) (v3 : Int32) (v4 : Int32) (k_thrown : Int32) (k_w : (Nat → Int32)) (k_o : Int32) (k_isKept : (Nat → Int32)) (k_went : (Nat → Int32)) (k_wentMany : Int32) (k_waiting : (Nat → Int32)) (k_came : Int32) (k_depth : Int32) (k_isSilent : Int32) (k_x : Int64) (k_packed : (Nat → Int32)) (k_hits : Int32) (k_rues : Int32) (k_soonest : Int32) (k_inAll : (Nat → Int32)) (x3 : Int32) (k_packed' : (Nat → Int32)) (H : Heap) (locs : List Loc) (ls : Array Slot), X10_pack_L59 F n v2 v3 v4 k_w k_o k_packed = some (x3, k_packed') → va_P D vwCl (MX10 cI cZ cL cW a0 a1 a2 a3 a4 a5 a6 k_thrown k_w k_o k_isKept k_went k_wentMany k_waiting k_came k_depth k_isSilent k_x k_packed k_hits k_rues k_soonest k_inAll) H → va_D A (MX10 cI cZ cL cW a0 a1 a2 a3 a4 a5 a6 k_thrown k_w k_o k_isKept k_went k_wentMany k_waiting k_came k_depth k_isSilent k_x k_packed k_hits k_rues k_soonest k_inAll) → va_S A s.heap H locs → lv_has ls 7 [(0, .ref a0), (2, .int v2), (3, .int v3), (4, .int v4)] → (∀ (H : Heap) (locs : List Loc) (ls : Array Slot), va_P D vwCl (MX10 cI cZ cL cW a0 a1 a2 a3 a4 a5 a6 k_thrown k_w k_o k_isKept k_went k_wentMany k_waiting k_came k_depth k_isSilent k_x (k_packed') k_hits k_rues k_soonest k_inAll) H → va_D A (MX10 cI cZ cL cW a0 a1 a2 a3 a4 a5 a6 k_thrown k_w k_o k_isKept k_went k_wentMany k_waiting k_came k_depth k_isSilent k_x (k_packed') k_hits k_rues k_soonest k_inAll) → va_S A s.heap H locs → lv_has ls 7 [(0, .ref a0), (2, .int v2), (3, .int x3)] → W p l e rm_X10_pack s m args below meth c H locs 0 0 Q (F0 m 178 ls [])) → W p l e rm_X10_pack s m args below meth c H locs 0 0 Q (F0 m 59 ls []) := by
    intro Q n
    induction n with
    | zero => intro v2 v3 v4 k_thrown k_w k_o k_isKept k_went k_wentMany k_waiting k_came k_depth k_isSilent k_x k_packed k_hits k_rues k_soonest k_inAll x3 k_packed' H locs ls hf hP hD hS hl hk; exact nn_s hf
    | succ n ih =>
      intro v2 v3 v4 k_thrown k_w k_o k_isKept k_went k_wentMany k_waiting k_came k_depth k_isSilent k_x k_packed k_hits k_rues k_soonest k_inAll x3 k_packed' H locs ls hf hP hD hS hl hk
      refine lv_iload hx hb dX10_pack_59 (lv_at hl 3 rfl) ?_
      refine lv_aload_n hx hb dX10_pack_61 rfl (lv_at hl 0 rfl) ?_
      refine gf_X10 (v := .ref a1) C hE hP 0 1 rfl (by decide) qF_X10_17 rfl dX10_pack_62 ?_
      refine lv_iconst (v := 0) hx hb dX10_pack_65 (by decide) ?_
      refine va_iald hx hb hE.1 hP 1 0 rfl rfl (vp_l (by decide)) dX10_pack_66 ?_
      refine lv_icmp_ge (tgt := 178) hx hb dX10_pack_67 (by decide) (fun c29 => ?_) (fun c29 => ?_)
      · have hf := it_p hf c29
        cases hf
        exact hk _ _ ls hP hD hS (lv_sub hl [0, 1, 2] rfl)
      · have hf := it_n hf c29
        refine lv_aload_n hx hb dX10_pack_70 rfl (lv_at hl 0 rfl) ?_
        refine lv_iload hx hb dX10_pack_71 (lv_at hl 3 rfl) ?_
        refine lv_bipush (v := 6) hx hb dX10_pack_73 (by decide) ?_
        obtain ⟨r9, h10, hf⟩ := bd_s hf
        refine iv_R (rest := []) (st1 := [.int r9]) C hE hP (c_X10_of l D cI cZ cL cW F a0 a1 a2 a3 a4 a5 a6 k_thrown k_w k_o k_isKept k_went k_wentMany k_waiting k_came k_depth k_isSilent k_x k_packed k_hits k_rues k_soonest k_inAll v4 6 r9  h10) ok_X10_of qM_X10_44 rfl rfl ⟨(Nat.le_of_ble_eq_true rfl), (Nat.le_of_ble_eq_true rfl)⟩ rfl rfl hl.1 (Nat.le_of_ble_eq_true rfl) ⟨Nat.zero_le _, Nat.zero_le _⟩ dX10_pack_75 rfl rfl ?_
        refine lv_iconst (v := 1) hx hb dX10_pack_78 (by decide) ?_
        refine lv_icmp_ne (tgt := 95) hx hb dX10_pack_79 (by decide) (fun c28 => ?_) (fun c28 => ?_)
        · have hf := it_n hf c28
          refine lv_iload_n hx hb dX10_pack_95 rfl (lv_at hl 1 rfl) ?_
          refine lv_istore (lv' := [(5, .int v2), (0, .ref a0), (2, .int v2), (3, .int v3), (4, .int v4)]) hx hb dX10_pack_96 hl (by decide) rfl (fun ls hl => ?_)
          obtain ⟨k24, h25, hf⟩ := bd_s hf
          refine L98 _ F v2 v3 v4 v2 k_thrown k_w k_o k_isKept k_went k_wentMany k_waiting k_came k_depth k_isSilent k_x k_packed k_hits k_rues k_soonest k_inAll k24 _ _ ls h25 hP hD hS (lv_sub hl [1, 2, 3, 4, 0] rfl) (fun H locs ls hP hD hS hl => ?_)
          refine lv_iinc (v := (v4 + 1)) (lv' := [(4, .int (v4 + 1)), (0, .ref a0), (2, .int v2), (3, .int v3)]) hx hb dX10_pack_172 hl (k := 3) rfl rfl (by decide) rfl (fun ls hl => ?_)
          refine lv_goto (tgt := 59) hx hb dX10_pack_175 (by decide) ?_
          exact ih v2 v3 (v4 + 1) k_thrown k_w k_o k_isKept k_went k_wentMany k_waiting k_came k_depth k_isSilent k_x k24 k_hits k_rues k_soonest k_inAll _ _ _ _ ls hf hP hD hS (lv_sub hl [1, 2, 3, 0] rfl) hk
        · have hf := it_p hf c28
          refine lv_iload_n hx hb dX10_pack_82 rfl (lv_at hl 2 rfl) ?_
          refine lv_aload_n hx hb dX10_pack_83 rfl (lv_at hl 0 rfl) ?_
          refine lv_iload hx hb dX10_pack_84 (lv_at hl 3 rfl) ?_
          refine lv_iconst (v := 3) hx hb dX10_pack_86 (by decide) ?_
          obtain ⟨r26, h27, hf⟩ := bd_s hf
          refine iv_R (rest := [.int v3]) (st1 := [.int r26, .int v3]) C hE hP (c_X10_of l D cI cZ cL cW F a0 a1 a2 a3 a4 a5 a6 k_thrown k_w k_o k_isKept k_went k_wentMany k_waiting k_came k_depth k_isSilent k_x k_packed k_hits k_rues k_soonest k_inAll v4 3 r26  h27) ok_X10_of qM_X10_44 rfl rfl ⟨(Nat.le_of_ble_eq_true rfl), (Nat.le_of_ble_eq_true rfl)⟩ rfl rfl hl.1 (Nat.le_of_ble_eq_true rfl) ⟨Nat.zero_le _, Nat.zero_le _⟩ dX10_pack_87 rfl rfl ?_
          refine lv_iadd hx hb dX10_pack_90 ?_
          refine lv_istore_n (lv' := [(3, .int (v3 + r26)), (0, .ref a0), (2, .int v2), (4, .int v4)]) hx hb dX10_pack_91 rfl hl (by decide) rfl (fun ls hl => ?_)
          refine lv_goto (tgt := 172) hx hb dX10_pack_92 (by decide) ?_
          refine lv_iinc (v := (v4 + 1)) (lv' := [(4, .int (v4 + 1)), (3, .int (v3 + r26)), (0, .ref a0), (2, .int v2)]) hx hb dX10_pack_172 hl (k := 3) rfl rfl (by decide) rfl (fun ls hl => ?_)
          refine lv_goto (tgt := 59) hx hb dX10_pack_175 (by decide) ?_
          exact ih v2 (v3 + r26) (v4 + 1) k_thrown k_w k_o k_isKept k_went k_wentMany k_waiting k_came k_depth k_isSilent k_x k_packed k_hits k_rues k_soonest k_inAll _ _ _ _ ls hf hP hD hS (lv_sub hl [2, 3, 1, 0] rfl) hk
  refine lv_aload_n hx hb dX10_pack_0 rfl (lv_at hl 0 rfl) ?_
  refine lv_iconst (v := 0) hx hb dX10_pack_1 (by decide) ?_
  refine pf_X10 (v := .int 0) C hE hP hD hS 0 0 rfl (by decide) qF_X10_1 rfl rfl rfl (Nat.le_of_ble_eq_true rfl) dX10_pack_2 (fun H locs (hP : va_P D vwCl (MX10 cI cZ cL cW a0 a1 a2 a3 a4 a5 a6 0 k_w k_o k_isKept k_went k_wentMany k_waiting k_came k_depth k_isSilent k_x k_packed k_hits k_rues k_soonest k_inAll) H) (hD : va_D A (MX10 cI cZ cL cW a0 a1 a2 a3 a4 a5 a6 0 k_w k_o k_isKept k_went k_wentMany k_waiting k_came k_depth k_isSilent k_x k_packed k_hits k_rues k_soonest k_inAll)) hS => ?_)
  refine lv_iload_n hx hb dX10_pack_5 rfl (lv_at hl 1 rfl) ?_
  refine lv_aload_n hx hb dX10_pack_6 rfl (lv_at hl 0 rfl) ?_
  refine lv_iconst (v := (-1)) hx hb dX10_pack_7 (by decide) ?_
  obtain ⟨r1, h2, hf⟩ := bd_s hf
  refine iv_R (rest := [.int p1]) (st1 := [.int r1, .int p1]) C hE hP (c_X10_pinned l D cI cZ cL cW F a0 a1 a2 a3 a4 a5 a6 0 k_w k_o k_isKept k_went k_wentMany k_waiting k_came k_depth k_isSilent k_x k_packed k_hits k_rues k_soonest k_inAll (-1) r1  h2) ok_X10_pinned qM_X10_127 rfl rfl ⟨(Nat.le_of_ble_eq_true rfl), (Nat.le_of_ble_eq_true rfl)⟩ rfl rfl hl.1 (Nat.le_of_ble_eq_true rfl) ⟨Nat.zero_le _, Nat.zero_le _⟩ dX10_pack_8 rfl rfl ?_
  refine lv_isub hx hb dX10_pack_11 ?_
  refine lv_istore_n (lv' := [(2, .int (p1 - r1)), (0, .ref a0), (1, .int p1)]) hx hb dX10_pack_12 rfl hl (by decide) rfl (fun ls hl => ?_)
  refine lv_iload_n hx hb dX10_pack_13 rfl (lv_at hl 2 rfl) ?_
  refine lv_i2l hx hb dX10_pack_14 rfl ?_
  refine lv_lconst (v := 0) hx hb dX10_pack_15 (by decide) ?_
  refine lv_ldc2 (v := 5000) hx hb hown (ht _ qJ_X10_125) dX10_pack_16 ?_
  obtain ⟨r3, h4, hf⟩ := bd_s hf
  refine is_R (rest := []) (st1 := [.int r3]) C hE va_P_nil (c_X10_isIn l D cI cZ cL cW F   p1.toInt64 0 5000 r3  h4) ok_X10_isIn qM_X10_49 rfl rfl ⟨(Nat.le_of_ble_eq_true rfl), (Nat.le_of_ble_eq_true rfl)⟩ hl.1 (Nat.le_of_ble_eq_true rfl) ⟨Nat.zero_le _, Nat.zero_le _⟩ dX10_pack_19 rfl rfl ?_
  refine lv_if_eq (tgt := 29) hx hb dX10_pack_22 (by decide) (fun c35 => ?_) (fun c35 => ?_)
  · have hf := it_p hf c35
    refine lv_iconst (v := (-1)) hx hb dX10_pack_29 (by decide) ?_
    cases hf
    exact rw_i C hr hlk hP hD hS dX10_pack_30 rfl
  · have hf := it_n hf c35
    refine lv_iload_n hx hb dX10_pack_25 rfl (lv_at hl 0 rfl) ?_
    refine lv_if_ge (tgt := 31) hx hb dX10_pack_26 (by decide) (fun c34 => ?_) (fun c34 => ?_)
    · have hf := it_p hf c34
      refine lv_iconst (v := 0) hx hb dX10_pack_31 (by decide) ?_
      refine lv_istore_n (lv' := [(3, .int 0), (2, .int (p1 - r1)), (0, .ref a0), (1, .int p1)]) hx hb dX10_pack_32 rfl hl (by decide) rfl (fun ls hl => ?_)
      refine lv_iconst (v := 0) hx hb dX10_pack_33 (by decide) ?_
      refine lv_istore (lv' := [(4, .int 0), (3, .int 0), (2, .int (p1 - r1)), (0, .ref a0), (1, .int p1)]) hx hb dX10_pack_34 hl (by decide) rfl (fun ls hl => ?_)
      obtain ⟨k7, h8, hf⟩ := bd_s hf
      refine L36 _ F (p1 - r1) 0 0 0 k_w k_o k_isKept k_went k_wentMany k_waiting k_came k_depth k_isSilent k_x k_packed k_hits k_rues k_soonest k_inAll k7 _ _ ls h8 hP hD hS (lv_sub hl [3, 2, 1, 0] rfl) (fun H locs ls hP hD hS hl => ?_)
      refine lv_iconst (v := 0) hx hb dX10_pack_56 (by decide) ?_
      refine lv_istore (lv' := [(4, .int 0), (0, .ref a0), (2, .int (p1 - r1)), (3, .int 0)]) hx hb dX10_pack_57 hl (by decide) rfl (fun ls hl => ?_)
      obtain ⟨⟨x30, k31⟩, h32, hf⟩ := bd_s hf
      refine L59 _ F (p1 - r1) 0 0 0 k_w k_o k_isKept k_went k_wentMany k_waiting k_came k_depth k_isSilent k_x k7 k_hits k_rues k_soonest k_inAll x30 k31 _ _ ls h32 hP hD hS (lv_sub hl [1, 2, 3, 0] rfl) (fun H locs ls hP hD hS hl => ?_)
      refine lv_iload_n hx hb dX10_pack_178 rfl (lv_at hl 2 rfl) ?_
      refine lv_aload_n hx hb dX10_pack_179 rfl (lv_at hl 0 rfl) ?_
      refine gf_X10 (v := .ref a5) C hE hP 0 11 rfl (by decide) qF_X10_31 rfl dX10_pack_180 ?_
      refine lv_iload_n hx hb dX10_pack_183 rfl (lv_at hl 1 rfl) ?_
      obtain ⟨g33, hf⟩ := it_g hf
      refine va_iald hx hb hE.1 hP 5 0 rfl rfl g33 dX10_pack_184 ?_
      refine lv_iadd hx hb dX10_pack_185 ?_
      cases hf
      exact rw_i C hr hlk hP hD hS dX10_pack_186 rfl
    · have hf := it_n hf c34
      refine lv_iconst (v := (-1)) hx hb dX10_pack_29 (by decide) ?_
      cases hf
      exact rw_i C hr hlk hP hD hS dX10_pack_30 rfl
def X10_hearsKind (F : Nat) (p1 : Int32) (p2 : Int32) (k_w : (Nat → Int32)) (k_o : Int32) : Option (Int32) := (X10_hearerAt F p1 k_o).bind fun r1 => (if ((r1 + 0) : Int32) < 0 ∨ 3392 ≤ (Int32.toNatClampNeg (r1 + 0)) then none else (if ((k_w (Int32.toNatClampNeg (r1 + 0))) : Int32) = (-1) then (some 1) else ((X10_hearerAt F p1 k_o).bind fun r3 => (if ((r3 + 0) : Int32) < 0 ∨ 3392 ≤ (Int32.toNatClampNeg (r3 + 0)) then none else (if ((k_w (Int32.toNatClampNeg (r3 + 0))) : Int32) = p2 then (some 1) else (some 0))))))
abbrev rm_X10_hearsKind : Room := { frames := 1, cells := 0, slots := 0, locals := 21 }
theorem ok_X10_hearsKind : OKV RX10 yX10_hearsKind cX10_hearsKind 3 (some .boolean) 2 := ⟨by decide +kernel, qV_X10_hearsKind, qL_X10_hearsKind, qI_X10, qD_X10_hearsKind⟩
set_option maxHeartbeats 4000000 in
set_option maxRecDepth 100000 in
theorem c_X10_hearsKind (l : Launch) (D : va_G) (cI cZ cL cW : ClassId) (F : Nat) (a0 : Nat) (a1 : Nat) (a2 : Nat) (a3 : Nat) (a4 : Nat) (a5 : Nat) (a6 : Nat) (k_thrown : Int32) (k_w : (Nat → Int32)) (k_o : Int32) (k_isKept : (Nat → Int32)) (k_went : (Nat → Int32)) (k_wentMany : Int32) (k_waiting : (Nat → Int32)) (k_came : Int32) (k_depth : Int32) (k_isSilent : Int32) (k_x : Int64) (k_packed : (Nat → Int32)) (k_hits : Int32) (k_rues : Int32) (k_soonest : Int32) (k_inAll : (Nat → Int32)) (p1 : Int32) (p2 : Int32) (r : Int32) (hf : X10_hearsKind F p1 p2 k_w k_o = some r) : CtrR l D (tyL cI cZ cL cW) nestW yX10_hearsKind cX10_hearsKind 3 (some .boolean) rm_X10_hearsKind [.ref a0, .int p1, .int p2] (MX10 cI cZ cL cW a0 a1 a2 a3 a4 a5 a6 k_thrown k_w k_o k_isKept k_went k_wentMany k_waiting k_came k_depth k_isSilent k_x k_packed k_hits k_rues k_soonest k_inAll) (some (.int r)) := by
  refine ofR RX10 (by decide) rfl (Nat.le_of_ble_eq_true rfl) ?_
  intro p e s m below meth c ls C hr hlk hE hP hl
  generalize (List.toArray ([.ref a0, .int p1, .int p2] : List Value)) = args at C ⊢
  obtain ⟨hx, hb, hml, hown, ht⟩ := id C
  have hl : lv_has ls 3 [(0, .ref a0), (1, .int p1), (2, .int p2)] := hl
  refine lv_aload_n hx hb dX10_hearsKind_0 rfl (lv_at hl 0 rfl) ?_
  refine gf_X10 (v := .ref a1) C hE hP 0 1 rfl (by decide) qF_X10_17 rfl dX10_hearsKind_1 ?_
  refine lv_aload_n hx hb dX10_hearsKind_4 rfl (lv_at hl 0 rfl) ?_
  refine lv_iload_n hx hb dX10_hearsKind_5 rfl (lv_at hl 1 rfl) ?_
  obtain ⟨r1, h2, hf⟩ := bd_s hf
  refine iv_R (rest := [.ref a1]) (st1 := [.int r1, .ref a1]) C hE hP (c_X10_hearerAt l D cI cZ cL cW F a0 a1 a2 a3 a4 a5 a6 k_thrown k_w k_o k_isKept k_went k_wentMany k_waiting k_came k_depth k_isSilent k_x k_packed k_hits k_rues k_soonest k_inAll p1 r1  h2) ok_X10_hearerAt qM_X10_115 rfl rfl ⟨(Nat.le_of_ble_eq_true rfl), (Nat.le_of_ble_eq_true rfl)⟩ rfl rfl hl.1 (Nat.le_of_ble_eq_true rfl) ⟨Nat.zero_le _, Nat.zero_le _⟩ dX10_hearsKind_6 rfl rfl ?_
  refine lv_iconst (v := 0) hx hb dX10_hearsKind_9 (by decide) ?_
  refine lv_iadd hx hb dX10_hearsKind_10 ?_
  obtain ⟨g8, hf⟩ := it_g hf
  refine va_iald hx hb hE.1 hP 1 0 rfl rfl g8 dX10_hearsKind_11 ?_
  refine lv_iconst (v := (-1)) hx hb dX10_hearsKind_12 (by decide) ?_
  refine lv_icmp_eq (tgt := 32) hx hb dX10_hearsKind_13 (by decide) (fun c7 => ?_) (fun c7 => ?_)
  · have hf := it_p hf c7
    refine lv_iconst (v := 1) hx hb dX10_hearsKind_32 (by decide) ?_
    refine lv_goto (tgt := 37) hx hb dX10_hearsKind_33 (by decide) ?_
    exact rt_z C hr hlk (by decide) dX10_hearsKind_37 (congrArg (fun o => o.map Value.int) hf)
  · have hf := it_n hf c7
    refine lv_aload_n hx hb dX10_hearsKind_16 rfl (lv_at hl 0 rfl) ?_
    refine gf_X10 (v := .ref a1) C hE hP 0 1 rfl (by decide) qF_X10_17 rfl dX10_hearsKind_17 ?_
    refine lv_aload_n hx hb dX10_hearsKind_20 rfl (lv_at hl 0 rfl) ?_
    refine lv_iload_n hx hb dX10_hearsKind_21 rfl (lv_at hl 1 rfl) ?_
    obtain ⟨r3, h4, hf⟩ := bd_s hf
    refine iv_R (rest := [.ref a1]) (st1 := [.int r3, .ref a1]) C hE hP (c_X10_hearerAt l D cI cZ cL cW F a0 a1 a2 a3 a4 a5 a6 k_thrown k_w k_o k_isKept k_went k_wentMany k_waiting k_came k_depth k_isSilent k_x k_packed k_hits k_rues k_soonest k_inAll p1 r3  h4) ok_X10_hearerAt qM_X10_115 rfl rfl ⟨(Nat.le_of_ble_eq_true rfl), (Nat.le_of_ble_eq_true rfl)⟩ rfl rfl hl.1 (Nat.le_of_ble_eq_true rfl) ⟨Nat.zero_le _, Nat.zero_le _⟩ dX10_hearsKind_22 rfl rfl ?_
    refine lv_iconst (v := 0) hx hb dX10_hearsKind_25 (by decide) ?_
    refine lv_iadd hx hb dX10_hearsKind_26 ?_
    obtain ⟨g6, hf⟩ := it_g hf
    refine va_iald hx hb hE.1 hP 1 0 rfl rfl g6 dX10_hearsKind_27 ?_
    refine lv_iload_n hx hb dX10_hearsKind_28 rfl (lv_at hl 2 rfl) ?_
    refine lv_icmp_ne (tgt := 36) hx hb dX10_hearsKind_29 (by decide) (fun c5 => ?_) (fun c5 => ?_)
    · have hf := it_n hf c5
      refine lv_iconst (v := 0) hx hb dX10_hearsKind_36 (by decide) ?_
      exact rt_z C hr hlk (by decide) dX10_hearsKind_37 (congrArg (fun o => o.map Value.int) hf)
    · have hf := it_p hf c5
      refine lv_iconst (v := 1) hx hb dX10_hearsKind_32 (by decide) ?_
      refine lv_goto (tgt := 37) hx hb dX10_hearsKind_33 (by decide) ?_
      exact rt_z C hr hlk (by decide) dX10_hearsKind_37 (congrArg (fun o => o.map Value.int) hf)
def X10_meets_L23 (F : Nat) : Nat → Int32 → Int32 → Int32 → (Nat → Int32) → Option (Int32)
  | 0, _, _, _, _ => none
  | n + 1, v3, v4, v5, k_w => if (1000 : Int32) ≤ v5 then (some 0) else (if ((v3 + 4) : Int32) < 0 ∨ 3392 ≤ (Int32.toNatClampNeg (v3 + 4)) then none else (if ((v4 + 1) : Int32) < 0 ∨ 3392 ≤ (Int32.toNatClampNeg (v4 + 1)) then none else (if (k_w (Int32.toNatClampNeg (v4 + 1))) = 0 then none else (if ((v4 + 2) : Int32) < 0 ∨ 3392 ≤ (Int32.toNatClampNeg (v4 + 2)) then none else (if ((((((v5 + (k_w (Int32.toNatClampNeg (v3 + 4)))) - (v5 + (k_w (Int32.toNatClampNeg (v3 + 4)))) / 1000 * 1000) + 1000) - (((v5 + (k_w (Int32.toNatClampNeg (v3 + 4)))) - (v5 + (k_w (Int32.toNatClampNeg (v3 + 4)))) / 1000 * 1000) + 1000) / 1000 * 1000) - ((((v5 + (k_w (Int32.toNatClampNeg (v3 + 4)))) - (v5 + (k_w (Int32.toNatClampNeg (v3 + 4)))) / 1000 * 1000) + 1000) - (((v5 + (k_w (Int32.toNatClampNeg (v3 + 4)))) - (v5 + (k_w (Int32.toNatClampNeg (v3 + 4)))) / 1000 * 1000) + 1000) / 1000 * 1000) / (k_w (Int32.toNatClampNeg (v4 + 1))) * (k_w (Int32.toNatClampNeg (v4 + 1)))) : Int32) = (k_w (Int32.toNatClampNeg (v4 + 2))) then (some 1) else (if ((v3 + 1) : Int32) < 0 ∨ 3392 ≤ (Int32.toNatClampNeg (v3 + 1)) then none else (X10_meets_L23 F n v3 v4 (v5 + (k_w (Int32.toNatClampNeg (v3 + 1)))) k_w)))))))
def X10_meets (F : Nat) (p1 : Int32) (p2 : Int32) (k_w : (Nat → Int32)) (k_o : Int32) : Option (Int32) := (X10_hearerAt F p1 k_o).bind fun r1 => ((X10_hearerAt F p2 k_o).bind fun r3 => (if ((r1 + 2) : Int32) < 0 ∨ 3392 ≤ (Int32.toNatClampNeg (r1 + 2)) then none else (X10_meets_L23 F F r1 r3 (k_w (Int32.toNatClampNeg (r1 + 2))) k_w)))
abbrev rm_X10_meets : Room := { frames := 1, cells := 0, slots := 0, locals := 21 }
theorem ok_X10_meets : OKV RX10 yX10_meets cX10_meets 7 (some .boolean) 2 := ⟨by decide +kernel, qV_X10_meets, qL_X10_meets, qI_X10, qD_X10_meets⟩
set_option maxHeartbeats 4000000 in
set_option maxRecDepth 100000 in
theorem c_X10_meets (l : Launch) (D : va_G) (cI cZ cL cW : ClassId) (F : Nat) (a0 : Nat) (a1 : Nat) (a2 : Nat) (a3 : Nat) (a4 : Nat) (a5 : Nat) (a6 : Nat) (k_thrown : Int32) (k_w : (Nat → Int32)) (k_o : Int32) (k_isKept : (Nat → Int32)) (k_went : (Nat → Int32)) (k_wentMany : Int32) (k_waiting : (Nat → Int32)) (k_came : Int32) (k_depth : Int32) (k_isSilent : Int32) (k_x : Int64) (k_packed : (Nat → Int32)) (k_hits : Int32) (k_rues : Int32) (k_soonest : Int32) (k_inAll : (Nat → Int32)) (p1 : Int32) (p2 : Int32) (r : Int32) (hf : X10_meets F p1 p2 k_w k_o = some r) : CtrR l D (tyL cI cZ cL cW) nestW yX10_meets cX10_meets 7 (some .boolean) rm_X10_meets [.ref a0, .int p1, .int p2] (MX10 cI cZ cL cW a0 a1 a2 a3 a4 a5 a6 k_thrown k_w k_o k_isKept k_went k_wentMany k_waiting k_came k_depth k_isSilent k_x k_packed k_hits k_rues k_soonest k_inAll) (some (.int r)) := by
  refine ofR RX10 (by decide) rfl (Nat.le_of_ble_eq_true rfl) ?_
  intro p e s m below meth c ls C hr hlk hE hP hl
  generalize (List.toArray ([.ref a0, .int p1, .int p2] : List Value)) = args at C ⊢
  obtain ⟨hx, hb, hml, hown, ht⟩ := id C
  have hl : lv_has ls 7 [(0, .ref a0), (1, .int p1), (2, .int p2)] := hl
  have L23 : ∀ (n : Nat) (v3 : Int32) (v4 : Int32) (v5 : Int32) (ls : Array Slot), X10_meets_L23 F n v3 v4 v5 k_w = some r → lv_has ls 7 [(0, .ref a0), (3, .int v3), (4, .int v4), (5, .int v5)] → W p l e rm_X10_meets s m args below meth c s.heap [] 0 0 (MQ below (QR (some (.int r))) args s 0 0 (fun _ => False)) (F0 m 23 ls []) := by
    intro n
    induction n with
    | zero => intro v3 v4 v5 ls hf hl; exact nn_s hf
    | succ n ih =>
      intro v3 v4 v5 ls hf hl
      refine lv_iload hx hb dX10_meets_23 (lv_at hl 3 rfl) ?_
      refine lv_sipush (v := 1000) hx hb dX10_meets_25 (by decide) ?_
      refine lv_icmp_ge (tgt := 98) hx hb dX10_meets_28 (by decide) (fun c11 => ?_) (fun c11 => ?_)
      · have hf := it_p hf c11
        refine lv_iconst (v := 0) hx hb dX10_meets_98 (by decide) ?_
        exact rt_z C hr hlk (by decide) dX10_meets_99 (congrArg (fun o => o.map Value.int) hf)
      · have hf := it_n hf c11
        refine lv_iload hx hb dX10_meets_31 (lv_at hl 3 rfl) ?_
        refine lv_aload_n hx hb dX10_meets_33 rfl (lv_at hl 0 rfl) ?_
        refine gf_X10 (v := .ref a1) C hE hP 0 1 rfl (by decide) qF_X10_17 rfl dX10_meets_34 ?_
        refine lv_iload_n hx hb dX10_meets_37 rfl (lv_at hl 1 rfl) ?_
        refine lv_iconst (v := 4) hx hb dX10_meets_38 (by decide) ?_
        refine lv_iadd hx hb dX10_meets_39 ?_
        obtain ⟨g10, hf⟩ := it_g hf
        refine va_iald hx hb hE.1 hP 1 0 rfl rfl g10 dX10_meets_40 ?_
        refine lv_iadd hx hb dX10_meets_41 ?_
        refine lv_sipush (v := 1000) hx hb dX10_meets_42 (by decide) ?_
        refine lv_irem hx hb dX10_meets_45 (by decide) ?_
        refine lv_sipush (v := 1000) hx hb dX10_meets_46 (by decide) ?_
        refine lv_iadd hx hb dX10_meets_49 ?_
        refine lv_sipush (v := 1000) hx hb dX10_meets_50 (by decide) ?_
        refine lv_irem hx hb dX10_meets_53 (by decide) ?_
        refine lv_istore (lv' := [(6, .int ((((v5 + (k_w (Int32.toNatClampNeg (v3 + 4)))) - (v5 + (k_w (Int32.toNatClampNeg (v3 + 4)))) / 1000 * 1000) + 1000) - (((v5 + (k_w (Int32.toNatClampNeg (v3 + 4)))) - (v5 + (k_w (Int32.toNatClampNeg (v3 + 4)))) / 1000 * 1000) + 1000) / 1000 * 1000)), (0, .ref a0), (3, .int v3), (4, .int v4), (5, .int v5)]) hx hb dX10_meets_54 hl (by decide) rfl (fun ls hl => ?_)
        refine lv_iload hx hb dX10_meets_56 (lv_at hl 0 rfl) ?_
        refine lv_aload_n hx hb dX10_meets_58 rfl (lv_at hl 1 rfl) ?_
        refine gf_X10 (v := .ref a1) C hE hP 0 1 rfl (by decide) qF_X10_17 rfl dX10_meets_59 ?_
        refine lv_iload hx hb dX10_meets_62 (lv_at hl 3 rfl) ?_
        refine lv_iconst (v := 1) hx hb dX10_meets_64 (by decide) ?_
        refine lv_iadd hx hb dX10_meets_65 ?_
        obtain ⟨g9, hf⟩ := it_g hf
        refine va_iald hx hb hE.1 hP 1 0 rfl rfl g9 dX10_meets_66 ?_
        obtain ⟨g5, hf⟩ := it_g hf
        refine lv_irem hx hb dX10_meets_67 g5 ?_
        refine lv_aload_n hx hb dX10_meets_68 rfl (lv_at hl 1 rfl) ?_
        refine gf_X10 (v := .ref a1) C hE hP 0 1 rfl (by decide) qF_X10_17 rfl dX10_meets_69 ?_
        refine lv_iload hx hb dX10_meets_72 (lv_at hl 3 rfl) ?_
        refine lv_iconst (v := 2) hx hb dX10_meets_74 (by decide) ?_
        refine lv_iadd hx hb dX10_meets_75 ?_
        obtain ⟨g8, hf⟩ := it_g hf
        refine va_iald hx hb hE.1 hP 1 0 rfl rfl g8 dX10_meets_76 ?_
        refine lv_icmp_ne (tgt := 82) hx hb dX10_meets_77 (by decide) (fun c7 => ?_) (fun c7 => ?_)
        · have hf := it_n hf c7
          refine lv_iload hx hb dX10_meets_82 (lv_at hl 4 rfl) ?_
          refine lv_aload_n hx hb dX10_meets_84 rfl (lv_at hl 1 rfl) ?_
          refine gf_X10 (v := .ref a1) C hE hP 0 1 rfl (by decide) qF_X10_17 rfl dX10_meets_85 ?_
          refine lv_iload_n hx hb dX10_meets_88 rfl (lv_at hl 2 rfl) ?_
          refine lv_iconst (v := 1) hx hb dX10_meets_89 (by decide) ?_
          refine lv_iadd hx hb dX10_meets_90 ?_
          obtain ⟨g6, hf⟩ := it_g hf
          refine va_iald hx hb hE.1 hP 1 0 rfl rfl g6 dX10_meets_91 ?_
          refine lv_iadd hx hb dX10_meets_92 ?_
          refine lv_istore (lv' := [(5, .int (v5 + (k_w (Int32.toNatClampNeg (v3 + 1))))), (6, .int ((((v5 + (k_w (Int32.toNatClampNeg (v3 + 4)))) - (v5 + (k_w (Int32.toNatClampNeg (v3 + 4)))) / 1000 * 1000) + 1000) - (((v5 + (k_w (Int32.toNatClampNeg (v3 + 4)))) - (v5 + (k_w (Int32.toNatClampNeg (v3 + 4)))) / 1000 * 1000) + 1000) / 1000 * 1000)), (0, .ref a0), (3, .int v3), (4, .int v4)]) hx hb dX10_meets_93 hl (by decide) rfl (fun ls hl => ?_)
          refine lv_goto (tgt := 23) hx hb dX10_meets_95 (by decide) ?_
          exact ih v3 v4 (v5 + (k_w (Int32.toNatClampNeg (v3 + 1)))) ls hf (lv_sub hl [2, 3, 4, 0] rfl)
        · have hf := it_p hf c7
          refine lv_iconst (v := 1) hx hb dX10_meets_80 (by decide) ?_
          exact rt_z C hr hlk (by decide) dX10_meets_81 (congrArg (fun o => o.map Value.int) hf)
  refine lv_aload_n hx hb dX10_meets_0 rfl (lv_at hl 0 rfl) ?_
  refine lv_iload_n hx hb dX10_meets_1 rfl (lv_at hl 1 rfl) ?_
  obtain ⟨r1, h2, hf⟩ := bd_s hf
  refine iv_R (rest := []) (st1 := [.int r1]) C hE hP (c_X10_hearerAt l D cI cZ cL cW F a0 a1 a2 a3 a4 a5 a6 k_thrown k_w k_o k_isKept k_went k_wentMany k_waiting k_came k_depth k_isSilent k_x k_packed k_hits k_rues k_soonest k_inAll p1 r1  h2) ok_X10_hearerAt qM_X10_115 rfl rfl ⟨(Nat.le_of_ble_eq_true rfl), (Nat.le_of_ble_eq_true rfl)⟩ rfl rfl hl.1 (Nat.le_of_ble_eq_true rfl) ⟨Nat.zero_le _, Nat.zero_le _⟩ dX10_meets_2 rfl rfl ?_
  refine lv_istore_n (lv' := [(3, .int r1), (0, .ref a0), (1, .int p1), (2, .int p2)]) hx hb dX10_meets_5 rfl hl (by decide) rfl (fun ls hl => ?_)
  refine lv_aload_n hx hb dX10_meets_6 rfl (lv_at hl 1 rfl) ?_
  refine lv_iload_n hx hb dX10_meets_7 rfl (lv_at hl 3 rfl) ?_
  obtain ⟨r3, h4, hf⟩ := bd_s hf
  refine iv_R (rest := []) (st1 := [.int r3]) C hE hP (c_X10_hearerAt l D cI cZ cL cW F a0 a1 a2 a3 a4 a5 a6 k_thrown k_w k_o k_isKept k_went k_wentMany k_waiting k_came k_depth k_isSilent k_x k_packed k_hits k_rues k_soonest k_inAll p2 r3  h4) ok_X10_hearerAt qM_X10_115 rfl rfl ⟨(Nat.le_of_ble_eq_true rfl), (Nat.le_of_ble_eq_true rfl)⟩ rfl rfl hl.1 (Nat.le_of_ble_eq_true rfl) ⟨Nat.zero_le _, Nat.zero_le _⟩ dX10_meets_8 rfl rfl ?_
  refine lv_istore (lv' := [(4, .int r3), (3, .int r1), (0, .ref a0), (1, .int p1), (2, .int p2)]) hx hb dX10_meets_11 hl (by decide) rfl (fun ls hl => ?_)
  refine lv_aload_n hx hb dX10_meets_13 rfl (lv_at hl 2 rfl) ?_
  refine gf_X10 (v := .ref a1) C hE hP 0 1 rfl (by decide) qF_X10_17 rfl dX10_meets_14 ?_
  refine lv_iload_n hx hb dX10_meets_17 rfl (lv_at hl 1 rfl) ?_
  refine lv_iconst (v := 2) hx hb dX10_meets_18 (by decide) ?_
  refine lv_iadd hx hb dX10_meets_19 ?_
  obtain ⟨g12, hf⟩ := it_g hf
  refine va_iald hx hb hE.1 hP 1 0 rfl rfl g12 dX10_meets_20 ?_
  refine lv_istore (lv' := [(5, .int (k_w (Int32.toNatClampNeg (r1 + 2)))), (4, .int r3), (3, .int r1), (0, .ref a0), (1, .int p1), (2, .int p2)]) hx hb dX10_meets_21 hl (by decide) rfl (fun ls hl => ?_)
  exact L23 F r1 r3 (k_w (Int32.toNatClampNeg (r1 + 2))) ls hf (lv_sub hl [3, 2, 1, 0] rfl)
