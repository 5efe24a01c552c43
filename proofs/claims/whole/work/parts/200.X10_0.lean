abbrev tX10 : Type := Int32 × (Nat → Int32) × Int32 × (Nat → Int32) × (Nat → Int32) × Int32 × (Nat → Int32) × Int32 × Int32 × Int32 × Int64 × (Nat → Int32) × Int32 × Int32 × Int32 × (Nat → Int32)
abbrev MX10 (cI cZ cL cW : ClassId) (a0 : Nat) (a1 : Nat) (a2 : Nat) (a3 : Nat) (a4 : Nat) (a5 : Nat) (a6 : Nat) (k_thrown : Int32) (k_w : (Nat → Int32)) (k_o : Int32) (k_isKept : (Nat → Int32)) (k_went : (Nat → Int32)) (k_wentMany : Int32) (k_waiting : (Nat → Int32)) (k_came : Int32) (k_depth : Int32) (k_isSilent : Int32) (k_x : Int64) (k_packed : (Nat → Int32)) (k_hits : Int32) (k_rues : Int32) (k_soonest : Int32) (k_inAll : (Nat → Int32)) : va_W := [(a0, .inr (10, [.int k_thrown, .ref a1, .int k_o, .ref a2, .ref a3, .int k_wentMany, .ref a4, .int k_came, .int k_depth, .int k_isSilent, .long k_x, .ref a5, .int k_hits, .int k_rues, .int k_soonest, .ref a6])), (a1, .inl (cI, 3392, .inl k_w)), (a2, .inl (cZ, 2, .inl k_isKept)), (a3, .inl (cI, 128, .inl k_went)), (a4, .inl (cI, 500, .inl k_waiting)), (a5, .inl (cI, 5001, .inl k_packed)), (a6, .inl (cZ, 1000, .inl k_inAll))]
def X10_isIn (F : Nat) (p1 : Int64) (p2 : Int64) (p3 : Int64) : Option (Int32) := if ((lg_cmp p1 p2) : Int32) < 0 then (some 0) else (if (0 : Int32) < (lg_cmp p1 p3) then (some 0) else (some 1))
abbrev rm_X10_isIn : Room := { frames := 0, cells := 0, slots := 0, locals := 0 }
theorem ok_X10_isIn : OKS yX10_isIn cX10_isIn 6 (some .boolean) 3 := ⟨by decide +kernel, qS_X10_isIn, qI_X10, qD_X10_isIn⟩
set_option maxHeartbeats 4000000 in
set_option maxRecDepth 100000 in
theorem c_X10_isIn (l : Launch) (D : va_G) (cI cZ cL cW : ClassId) (F : Nat) (p1 : Int64) (p2 : Int64) (p3 : Int64) (r : Int32) (hf : X10_isIn F p1 p2 p3 = some r) : CtrR l D (tyL cI cZ cL cW) nestW yX10_isIn cX10_isIn 6 (some .boolean) rm_X10_isIn [.long p1, .long p2, .long p3] ([] : va_W) (some (.int r)) := by
  refine ofR RX10 (by decide) rfl (Nat.le_of_ble_eq_true rfl) ?_
  intro p e s m below meth c ls C hr hlk hE hP hl
  generalize (List.toArray ([.long p1, .long p2, .long p3] : List Value)) = args at C ⊢
  obtain ⟨hx, hb, hml, hown, ht⟩ := id C
  have hl : lv_has ls 6 [(0, .long p1), (2, .long p2), (4, .long p3)] := hl
  refine lv_lload_n hx hb dX10_isIn_0 rfl (lv_at hl 0 rfl) ?_
  refine lv_lload_n hx hb dX10_isIn_1 rfl (lv_at hl 1 rfl) ?_
  refine W.lcmp hx hb dX10_isIn_2 ?_
  refine lv_if_lt (tgt := 17) hx hb dX10_isIn_3 (by decide) (fun c2 => ?_) (fun c2 => ?_)
  · have hf := it_p hf c2
    refine lv_iconst (v := 0) hx hb dX10_isIn_17 (by decide) ?_
    exact rt_z C hr hlk (by decide) dX10_isIn_18 (congrArg (fun o => o.map Value.int) hf)
  · have hf := it_n hf c2
    refine lv_lload_n hx hb dX10_isIn_6 rfl (lv_at hl 0 rfl) ?_
    refine lv_lload hx hb dX10_isIn_7 (lv_at hl 2 rfl) ?_
    refine W.lcmp hx hb dX10_isIn_9 ?_
    refine lv_if_gt (tgt := 17) hx hb dX10_isIn_10 (by decide) (fun c1 => ?_) (fun c1 => ?_)
    · have hf := it_p hf c1
      refine lv_iconst (v := 0) hx hb dX10_isIn_17 (by decide) ?_
      exact rt_z C hr hlk (by decide) dX10_isIn_18 (congrArg (fun o => o.map Value.int) hf)
    · have hf := it_n hf c1
      refine lv_iconst (v := 1) hx hb dX10_isIn_13 (by decide) ?_
      refine lv_goto (tgt := 18) hx hb dX10_isIn_14 (by decide) ?_
      exact rt_z C hr hlk (by decide) dX10_isIn_18 (congrArg (fun o => o.map Value.int) hf)
def X10_flag (F : Nat) (p1 : Int32) : Option (Int32) := if (p1 : Int32) = 0 then (some 0) else (some 1)
abbrev rm_X10_flag : Room := { frames := 0, cells := 0, slots := 0, locals := 0 }
theorem ok_X10_flag : OKS yX10_flag cX10_flag 1 (some .int) 1 := ⟨by decide +kernel, qS_X10_flag, qI_X10, qD_X10_flag⟩
set_option maxHeartbeats 4000000 in
set_option maxRecDepth 100000 in
theorem c_X10_flag (l : Launch) (D : va_G) (cI cZ cL cW : ClassId) (F : Nat) (p1 : Int32) (r : Int32) (hf : X10_flag F p1 = some r) : CtrR l D (tyL cI cZ cL cW) nestW yX10_flag cX10_flag 1 (some .int) rm_X10_flag [.int p1] ([] : va_W) (some (.int r)) := by
  refine ofR RX10 (by decide) rfl (Nat.le_of_ble_eq_true rfl) ?_
  intro p e s m below meth c ls C hr hlk hE hP hl
  generalize (List.toArray ([.int p1] : List Value)) = args at C ⊢
  obtain ⟨hx, hb, hml, hown, ht⟩ := id C
  have hl : lv_has ls 1 [(0, .int p1)] := hl
  refine lv_iload_n hx hb dX10_flag_0 rfl (lv_at hl 0 rfl) ?_
  refine lv_if_eq (tgt := 8) hx hb dX10_flag_1 (by decide) (fun c1 => ?_) (fun c1 => ?_)
  · have hf := it_p hf c1
    refine lv_iconst (v := 0) hx hb dX10_flag_8 (by decide) ?_
    exact rt_i C hr hlk dX10_flag_9 (congrArg (fun o => o.map Value.int) hf)
  · have hf := it_n hf c1
    refine lv_iconst (v := 1) hx hb dX10_flag_4 (by decide) ?_
    refine lv_goto (tgt := 9) hx hb dX10_flag_5 (by decide) ?_
    exact rt_i C hr hlk dX10_flag_9 (congrArg (fun o => o.map Value.int) hf)
def X10_lesser (F : Nat) (p1 : Int32) (p2 : Int32) : Option (Int32) := if (p2 : Int32) ≤ p1 then (some p2) else (some p1)
abbrev rm_X10_lesser : Room := { frames := 0, cells := 0, slots := 0, locals := 0 }
theorem ok_X10_lesser : OKS yX10_lesser cX10_lesser 2 (some .int) 2 := ⟨by decide +kernel, qS_X10_lesser, qI_X10, qD_X10_lesser⟩
set_option maxHeartbeats 4000000 in
set_option maxRecDepth 100000 in
theorem c_X10_lesser (l : Launch) (D : va_G) (cI cZ cL cW : ClassId) (F : Nat) (p1 : Int32) (p2 : Int32) (r : Int32) (hf : X10_lesser F p1 p2 = some r) : CtrR l D (tyL cI cZ cL cW) nestW yX10_lesser cX10_lesser 2 (some .int) rm_X10_lesser [.int p1, .int p2] ([] : va_W) (some (.int r)) := by
  refine ofR RX10 (by decide) rfl (Nat.le_of_ble_eq_true rfl) ?_
  intro p e s m below meth c ls C hr hlk hE hP hl
  generalize (List.toArray ([.int p1, .int p2] : List Value)) = args at C ⊢
  obtain ⟨hx, hb, hml, hown, ht⟩ := id C
  have hl : lv_has ls 2 [(0, .int p1), (1, .int p2)] := hl
  refine lv_iload_n hx hb dX10_lesser_0 rfl (lv_at hl 0 rfl) ?_
  refine lv_iload_n hx hb dX10_lesser_1 rfl (lv_at hl 1 rfl) ?_
  refine lv_icmp_ge (tgt := 9) hx hb dX10_lesser_2 (by decide) (fun c1 => ?_) (fun c1 => ?_)
  · have hf := it_p hf c1
    refine lv_iload_n hx hb dX10_lesser_9 rfl (lv_at hl 1 rfl) ?_
    exact rt_i C hr hlk dX10_lesser_10 (congrArg (fun o => o.map Value.int) hf)
  · have hf := it_n hf c1
    refine lv_iload_n hx hb dX10_lesser_5 rfl (lv_at hl 0 rfl) ?_
    refine lv_goto (tgt := 10) hx hb dX10_lesser_6 (by decide) ?_
    exact rt_i C hr hlk dX10_lesser_10 (congrArg (fun o => o.map Value.int) hf)
def X10_near (F : Nat) (p1 : Int32) (p2 : Int32) : Option (Int32) := if (0 : Int32) ≤ p1 then ((X10_lesser F p1 p2).bind fun r1 => (some r1)) else (some 0)
abbrev rm_X10_near : Room := { frames := 1, cells := 0, slots := 0, locals := 21 }
theorem ok_X10_near : OKS yX10_near cX10_near 2 (some .int) 2 := ⟨by decide +kernel, qS_X10_near, qI_X10, qD_X10_near⟩
set_option maxHeartbeats 4000000 in
set_option maxRecDepth 100000 in
theorem c_X10_near (l : Launch) (D : va_G) (cI cZ cL cW : ClassId) (F : Nat) (p1 : Int32) (p2 : Int32) (r : Int32) (hf : X10_near F p1 p2 = some r) : CtrR l D (tyL cI cZ cL cW) nestW yX10_near cX10_near 2 (some .int) rm_X10_near [.int p1, .int p2] ([] : va_W) (some (.int r)) := by
  refine ofR RX10 (by decide) rfl (Nat.le_of_ble_eq_true rfl) ?_
  intro p e s m below meth c ls C hr hlk hE hP hl
  generalize (List.toArray ([.int p1, .int p2] : List Value)) = args at C ⊢
  obtain ⟨hx, hb, hml, hown, ht⟩ := id C
  have hl : lv_has ls 2 [(0, .int p1), (1, .int p2)] := hl
  refine lv_iload_n hx hb dX10_near_0 rfl (lv_at hl 0 rfl) ?_
  refine lv_if_ge (tgt := 8) hx hb dX10_near_1 (by decide) (fun c3 => ?_) (fun c3 => ?_)
  · have hf := it_p hf c3
    refine lv_iload_n hx hb dX10_near_8 rfl (lv_at hl 0 rfl) ?_
    refine lv_iload_n hx hb dX10_near_9 rfl (lv_at hl 1 rfl) ?_
    obtain ⟨r1, h2, hf⟩ := bd_s hf
    refine is_R (rest := []) (st1 := [.int r1]) C hE va_P_nil (c_X10_lesser l D cI cZ cL cW F   p1 p2 r1  h2) ok_X10_lesser qM_X10_7 rfl rfl ⟨(Nat.le_of_ble_eq_true rfl), (Nat.le_of_ble_eq_true rfl)⟩ hl.1 (Nat.le_of_ble_eq_true rfl) ⟨Nat.zero_le _, Nat.zero_le _⟩ dX10_near_10 rfl rfl ?_
    exact rt_i C hr hlk dX10_near_13 (congrArg (fun o => o.map Value.int) hf)
  · have hf := it_n hf c3
    refine lv_iconst (v := 0) hx hb dX10_near_4 (by decide) ?_
    refine lv_goto (tgt := 13) hx hb dX10_near_5 (by decide) ?_
    exact rt_i C hr hlk dX10_near_13 (congrArg (fun o => o.map Value.int) hf)
def X10_begins_L2 (F : Nat) : Nat → Int32 → Int32 → Int32 → (Nat → Int32) → Int32 → Option ((Nat → Int32))
  | 0, _, _, _, _, _ => none
  | n + 1, v1, v2, v3, k_w, k_o => if (848 : Int32) ≤ v3 then (some k_w) else (if ((k_o + v3) : Int32) < 0 ∨ 3392 ≤ (Int32.toNatClampNeg (k_o + v3)) then none else (X10_begins_L2 F n v1 v2 (v3 + 1) (upd k_w (Int32.toNatClampNeg (k_o + v3)) 0) k_o))
def X10_begins (F : Nat) (p1 : Int32) (p2 : Int32) (k_w : (Nat → Int32)) (k_o : Int32) : Option ((Nat → Int32)) := (X10_begins_L2 F F p1 p2 0 k_w k_o).bind fun k3 => (if ((k_o + 1) : Int32) < 0 ∨ 3392 ≤ (Int32.toNatClampNeg (k_o + 1)) then none else (if ((k_o + 6) : Int32) < 0 ∨ 3392 ≤ (Int32.toNatClampNeg (k_o + 6)) then none else (some (upd (upd k3 (Int32.toNatClampNeg (k_o + 1)) p1) (Int32.toNatClampNeg (k_o + 6)) p2))))
abbrev rm_X10_begins : Room := { frames := 0, cells := 0, slots := 0, locals := 0 }
theorem ok_X10_begins : OKV RX10 yX10_begins cX10_begins 4 none 2 := ⟨by decide +kernel, qV_X10_begins, qL_X10_begins, qI_X10, qD_X10_begins⟩
set_option maxHeartbeats 4000000 in
set_option maxRecDepth 100000 in
theorem c_X10_begins (l : Launch) (D : va_G) (cI cZ cL cW : ClassId) (F : Nat) (a0 : Nat) (a1 : Nat) (a2 : Nat) (a3 : Nat) (a4 : Nat) (a5 : Nat) (a6 : Nat) (k_thrown : Int32) (k_w : (Nat → Int32)) (k_o : Int32) (k_isKept : (Nat → Int32)) (k_went : (Nat → Int32)) (k_wentMany : Int32) (k_waiting : (Nat → Int32)) (k_came : Int32) (k_depth : Int32) (k_isSilent : Int32) (k_x : Int64) (k_packed : (Nat → Int32)) (k_hits : Int32) (k_rues : Int32) (k_soonest : Int32) (k_inAll : (Nat → Int32)) (p1 : Int32) (p2 : Int32) (k_w' : (Nat → Int32)) (hf : X10_begins F p1 p2 k_w k_o = some (k_w')) : CtrW l D (tyL cI cZ cL cW) nestW yX10_begins cX10_begins 4 none rm_X10_begins [.ref a0, .int p1, .int p2] (MX10 cI cZ cL cW a0 a1 a2 a3 a4 a5 a6 k_thrown k_w k_o k_isKept k_went k_wentMany k_waiting k_came k_depth k_isSilent k_x k_packed k_hits k_rues k_soonest k_inAll) (MX10 cI cZ cL cW a0 a1 a2 a3 a4 a5 a6 k_thrown (k_w') k_o k_isKept k_went k_wentMany k_waiting k_came k_depth k_isSilent k_x k_packed k_hits k_rues k_soonest k_inAll) none := by
  refine ofA RX10 (by decide) rfl (Nat.le_of_ble_eq_true rfl) ?_
  intro p e s m below meth c ls A C hr hlk hE hA hP hD hS hl
  generalize (List.toArray ([.ref a0, .int p1, .int p2] : List Value)) = args at C ⊢
  obtain ⟨hx, hb, hml, hown, ht⟩ := id C
  have hl : lv_has ls 4 [(0, .ref a0), (1, .int p1), (2, .int p2)] := hl
  have L2 : ∀ (Q : State → Prop) (n : Nat) (v1 : Int32) (v2 : Int32) (v3 : Int32) (k_thrown : Int32) (k_w : (Nat → Int32)) (k_o : Int32) (k_isKept : (Nat → Int32)) (k_went : (Nat → Int32)) (k_wentMany : Int32) (k_waiting : (Nat → Int32)) (k_came : Int32) (k_depth : Int32) (k_isSilent : Int32) (k_x : Int64) (k_packed : (Nat → Int32)) (k_hits : Int32) (k_rues : Int32) (k_soonest : Int32) (k_inAll : (Nat → Int32)) (k_w' : (Nat → Int32)) (H : Heap) (locs : List Loc) (ls : Array Slot), X10_begins_L2 F n v1 v2 v3 k_w k_o = some (k_w') → va_P D vwCl (MX10 cI cZ cL cW a0 a1 a2 a3 a4 a5 a6 k_thrown k_w k_o k_isKept k_went k_wentMany k_waiting k_came k_depth k_isSilent k_x k_packed k_hits k_rues k_soonest k_inAll) H → va_D A (MX10 cI cZ cL cW a0 a1 a2 a3 a4 a5 a6 k_thrown k_w k_o k_isKept k_went k_wentMany k_waiting k_came k_depth k_isSilent k_x k_packed k_hits k_rues k_soonest k_inAll) → va_S A s.heap H locs → lv_has ls 4 [(0, .ref a0), (1, .int v1), (2, .int v2), (3, .int v3)] → (∀ (H : Heap) (locs : List Loc) (ls : Array Slot), va_P D vwCl (MX10 cI cZ cL cW a0 a1 a2 a3 a4 a5 a6 k_thrown (k_w') k_o k_isKept k_went k_wentMany k_waiting k_came k_depth k_isSilent k_x k_packed k_hits k_rues k_soonest k_inAll) H → va_D A (MX10 cI cZ cL cW a0 a1 a2 a3 a4 a5 a6 k_thrown (k_w') k_o k_isKept k_went k_wentMany k_waiting k_came k_depth k_isSilent k_x k_packed k_hits k_rues k_soonest k_inAll) → va_S A s.heap H locs → lv_has ls 4 [(0, .ref a0), (1, .int v1), (2, .int v2)] → W p l e rm_X10_begins s m args below meth c H locs 0 0 Q (F0 m 27 ls [])) → W p l e rm_X10_begins s m args below meth c H locs 0 0 Q (F0 m 2 ls []) := by
    intro Q n
    induction n with
    | zero => intro v1 v2 v3 k_thrown k_w k_o k_isKept k_went k_wentMany k_waiting k_came k_depth k_isSilent k_x k_packed k_hits k_rues k_soonest k_inAll k_w' H locs ls hf hP hD hS hl hk; exact nn_s hf
    | succ n ih =>
      intro v1 v2 v3 k_thrown k_w k_o k_isKept k_went k_wentMany k_waiting k_came k_depth k_isSilent k_x k_packed k_hits k_rues k_soonest k_inAll k_w' H locs ls hf hP hD hS hl hk
      refine lv_iload_n hx hb dX10_begins_2 rfl (lv_at hl 3 rfl) ?_
      refine lv_sipush (v := 848) hx hb dX10_begins_3 (by decide) ?_
      refine lv_icmp_ge (tgt := 27) hx hb dX10_begins_6 (by decide) (fun c2 => ?_) (fun c2 => ?_)
      · have hf := it_p hf c2
        cases hf
        exact hk _ _ ls hP hD hS (lv_sub hl [0, 1, 2] rfl)
      · have hf := it_n hf c2
        refine lv_aload_n hx hb dX10_begins_9 rfl (lv_at hl 0 rfl) ?_
        refine gf_X10 (v := .ref a1) C hE hP 0 1 rfl (by decide) qF_X10_17 rfl dX10_begins_10 ?_
        refine lv_aload_n hx hb dX10_begins_13 rfl (lv_at hl 0 rfl) ?_
        refine gf_X10 (v := .int k_o) C hE hP 0 2 rfl (by decide) qF_X10_41 rfl dX10_begins_14 ?_
        refine lv_iload_n hx hb dX10_begins_17 rfl (lv_at hl 3 rfl) ?_
        refine lv_iadd hx hb dX10_begins_18 ?_
        refine lv_iconst (v := 0) hx hb dX10_begins_19 (by decide) ?_
        obtain ⟨g1, hf⟩ := it_g hf
        refine va_iast hx hb hE.1 hP hD hS 1 0 rfl rfl g1 dX10_begins_20 (fun H locs (hP : va_P D vwCl (MX10 cI cZ cL cW a0 a1 a2 a3 a4 a5 a6 k_thrown (upd k_w (Int32.toNatClampNeg (k_o + v3)) 0) k_o k_isKept k_went k_wentMany k_waiting k_came k_depth k_isSilent k_x k_packed k_hits k_rues k_soonest k_inAll) H) (hD : va_D A (MX10 cI cZ cL cW a0 a1 a2 a3 a4 a5 a6 k_thrown (upd k_w (Int32.toNatClampNeg (k_o + v3)) 0) k_o k_isKept k_went k_wentMany k_waiting k_came k_depth k_isSilent k_x k_packed k_hits k_rues k_soonest k_inAll)) hS => ?_)
        refine lv_iinc (v := (v3 + 1)) (lv' := [(3, .int (v3 + 1)), (0, .ref a0), (1, .int v1), (2, .int v2)]) hx hb dX10_begins_21 hl (k := 3) rfl rfl (by decide) rfl (fun ls hl => ?_)
        refine lv_goto (tgt := 2) hx hb dX10_begins_24 (by decide) ?_
        exact ih v1 v2 (v3 + 1) k_thrown (upd k_w (Int32.toNatClampNeg (k_o + v3)) 0) k_o k_isKept k_went k_wentMany k_waiting k_came k_depth k_isSilent k_x k_packed k_hits k_rues k_soonest k_inAll _ _ _ ls hf hP hD hS (lv_sub hl [1, 2, 3, 0] rfl) hk
  refine lv_iconst (v := 0) hx hb dX10_begins_0 (by decide) ?_
  refine lv_istore_n (lv' := [(3, .int 0), (0, .ref a0), (1, .int p1), (2, .int p2)]) hx hb dX10_begins_1 rfl hl (by decide) rfl (fun ls hl => ?_)
  obtain ⟨k3, h4, hf⟩ := bd_s hf
  refine L2 _ F p1 p2 0 k_thrown k_w k_o k_isKept k_went k_wentMany k_waiting k_came k_depth k_isSilent k_x k_packed k_hits k_rues k_soonest k_inAll k3 _ _ ls h4 hP hD hS (lv_sub hl [1, 2, 3, 0] rfl) (fun H locs ls hP hD hS hl => ?_)
  refine lv_aload_n hx hb dX10_begins_27 rfl (lv_at hl 0 rfl) ?_
  refine gf_X10 (v := .ref a1) C hE hP 0 1 rfl (by decide) qF_X10_17 rfl dX10_begins_28 ?_
  refine lv_aload_n hx hb dX10_begins_31 rfl (lv_at hl 0 rfl) ?_
  refine gf_X10 (v := .int k_o) C hE hP 0 2 rfl (by decide) qF_X10_41 rfl dX10_begins_32 ?_
  refine lv_iconst (v := 1) hx hb dX10_begins_35 (by decide) ?_
  refine lv_iadd hx hb dX10_begins_36 ?_
  refine lv_iload_n hx hb dX10_begins_37 rfl (lv_at hl 1 rfl) ?_
  obtain ⟨g6, hf⟩ := it_g hf
  refine va_iast hx hb hE.1 hP hD hS 1 0 rfl rfl g6 dX10_begins_38 (fun H locs (hP : va_P D vwCl (MX10 cI cZ cL cW a0 a1 a2 a3 a4 a5 a6 k_thrown (upd k3 (Int32.toNatClampNeg (k_o + 1)) p1) k_o k_isKept k_went k_wentMany k_waiting k_came k_depth k_isSilent k_x k_packed k_hits k_rues k_soonest k_inAll) H) (hD : va_D A (MX10 cI cZ cL cW a0 a1 a2 a3 a4 a5 a6 k_thrown (upd k3 (Int32.toNatClampNeg (k_o + 1)) p1) k_o k_isKept k_went k_wentMany k_waiting k_came k_depth k_isSilent k_x k_packed k_hits k_rues k_soonest k_inAll)) hS => ?_)
  refine lv_aload_n hx hb dX10_begins_39 rfl (lv_at hl 0 rfl) ?_
  refine gf_X10 (v := .ref a1) C hE hP 0 1 rfl (by decide) qF_X10_17 rfl dX10_begins_40 ?_
  refine lv_aload_n hx hb dX10_begins_43 rfl (lv_at hl 0 rfl) ?_
  refine gf_X10 (v := .int k_o) C hE hP 0 2 rfl (by decide) qF_X10_41 rfl dX10_begins_44 ?_
  refine lv_bipush (v := 6) hx hb dX10_begins_47 (by decide) ?_
  refine lv_iadd hx hb dX10_begins_49 ?_
  refine lv_iload_n hx hb dX10_begins_50 rfl (lv_at hl 2 rfl) ?_
  obtain ⟨g5, hf⟩ := it_g hf
  refine va_iast hx hb hE.1 hP hD hS 1 0 rfl rfl g5 dX10_begins_51 (fun H locs (hP : va_P D vwCl (MX10 cI cZ cL cW a0 a1 a2 a3 a4 a5 a6 k_thrown (upd (upd k3 (Int32.toNatClampNeg (k_o + 1)) p1) (Int32.toNatClampNeg (k_o + 6)) p2) k_o k_isKept k_went k_wentMany k_waiting k_came k_depth k_isSilent k_x k_packed k_hits k_rues k_soonest k_inAll) H) (hD : va_D A (MX10 cI cZ cL cW a0 a1 a2 a3 a4 a5 a6 k_thrown (upd (upd k3 (Int32.toNatClampNeg (k_o + 1)) p1) (Int32.toNatClampNeg (k_o + 6)) p2) k_o k_isKept k_went k_wentMany k_waiting k_came k_depth k_isSilent k_x k_packed k_hits k_rues k_soonest k_inAll)) hS => ?_)
  cases hf
  exact rw_v C hr hlk hP hD hS dX10_begins_52
def X10_copies_L2 (F : Nat) : Nat → Int32 → Int32 → Int32 → (Nat → Int32) → Option ((Nat → Int32))
  | 0, _, _, _, _ => none
  | n + 1, v1, v2, v3, k_w => if (848 : Int32) ≤ v3 then (some k_w) else (if ((v2 + v3) : Int32) < 0 ∨ 3392 ≤ (Int32.toNatClampNeg (v2 + v3)) then none else (if ((v1 + v3) : Int32) < 0 ∨ 3392 ≤ (Int32.toNatClampNeg (v1 + v3)) then none else (X10_copies_L2 F n v1 v2 (v3 + 1) (upd k_w (Int32.toNatClampNeg (v1 + v3)) (k_w (Int32.toNatClampNeg (v2 + v3)))))))
def X10_copies (F : Nat) (p1 : Int32) (p2 : Int32) (k_w : (Nat → Int32)) : Option ((Nat → Int32)) := (X10_copies_L2 F F p1 p2 0 k_w).bind fun k4 => (some k4)
abbrev rm_X10_copies : Room := { frames := 0, cells := 0, slots := 0, locals := 0 }
theorem ok_X10_copies : OKV RX10 yX10_copies cX10_copies 4 none 2 := ⟨by decide +kernel, qV_X10_copies, qL_X10_copies, qI_X10, qD_X10_copies⟩
set_option maxHeartbeats 4000000 in
set_option maxRecDepth 100000 in
theorem c_X10_copies (l : Launch) (D : va_G) (cI cZ cL cW : ClassId) (F : Nat) (a0 : Nat) (a1 : Nat) (a2 : Nat) (a3 : Nat) (a4 : Nat) (a5 : Nat) (a6 : Nat) (k_thrown : Int32) (k_w : (Nat → Int32)) (k_o : Int32) (k_isKept : (Nat → Int32)) (k_went : (Nat → Int32)) (k_wentMany : Int32) (k_waiting : (Nat → Int32)) (k_came : Int32) (k_depth : Int32) (k_isSilent : Int32) (k_x : Int64) (k_packed : (Nat → Int32)) (k_hits : Int32) (k_rues : Int32) (k_soonest : Int32) (k_inAll : (Nat → Int32)) (p1 : Int32) (p2 : Int32) (k_w' : (Nat → Int32)) (hf : X10_copies F p1 p2 k_w = some (k_w')) : CtrW l D (tyL cI cZ cL cW) nestW yX10_copies cX10_copies 4 none rm_X10_copies [.ref a0, .int p1, .int p2] (MX10 cI cZ cL cW a0 a1 a2 a3 a4 a5 a6 k_thrown k_w k_o k_isKept k_went k_wentMany k_waiting k_came k_depth k_isSilent k_x k_packed k_hits k_rues k_soonest k_inAll) (MX10 cI cZ cL cW a0 a1 a2 a3 a4 a5 a6 k_thrown (k_w') k_o k_isKept k_went k_wentMany k_waiting k_came k_depth k_isSilent k_x k_packed k_hits k_rues k_soonest k_inAll) none := by
  refine ofA RX10 (by decide) rfl (Nat.le_of_ble_eq_true rfl) ?_
  intro p e s m below meth c ls A C hr hlk hE hA hP hD hS hl
  generalize (List.toArray ([.ref a0, .int p1, .int p2] : List Value)) = args at C ⊢
  obtain ⟨hx, hb, hml, hown, ht⟩ := id C
  have hl : lv_has ls 4 [(0, .ref a0), (1, .int p1), (2, .int p2)] := hl
  have L2 : ∀ (Q : State → Prop) (n : Nat) (v1 : Int32) (v2 : Int32) (v3 : Int32) (k_thrown : Int32) (k_w : (Nat → Int32)) (k_o : Int32) (k_isKept : (Nat → Int32)) (k_went : (Nat → Int32)) (k_wentMany : Int32) (k_waiting : (Nat → Int32)) (k_came : Int32) (k_depth : Int32) (k_isSilent : Int32) (k_x : Int64) (k_packed : (Nat → Int32)) (k_hits : Int32) (k_rues : Int32) (k_soonest : Int32) (k_inAll : (Nat → Int32)) (k_w' : (Nat → Int32)) (H : Heap) (locs : List Loc) (ls : Array Slot), X10_copies_L2 F n v1 v2 v3 k_w = some (k_w') → va_P D vwCl (MX10 cI cZ cL cW a0 a1 a2 a3 a4 a5 a6 k_thrown k_w k_o k_isKept k_went k_wentMany k_waiting k_came k_depth k_isSilent k_x k_packed k_hits k_rues k_soonest k_inAll) H → va_D A (MX10 cI cZ cL cW a0 a1 a2 a3 a4 a5 a6 k_thrown k_w k_o k_isKept k_went k_wentMany k_waiting k_came k_depth k_isSilent k_x k_packed k_hits k_rues k_soonest k_inAll) → va_S A s.heap H locs → lv_has ls 4 [(0, .ref a0), (1, .int v1), (2, .int v2), (3, .int v3)] → (∀ (H : Heap) (locs : List Loc) (ls : Array Slot), va_P D vwCl (MX10 cI cZ cL cW a0 a1 a2 a3 a4 a5 a6 k_thrown (k_w') k_o k_isKept k_went k_wentMany k_waiting k_came k_depth k_isSilent k_x k_packed k_hits k_rues k_soonest k_inAll) H → va_D A (MX10 cI cZ cL cW a0 a1 a2 a3 a4 a5 a6 k_thrown (k_w') k_o k_isKept k_went k_wentMany k_waiting k_came k_depth k_isSilent k_x k_packed k_hits k_rues k_soonest k_inAll) → va_S A s.heap H locs → lv_has ls 4 [] → W p l e rm_X10_copies s m args below meth c H locs 0 0 Q (F0 m 31 ls [])) → W p l e rm_X10_copies s m args below meth c H locs 0 0 Q (F0 m 2 ls []) := by
    intro Q n
    induction n with
    | zero => intro v1 v2 v3 k_thrown k_w k_o k_isKept k_went k_wentMany k_waiting k_came k_depth k_isSilent k_x k_packed k_hits k_rues k_soonest k_inAll k_w' H locs ls hf hP hD hS hl hk; exact nn_s hf
    | succ n ih =>
      intro v1 v2 v3 k_thrown k_w k_o k_isKept k_went k_wentMany k_waiting k_came k_depth k_isSilent k_x k_packed k_hits k_rues k_soonest k_inAll k_w' H locs ls hf hP hD hS hl hk
      refine lv_iload_n hx hb dX10_copies_2 rfl (lv_at hl 3 rfl) ?_
      refine lv_sipush (v := 848) hx hb dX10_copies_3 (by decide) ?_
      refine lv_icmp_ge (tgt := 31) hx hb dX10_copies_6 (by decide) (fun c3 => ?_) (fun c3 => ?_)
      · have hf := it_p hf c3
        cases hf
        exact hk _ _ ls hP hD hS (lv_sub hl [] rfl)
      · have hf := it_n hf c3
        refine lv_aload_n hx hb dX10_copies_9 rfl (lv_at hl 0 rfl) ?_
        refine gf_X10 (v := .ref a1) C hE hP 0 1 rfl (by decide) qF_X10_17 rfl dX10_copies_10 ?_
        refine lv_iload_n hx hb dX10_copies_13 rfl (lv_at hl 1 rfl) ?_
        refine lv_iload_n hx hb dX10_copies_14 rfl (lv_at hl 3 rfl) ?_
        refine lv_iadd hx hb dX10_copies_15 ?_
        refine lv_aload_n hx hb dX10_copies_16 rfl (lv_at hl 0 rfl) ?_
        refine gf_X10 (v := .ref a1) C hE hP 0 1 rfl (by decide) qF_X10_17 rfl dX10_copies_17 ?_
        refine lv_iload_n hx hb dX10_copies_20 rfl (lv_at hl 2 rfl) ?_
        refine lv_iload_n hx hb dX10_copies_21 rfl (lv_at hl 3 rfl) ?_
        refine lv_iadd hx hb dX10_copies_22 ?_
        obtain ⟨g2, hf⟩ := it_g hf
        refine va_iald hx hb hE.1 hP 1 0 rfl rfl g2 dX10_copies_23 ?_
        obtain ⟨g1, hf⟩ := it_g hf
        refine va_iast hx hb hE.1 hP hD hS 1 0 rfl rfl g1 dX10_copies_24 (fun H locs (hP : va_P D vwCl (MX10 cI cZ cL cW a0 a1 a2 a3 a4 a5 a6 k_thrown (upd k_w (Int32.toNatClampNeg (v1 + v3)) (k_w (Int32.toNatClampNeg (v2 + v3)))) k_o k_isKept k_went k_wentMany k_waiting k_came k_depth k_isSilent k_x k_packed k_hits k_rues k_soonest k_inAll) H) (hD : va_D A (MX10 cI cZ cL cW a0 a1 a2 a3 a4 a5 a6 k_thrown (upd k_w (Int32.toNatClampNeg (v1 + v3)) (k_w (Int32.toNatClampNeg (v2 + v3)))) k_o k_isKept k_went k_wentMany k_waiting k_came k_depth k_isSilent k_x k_packed k_hits k_rues k_soonest k_inAll)) hS => ?_)
        refine lv_iinc (v := (v3 + 1)) (lv' := [(3, .int (v3 + 1)), (0, .ref a0), (1, .int v1), (2, .int v2)]) hx hb dX10_copies_25 hl (k := 3) rfl rfl (by decide) rfl (fun ls hl => ?_)
        refine lv_goto (tgt := 2) hx hb dX10_copies_28 (by decide) ?_
        exact ih v1 v2 (v3 + 1) k_thrown (upd k_w (Int32.toNatClampNeg (v1 + v3)) (k_w (Int32.toNatClampNeg (v2 + v3)))) k_o k_isKept k_went k_wentMany k_waiting k_came k_depth k_isSilent k_x k_packed k_hits k_rues k_soonest k_inAll _ _ _ ls hf hP hD hS (lv_sub hl [1, 2, 3, 0] rfl) hk
  refine lv_iconst (v := 0) hx hb dX10_copies_0 (by decide) ?_
  refine lv_istore_n (lv' := [(3, .int 0), (0, .ref a0), (1, .int p1), (2, .int p2)]) hx hb dX10_copies_1 rfl hl (by decide) rfl (fun ls hl => ?_)
  obtain ⟨k4, h5, hf⟩ := bd_s hf
  refine L2 _ F p1 p2 0 k_thrown k_w k_o k_isKept k_went k_wentMany k_waiting k_came k_depth k_isSilent k_x k_packed k_hits k_rues k_soonest k_inAll k4 _ _ ls h5 hP hD hS (lv_sub hl [1, 2, 3, 0] rfl) (fun H locs ls hP hD hS hl => ?_)
  cases hf
  exact rw_v C hr hlk hP hD hS dX10_copies_31
def X10_of (F : Nat) (p1 : Int32) (p2 : Int32) (k_w : (Nat → Int32)) (k_o : Int32) : Option (Int32) := if ((((k_o + 24) + (7 * p1)) + p2) : Int32) < 0 ∨ 3392 ≤ (Int32.toNatClampNeg (((k_o + 24) + (7 * p1)) + p2)) then none else (some (k_w (Int32.toNatClampNeg (((k_o + 24) + (7 * p1)) + p2))))
abbrev rm_X10_of : Room := { frames := 0, cells := 0, slots := 0, locals := 0 }
theorem ok_X10_of : OKV RX10 yX10_of cX10_of 3 (some .int) 2 := ⟨by decide +kernel, qV_X10_of, qL_X10_of, qI_X10, qD_X10_of⟩
set_option maxHeartbeats 4000000 in
set_option maxRecDepth 100000 in
theorem c_X10_of (l : Launch) (D : va_G) (cI cZ cL cW : ClassId) (F : Nat) (a0 : Nat) (a1 : Nat) (a2 : Nat) (a3 : Nat) (a4 : Nat) (a5 : Nat) (a6 : Nat) (k_thrown : Int32) (k_w : (Nat → Int32)) (k_o : Int32) (k_isKept : (Nat → Int32)) (k_went : (Nat → Int32)) (k_wentMany : Int32) (k_waiting : (Nat → Int32)) (k_came : Int32) (k_depth : Int32) (k_isSilent : Int32) (k_x : Int64) (k_packed : (Nat → Int32)) (k_hits : Int32) (k_rues : Int32) (k_soonest : Int32) (k_inAll : (Nat → Int32)) (p1 : Int32) (p2 : Int32) (r : Int32) (hf : X10_of F p1 p2 k_w k_o = some r) : CtrR l D (tyL cI cZ cL cW) nestW yX10_of cX10_of 3 (some .int) rm_X10_of [.ref a0, .int p1, .int p2] (MX10 cI cZ cL cW a0 a1 a2 a3 a4 a5 a6 k_thrown k_w k_o k_isKept k_went k_wentMany k_waiting k_came k_depth k_isSilent k_x k_packed k_hits k_rues k_soonest k_inAll) (some (.int r)) := by
  refine ofR RX10 (by decide) rfl (Nat.le_of_ble_eq_true rfl) ?_
  intro p e s m below meth c ls C hr hlk hE hP hl
  generalize (List.toArray ([.ref a0, .int p1, .int p2] : List Value)) = args at C ⊢
  obtain ⟨hx, hb, hml, hown, ht⟩ := id C
  have hl : lv_has ls 3 [(0, .ref a0), (1, .int p1), (2, .int p2)] := hl
  refine lv_aload_n hx hb dX10_of_0 rfl (lv_at hl 0 rfl) ?_
  refine gf_X10 (v := .ref a1) C hE hP 0 1 rfl (by decide) qF_X10_17 rfl dX10_of_1 ?_
  refine lv_aload_n hx hb dX10_of_4 rfl (lv_at hl 0 rfl) ?_
  refine gf_X10 (v := .int k_o) C hE hP 0 2 rfl (by decide) qF_X10_41 rfl dX10_of_5 ?_
  refine lv_bipush (v := 24) hx hb dX10_of_8 (by decide) ?_
  refine lv_iadd hx hb dX10_of_10 ?_
  refine lv_bipush (v := 7) hx hb dX10_of_11 (by decide) ?_
  refine lv_iload_n hx hb dX10_of_13 rfl (lv_at hl 1 rfl) ?_
  refine lv_imul hx hb dX10_of_14 ?_
  refine lv_iadd hx hb dX10_of_15 ?_
  refine lv_iload_n hx hb dX10_of_16 rfl (lv_at hl 2 rfl) ?_
  refine lv_iadd hx hb dX10_of_17 ?_
  obtain ⟨g1, hf⟩ := it_g hf
  refine va_iald hx hb hE.1 hP 1 0 rfl rfl g1 dX10_of_18 ?_
  exact rt_i C hr hlk dX10_of_19 (congrArg (fun o => o.map Value.int) hf)
def X10_sets (F : Nat) (p1 : Int32) (p2 : Int32) (p3 : Int32) (k_w : (Nat → Int32)) (k_o : Int32) : Option ((Nat → Int32)) := if ((((k_o + 24) + (7 * p1)) + p2) : Int32) < 0 ∨ 3392 ≤ (Int32.toNatClampNeg (((k_o + 24) + (7 * p1)) + p2)) then none else (some (upd k_w (Int32.toNatClampNeg (((k_o + 24) + (7 * p1)) + p2)) p3))
abbrev rm_X10_sets : Room := { frames := 0, cells := 0, slots := 0, locals := 0 }
theorem ok_X10_sets : OKV RX10 yX10_sets cX10_sets 4 none 3 := ⟨by decide +kernel, qV_X10_sets, qL_X10_sets, qI_X10, qD_X10_sets⟩
set_option maxHeartbeats 4000000 in
set_option maxRecDepth 100000 in
theorem c_X10_sets (l : Launch) (D : va_G) (cI cZ cL cW : ClassId) (F : Nat) (a0 : Nat) (a1 : Nat) (a2 : Nat) (a3 : Nat) (a4 : Nat) (a5 : Nat) (a6 : Nat) (k_thrown : Int32) (k_w : (Nat → Int32)) (k_o : Int32) (k_isKept : (Nat → Int32)) (k_went : (Nat → Int32)) (k_wentMany : Int32) (k_waiting : (Nat → Int32)) (k_came : Int32) (k_depth : Int32) (k_isSilent : Int32) (k_x : Int64) (k_packed : (Nat → Int32)) (k_hits : Int32) (k_rues : Int32) (k_soonest : Int32) (k_inAll : (Nat → Int32)) (p1 : Int32) (p2 : Int32) (p3 : Int32) (k_w' : (Nat → Int32)) (hf : X10_sets F p1 p2 p3 k_w k_o = some (k_w')) : CtrW l D (tyL cI cZ cL cW) nestW yX10_sets cX10_sets 4 none rm_X10_sets [.ref a0, .int p1, .int p2, .int p3] (MX10 cI cZ cL cW a0 a1 a2 a3 a4 a5 a6 k_thrown k_w k_o k_isKept k_went k_wentMany k_waiting k_came k_depth k_isSilent k_x k_packed k_hits k_rues k_soonest k_inAll) (MX10 cI cZ cL cW a0 a1 a2 a3 a4 a5 a6 k_thrown (k_w') k_o k_isKept k_went k_wentMany k_waiting k_came k_depth k_isSilent k_x k_packed k_hits k_rues k_soonest k_inAll) none := by
  refine ofA RX10 (by decide) rfl (Nat.le_of_ble_eq_true rfl) ?_
  intro p e s m below meth c ls A C hr hlk hE hA hP hD hS hl
  generalize (List.toArray ([.ref a0, .int p1, .int p2, .int p3] : List Value)) = args at C ⊢
  obtain ⟨hx, hb, hml, hown, ht⟩ := id C
  have hl : lv_has ls 4 [(0, .ref a0), (1, .int p1), (2, .int p2), (3, .int p3)] := hl
  refine lv_aload_n hx hb dX10_sets_0 rfl (lv_at hl 0 rfl) ?_
  refine gf_X10 (v := .ref a1) C hE hP 0 1 rfl (by decide) qF_X10_17 rfl dX10_sets_1 ?_
  refine lv_aload_n hx hb dX10_sets_4 rfl (lv_at hl 0 rfl) ?_
  refine gf_X10 (v := .int k_o) C hE hP 0 2 rfl (by decide) qF_X10_41 rfl dX10_sets_5 ?_
  refine lv_bipush (v := 24) hx hb dX10_sets_8 (by decide) ?_
  refine lv_iadd hx hb dX10_sets_10 ?_
  refine lv_bipush (v := 7) hx hb dX10_sets_11 (by decide) ?_
  refine lv_iload_n hx hb dX10_sets_13 rfl (lv_at hl 1 rfl) ?_
  refine lv_imul hx hb dX10_sets_14 ?_
  refine lv_iadd hx hb dX10_sets_15 ?_
  refine lv_iload_n hx hb dX10_sets_16 rfl (lv_at hl 2 rfl) ?_
  refine lv_iadd hx hb dX10_sets_17 ?_
  refine lv_iload_n hx hb dX10_sets_18 rfl (lv_at hl 3 rfl) ?_
  obtain ⟨g1, hf⟩ := it_g hf
  refine va_iast hx hb hE.1 hP hD hS 1 0 rfl rfl g1 dX10_sets_19 (fun H locs (hP : va_P D vwCl (MX10 cI cZ cL cW a0 a1 a2 a3 a4 a5 a6 k_thrown (upd k_w (Int32.toNatClampNeg (((k_o + 24) + (7 * p1)) + p2)) p3) k_o k_isKept k_went k_wentMany k_waiting k_came k_depth k_isSilent k_x k_packed k_hits k_rues k_soonest k_inAll) H) (hD : va_D A (MX10 cI cZ cL cW a0 a1 a2 a3 a4 a5 a6 k_thrown (upd k_w (Int32.toNatClampNeg (((k_o + 24) + (7 * p1)) + p2)) p3) k_o k_isKept k_went k_wentMany k_waiting k_came k_depth k_isSilent k_x k_packed k_hits k_rues k_soonest k_inAll)) hS => ?_)
  cases hf
  exact rw_v C hr hlk hP hD hS dX10_sets_20
def X10_entryOf_L2 (F : Nat) : Nat → Int32 → Int32 → (Nat → Int32) → Int32 → Option (Int32)
  | 0, _, _, _, _ => none
  | n + 1, v1, v2, k_w, k_o => if ((k_o + 0) : Int32) < 0 ∨ 3392 ≤ (Int32.toNatClampNeg (k_o + 0)) then none else (if ((k_w (Int32.toNatClampNeg (k_o + 0))) : Int32) ≤ v2 then (some (-1)) else ((X10_of F v2 0 k_w k_o).bind fun r1 => (if (r1 : Int32) = v1 then (some v2) else (X10_entryOf_L2 F n v1 (v2 + 1) k_w k_o))))
def X10_entryOf (F : Nat) (p1 : Int32) (k_w : (Nat → Int32)) (k_o : Int32) : Option (Int32) := X10_entryOf_L2 F F p1 0 k_w k_o
abbrev rm_X10_entryOf : Room := { frames := 1, cells := 0, slots := 0, locals := 22 }
theorem ok_X10_entryOf : OKV RX10 yX10_entryOf cX10_entryOf 3 (some .int) 1 := ⟨by decide +kernel, qV_X10_entryOf, qL_X10_entryOf, qI_X10, qD_X10_entryOf⟩
set_option maxHeartbeats 4000000 in
set_option maxRecDepth 100000 in
theorem c_X10_entryOf (l : Launch) (D : va_G) (cI cZ cL cW : ClassId) (F : Nat) (a0 : Nat) (a1 : Nat) (a2 : Nat) (a3 : Nat) (a4 : Nat) (a5 : Nat) (a6 : Nat) (k_thrown : Int32) (k_w : (Nat → Int32)) (k_o : Int32) (k_isKept : (Nat → Int32)) (k_went : (Nat → Int32)) (k_wentMany : Int32) (k_waiting : (Nat → Int32)) (k_came : Int32) (k_depth : Int32) (k_isSilent : Int32) (k_x : Int64) (k_packed : (Nat → Int32)) (k_hits : Int32) (k_rues : Int32) (k_soonest : Int32) (k_inAll : (Nat → Int32)) (p1 : Int32) (r : Int32) (hf : X10_entryOf F p1 k_w k_o = some r) : CtrR l D (tyL cI cZ cL cW) nestW yX10_entryOf cX10_entryOf 3 (some .int) rm_X10_entryOf [.ref a0, .int p1] (MX10 cI cZ cL cW a0 a1 a2 a3 a4 a5 a6 k_thrown k_w k_o k_isKept k_went k_wentMany k_waiting k_came k_depth k_isSilent k_x k_packed k_hits k_rues k_soonest k_inAll) (some (.int r)) := by
  refine ofR RX10 (by decide) rfl (Nat.le_of_ble_eq_true rfl) ?_
  intro p e s m below meth c ls C hr hlk hE hP hl
  generalize (List.toArray ([.ref a0, .int p1] : List Value)) = args at C ⊢
  obtain ⟨hx, hb, hml, hown, ht⟩ := id C
  have hl : lv_has ls 3 [(0, .ref a0), (1, .int p1)] := hl
  have L2 : ∀ (n : Nat) (v1 : Int32) (v2 : Int32) (ls : Array Slot), X10_entryOf_L2 F n v1 v2 k_w k_o = some r → lv_has ls 3 [(0, .ref a0), (1, .int v1), (2, .int v2)] → W p l e rm_X10_entryOf s m args below meth c s.heap [] 0 0 (MQ below (QR (some (.int r))) args s 0 0 (fun _ => False)) (F0 m 2 ls []) := by
    intro n
    induction n with
    | zero => intro v1 v2 ls hf hl; exact nn_s hf
    | succ n ih =>
      intro v1 v2 ls hf hl
      refine lv_iload_n hx hb dX10_entryOf_2 rfl (lv_at hl 2 rfl) ?_
      refine lv_aload_n hx hb dX10_entryOf_3 rfl (lv_at hl 0 rfl) ?_
      refine gf_X10 (v := .ref a1) C hE hP 0 1 rfl (by decide) qF_X10_17 rfl dX10_entryOf_4 ?_
      refine lv_aload_n hx hb dX10_entryOf_7 rfl (lv_at hl 0 rfl) ?_
      refine gf_X10 (v := .int k_o) C hE hP 0 2 rfl (by decide) qF_X10_41 rfl dX10_entryOf_8 ?_
      refine lv_iconst (v := 0) hx hb dX10_entryOf_11 (by decide) ?_
      refine lv_iadd hx hb dX10_entryOf_12 ?_
      obtain ⟨g5, hf⟩ := it_g hf
      refine va_iald hx hb hE.1 hP 1 0 rfl rfl g5 dX10_entryOf_13 ?_
      refine lv_icmp_ge (tgt := 35) hx hb dX10_entryOf_14 (by decide) (fun c4 => ?_) (fun c4 => ?_)
      · have hf := it_p hf c4
        refine lv_iconst (v := (-1)) hx hb dX10_entryOf_35 (by decide) ?_
        exact rt_i C hr hlk dX10_entryOf_36 (congrArg (fun o => o.map Value.int) hf)
      · have hf := it_n hf c4
        refine lv_aload_n hx hb dX10_entryOf_17 rfl (lv_at hl 0 rfl) ?_
        refine lv_iload_n hx hb dX10_entryOf_18 rfl (lv_at hl 2 rfl) ?_
        refine lv_iconst (v := 0) hx hb dX10_entryOf_19 (by decide) ?_
        obtain ⟨r1, h2, hf⟩ := bd_s hf
        refine iv_R (rest := []) (st1 := [.int r1]) C hE hP (c_X10_of l D cI cZ cL cW F a0 a1 a2 a3 a4 a5 a6 k_thrown k_w k_o k_isKept k_went k_wentMany k_waiting k_came k_depth k_isSilent k_x k_packed k_hits k_rues k_soonest k_inAll v2 0 r1  h2) ok_X10_of qM_X10_44 rfl rfl ⟨(Nat.le_of_ble_eq_true rfl), (Nat.le_of_ble_eq_true rfl)⟩ rfl rfl hl.1 (Nat.le_of_ble_eq_true rfl) ⟨Nat.zero_le _, Nat.zero_le _⟩ dX10_entryOf_20 rfl rfl ?_
        refine lv_iload_n hx hb dX10_entryOf_23 rfl (lv_at hl 1 rfl) ?_
        refine lv_icmp_ne (tgt := 29) hx hb dX10_entryOf_24 (by decide) (fun c3 => ?_) (fun c3 => ?_)
        · have hf := it_n hf c3
          refine lv_iinc (v := (v2 + 1)) (lv' := [(2, .int (v2 + 1)), (0, .ref a0), (1, .int v1)]) hx hb dX10_entryOf_29 hl (k := 2) rfl rfl (by decide) rfl (fun ls hl => ?_)
          refine lv_goto (tgt := 2) hx hb dX10_entryOf_32 (by decide) ?_
          exact ih v1 (v2 + 1) ls hf (lv_sub hl [1, 2, 0] rfl)
        · have hf := it_p hf c3
          refine lv_iload_n hx hb dX10_entryOf_27 rfl (lv_at hl 2 rfl) ?_
          exact rt_i C hr hlk dX10_entryOf_28 (congrArg (fun o => o.map Value.int) hf)
  refine lv_iconst (v := 0) hx hb dX10_entryOf_0 (by decide) ?_
  refine lv_istore_n (lv' := [(2, .int 0), (0, .ref a0), (1, .int p1)]) hx hb dX10_entryOf_1 rfl hl (by decide) rfl (fun ls hl => ?_)
  exact L2 F p1 0 ls hf (lv_sub hl [1, 2, 0] rfl)
def X10_isKey (F : Nat) (p1 : Int32) : Option (Int32) := (X10_isIn F p1.toInt64 0 999).bind fun r1 => (if ¬ (r1 = 0 ∨ r1 = 1) then none else (some r1))
abbrev rm_X10_isKey : Room := { frames := 1, cells := 0, slots := 0, locals := 25 }
theorem ok_X10_isKey : OKS yX10_isKey cX10_isKey 1 (some .boolean) 1 := ⟨by decide +kernel, qS_X10_isKey, qI_X10, qD_X10_isKey⟩
set_option maxHeartbeats 4000000 in
set_option maxRecDepth 100000 in
theorem c_X10_isKey (l : Launch) (D : va_G) (cI cZ cL cW : ClassId) (F : Nat) (p1 : Int32) (r : Int32) (hf : X10_isKey F p1 = some r) : CtrR l D (tyL cI cZ cL cW) nestW yX10_isKey cX10_isKey 1 (some .boolean) rm_X10_isKey [.int p1] ([] : va_W) (some (.int r)) := by
  refine ofR RX10 (by decide) rfl (Nat.le_of_ble_eq_true rfl) ?_
  intro p e s m below meth c ls C hr hlk hE hP hl
  generalize (List.toArray ([.int p1] : List Value)) = args at C ⊢
  obtain ⟨hx, hb, hml, hown, ht⟩ := id C
  have hl : lv_has ls 1 [(0, .int p1)] := hl
  refine lv_iload_n hx hb dX10_isKey_0 rfl (lv_at hl 0 rfl) ?_
  refine lv_i2l hx hb dX10_isKey_1 rfl ?_
  refine lv_lconst (v := 0) hx hb dX10_isKey_2 (by decide) ?_
  refine lv_ldc2 (v := 999) hx hb hown (ht _ qJ_X10_47) dX10_isKey_3 ?_
  obtain ⟨r1, h2, hf⟩ := bd_s hf
  refine is_R (rest := []) (st1 := [.int r1]) C hE va_P_nil (c_X10_isIn l D cI cZ cL cW F   p1.toInt64 0 999 r1  h2) ok_X10_isIn qM_X10_49 rfl rfl ⟨(Nat.le_of_ble_eq_true rfl), (Nat.le_of_ble_eq_true rfl)⟩ hl.1 (Nat.le_of_ble_eq_true rfl) ⟨Nat.zero_le _, Nat.zero_le _⟩ dX10_isKey_6 rfl rfl ?_
  obtain ⟨g3, hf⟩ := it_g hf
  exact rt_z C hr hlk (zb_n g3) dX10_isKey_9 (congrArg (fun o => o.map Value.int) hf)
def X10_load_L4 (F : Nat) : Nat → Int32 → Int32 → (Nat → Int32) → Int32 → Option (Int32)
  | 0, _, _, _, _ => none
  | n + 1, v1, v2, k_w, k_o => if ((k_o + 0) : Int32) < 0 ∨ 3392 ≤ (Int32.toNatClampNeg (k_o + 0)) then none else (if ((k_w (Int32.toNatClampNeg (k_o + 0))) : Int32) ≤ v2 then (some v1) else ((X10_of F v2 2 k_w k_o).bind fun r1 => (X10_load_L4 F n (v1 + r1) (v2 + 1) k_w k_o)))
def X10_load (F : Nat) (k_w : (Nat → Int32)) (k_o : Int32) : Option (Int32) := (X10_load_L4 F F 0 0 k_w k_o).bind fun x5 => (some x5)
abbrev rm_X10_load : Room := { frames := 1, cells := 0, slots := 0, locals := 22 }
theorem ok_X10_load : OKV RX10 yX10_load cX10_load 3 (some .int) 0 := ⟨by decide +kernel, qV_X10_load, qL_X10_load, qI_X10, qD_X10_load⟩
set_option maxHeartbeats 4000000 in
set_option maxRecDepth 100000 in
theorem c_X10_load (l : Launch) (D : va_G) (cI cZ cL cW : ClassId) (F : Nat) (a0 : Nat) (a1 : Nat) (a2 : Nat) (a3 : Nat) (a4 : Nat) (a5 : Nat) (a6 : Nat) (k_thrown : Int32) (k_w : (Nat → Int32)) (k_o : Int32) (k_isKept : (Nat → Int32)) (k_went : (Nat → Int32)) (k_wentMany : Int32) (k_waiting : (Nat → Int32)) (k_came : Int32) (k_depth : Int32) (k_isSilent : Int32) (k_x : Int64) (k_packed : (Nat → Int32)) (k_hits : Int32) (k_rues : Int32) (k_soonest : Int32) (k_inAll : (Nat → Int32)) (r : Int32) (hf : X10_load F k_w k_o = some r) : CtrR l D (tyL cI cZ cL cW) nestW yX10_load cX10_load 3 (some .int) rm_X10_load [.ref a0] (MX10 cI cZ cL cW a0 a1 a2 a3 a4 a5 a6 k_thrown k_w k_o k_isKept k_went k_wentMany k_waiting k_came k_depth k_isSilent k_x k_packed k_hits k_rues k_soonest k_inAll) (some (.int r)) := by
  refine ofR RX10 (by decide) rfl (Nat.le_of_ble_eq_true rfl) ?_
  intro p e s m below meth c ls C hr hlk hE hP hl
  generalize (List.toArray ([.ref a0] : List Value)) = args at C ⊢
  obtain ⟨hx, hb, hml, hown, ht⟩ := id C
  have hl : lv_has ls 3 [(0, .ref a0)] := hl
  have L4 : ∀ (Q : State → Prop) (n : Nat) (v1 : Int32) (v2 : Int32) (x1 : Int32) (ls : Array Slot), X10_load_L4 F n v1 v2 k_w k_o = some x1 → lv_has ls 3 [(0, .ref a0), (1, .int v1), (2, .int v2)] → (∀ ls : Array Slot, lv_has ls 3 [(1, .int x1)] → W p l e rm_X10_load s m args below meth c s.heap [] 0 0 Q (F0 m 34 ls [])) → W p l e rm_X10_load s m args below meth c s.heap [] 0 0 Q (F0 m 4 ls []) := by
    intro Q n
    induction n with
    | zero => intro v1 v2 x1 ls hf hl hk; exact nn_s hf
    | succ n ih =>
      intro v1 v2 x1 ls hf hl hk
      refine lv_iload_n hx hb dX10_load_4 rfl (lv_at hl 2 rfl) ?_
      refine lv_aload_n hx hb dX10_load_5 rfl (lv_at hl 0 rfl) ?_
      refine gf_X10 (v := .ref a1) C hE hP 0 1 rfl (by decide) qF_X10_17 rfl dX10_load_6 ?_
      refine lv_aload_n hx hb dX10_load_9 rfl (lv_at hl 0 rfl) ?_
      refine gf_X10 (v := .int k_o) C hE hP 0 2 rfl (by decide) qF_X10_41 rfl dX10_load_10 ?_
      refine lv_iconst (v := 0) hx hb dX10_load_13 (by decide) ?_
      refine lv_iadd hx hb dX10_load_14 ?_
      obtain ⟨g4, hf⟩ := it_g hf
      refine va_iald hx hb hE.1 hP 1 0 rfl rfl g4 dX10_load_15 ?_
      refine lv_icmp_ge (tgt := 34) hx hb dX10_load_16 (by decide) (fun c3 => ?_) (fun c3 => ?_)
      · have hf := it_p hf c3
        cases hf
        exact hk ls (lv_sub hl [1] rfl)
      · have hf := it_n hf c3
        refine lv_iload_n hx hb dX10_load_19 rfl (lv_at hl 1 rfl) ?_
        refine lv_aload_n hx hb dX10_load_20 rfl (lv_at hl 0 rfl) ?_
        refine lv_iload_n hx hb dX10_load_21 rfl (lv_at hl 2 rfl) ?_
        refine lv_iconst (v := 2) hx hb dX10_load_22 (by decide) ?_
        obtain ⟨r1, h2, hf⟩ := bd_s hf
        refine iv_R (rest := [.int v1]) (st1 := [.int r1, .int v1]) C hE hP (c_X10_of l D cI cZ cL cW F a0 a1 a2 a3 a4 a5 a6 k_thrown k_w k_o k_isKept k_went k_wentMany k_waiting k_came k_depth k_isSilent k_x k_packed k_hits k_rues k_soonest k_inAll v2 2 r1  h2) ok_X10_of qM_X10_44 rfl rfl ⟨(Nat.le_of_ble_eq_true rfl), (Nat.le_of_ble_eq_true rfl)⟩ rfl rfl hl.1 (Nat.le_of_ble_eq_true rfl) ⟨Nat.zero_le _, Nat.zero_le _⟩ dX10_load_23 rfl rfl ?_
        refine lv_iadd hx hb dX10_load_26 ?_
        refine lv_istore_n (lv' := [(1, .int (v1 + r1)), (0, .ref a0), (2, .int v2)]) hx hb dX10_load_27 rfl hl (by decide) rfl (fun ls hl => ?_)
        refine lv_iinc (v := (v2 + 1)) (lv' := [(2, .int (v2 + 1)), (1, .int (v1 + r1)), (0, .ref a0)]) hx hb dX10_load_28 hl (k := 2) rfl rfl (by decide) rfl (fun ls hl => ?_)
        refine lv_goto (tgt := 4) hx hb dX10_load_31 (by decide) ?_
        exact ih (v1 + r1) (v2 + 1) _ ls hf (lv_sub hl [2, 1, 0] rfl) hk
  refine lv_iconst (v := 0) hx hb dX10_load_0 (by decide) ?_
  refine lv_istore_n (lv' := [(1, .int 0), (0, .ref a0)]) hx hb dX10_load_1 rfl hl (by decide) rfl (fun ls hl => ?_)
  refine lv_iconst (v := 0) hx hb dX10_load_2 (by decide) ?_
  refine lv_istore_n (lv' := [(2, .int 0), (1, .int 0), (0, .ref a0)]) hx hb dX10_load_3 rfl hl (by decide) rfl (fun ls hl => ?_)
  obtain ⟨x5, h6, hf⟩ := bd_s hf
  refine L4 _ F 0 0 x5 ls h6 (lv_sub hl [2, 1, 0] rfl) (fun ls hl => ?_)
  refine lv_iload_n hx hb dX10_load_34 rfl (lv_at hl 0 rfl) ?_
  exact rt_i C hr hlk dX10_load_35 (congrArg (fun o => o.map Value.int) hf)
def X10_pinned_L4 (F : Nat) : Nat → Int32 → Int32 → Int32 → (Nat → Int32) → Int32 → Option (Int32)
  | 0, _, _, _, _, _ => none
  | n + 1, v1, v2, v3, k_w, k_o => if ((k_o + 0) : Int32) < 0 ∨ 3392 ≤ (Int32.toNatClampNeg (k_o + 0)) then none else (if ((k_w (Int32.toNatClampNeg (k_o + 0))) : Int32) ≤ v3 then (some v2) else ((X10_of F v3 6 k_w k_o).bind fun r1 => (if (r1 : Int32) = 1 then ((X10_of F v3 0 k_w k_o).bind fun r3 => (if (r3 : Int32) = v1 then (X10_pinned_L4 F n v1 (v2 + 0) (v3 + 1) k_w k_o) else ((X10_of F v3 2 k_w k_o).bind fun r5 => (X10_pinned_L4 F n v1 (v2 + r5) (v3 + 1) k_w k_o)))) else (X10_pinned_L4 F n v1 (v2 + 0) (v3 + 1) k_w k_o))))
def X10_pinned (F : Nat) (p1 : Int32) (k_w : (Nat → Int32)) (k_o : Int32) : Option (Int32) := (X10_pinned_L4 F F p1 0 0 k_w k_o).bind fun x11 => (some x11)
abbrev rm_X10_pinned : Room := { frames := 1, cells := 0, slots := 0, locals := 22 }
theorem ok_X10_pinned : OKV RX10 yX10_pinned cX10_pinned 4 (some .int) 1 := ⟨by decide +kernel, qV_X10_pinned, qL_X10_pinned, qI_X10, qD_X10_pinned⟩
set_option maxHeartbeats 4000000 in
set_option maxRecDepth 100000 in
theorem c_X10_pinned (l : Launch) (D : va_G) (cI cZ cL cW : ClassId) (F : Nat) (a0 : Nat) (a1 : Nat) (a2 : Nat) (a3 : Nat) (a4 : Nat) (a5 : Nat) (a6 : Nat) (k_thrown : Int32) (k_w : (Nat → Int32)) (k_o : Int32) (k_isKept : (Nat → Int32)) (k_went : (Nat → Int32)) (k_wentMany : Int32) (k_waiting : (Nat → Int32)) (k_came : Int32) (k_depth : Int32) (k_isSilent : Int32) (k_x : Int64) (k_packed : (Nat → Int32)) (k_hits : Int32) (k_rues : Int32) (k_soonest : Int32) (k_inAll : (Nat → Int32)) (p1 : Int32) (r : Int32) (hf : X10_pinned F p1 k_w k_o = some r) : CtrR l D (tyL cI cZ cL cW) nestW yX10_pinned cX10_pinned 4 (some .int) rm_X10_pinned [.ref a0, .int p1] (MX10 cI cZ cL cW a0 a1 a2 a3 a4 a5 a6 k_thrown k_w k_o k_isKept k_went k_wentMany k_waiting k_came k_depth k_isSilent k_x k_packed k_hits k_rues k_soonest k_inAll) (some (.int r)) := by
  refine ofR RX10 (by decide) rfl (Nat.le_of_ble_eq_true rfl) ?_
  intro p e s m below meth c ls C hr hlk hE hP hl
  generalize (List.toArray ([.ref a0, .int p1] : List Value)) = args at C ⊢
  obtain ⟨hx, hb, hml, hown, ht⟩ := id C
  have hl : lv_has ls 4 [(0, .ref a0), (1, .int p1)] := hl
  have L4 : ∀ (Q : State → Prop) (n : Nat) (v1 : Int32) (v2 : Int32) (v3 : Int32) (x2 : Int32) (ls : Array Slot), X10_pinned_L4 F n v1 v2 v3 k_w k_o = some x2 → lv_has ls 4 [(0, .ref a0), (1, .int v1), (2, .int v2), (3, .int v3)] → (∀ ls : Array Slot, lv_has ls 4 [(2, .int x2)] → W p l e rm_X10_pinned s m args below meth c s.heap [] 0 0 Q (F0 m 59 ls [])) → W p l e rm_X10_pinned s m args below meth c s.heap [] 0 0 Q (F0 m 4 ls []) := by
    intro Q n
    induction n with
    | zero => intro v1 v2 v3 x2 ls hf hl hk; exact nn_s hf
    | succ n ih =>
      intro v1 v2 v3 x2 ls hf hl hk
      refine lv_iload_n hx hb dX10_pinned_4 rfl (lv_at hl 3 rfl) ?_
      refine lv_aload_n hx hb dX10_pinned_5 rfl (lv_at hl 0 rfl) ?_
      refine gf_X10 (v := .ref a1) C hE hP 0 1 rfl (by decide) qF_X10_17 rfl dX10_pinned_6 ?_
      refine lv_aload_n hx hb dX10_pinned_9 rfl (lv_at hl 0 rfl) ?_
      refine gf_X10 (v := .int k_o) C hE hP 0 2 rfl (by decide) qF_X10_41 rfl dX10_pinned_10 ?_
      refine lv_iconst (v := 0) hx hb dX10_pinned_13 (by decide) ?_
      refine lv_iadd hx hb dX10_pinned_14 ?_
      obtain ⟨g10, hf⟩ := it_g hf
      refine va_iald hx hb hE.1 hP 1 0 rfl rfl g10 dX10_pinned_15 ?_
      refine lv_icmp_ge (tgt := 59) hx hb dX10_pinned_16 (by decide) (fun c9 => ?_) (fun c9 => ?_)
      · have hf := it_p hf c9
        cases hf
        exact hk ls (lv_sub hl [2] rfl)
      · have hf := it_n hf c9
        refine lv_iload_n hx hb dX10_pinned_19 rfl (lv_at hl 2 rfl) ?_
        refine lv_aload_n hx hb dX10_pinned_20 rfl (lv_at hl 0 rfl) ?_
        refine lv_iload_n hx hb dX10_pinned_21 rfl (lv_at hl 3 rfl) ?_
        refine lv_bipush (v := 6) hx hb dX10_pinned_22 (by decide) ?_
        obtain ⟨r1, h2, hf⟩ := bd_s hf
        refine iv_R (rest := [.int v2]) (st1 := [.int r1, .int v2]) C hE hP (c_X10_of l D cI cZ cL cW F a0 a1 a2 a3 a4 a5 a6 k_thrown k_w k_o k_isKept k_went k_wentMany k_waiting k_came k_depth k_isSilent k_x k_packed k_hits k_rues k_soonest k_inAll v3 6 r1  h2) ok_X10_of qM_X10_44 rfl rfl ⟨(Nat.le_of_ble_eq_true rfl), (Nat.le_of_ble_eq_true rfl)⟩ rfl rfl hl.1 (Nat.le_of_ble_eq_true rfl) ⟨Nat.zero_le _, Nat.zero_le _⟩ dX10_pinned_24 rfl rfl ?_
        refine lv_iconst (v := 1) hx hb dX10_pinned_27 (by decide) ?_
        refine lv_icmp_ne (tgt := 50) hx hb dX10_pinned_28 (by decide) (fun c8 => ?_) (fun c8 => ?_)
        · have hf := it_n hf c8
          refine lv_iconst (v := 0) hx hb dX10_pinned_50 (by decide) ?_
          refine lv_iadd hx hb dX10_pinned_51 ?_
          refine lv_istore_n (lv' := [(2, .int (v2 + 0)), (0, .ref a0), (1, .int v1), (3, .int v3)]) hx hb dX10_pinned_52 rfl hl (by decide) rfl (fun ls hl => ?_)
          refine lv_iinc (v := (v3 + 1)) (lv' := [(3, .int (v3 + 1)), (2, .int (v2 + 0)), (0, .ref a0), (1, .int v1)]) hx hb dX10_pinned_53 hl (k := 3) rfl rfl (by decide) rfl (fun ls hl => ?_)
          refine lv_goto (tgt := 4) hx hb dX10_pinned_56 (by decide) ?_
          exact ih v1 (v2 + 0) (v3 + 1) _ ls hf (lv_sub hl [2, 3, 1, 0] rfl) hk
        · have hf := it_p hf c8
          refine lv_aload_n hx hb dX10_pinned_31 rfl (lv_at hl 0 rfl) ?_
          refine lv_iload_n hx hb dX10_pinned_32 rfl (lv_at hl 3 rfl) ?_
          refine lv_iconst (v := 0) hx hb dX10_pinned_33 (by decide) ?_
          obtain ⟨r3, h4, hf⟩ := bd_s hf
          refine iv_R (rest := [.int v2]) (st1 := [.int r3, .int v2]) C hE hP (c_X10_of l D cI cZ cL cW F a0 a1 a2 a3 a4 a5 a6 k_thrown k_w k_o k_isKept k_went k_wentMany k_waiting k_came k_depth k_isSilent k_x k_packed k_hits k_rues k_soonest k_inAll v3 0 r3  h4) ok_X10_of qM_X10_44 rfl rfl ⟨(Nat.le_of_ble_eq_true rfl), (Nat.le_of_ble_eq_true rfl)⟩ rfl rfl hl.1 (Nat.le_of_ble_eq_true rfl) ⟨Nat.zero_le _, Nat.zero_le _⟩ dX10_pinned_34 rfl rfl ?_
          refine lv_iload_n hx hb dX10_pinned_37 rfl (lv_at hl 1 rfl) ?_
          refine lv_icmp_eq (tgt := 50) hx hb dX10_pinned_38 (by decide) (fun c7 => ?_) (fun c7 => ?_)
          · have hf := it_p hf c7
            refine lv_iconst (v := 0) hx hb dX10_pinned_50 (by decide) ?_
            refine lv_iadd hx hb dX10_pinned_51 ?_
            refine lv_istore_n (lv' := [(2, .int (v2 + 0)), (0, .ref a0), (1, .int v1), (3, .int v3)]) hx hb dX10_pinned_52 rfl hl (by decide) rfl (fun ls hl => ?_)
            refine lv_iinc (v := (v3 + 1)) (lv' := [(3, .int (v3 + 1)), (2, .int (v2 + 0)), (0, .ref a0), (1, .int v1)]) hx hb dX10_pinned_53 hl (k := 3) rfl rfl (by decide) rfl (fun ls hl => ?_)
            refine lv_goto (tgt := 4) hx hb dX10_pinned_56 (by decide) ?_
            exact ih v1 (v2 + 0) (v3 + 1) _ ls hf (lv_sub hl [2, 3, 1, 0] rfl) hk
          · have hf := it_n hf c7
            refine lv_aload_n hx hb dX10_pinned_41 rfl (lv_at hl 0 rfl) ?_
            refine lv_iload_n hx hb dX10_pinned_42 rfl (lv_at hl 3 rfl) ?_
            refine lv_iconst (v := 2) hx hb dX10_pinned_43 (by decide) ?_
            obtain ⟨r5, h6, hf⟩ := bd_s hf
            refine iv_R (rest := [.int v2]) (st1 := [.int r5, .int v2]) C hE hP (c_X10_of l D cI cZ cL cW F a0 a1 a2 a3 a4 a5 a6 k_thrown k_w k_o k_isKept k_went k_wentMany k_waiting k_came k_depth k_isSilent k_x k_packed k_hits k_rues k_soonest k_inAll v3 2 r5  h6) ok_X10_of qM_X10_44 rfl rfl ⟨(Nat.le_of_ble_eq_true rfl), (Nat.le_of_ble_eq_true rfl)⟩ rfl rfl hl.1 (Nat.le_of_ble_eq_true rfl) ⟨Nat.zero_le _, Nat.zero_le _⟩ dX10_pinned_44 rfl rfl ?_
            refine lv_goto (tgt := 51) hx hb dX10_pinned_47 (by decide) ?_
            refine lv_iadd hx hb dX10_pinned_51 ?_
            refine lv_istore_n (lv' := [(2, .int (v2 + r5)), (0, .ref a0), (1, .int v1), (3, .int v3)]) hx hb dX10_pinned_52 rfl hl (by decide) rfl (fun ls hl => ?_)
            refine lv_iinc (v := (v3 + 1)) (lv' := [(3, .int (v3 + 1)), (2, .int (v2 + r5)), (0, .ref a0), (1, .int v1)]) hx hb dX10_pinned_53 hl (k := 3) rfl rfl (by decide) rfl (fun ls hl => ?_)
            refine lv_goto (tgt := 4) hx hb dX10_pinned_56 (by decide) ?_
            exact ih v1 (v2 + r5) (v3 + 1) _ ls hf (lv_sub hl [2, 3, 1, 0] rfl) hk
  refine lv_iconst (v := 0) hx hb dX10_pinned_0 (by decide) ?_
  refine lv_istore_n (lv' := [(2, .int 0), (0, .ref a0), (1, .int p1)]) hx hb dX10_pinned_1 rfl hl (by decide) rfl (fun ls hl => ?_)
  refine lv_iconst (v := 0) hx hb dX10_pinned_2 (by decide) ?_
  refine lv_istore_n (lv' := [(3, .int 0), (2, .int 0), (0, .ref a0), (1, .int p1)]) hx hb dX10_pinned_3 rfl hl (by decide) rfl (fun ls hl => ?_)
  obtain ⟨x11, h12, hf⟩ := bd_s hf
  refine L4 _ F p1 0 0 x11 ls h12 (lv_sub hl [2, 3, 1, 0] rfl) (fun ls hl => ?_)
  refine lv_iload_n hx hb dX10_pinned_59 rfl (lv_at hl 0 rfl) ?_
  exact rt_i C hr hlk dX10_pinned_60 (congrArg (fun o => o.map Value.int) hf)
def X10_pinnedMany_L4 (F : Nat) : Nat → Int32 → Int32 → (Nat → Int32) → Int32 → Option (Int32)
  | 0, _, _, _, _ => none
  | n + 1, v1, v2, k_w, k_o => if ((k_o + 0) : Int32) < 0 ∨ 3392 ≤ (Int32.toNatClampNeg (k_o + 0)) then none else (if ((k_w (Int32.toNatClampNeg (k_o + 0))) : Int32) ≤ v2 then (some v1) else ((X10_of F v2 6 k_w k_o).bind fun r1 => (X10_pinnedMany_L4 F n (v1 + r1) (v2 + 1) k_w k_o)))
def X10_pinnedMany (F : Nat) (k_w : (Nat → Int32)) (k_o : Int32) : Option (Int32) := (X10_pinnedMany_L4 F F 0 0 k_w k_o).bind fun x5 => (some x5)
abbrev rm_X10_pinnedMany : Room := { frames := 1, cells := 0, slots := 0, locals := 22 }
theorem ok_X10_pinnedMany : OKV RX10 yX10_pinnedMany cX10_pinnedMany 3 (some .int) 0 := ⟨by decide +kernel, qV_X10_pinnedMany, qL_X10_pinnedMany, qI_X10, qD_X10_pinnedMany⟩
set_option maxHeartbeats 4000000 in
set_option maxRecDepth 100000 in
theorem c_X10_pinnedMany (l : Launch) (D : va_G) (cI cZ cL cW : ClassId) (F : Nat) (a0 : Nat) (a1 : Nat) (a2 : Nat) (a3 : Nat) (a4 : Nat) (a5 : Nat) (a6 : Nat) (k_thrown : Int32) (k_w : (Nat → Int32)) (k_o : Int32) (k_isKept : (Nat → Int32)) (k_went : (Nat → Int32)) (k_wentMany : Int32) (k_waiting : (Nat → Int32)) (k_came : Int32) (k_depth : Int32) (k_isSilent : Int32) (k_x : Int64) (k_packed : (Nat → Int32)) (k_hits : Int32) (k_rues : Int32) (k_soonest : Int32) (k_inAll : (Nat → Int32)) (r : Int32) (hf : X10_pinnedMany F k_w k_o = some r) : CtrR l D (tyL cI cZ cL cW) nestW yX10_pinnedMany cX10_pinnedMany 3 (some .int) rm_X10_pinnedMany [.ref a0] (MX10 cI cZ cL cW a0 a1 a2 a3 a4 a5 a6 k_thrown k_w k_o k_isKept k_went k_wentMany k_waiting k_came k_depth k_isSilent k_x k_packed k_hits k_rues k_soonest k_inAll) (some (.int r)) := by
  refine ofR RX10 (by decide) rfl (Nat.le_of_ble_eq_true rfl) ?_
  intro p e s m below meth c ls C hr hlk hE hP hl
  generalize (List.toArray ([.ref a0] : List Value)) = args at C ⊢
  obtain ⟨hx, hb, hml, hown, ht⟩ := id C
  have hl : lv_has ls 3 [(0, .ref a0)] := hl
  have L4 : ∀ (Q : State → Prop) (n : Nat) (v1 : Int32) (v2 : Int32) (x1 : Int32) (ls : Array Slot), X10_pinnedMany_L4 F n v1 v2 k_w k_o = some x1 → lv_has ls 3 [(0, .ref a0), (1, .int v1), (2, .int v2)] → (∀ ls : Array Slot, lv_has ls 3 [(1, .int x1)] → W p l e rm_X10_pinnedMany s m args below meth c s.heap [] 0 0 Q (F0 m 35 ls [])) → W p l e rm_X10_pinnedMany s m args below meth c s.heap [] 0 0 Q (F0 m 4 ls []) := by
    intro Q n
    induction n with
    | zero => intro v1 v2 x1 ls hf hl hk; exact nn_s hf
    | succ n ih =>
      intro v1 v2 x1 ls hf hl hk
      refine lv_iload_n hx hb dX10_pinnedMany_4 rfl (lv_at hl 2 rfl) ?_
      refine lv_aload_n hx hb dX10_pinnedMany_5 rfl (lv_at hl 0 rfl) ?_
      refine gf_X10 (v := .ref a1) C hE hP 0 1 rfl (by decide) qF_X10_17 rfl dX10_pinnedMany_6 ?_
      refine lv_aload_n hx hb dX10_pinnedMany_9 rfl (lv_at hl 0 rfl) ?_
      refine gf_X10 (v := .int k_o) C hE hP 0 2 rfl (by decide) qF_X10_41 rfl dX10_pinnedMany_10 ?_
      refine lv_iconst (v := 0) hx hb dX10_pinnedMany_13 (by decide) ?_
      refine lv_iadd hx hb dX10_pinnedMany_14 ?_
      obtain ⟨g4, hf⟩ := it_g hf
      refine va_iald hx hb hE.1 hP 1 0 rfl rfl g4 dX10_pinnedMany_15 ?_
      refine lv_icmp_ge (tgt := 35) hx hb dX10_pinnedMany_16 (by decide) (fun c3 => ?_) (fun c3 => ?_)
      · have hf := it_p hf c3
        cases hf
        exact hk ls (lv_sub hl [1] rfl)
      · have hf := it_n hf c3
        refine lv_iload_n hx hb dX10_pinnedMany_19 rfl (lv_at hl 1 rfl) ?_
        refine lv_aload_n hx hb dX10_pinnedMany_20 rfl (lv_at hl 0 rfl) ?_
        refine lv_iload_n hx hb dX10_pinnedMany_21 rfl (lv_at hl 2 rfl) ?_
        refine lv_bipush (v := 6) hx hb dX10_pinnedMany_22 (by decide) ?_
        obtain ⟨r1, h2, hf⟩ := bd_s hf
        refine iv_R (rest := [.int v1]) (st1 := [.int r1, .int v1]) C hE hP (c_X10_of l D cI cZ cL cW F a0 a1 a2 a3 a4 a5 a6 k_thrown k_w k_o k_isKept k_went k_wentMany k_waiting k_came k_depth k_isSilent k_x k_packed k_hits k_rues k_soonest k_inAll v2 6 r1  h2) ok_X10_of qM_X10_44 rfl rfl ⟨(Nat.le_of_ble_eq_true rfl), (Nat.le_of_ble_eq_true rfl)⟩ rfl rfl hl.1 (Nat.le_of_ble_eq_true rfl) ⟨Nat.zero_le _, Nat.zero_le _⟩ dX10_pinnedMany_24 rfl rfl ?_
        refine lv_iadd hx hb dX10_pinnedMany_27 ?_
        refine lv_istore_n (lv' := [(1, .int (v1 + r1)), (0, .ref a0), (2, .int v2)]) hx hb dX10_pinnedMany_28 rfl hl (by decide) rfl (fun ls hl => ?_)
        refine lv_iinc (v := (v2 + 1)) (lv' := [(2, .int (v2 + 1)), (1, .int (v1 + r1)), (0, .ref a0)]) hx hb dX10_pinnedMany_29 hl (k := 2) rfl rfl (by decide) rfl (fun ls hl => ?_)
        refine lv_goto (tgt := 4) hx hb dX10_pinnedMany_32 (by decide) ?_
        exact ih (v1 + r1) (v2 + 1) _ ls hf (lv_sub hl [2, 1, 0] rfl) hk
  refine lv_iconst (v := 0) hx hb dX10_pinnedMany_0 (by decide) ?_
  refine lv_istore_n (lv' := [(1, .int 0), (0, .ref a0)]) hx hb dX10_pinnedMany_1 rfl hl (by decide) rfl (fun ls hl => ?_)
  refine lv_iconst (v := 0) hx hb dX10_pinnedMany_2 (by decide) ?_
  refine lv_istore_n (lv' := [(2, .int 0), (1, .int 0), (0, .ref a0)]) hx hb dX10_pinnedMany_3 rfl hl (by decide) rfl (fun ls hl => ?_)
  obtain ⟨x5, h6, hf⟩ := bd_s hf
  refine L4 _ F 0 0 x5 ls h6 (lv_sub hl [2, 1, 0] rfl) (fun ls hl => ?_)
  refine lv_iload_n hx hb dX10_pinnedMany_35 rfl (lv_at hl 0 rfl) ?_
  exact rt_i C hr hlk dX10_pinnedMany_36 (congrArg (fun o => o.map Value.int) hf)
def X10_goes_L20 (F : Nat) : Nat → Int32 → (Nat → Int32) → Int32 → Option ((Nat → Int32))
  | 0, _, _, _ => none
  | n + 1, v2, k_w, k_o => if ((k_o + 0) : Int32) < 0 ∨ 3392 ≤ (Int32.toNatClampNeg (k_o + 0)) then none else (if ((7 * (k_w (Int32.toNatClampNeg (k_o + 0)))) : Int32) ≤ v2 then (some k_w) else (if ((((k_o + 24) + v2) + 7) : Int32) < 0 ∨ 3392 ≤ (Int32.toNatClampNeg (((k_o + 24) + v2) + 7)) then none else (if (((k_o + 24) + v2) : Int32) < 0 ∨ 3392 ≤ (Int32.toNatClampNeg ((k_o + 24) + v2)) then none else (X10_goes_L20 F n (v2 + 1) (upd k_w (Int32.toNatClampNeg ((k_o + 24) + v2)) (k_w (Int32.toNatClampNeg (((k_o + 24) + v2) + 7)))) k_o))))
def X10_goes (F : Nat) (p1 : Int32) (k_w : (Nat → Int32)) (k_o : Int32) : Option ((Nat → Int32)) := if ((k_o + 0) : Int32) < 0 ∨ 3392 ≤ (Int32.toNatClampNeg (k_o + 0)) then none else (if ((k_o + 0) : Int32) < 0 ∨ 3392 ≤ (Int32.toNatClampNeg (k_o + 0)) then none else ((X10_goes_L20 F F (7 * p1) (upd k_w (Int32.toNatClampNeg (k_o + 0)) ((k_w (Int32.toNatClampNeg (k_o + 0))) - 1)) k_o).bind fun k5 => (some k5)))
abbrev rm_X10_goes : Room := { frames := 0, cells := 0, slots := 0, locals := 0 }
theorem ok_X10_goes : OKV RX10 yX10_goes cX10_goes 3 none 1 := ⟨by decide +kernel, qV_X10_goes, qL_X10_goes, qI_X10, qD_X10_goes⟩
set_option maxHeartbeats 4000000 in
set_option maxRecDepth 100000 in
theorem c_X10_goes (l : Launch) (D : va_G) (cI cZ cL cW : ClassId) (F : Nat) (a0 : Nat) (a1 : Nat) (a2 : Nat) (a3 : Nat) (a4 : Nat) (a5 : Nat) (a6 : Nat) (k_thrown : Int32) (k_w : (Nat → Int32)) (k_o : Int32) (k_isKept : (Nat → Int32)) (k_went : (Nat → Int32)) (k_wentMany : Int32) (k_waiting : (Nat → Int32)) (k_came : Int32) (k_depth : Int32) (k_isSilent : Int32) (k_x : Int64) (k_packed : (Nat → Int32)) (k_hits : Int32) (k_rues : Int32) (k_soonest : Int32) (k_inAll : (Nat → Int32)) (p1 : Int32) (k_w' : (Nat → Int32)) (hf : X10_goes F p1 k_w k_o = some (k_w')) : CtrW l D (tyL cI cZ cL cW) nestW yX10_goes cX10_goes 3 none rm_X10_goes [.ref a0, .int p1] (MX10 cI cZ cL cW a0 a1 a2 a3 a4 a5 a6 k_thrown k_w k_o k_isKept k_went k_wentMany k_waiting k_came k_depth k_isSilent k_x k_packed k_hits k_rues k_soonest k_inAll) (MX10 cI cZ cL cW a0 a1 a2 a3 a4 a5 a6 k_thrown (k_w') k_o k_isKept k_went k_wentMany k_waiting k_came k_depth k_isSilent k_x k_packed k_hits k_rues k_soonest k_inAll) none := by
  refine ofA RX10 (by decide) rfl (Nat.le_of_ble_eq_true rfl) ?_
  intro p e s m below meth c ls A C hr hlk hE hA hP hD hS hl
  generalize (List.toArray ([.ref a0, .int p1] : List Value)) = args at C ⊢
  obtain ⟨hx, hb, hml, hown, ht⟩ := id C
  have hl : lv_has ls 3 [(0, .ref a0), (1, .int p1)] := hl
  have L20 : ∀ (Q : State → Prop) (n : Nat) (v2 : Int32) (k_thrown : Int32) (k_w : (Nat → Int32)) (k_o : Int32) (k_isKept : (Nat → Int32)) (k_went : (Nat → Int32)) (k_wentMany : Int32) (k_waiting : (Nat → Int32)) (k_came : Int32) (k_depth : Int32) (k_isSilent : Int32) (k_x : Int64) (k_packed : (Nat → Int32)) (k_hits : Int32) (k_rues : Int32) (k_soonest : Int32) (k_inAll : (Nat → Int32)) (k_w' : (Nat → Int32)) (H : Heap) (locs : List Loc) (ls : Array Slot), X10_goes_L20 F n v2 k_w k_o = some (k_w') → va_P D vwCl (MX10 cI cZ cL cW a0 a1 a2 a3 a4 a5 a6 k_thrown k_w k_o k_isKept k_went k_wentMany k_waiting k_came k_depth k_isSilent k_x k_packed k_hits k_rues k_soonest k_inAll) H → va_D A (MX10 cI cZ cL cW a0 a1 a2 a3 a4 a5 a6 k_thrown k_w k_o k_isKept k_went k_wentMany k_waiting k_came k_depth k_isSilent k_x k_packed k_hits k_rues k_soonest k_inAll) → va_S A s.heap H locs → lv_has ls 3 [(0, .ref a0), (2, .int v2)] → (∀ (H : Heap) (locs : List Loc) (ls : Array Slot), va_P D vwCl (MX10 cI cZ cL cW a0 a1 a2 a3 a4 a5 a6 k_thrown (k_w') k_o k_isKept k_went k_wentMany k_waiting k_came k_depth k_isSilent k_x k_packed k_hits k_rues k_soonest k_inAll) H → va_D A (MX10 cI cZ cL cW a0 a1 a2 a3 a4 a5 a6 k_thrown (k_w') k_o k_isKept k_went k_wentMany k_waiting k_came k_depth k_isSilent k_x k_packed k_hits k_rues k_soonest k_inAll) → va_S A s.heap H locs → lv_has ls 3 [] → W p l e rm_X10_goes s m args below meth c H locs 0 0 Q (F0 m 75 ls [])) → W p l e rm_X10_goes s m args below meth c H locs 0 0 Q (F0 m 20 ls []) := by
    intro Q n
    induction n with
    | zero => intro v2 k_thrown k_w k_o k_isKept k_went k_wentMany k_waiting k_came k_depth k_isSilent k_x k_packed k_hits k_rues k_soonest k_inAll k_w' H locs ls hf hP hD hS hl hk; exact nn_s hf
    | succ n ih =>
      intro v2 k_thrown k_w k_o k_isKept k_went k_wentMany k_waiting k_came k_depth k_isSilent k_x k_packed k_hits k_rues k_soonest k_inAll k_w' H locs ls hf hP hD hS hl hk
      refine lv_iload_n hx hb dX10_goes_20 rfl (lv_at hl 1 rfl) ?_
      refine lv_bipush (v := 7) hx hb dX10_goes_21 (by decide) ?_
      refine lv_aload_n hx hb dX10_goes_23 rfl (lv_at hl 0 rfl) ?_
      refine gf_X10 (v := .ref a1) C hE hP 0 1 rfl (by decide) qF_X10_17 rfl dX10_goes_24 ?_
      refine lv_aload_n hx hb dX10_goes_27 rfl (lv_at hl 0 rfl) ?_
      refine gf_X10 (v := .int k_o) C hE hP 0 2 rfl (by decide) qF_X10_41 rfl dX10_goes_28 ?_
      refine lv_iconst (v := 0) hx hb dX10_goes_31 (by decide) ?_
      refine lv_iadd hx hb dX10_goes_32 ?_
      obtain ⟨g4, hf⟩ := it_g hf
      refine va_iald hx hb hE.1 hP 1 0 rfl rfl g4 dX10_goes_33 ?_
      refine lv_imul hx hb dX10_goes_34 ?_
      refine lv_icmp_ge (tgt := 75) hx hb dX10_goes_35 (by decide) (fun c3 => ?_) (fun c3 => ?_)
      · have hf := it_p hf c3
        cases hf
        exact hk _ _ ls hP hD hS (lv_sub hl [] rfl)
      · have hf := it_n hf c3
        refine lv_aload_n hx hb dX10_goes_38 rfl (lv_at hl 0 rfl) ?_
        refine gf_X10 (v := .ref a1) C hE hP 0 1 rfl (by decide) qF_X10_17 rfl dX10_goes_39 ?_
        refine lv_aload_n hx hb dX10_goes_42 rfl (lv_at hl 0 rfl) ?_
        refine gf_X10 (v := .int k_o) C hE hP 0 2 rfl (by decide) qF_X10_41 rfl dX10_goes_43 ?_
        refine lv_bipush (v := 24) hx hb dX10_goes_46 (by decide) ?_
        refine lv_iadd hx hb dX10_goes_48 ?_
        refine lv_iload_n hx hb dX10_goes_49 rfl (lv_at hl 1 rfl) ?_
        refine lv_iadd hx hb dX10_goes_50 ?_
        refine lv_aload_n hx hb dX10_goes_51 rfl (lv_at hl 0 rfl) ?_
        refine gf_X10 (v := .ref a1) C hE hP 0 1 rfl (by decide) qF_X10_17 rfl dX10_goes_52 ?_
        refine lv_aload_n hx hb dX10_goes_55 rfl (lv_at hl 0 rfl) ?_
        refine gf_X10 (v := .int k_o) C hE hP 0 2 rfl (by decide) qF_X10_41 rfl dX10_goes_56 ?_
        refine lv_bipush (v := 24) hx hb dX10_goes_59 (by decide) ?_
        refine lv_iadd hx hb dX10_goes_61 ?_
        refine lv_iload_n hx hb dX10_goes_62 rfl (lv_at hl 1 rfl) ?_
        refine lv_iadd hx hb dX10_goes_63 ?_
        refine lv_bipush (v := 7) hx hb dX10_goes_64 (by decide) ?_
        refine lv_iadd hx hb dX10_goes_66 ?_
        obtain ⟨g2, hf⟩ := it_g hf
        refine va_iald hx hb hE.1 hP 1 0 rfl rfl g2 dX10_goes_67 ?_
        obtain ⟨g1, hf⟩ := it_g hf
        refine va_iast hx hb hE.1 hP hD hS 1 0 rfl rfl g1 dX10_goes_68 (fun H locs (hP : va_P D vwCl (MX10 cI cZ cL cW a0 a1 a2 a3 a4 a5 a6 k_thrown (upd k_w (Int32.toNatClampNeg ((k_o + 24) + v2)) (k_w (Int32.toNatClampNeg (((k_o + 24) + v2) + 7)))) k_o k_isKept k_went k_wentMany k_waiting k_came k_depth k_isSilent k_x k_packed k_hits k_rues k_soonest k_inAll) H) (hD : va_D A (MX10 cI cZ cL cW a0 a1 a2 a3 a4 a5 a6 k_thrown (upd k_w (Int32.toNatClampNeg ((k_o + 24) + v2)) (k_w (Int32.toNatClampNeg (((k_o + 24) + v2) + 7)))) k_o k_isKept k_went k_wentMany k_waiting k_came k_depth k_isSilent k_x k_packed k_hits k_rues k_soonest k_inAll)) hS => ?_)
        refine lv_iinc (v := (v2 + 1)) (lv' := [(2, .int (v2 + 1)), (0, .ref a0)]) hx hb dX10_goes_69 hl (k := 1) rfl rfl (by decide) rfl (fun ls hl => ?_)
        refine lv_goto (tgt := 20) hx hb dX10_goes_72 (by decide) ?_
        exact ih (v2 + 1) k_thrown (upd k_w (Int32.toNatClampNeg ((k_o + 24) + v2)) (k_w (Int32.toNatClampNeg (((k_o + 24) + v2) + 7)))) k_o k_isKept k_went k_wentMany k_waiting k_came k_depth k_isSilent k_x k_packed k_hits k_rues k_soonest k_inAll _ _ _ ls hf hP hD hS (lv_sub hl [1, 0] rfl) hk
  refine lv_aload_n hx hb dX10_goes_0 rfl (lv_at hl 0 rfl) ?_
  refine gf_X10 (v := .ref a1) C hE hP 0 1 rfl (by decide) qF_X10_17 rfl dX10_goes_1 ?_
  refine lv_aload_n hx hb dX10_goes_4 rfl (lv_at hl 0 rfl) ?_
  refine gf_X10 (v := .int k_o) C hE hP 0 2 rfl (by decide) qF_X10_41 rfl dX10_goes_5 ?_
  refine lv_iconst (v := 0) hx hb dX10_goes_8 (by decide) ?_
  refine lv_iadd hx hb dX10_goes_9 ?_
  refine lv_dup2_11 hx hb dX10_goes_10 rfl rfl ?_
  obtain ⟨g8, hf⟩ := it_g hf
  refine va_iald hx hb hE.1 hP 1 0 rfl rfl g8 dX10_goes_11 ?_
  refine lv_iconst (v := 1) hx hb dX10_goes_12 (by decide) ?_
  refine lv_isub hx hb dX10_goes_13 ?_
  obtain ⟨g7, hf⟩ := it_g hf
  refine va_iast hx hb hE.1 hP hD hS 1 0 rfl rfl g7 dX10_goes_14 (fun H locs (hP : va_P D vwCl (MX10 cI cZ cL cW a0 a1 a2 a3 a4 a5 a6 k_thrown (upd k_w (Int32.toNatClampNeg (k_o + 0)) ((k_w (Int32.toNatClampNeg (k_o + 0))) - 1)) k_o k_isKept k_went k_wentMany k_waiting k_came k_depth k_isSilent k_x k_packed k_hits k_rues k_soonest k_inAll) H) (hD : va_D A (MX10 cI cZ cL cW a0 a1 a2 a3 a4 a5 a6 k_thrown (upd k_w (Int32.toNatClampNeg (k_o + 0)) ((k_w (Int32.toNatClampNeg (k_o + 0))) - 1)) k_o k_isKept k_went k_wentMany k_waiting k_came k_depth k_isSilent k_x k_packed k_hits k_rues k_soonest k_inAll)) hS => ?_)
  refine lv_bipush (v := 7) hx hb dX10_goes_15 (by decide) ?_
  refine lv_iload_n hx hb dX10_goes_17 rfl (lv_at hl 1 rfl) ?_
  refine lv_imul hx hb dX10_goes_18 ?_
  refine lv_istore_n (lv' := [(2, .int (7 * p1)), (0, .ref a0), (1, .int p1)]) hx hb dX10_goes_19 rfl hl (by decide) rfl (fun ls hl => ?_)
  obtain ⟨k5, h6, hf⟩ := bd_s hf
  refine L20 _ F (7 * p1) k_thrown (upd k_w (Int32.toNatClampNeg (k_o + 0)) ((k_w (Int32.toNatClampNeg (k_o + 0))) - 1)) k_o k_isKept k_went k_wentMany k_waiting k_came k_depth k_isSilent k_x k_packed k_hits k_rues k_soonest k_inAll k5 _ _ ls h6 hP hD hS (lv_sub hl [1, 0] rfl) (fun H locs ls hP hD hS hl => ?_)
  cases hf
  exact rw_v C hr hlk hP hD hS dX10_goes_75
