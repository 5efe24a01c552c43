def X1_first_L5 (F : Nat) : Nat → Int32 → Int32 → Int32 → Int32 → (Nat → Int32) → (Nat → Int32) → (Nat → Int32) → (Nat → Int32) → Int32 → Option (Int32)
  | 0, _, _, _, _, _, _, _, _, _ => none
  | n + 1, v1, v2, v3, v4, k_keys, k_counts, k_lasts, k_pinned, k_size => if (k_size : Int32) ≤ v4 then (some v3) else ((X1_mayGo F v4 v2 k_keys k_pinned).bind fun r1 => (if (r1 : Int32) = 0 then (X1_first_L5 F n v1 v2 v3 (v4 + 1) k_keys k_counts k_lasts k_pinned k_size) else (if (v3 : Int32) = (-1) then (X1_first_L5 F n v1 v2 v4 (v4 + 1) k_keys k_counts k_lasts k_pinned k_size) else ((X1_precedes F v1 v4 v3 k_counts k_lasts).bind fun r3 => (if (r3 : Int32) = 0 then (X1_first_L5 F n v1 v2 v3 (v4 + 1) k_keys k_counts k_lasts k_pinned k_size) else (X1_first_L5 F n v1 v2 v4 (v4 + 1) k_keys k_counts k_lasts k_pinned k_size))))))
def X1_first (F : Nat) (p1 : Int32) (p2 : Int32) (k_keys : (Nat → Int32)) (k_counts : (Nat → Int32)) (k_lasts : (Nat → Int32)) (k_pinned : (Nat → Int32)) (k_size : Int32) : Option (Int32) := (X1_first_L5 F F p1 p2 (-1) 0 k_keys k_counts k_lasts k_pinned k_size).bind fun x9 => (some x9)
abbrev rm_X1_first : Room := { frames := 1, cells := 0, slots := 0, locals := 23 }
theorem ok_X1_first : OKV RX1 yX1_first cX1_first 5 (some .int) 2 := ⟨by decide +kernel, qV_X1_first, qL_X1_first, qI_X1, qD_X1_first⟩
set_option maxHeartbeats 4000000 in
set_option maxRecDepth 100000 in
theorem c_X1_first (l : Launch) (D : va_G) (cI cZ cL cW : ClassId) (F : Nat) (a0 : Nat) (a1 : Nat) (a2 : Nat) (a3 : Nat) (a4 : Nat) (a5 : Nat) (a6 : Nat) (a7 : Nat) (k_keys : (Nat → Int32)) (k_values : (Nat → Int32)) (k_weights : (Nat → Int32)) (k_counts : (Nat → Int32)) (k_lasts : (Nat → Int32)) (k_tills : (Nat → Int32)) (k_pinned : (Nat → Int32)) (k_size : Int32) (k_load : Int32) (k_pinnedLoad : Int32) (k_uses : Int32) (k_aging : Int32) (k_halvings : Int32) (p1 : Int32) (p2 : Int32) (r : Int32) (hf : X1_first F p1 p2 k_keys k_counts k_lasts k_pinned k_size = some r) : CtrR l D (tyL cI cZ cL cW) nestW yX1_first cX1_first 5 (some .int) rm_X1_first [.ref a0, .int p1, .int p2] (MX1 cI cZ cL cW a0 a1 a2 a3 a4 a5 a6 a7 k_keys k_values k_weights k_counts k_lasts k_tills k_pinned k_size k_load k_pinnedLoad k_uses k_aging k_halvings) (some (.int r)) := by
  refine ofR RX1 (by decide) rfl (Nat.le_of_ble_eq_true rfl) ?_
  intro p e s m below meth c ls C hr hlk hE hP hl
  generalize (List.toArray ([.ref a0, .int p1, .int p2] : List Value)) = args at C ⊢
  obtain ⟨hx, hb, hml, hown, ht⟩ := id C
  have hl : lv_has ls 5 [(0, .ref a0), (1, .int p1), (2, .int p2)] := hl
  have L5 : ∀ (Q : State → Prop) (n : Nat) (v1 : Int32) (v2 : Int32) (v3 : Int32) (v4 : Int32) (x3 : Int32) (ls : Array Slot), X1_first_L5 F n v1 v2 v3 v4 k_keys k_counts k_lasts k_pinned k_size = some x3 → lv_has ls 5 [(0, .ref a0), (1, .int v1), (2, .int v2), (3, .int v3), (4, .int v4)] → (∀ ls : Array Slot, lv_has ls 5 [(3, .int x3)] → W p l e rm_X1_first s m args below meth c s.heap [] 0 0 Q (F0 m 49 ls [])) → W p l e rm_X1_first s m args below meth c s.heap [] 0 0 Q (F0 m 5 ls []) := by
    intro Q n
    induction n with
    | zero => intro v1 v2 v3 v4 x3 ls hf hl hk; exact nn_s hf
    | succ n ih =>
      intro v1 v2 v3 v4 x3 ls hf hl hk
      refine lv_iload hx hb dX1_first_5 (lv_at hl 4 rfl) ?_
      refine lv_aload_n hx hb dX1_first_7 rfl (lv_at hl 0 rfl) ?_
      refine gf_X1 (v := .int k_size) C hE hP 0 7 rfl (by decide) qF_X1_44 rfl dX1_first_8 ?_
      refine lv_icmp_ge (tgt := 49) hx hb dX1_first_11 (by decide) (fun c8 => ?_) (fun c8 => ?_)
      · have hf := it_p hf c8
        cases hf
        exact hk ls (lv_sub hl [3] rfl)
      · have hf := it_n hf c8
        refine lv_aload_n hx hb dX1_first_14 rfl (lv_at hl 0 rfl) ?_
        refine lv_iload hx hb dX1_first_15 (lv_at hl 4 rfl) ?_
        refine lv_iload_n hx hb dX1_first_17 rfl (lv_at hl 2 rfl) ?_
        obtain ⟨r1, h2, hf⟩ := bd_s hf
        refine iv_R (rest := []) (st1 := [.int r1]) C hE hP (c_X1_mayGo l D cI cZ cL cW F a0 a1 a2 a3 a4 a5 a6 a7 k_keys k_values k_weights k_counts k_lasts k_tills k_pinned k_size k_load k_pinnedLoad k_uses k_aging k_halvings v4 v2 r1  h2) ok_X1_mayGo qM_X1_83 rfl rfl ⟨(Nat.le_of_ble_eq_true rfl), (Nat.le_of_ble_eq_true rfl)⟩ rfl rfl hl.1 (Nat.le_of_ble_eq_true rfl) ⟨Nat.zero_le _, Nat.zero_le _⟩ dX1_first_18 rfl rfl ?_
        refine lv_if_eq (tgt := 43) hx hb dX1_first_21 (by decide) (fun c7 => ?_) (fun c7 => ?_)
        · have hf := it_p hf c7
          refine lv_iinc (v := (v4 + 1)) (lv' := [(4, .int (v4 + 1)), (0, .ref a0), (1, .int v1), (2, .int v2), (3, .int v3)]) hx hb dX1_first_43 hl (k := 4) rfl rfl (by decide) rfl (fun ls hl => ?_)
          refine lv_goto (tgt := 5) hx hb dX1_first_46 (by decide) ?_
          exact ih v1 v2 v3 (v4 + 1) _ ls hf (lv_sub hl [1, 2, 3, 4, 0] rfl) hk
        · have hf := it_n hf c7
          refine lv_iload_n hx hb dX1_first_24 rfl (lv_at hl 3 rfl) ?_
          refine lv_iconst (v := (-1)) hx hb dX1_first_25 (by decide) ?_
          refine lv_icmp_eq (tgt := 40) hx hb dX1_first_26 (by decide) (fun c6 => ?_) (fun c6 => ?_)
          · have hf := it_p hf c6
            refine lv_iload hx hb dX1_first_40 (lv_at hl 4 rfl) ?_
            refine lv_istore_n (lv' := [(3, .int v4), (0, .ref a0), (1, .int v1), (2, .int v2), (4, .int v4)]) hx hb dX1_first_42 rfl hl (by decide) rfl (fun ls hl => ?_)
            refine lv_iinc (v := (v4 + 1)) (lv' := [(4, .int (v4 + 1)), (3, .int v4), (0, .ref a0), (1, .int v1), (2, .int v2)]) hx hb dX1_first_43 hl (k := 4) rfl rfl (by decide) rfl (fun ls hl => ?_)
            refine lv_goto (tgt := 5) hx hb dX1_first_46 (by decide) ?_
            exact ih v1 v2 v4 (v4 + 1) _ ls hf (lv_sub hl [2, 3, 4, 1, 0] rfl) hk
          · have hf := it_n hf c6
            refine lv_aload_n hx hb dX1_first_29 rfl (lv_at hl 0 rfl) ?_
            refine lv_iload_n hx hb dX1_first_30 rfl (lv_at hl 1 rfl) ?_
            refine lv_iload hx hb dX1_first_31 (lv_at hl 4 rfl) ?_
            refine lv_iload_n hx hb dX1_first_33 rfl (lv_at hl 3 rfl) ?_
            obtain ⟨r3, h4, hf⟩ := bd_s hf
            refine iv_R (rest := []) (st1 := [.int r3]) C hE hP (c_X1_precedes l D cI cZ cL cW F a0 a1 a2 a3 a4 a5 a6 a7 k_keys k_values k_weights k_counts k_lasts k_tills k_pinned k_size k_load k_pinnedLoad k_uses k_aging k_halvings v1 v4 v3 r3  h4) ok_X1_precedes qM_X1_76 rfl rfl ⟨(Nat.le_of_ble_eq_true rfl), (Nat.le_of_ble_eq_true rfl)⟩ rfl rfl hl.1 (Nat.le_of_ble_eq_true rfl) ⟨Nat.zero_le _, Nat.zero_le _⟩ dX1_first_34 rfl rfl ?_
            refine lv_if_eq (tgt := 43) hx hb dX1_first_37 (by decide) (fun c5 => ?_) (fun c5 => ?_)
            · have hf := it_p hf c5
              refine lv_iinc (v := (v4 + 1)) (lv' := [(4, .int (v4 + 1)), (0, .ref a0), (1, .int v1), (2, .int v2), (3, .int v3)]) hx hb dX1_first_43 hl (k := 4) rfl rfl (by decide) rfl (fun ls hl => ?_)
              refine lv_goto (tgt := 5) hx hb dX1_first_46 (by decide) ?_
              exact ih v1 v2 v3 (v4 + 1) _ ls hf (lv_sub hl [1, 2, 3, 4, 0] rfl) hk
            · have hf := it_n hf c5
              refine lv_iload hx hb dX1_first_40 (lv_at hl 4 rfl) ?_
              refine lv_istore_n (lv' := [(3, .int v4), (0, .ref a0), (1, .int v1), (2, .int v2), (4, .int v4)]) hx hb dX1_first_42 rfl hl (by decide) rfl (fun ls hl => ?_)
              refine lv_iinc (v := (v4 + 1)) (lv' := [(4, .int (v4 + 1)), (3, .int v4), (0, .ref a0), (1, .int v1), (2, .int v2)]) hx hb dX1_first_43 hl (k := 4) rfl rfl (by decide) rfl (fun ls hl => ?_)
              refine lv_goto (tgt := 5) hx hb dX1_first_46 (by decide) ?_
              exact ih v1 v2 v4 (v4 + 1) _ ls hf (lv_sub hl [2, 3, 4, 1, 0] rfl) hk
  refine lv_iconst (v := (-1)) hx hb dX1_first_0 (by decide) ?_
  refine lv_istore_n (lv' := [(3, .int (-1)), (0, .ref a0), (1, .int p1), (2, .int p2)]) hx hb dX1_first_1 rfl hl (by decide) rfl (fun ls hl => ?_)
  refine lv_iconst (v := 0) hx hb dX1_first_2 (by decide) ?_
  refine lv_istore (lv' := [(4, .int 0), (3, .int (-1)), (0, .ref a0), (1, .int p1), (2, .int p2)]) hx hb dX1_first_3 hl (by decide) rfl (fun ls hl => ?_)
  obtain ⟨x9, h10, hf⟩ := bd_s hf
  refine L5 _ F p1 p2 (-1) 0 x9 ls h10 (lv_sub hl [2, 3, 4, 1, 0] rfl) (fun ls hl => ?_)
  refine lv_iload_n hx hb dX1_first_49 rfl (lv_at hl 0 rfl) ?_
  exact rt_i C hr hlk dX1_first_50 (congrArg (fun o => o.map Value.int) hf)
def X1_heaviest_L4 (F : Nat) : Nat → Int32 → Int32 → Int32 → (Nat → Int32) → (Nat → Int32) → (Nat → Int32) → (Nat → Int32) → Int32 → Option (Int32)
  | 0, _, _, _, _, _, _, _, _ => none
  | n + 1, v1, v2, v3, k_keys, k_weights, k_lasts, k_pinned, k_size => if (k_size : Int32) ≤ v3 then (some v2) else ((X1_mayGo F v3 v1 k_keys k_pinned).bind fun r1 => (if (r1 : Int32) = 0 then (X1_heaviest_L4 F n v1 v2 (v3 + 1) k_keys k_weights k_lasts k_pinned k_size) else (if (v2 : Int32) = (-1) then (X1_heaviest_L4 F n v1 v3 (v3 + 1) k_keys k_weights k_lasts k_pinned k_size) else (if (v3 : Int32) < 0 ∨ 60 ≤ (Int32.toNatClampNeg v3) then none else (if (v2 : Int32) < 0 ∨ 60 ≤ (Int32.toNatClampNeg v2) then none else (if ((k_weights (Int32.toNatClampNeg v2)) : Int32) < (k_weights (Int32.toNatClampNeg v3)) then (X1_heaviest_L4 F n v1 v3 (v3 + 1) k_keys k_weights k_lasts k_pinned k_size) else (if (v3 : Int32) < 0 ∨ 60 ≤ (Int32.toNatClampNeg v3) then none else (if (v2 : Int32) < 0 ∨ 60 ≤ (Int32.toNatClampNeg v2) then none else (if ((k_weights (Int32.toNatClampNeg v3)) : Int32) = (k_weights (Int32.toNatClampNeg v2)) then (if (v3 : Int32) < 0 ∨ 60 ≤ (Int32.toNatClampNeg v3) then none else (if (v2 : Int32) < 0 ∨ 60 ≤ (Int32.toNatClampNeg v2) then none else (if ((k_lasts (Int32.toNatClampNeg v2)) : Int32) ≤ (k_lasts (Int32.toNatClampNeg v3)) then (X1_heaviest_L4 F n v1 v2 (v3 + 1) k_keys k_weights k_lasts k_pinned k_size) else (X1_heaviest_L4 F n v1 v3 (v3 + 1) k_keys k_weights k_lasts k_pinned k_size)))) else (X1_heaviest_L4 F n v1 v2 (v3 + 1) k_keys k_weights k_lasts k_pinned k_size))))))))))
def X1_heaviest (F : Nat) (p1 : Int32) (k_keys : (Nat → Int32)) (k_weights : (Nat → Int32)) (k_lasts : (Nat → Int32)) (k_pinned : (Nat → Int32)) (k_size : Int32) : Option (Int32) := (X1_heaviest_L4 F F p1 (-1) 0 k_keys k_weights k_lasts k_pinned k_size).bind fun x15 => (some x15)
abbrev rm_X1_heaviest : Room := { frames := 1, cells := 0, slots := 0, locals := 22 }
theorem ok_X1_heaviest : OKV RX1 yX1_heaviest cX1_heaviest 4 (some .int) 1 := ⟨by decide +kernel, qV_X1_heaviest, qL_X1_heaviest, qI_X1, qD_X1_heaviest⟩
set_option maxHeartbeats 4000000 in
set_option maxRecDepth 100000 in
theorem c_X1_heaviest (l : Launch) (D : va_G) (cI cZ cL cW : ClassId) (F : Nat) (a0 : Nat) (a1 : Nat) (a2 : Nat) (a3 : Nat) (a4 : Nat) (a5 : Nat) (a6 : Nat) (a7 : Nat) (k_keys : (Nat → Int32)) (k_values : (Nat → Int32)) (k_weights : (Nat → Int32)) (k_counts : (Nat → Int32)) (k_lasts : (Nat → Int32)) (k_tills : (Nat → Int32)) (k_pinned : (Nat → Int32)) (k_size : Int32) (k_load : Int32) (k_pinnedLoad : Int32) (k_uses : Int32) (k_aging : Int32) (k_halvings : Int32) (p1 : Int32) (r : Int32) (hf : X1_heaviest F p1 k_keys k_weights k_lasts k_pinned k_size = some r) : CtrR l D (tyL cI cZ cL cW) nestW yX1_heaviest cX1_heaviest 4 (some .int) rm_X1_heaviest [.ref a0, .int p1] (MX1 cI cZ cL cW a0 a1 a2 a3 a4 a5 a6 a7 k_keys k_values k_weights k_counts k_lasts k_tills k_pinned k_size k_load k_pinnedLoad k_uses k_aging k_halvings) (some (.int r)) := by
  refine ofR RX1 (by decide) rfl (Nat.le_of_ble_eq_true rfl) ?_
  intro p e s m below meth c ls C hr hlk hE hP hl
  generalize (List.toArray ([.ref a0, .int p1] : List Value)) = args at C ⊢
  obtain ⟨hx, hb, hml, hown, ht⟩ := id C
  have hl : lv_has ls 4 [(0, .ref a0), (1, .int p1)] := hl
  have L4 : ∀ (Q : State → Prop) (n : Nat) (v1 : Int32) (v2 : Int32) (v3 : Int32) (x2 : Int32) (ls : Array Slot), X1_heaviest_L4 F n v1 v2 v3 k_keys k_weights k_lasts k_pinned k_size = some x2 → lv_has ls 4 [(0, .ref a0), (1, .int v1), (2, .int v2), (3, .int v3)] → (∀ ls : Array Slot, lv_has ls 4 [(2, .int x2)] → W p l e rm_X1_heaviest s m args below meth c s.heap [] 0 0 Q (F0 m 79 ls [])) → W p l e rm_X1_heaviest s m args below meth c s.heap [] 0 0 Q (F0 m 4 ls []) := by
    intro Q n
    induction n with
    | zero => intro v1 v2 v3 x2 ls hf hl hk; exact nn_s hf
    | succ n ih =>
      intro v1 v2 v3 x2 ls hf hl hk
      refine lv_iload_n hx hb dX1_heaviest_4 rfl (lv_at hl 3 rfl) ?_
      refine lv_aload_n hx hb dX1_heaviest_5 rfl (lv_at hl 0 rfl) ?_
      refine gf_X1 (v := .int k_size) C hE hP 0 7 rfl (by decide) qF_X1_44 rfl dX1_heaviest_6 ?_
      refine lv_icmp_ge (tgt := 79) hx hb dX1_heaviest_9 (by decide) (fun c14 => ?_) (fun c14 => ?_)
      · have hf := it_p hf c14
        cases hf
        exact hk ls (lv_sub hl [2] rfl)
      · have hf := it_n hf c14
        refine lv_aload_n hx hb dX1_heaviest_12 rfl (lv_at hl 0 rfl) ?_
        refine lv_iload_n hx hb dX1_heaviest_13 rfl (lv_at hl 3 rfl) ?_
        refine lv_iload_n hx hb dX1_heaviest_14 rfl (lv_at hl 1 rfl) ?_
        obtain ⟨r1, h2, hf⟩ := bd_s hf
        refine iv_R (rest := []) (st1 := [.int r1]) C hE hP (c_X1_mayGo l D cI cZ cL cW F a0 a1 a2 a3 a4 a5 a6 a7 k_keys k_values k_weights k_counts k_lasts k_tills k_pinned k_size k_load k_pinnedLoad k_uses k_aging k_halvings v3 v1 r1  h2) ok_X1_mayGo qM_X1_83 rfl rfl ⟨(Nat.le_of_ble_eq_true rfl), (Nat.le_of_ble_eq_true rfl)⟩ rfl rfl hl.1 (Nat.le_of_ble_eq_true rfl) ⟨Nat.zero_le _, Nat.zero_le _⟩ dX1_heaviest_15 rfl rfl ?_
        refine lv_if_eq (tgt := 73) hx hb dX1_heaviest_18 (by decide) (fun c13 => ?_) (fun c13 => ?_)
        · have hf := it_p hf c13
          refine lv_iinc (v := (v3 + 1)) (lv' := [(3, .int (v3 + 1)), (0, .ref a0), (1, .int v1), (2, .int v2)]) hx hb dX1_heaviest_73 hl (k := 3) rfl rfl (by decide) rfl (fun ls hl => ?_)
          refine lv_goto (tgt := 4) hx hb dX1_heaviest_76 (by decide) ?_
          exact ih v1 v2 (v3 + 1) _ ls hf (lv_sub hl [1, 2, 3, 0] rfl) hk
        · have hf := it_n hf c13
          refine lv_iload_n hx hb dX1_heaviest_21 rfl (lv_at hl 2 rfl) ?_
          refine lv_iconst (v := (-1)) hx hb dX1_heaviest_22 (by decide) ?_
          refine lv_icmp_eq (tgt := 71) hx hb dX1_heaviest_23 (by decide) (fun c12 => ?_) (fun c12 => ?_)
          · have hf := it_p hf c12
            refine lv_iload_n hx hb dX1_heaviest_71 rfl (lv_at hl 3 rfl) ?_
            refine lv_istore_n (lv' := [(2, .int v3), (0, .ref a0), (1, .int v1), (3, .int v3)]) hx hb dX1_heaviest_72 rfl hl (by decide) rfl (fun ls hl => ?_)
            refine lv_iinc (v := (v3 + 1)) (lv' := [(3, .int (v3 + 1)), (2, .int v3), (0, .ref a0), (1, .int v1)]) hx hb dX1_heaviest_73 hl (k := 3) rfl rfl (by decide) rfl (fun ls hl => ?_)
            refine lv_goto (tgt := 4) hx hb dX1_heaviest_76 (by decide) ?_
            exact ih v1 v3 (v3 + 1) _ ls hf (lv_sub hl [2, 3, 1, 0] rfl) hk
          · have hf := it_n hf c12
            refine lv_aload_n hx hb dX1_heaviest_26 rfl (lv_at hl 0 rfl) ?_
            refine gf_X1 (v := .ref a3) C hE hP 0 2 rfl (by decide) qF_X1_18 rfl dX1_heaviest_27 ?_
            refine lv_iload_n hx hb dX1_heaviest_30 rfl (lv_at hl 3 rfl) ?_
            obtain ⟨g11, hf⟩ := it_g hf
            refine va_iald hx hb hE.1 hP 3 0 rfl rfl g11 dX1_heaviest_31 ?_
            refine lv_aload_n hx hb dX1_heaviest_32 rfl (lv_at hl 0 rfl) ?_
            refine gf_X1 (v := .ref a3) C hE hP 0 2 rfl (by decide) qF_X1_18 rfl dX1_heaviest_33 ?_
            refine lv_iload_n hx hb dX1_heaviest_36 rfl (lv_at hl 2 rfl) ?_
            obtain ⟨g10, hf⟩ := it_g hf
            refine va_iald hx hb hE.1 hP 3 0 rfl rfl g10 dX1_heaviest_37 ?_
            refine lv_icmp_gt (tgt := 71) hx hb dX1_heaviest_38 (by decide) (fun c9 => ?_) (fun c9 => ?_)
            · have hf := it_p hf c9
              refine lv_iload_n hx hb dX1_heaviest_71 rfl (lv_at hl 3 rfl) ?_
              refine lv_istore_n (lv' := [(2, .int v3), (0, .ref a0), (1, .int v1), (3, .int v3)]) hx hb dX1_heaviest_72 rfl hl (by decide) rfl (fun ls hl => ?_)
              refine lv_iinc (v := (v3 + 1)) (lv' := [(3, .int (v3 + 1)), (2, .int v3), (0, .ref a0), (1, .int v1)]) hx hb dX1_heaviest_73 hl (k := 3) rfl rfl (by decide) rfl (fun ls hl => ?_)
              refine lv_goto (tgt := 4) hx hb dX1_heaviest_76 (by decide) ?_
              exact ih v1 v3 (v3 + 1) _ ls hf (lv_sub hl [2, 3, 1, 0] rfl) hk
            · have hf := it_n hf c9
              refine lv_aload_n hx hb dX1_heaviest_41 rfl (lv_at hl 0 rfl) ?_
              refine gf_X1 (v := .ref a3) C hE hP 0 2 rfl (by decide) qF_X1_18 rfl dX1_heaviest_42 ?_
              refine lv_iload_n hx hb dX1_heaviest_45 rfl (lv_at hl 3 rfl) ?_
              obtain ⟨g8, hf⟩ := it_g hf
              refine va_iald hx hb hE.1 hP 3 0 rfl rfl g8 dX1_heaviest_46 ?_
              refine lv_aload_n hx hb dX1_heaviest_47 rfl (lv_at hl 0 rfl) ?_
              refine gf_X1 (v := .ref a3) C hE hP 0 2 rfl (by decide) qF_X1_18 rfl dX1_heaviest_48 ?_
              refine lv_iload_n hx hb dX1_heaviest_51 rfl (lv_at hl 2 rfl) ?_
              obtain ⟨g7, hf⟩ := it_g hf
              refine va_iald hx hb hE.1 hP 3 0 rfl rfl g7 dX1_heaviest_52 ?_
              refine lv_icmp_ne (tgt := 73) hx hb dX1_heaviest_53 (by decide) (fun c6 => ?_) (fun c6 => ?_)
              · have hf := it_n hf c6
                refine lv_iinc (v := (v3 + 1)) (lv' := [(3, .int (v3 + 1)), (0, .ref a0), (1, .int v1), (2, .int v2)]) hx hb dX1_heaviest_73 hl (k := 3) rfl rfl (by decide) rfl (fun ls hl => ?_)
                refine lv_goto (tgt := 4) hx hb dX1_heaviest_76 (by decide) ?_
                exact ih v1 v2 (v3 + 1) _ ls hf (lv_sub hl [1, 2, 3, 0] rfl) hk
              · have hf := it_p hf c6
                refine lv_aload_n hx hb dX1_heaviest_56 rfl (lv_at hl 0 rfl) ?_
                refine gf_X1 (v := .ref a5) C hE hP 0 4 rfl (by decide) qF_X1_24 rfl dX1_heaviest_57 ?_
                refine lv_iload_n hx hb dX1_heaviest_60 rfl (lv_at hl 3 rfl) ?_
                obtain ⟨g5, hf⟩ := it_g hf
                refine va_iald hx hb hE.1 hP 5 0 rfl rfl g5 dX1_heaviest_61 ?_
                refine lv_aload_n hx hb dX1_heaviest_62 rfl (lv_at hl 0 rfl) ?_
                refine gf_X1 (v := .ref a5) C hE hP 0 4 rfl (by decide) qF_X1_24 rfl dX1_heaviest_63 ?_
                refine lv_iload_n hx hb dX1_heaviest_66 rfl (lv_at hl 2 rfl) ?_
                obtain ⟨g4, hf⟩ := it_g hf
                refine va_iald hx hb hE.1 hP 5 0 rfl rfl g4 dX1_heaviest_67 ?_
                refine lv_icmp_ge (tgt := 73) hx hb dX1_heaviest_68 (by decide) (fun c3 => ?_) (fun c3 => ?_)
                · have hf := it_p hf c3
                  refine lv_iinc (v := (v3 + 1)) (lv' := [(3, .int (v3 + 1)), (0, .ref a0), (1, .int v1), (2, .int v2)]) hx hb dX1_heaviest_73 hl (k := 3) rfl rfl (by decide) rfl (fun ls hl => ?_)
                  refine lv_goto (tgt := 4) hx hb dX1_heaviest_76 (by decide) ?_
                  exact ih v1 v2 (v3 + 1) _ ls hf (lv_sub hl [1, 2, 3, 0] rfl) hk
                · have hf := it_n hf c3
                  refine lv_iload_n hx hb dX1_heaviest_71 rfl (lv_at hl 3 rfl) ?_
                  refine lv_istore_n (lv' := [(2, .int v3), (0, .ref a0), (1, .int v1), (3, .int v3)]) hx hb dX1_heaviest_72 rfl hl (by decide) rfl (fun ls hl => ?_)
                  refine lv_iinc (v := (v3 + 1)) (lv' := [(3, .int (v3 + 1)), (2, .int v3), (0, .ref a0), (1, .int v1)]) hx hb dX1_heaviest_73 hl (k := 3) rfl rfl (by decide) rfl (fun ls hl => ?_)
                  refine lv_goto (tgt := 4) hx hb dX1_heaviest_76 (by decide) ?_
                  exact ih v1 v3 (v3 + 1) _ ls hf (lv_sub hl [2, 3, 1, 0] rfl) hk
  refine lv_iconst (v := (-1)) hx hb dX1_heaviest_0 (by decide) ?_
  refine lv_istore_n (lv' := [(2, .int (-1)), (0, .ref a0), (1, .int p1)]) hx hb dX1_heaviest_1 rfl hl (by decide) rfl (fun ls hl => ?_)
  refine lv_iconst (v := 0) hx hb dX1_heaviest_2 (by decide) ?_
  refine lv_istore_n (lv' := [(3, .int 0), (2, .int (-1)), (0, .ref a0), (1, .int p1)]) hx hb dX1_heaviest_3 rfl hl (by decide) rfl (fun ls hl => ?_)
  obtain ⟨x15, h16, hf⟩ := bd_s hf
  refine L4 _ F p1 (-1) 0 x15 ls h16 (lv_sub hl [2, 3, 1, 0] rfl) (fun ls hl => ?_)
  refine lv_iload_n hx hb dX1_heaviest_79 rfl (lv_at hl 0 rfl) ?_
  exact rt_i C hr hlk dX1_heaviest_80 (congrArg (fun o => o.map Value.int) hf)
def X1_isYoung (F : Nat) (p1 : Int32) (k_counts : (Nat → Int32)) : Option (Int32) := if (p1 : Int32) < 0 ∨ 60 ≤ (Int32.toNatClampNeg p1) then none else (if ((k_counts (Int32.toNatClampNeg p1)) : Int32) = 1 then (some 1) else (some 0))
abbrev rm_X1_isYoung : Room := { frames := 0, cells := 0, slots := 0, locals := 0 }
theorem ok_X1_isYoung : OKV RX1 yX1_isYoung cX1_isYoung 2 (some .boolean) 1 := ⟨by decide +kernel, qV_X1_isYoung, qL_X1_isYoung, qI_X1, qD_X1_isYoung⟩
set_option maxHeartbeats 4000000 in
set_option maxRecDepth 100000 in
theorem c_X1_isYoung (l : Launch) (D : va_G) (cI cZ cL cW : ClassId) (F : Nat) (a0 : Nat) (a1 : Nat) (a2 : Nat) (a3 : Nat) (a4 : Nat) (a5 : Nat) (a6 : Nat) (a7 : Nat) (k_keys : (Nat → Int32)) (k_values : (Nat → Int32)) (k_weights : (Nat → Int32)) (k_counts : (Nat → Int32)) (k_lasts : (Nat → Int32)) (k_tills : (Nat → Int32)) (k_pinned : (Nat → Int32)) (k_size : Int32) (k_load : Int32) (k_pinnedLoad : Int32) (k_uses : Int32) (k_aging : Int32) (k_halvings : Int32) (p1 : Int32) (r : Int32) (hf : X1_isYoung F p1 k_counts = some r) : CtrR l D (tyL cI cZ cL cW) nestW yX1_isYoung cX1_isYoung 2 (some .boolean) rm_X1_isYoung [.ref a0, .int p1] (MX1 cI cZ cL cW a0 a1 a2 a3 a4 a5 a6 a7 k_keys k_values k_weights k_counts k_lasts k_tills k_pinned k_size k_load k_pinnedLoad k_uses k_aging k_halvings) (some (.int r)) := by
  refine ofR RX1 (by decide) rfl (Nat.le_of_ble_eq_true rfl) ?_
  intro p e s m below meth c ls C hr hlk hE hP hl
  generalize (List.toArray ([.ref a0, .int p1] : List Value)) = args at C ⊢
  obtain ⟨hx, hb, hml, hown, ht⟩ := id C
  have hl : lv_has ls 2 [(0, .ref a0), (1, .int p1)] := hl
  refine lv_aload_n hx hb dX1_isYoung_0 rfl (lv_at hl 0 rfl) ?_
  refine gf_X1 (v := .ref a4) C hE hP 0 3 rfl (by decide) qF_X1_21 rfl dX1_isYoung_1 ?_
  refine lv_iload_n hx hb dX1_isYoung_4 rfl (lv_at hl 1 rfl) ?_
  obtain ⟨g2, hf⟩ := it_g hf
  refine va_iald hx hb hE.1 hP 4 0 rfl rfl g2 dX1_isYoung_5 ?_
  refine lv_iconst (v := 1) hx hb dX1_isYoung_6 (by decide) ?_
  refine lv_icmp_ne (tgt := 14) hx hb dX1_isYoung_7 (by decide) (fun c1 => ?_) (fun c1 => ?_)
  · have hf := it_n hf c1
    refine lv_iconst (v := 0) hx hb dX1_isYoung_14 (by decide) ?_
    exact rt_z C hr hlk (by decide) dX1_isYoung_15 (congrArg (fun o => o.map Value.int) hf)
  · have hf := it_p hf c1
    refine lv_iconst (v := 1) hx hb dX1_isYoung_10 (by decide) ?_
    refine lv_goto (tgt := 15) hx hb dX1_isYoung_11 (by decide) ?_
    exact rt_z C hr hlk (by decide) dX1_isYoung_15 (congrArg (fun o => o.map Value.int) hf)
def X1_firstOfAge_L5 (F : Nat) : Nat → Int32 → Int32 → Int32 → Int32 → (Nat → Int32) → (Nat → Int32) → (Nat → Int32) → (Nat → Int32) → Int32 → Option (Int32)
  | 0, _, _, _, _, _, _, _, _, _ => none
  | n + 1, v1, v2, v3, v4, k_keys, k_counts, k_lasts, k_pinned, k_size => if (k_size : Int32) ≤ v4 then (some v3) else ((X1_isYoung F v4 k_counts).bind fun r1 => (if (r1 : Int32) = v1 then ((X1_mayGo F v4 v2 k_keys k_pinned).bind fun r3 => (if (r3 : Int32) = 0 then (X1_firstOfAge_L5 F n v1 v2 v3 (v4 + 1) k_keys k_counts k_lasts k_pinned k_size) else (if (v3 : Int32) = (-1) then (X1_firstOfAge_L5 F n v1 v2 v4 (v4 + 1) k_keys k_counts k_lasts k_pinned k_size) else (if (v4 : Int32) < 0 ∨ 60 ≤ (Int32.toNatClampNeg v4) then none else (if (v3 : Int32) < 0 ∨ 60 ≤ (Int32.toNatClampNeg v3) then none else (if ((k_lasts (Int32.toNatClampNeg v3)) : Int32) ≤ (k_lasts (Int32.toNatClampNeg v4)) then (X1_firstOfAge_L5 F n v1 v2 v3 (v4 + 1) k_keys k_counts k_lasts k_pinned k_size) else (X1_firstOfAge_L5 F n v1 v2 v4 (v4 + 1) k_keys k_counts k_lasts k_pinned k_size))))))) else (X1_firstOfAge_L5 F n v1 v2 v3 (v4 + 1) k_keys k_counts k_lasts k_pinned k_size)))
def X1_firstOfAge (F : Nat) (p1 : Int32) (p2 : Int32) (k_keys : (Nat → Int32)) (k_counts : (Nat → Int32)) (k_lasts : (Nat → Int32)) (k_pinned : (Nat → Int32)) (k_size : Int32) : Option (Int32) := (X1_firstOfAge_L5 F F p1 p2 (-1) 0 k_keys k_counts k_lasts k_pinned k_size).bind fun x12 => (some x12)
abbrev rm_X1_firstOfAge : Room := { frames := 1, cells := 0, slots := 0, locals := 22 }
theorem ok_X1_firstOfAge : OKV RX1 yX1_firstOfAge cX1_firstOfAge 5 (some .int) 2 := ⟨by decide +kernel, qV_X1_firstOfAge, qL_X1_firstOfAge, qI_X1, qD_X1_firstOfAge⟩
set_option maxHeartbeats 4000000 in
set_option maxRecDepth 100000 in
theorem c_X1_firstOfAge (l : Launch) (D : va_G) (cI cZ cL cW : ClassId) (F : Nat) (a0 : Nat) (a1 : Nat) (a2 : Nat) (a3 : Nat) (a4 : Nat) (a5 : Nat) (a6 : Nat) (a7 : Nat) (k_keys : (Nat → Int32)) (k_values : (Nat → Int32)) (k_weights : (Nat → Int32)) (k_counts : (Nat → Int32)) (k_lasts : (Nat → Int32)) (k_tills : (Nat → Int32)) (k_pinned : (Nat → Int32)) (k_size : Int32) (k_load : Int32) (k_pinnedLoad : Int32) (k_uses : Int32) (k_aging : Int32) (k_halvings : Int32) (p1 : Int32) (p2 : Int32) (r : Int32) (hf : X1_firstOfAge F p1 p2 k_keys k_counts k_lasts k_pinned k_size = some r) : CtrR l D (tyL cI cZ cL cW) nestW yX1_firstOfAge cX1_firstOfAge 5 (some .int) rm_X1_firstOfAge [.ref a0, .int p1, .int p2] (MX1 cI cZ cL cW a0 a1 a2 a3 a4 a5 a6 a7 k_keys k_values k_weights k_counts k_lasts k_tills k_pinned k_size k_load k_pinnedLoad k_uses k_aging k_halvings) (some (.int r)) := by
  refine ofR RX1 (by decide) rfl (Nat.le_of_ble_eq_true rfl) ?_
  intro p e s m below meth c ls C hr hlk hE hP hl
  generalize (List.toArray ([.ref a0, .int p1, .int p2] : List Value)) = args at C ⊢
  obtain ⟨hx, hb, hml, hown, ht⟩ := id C
  have hl : lv_has ls 5 [(0, .ref a0), (1, .int p1), (2, .int p2)] := hl
  have L5 : ∀ (Q : State → Prop) (n : Nat) (v1 : Int32) (v2 : Int32) (v3 : Int32) (v4 : Int32) (x3 : Int32) (ls : Array Slot), X1_firstOfAge_L5 F n v1 v2 v3 v4 k_keys k_counts k_lasts k_pinned k_size = some x3 → lv_has ls 5 [(0, .ref a0), (1, .int v1), (2, .int v2), (3, .int v3), (4, .int v4)] → (∀ ls : Array Slot, lv_has ls 5 [(3, .int x3)] → W p l e rm_X1_firstOfAge s m args below meth c s.heap [] 0 0 Q (F0 m 64 ls [])) → W p l e rm_X1_firstOfAge s m args below meth c s.heap [] 0 0 Q (F0 m 5 ls []) := by
    intro Q n
    induction n with
    | zero => intro v1 v2 v3 v4 x3 ls hf hl hk; exact nn_s hf
    | succ n ih =>
      intro v1 v2 v3 v4 x3 ls hf hl hk
      refine lv_iload hx hb dX1_firstOfAge_5 (lv_at hl 4 rfl) ?_
      refine lv_aload_n hx hb dX1_firstOfAge_7 rfl (lv_at hl 0 rfl) ?_
      refine gf_X1 (v := .int k_size) C hE hP 0 7 rfl (by decide) qF_X1_44 rfl dX1_firstOfAge_8 ?_
      refine lv_icmp_ge (tgt := 64) hx hb dX1_firstOfAge_11 (by decide) (fun c11 => ?_) (fun c11 => ?_)
      · have hf := it_p hf c11
        cases hf
        exact hk ls (lv_sub hl [3] rfl)
      · have hf := it_n hf c11
        refine lv_aload_n hx hb dX1_firstOfAge_14 rfl (lv_at hl 0 rfl) ?_
        refine lv_iload hx hb dX1_firstOfAge_15 (lv_at hl 4 rfl) ?_
        obtain ⟨r1, h2, hf⟩ := bd_s hf
        refine iv_R (rest := []) (st1 := [.int r1]) C hE hP (c_X1_isYoung l D cI cZ cL cW F a0 a1 a2 a3 a4 a5 a6 a7 k_keys k_values k_weights k_counts k_lasts k_tills k_pinned k_size k_load k_pinnedLoad k_uses k_aging k_halvings v4 r1  h2) ok_X1_isYoung qM_X1_87 rfl rfl ⟨(Nat.le_of_ble_eq_true rfl), (Nat.le_of_ble_eq_true rfl)⟩ rfl rfl hl.1 (Nat.le_of_ble_eq_true rfl) ⟨Nat.zero_le _, Nat.zero_le _⟩ dX1_firstOfAge_17 rfl rfl ?_
        refine lv_iload_n hx hb dX1_firstOfAge_20 rfl (lv_at hl 1 rfl) ?_
        refine lv_icmp_ne (tgt := 58) hx hb dX1_firstOfAge_21 (by decide) (fun c10 => ?_) (fun c10 => ?_)
        · have hf := it_n hf c10
          refine lv_iinc (v := (v4 + 1)) (lv' := [(4, .int (v4 + 1)), (0, .ref a0), (1, .int v1), (2, .int v2), (3, .int v3)]) hx hb dX1_firstOfAge_58 hl (k := 4) rfl rfl (by decide) rfl (fun ls hl => ?_)
          refine lv_goto (tgt := 5) hx hb dX1_firstOfAge_61 (by decide) ?_
          exact ih v1 v2 v3 (v4 + 1) _ ls hf (lv_sub hl [1, 2, 3, 4, 0] rfl) hk
        · have hf := it_p hf c10
          refine lv_aload_n hx hb dX1_firstOfAge_24 rfl (lv_at hl 0 rfl) ?_
          refine lv_iload hx hb dX1_firstOfAge_25 (lv_at hl 4 rfl) ?_
          refine lv_iload_n hx hb dX1_firstOfAge_27 rfl (lv_at hl 2 rfl) ?_
          obtain ⟨r3, h4, hf⟩ := bd_s hf
          refine iv_R (rest := []) (st1 := [.int r3]) C hE hP (c_X1_mayGo l D cI cZ cL cW F a0 a1 a2 a3 a4 a5 a6 a7 k_keys k_values k_weights k_counts k_lasts k_tills k_pinned k_size k_load k_pinnedLoad k_uses k_aging k_halvings v4 v2 r3  h4) ok_X1_mayGo qM_X1_83 rfl rfl ⟨(Nat.le_of_ble_eq_true rfl), (Nat.le_of_ble_eq_true rfl)⟩ rfl rfl hl.1 (Nat.le_of_ble_eq_true rfl) ⟨Nat.zero_le _, Nat.zero_le _⟩ dX1_firstOfAge_28 rfl rfl ?_
          refine lv_if_eq (tgt := 58) hx hb dX1_firstOfAge_31 (by decide) (fun c9 => ?_) (fun c9 => ?_)
          · have hf := it_p hf c9
            refine lv_iinc (v := (v4 + 1)) (lv' := [(4, .int (v4 + 1)), (0, .ref a0), (1, .int v1), (2, .int v2), (3, .int v3)]) hx hb dX1_firstOfAge_58 hl (k := 4) rfl rfl (by decide) rfl (fun ls hl => ?_)
            refine lv_goto (tgt := 5) hx hb dX1_firstOfAge_61 (by decide) ?_
            exact ih v1 v2 v3 (v4 + 1) _ ls hf (lv_sub hl [1, 2, 3, 4, 0] rfl) hk
          · have hf := it_n hf c9
            refine lv_iload_n hx hb dX1_firstOfAge_34 rfl (lv_at hl 3 rfl) ?_
            refine lv_iconst (v := (-1)) hx hb dX1_firstOfAge_35 (by decide) ?_
            refine lv_icmp_eq (tgt := 55) hx hb dX1_firstOfAge_36 (by decide) (fun c8 => ?_) (fun c8 => ?_)
            · have hf := it_p hf c8
              refine lv_iload hx hb dX1_firstOfAge_55 (lv_at hl 4 rfl) ?_
              refine lv_istore_n (lv' := [(3, .int v4), (0, .ref a0), (1, .int v1), (2, .int v2), (4, .int v4)]) hx hb dX1_firstOfAge_57 rfl hl (by decide) rfl (fun ls hl => ?_)
              refine lv_iinc (v := (v4 + 1)) (lv' := [(4, .int (v4 + 1)), (3, .int v4), (0, .ref a0), (1, .int v1), (2, .int v2)]) hx hb dX1_firstOfAge_58 hl (k := 4) rfl rfl (by decide) rfl (fun ls hl => ?_)
              refine lv_goto (tgt := 5) hx hb dX1_firstOfAge_61 (by decide) ?_
              exact ih v1 v2 v4 (v4 + 1) _ ls hf (lv_sub hl [2, 3, 4, 1, 0] rfl) hk
            · have hf := it_n hf c8
              refine lv_aload_n hx hb dX1_firstOfAge_39 rfl (lv_at hl 0 rfl) ?_
              refine gf_X1 (v := .ref a5) C hE hP 0 4 rfl (by decide) qF_X1_24 rfl dX1_firstOfAge_40 ?_
              refine lv_iload hx hb dX1_firstOfAge_43 (lv_at hl 4 rfl) ?_
              obtain ⟨g7, hf⟩ := it_g hf
              refine va_iald hx hb hE.1 hP 5 0 rfl rfl g7 dX1_firstOfAge_45 ?_
              refine lv_aload_n hx hb dX1_firstOfAge_46 rfl (lv_at hl 0 rfl) ?_
              refine gf_X1 (v := .ref a5) C hE hP 0 4 rfl (by decide) qF_X1_24 rfl dX1_firstOfAge_47 ?_
              refine lv_iload_n hx hb dX1_firstOfAge_50 rfl (lv_at hl 3 rfl) ?_
              obtain ⟨g6, hf⟩ := it_g hf
              refine va_iald hx hb hE.1 hP 5 0 rfl rfl g6 dX1_firstOfAge_51 ?_
              refine lv_icmp_ge (tgt := 58) hx hb dX1_firstOfAge_52 (by decide) (fun c5 => ?_) (fun c5 => ?_)
              · have hf := it_p hf c5
                refine lv_iinc (v := (v4 + 1)) (lv' := [(4, .int (v4 + 1)), (0, .ref a0), (1, .int v1), (2, .int v2), (3, .int v3)]) hx hb dX1_firstOfAge_58 hl (k := 4) rfl rfl (by decide) rfl (fun ls hl => ?_)
                refine lv_goto (tgt := 5) hx hb dX1_firstOfAge_61 (by decide) ?_
                exact ih v1 v2 v3 (v4 + 1) _ ls hf (lv_sub hl [1, 2, 3, 4, 0] rfl) hk
              · have hf := it_n hf c5
                refine lv_iload hx hb dX1_firstOfAge_55 (lv_at hl 4 rfl) ?_
                refine lv_istore_n (lv' := [(3, .int v4), (0, .ref a0), (1, .int v1), (2, .int v2), (4, .int v4)]) hx hb dX1_firstOfAge_57 rfl hl (by decide) rfl (fun ls hl => ?_)
                refine lv_iinc (v := (v4 + 1)) (lv' := [(4, .int (v4 + 1)), (3, .int v4), (0, .ref a0), (1, .int v1), (2, .int v2)]) hx hb dX1_firstOfAge_58 hl (k := 4) rfl rfl (by decide) rfl (fun ls hl => ?_)
                refine lv_goto (tgt := 5) hx hb dX1_firstOfAge_61 (by decide) ?_
                exact ih v1 v2 v4 (v4 + 1) _ ls hf (lv_sub hl [2, 3, 4, 1, 0] rfl) hk
  refine lv_iconst (v := (-1)) hx hb dX1_firstOfAge_0 (by decide) ?_
  refine lv_istore_n (lv' := [(3, .int (-1)), (0, .ref a0), (1, .int p1), (2, .int p2)]) hx hb dX1_firstOfAge_1 rfl hl (by decide) rfl (fun ls hl => ?_)
  refine lv_iconst (v := 0) hx hb dX1_firstOfAge_2 (by decide) ?_
  refine lv_istore (lv' := [(4, .int 0), (3, .int (-1)), (0, .ref a0), (1, .int p1), (2, .int p2)]) hx hb dX1_firstOfAge_3 hl (by decide) rfl (fun ls hl => ?_)
  obtain ⟨x12, h13, hf⟩ := bd_s hf
  refine L5 _ F p1 p2 (-1) 0 x12 ls h13 (lv_sub hl [2, 3, 4, 1, 0] rfl) (fun ls hl => ?_)
  refine lv_iload_n hx hb dX1_firstOfAge_64 rfl (lv_at hl 0 rfl) ?_
  exact rt_i C hr hlk dX1_firstOfAge_65 (congrArg (fun o => o.map Value.int) hf)
def X1_weightsOf_L4 (F : Nat) : Nat → Int32 → Int32 → Int32 → (Nat → Int32) → (Nat → Int32) → Int32 → Option (Int32)
  | 0, _, _, _, _, _, _ => none
  | n + 1, v1, v2, v3, k_weights, k_counts, k_size => if (k_size : Int32) ≤ v3 then (some v2) else (if (v3 : Int32) < 0 ∨ 60 ≤ (Int32.toNatClampNeg v3) then none else (if ((k_counts (Int32.toNatClampNeg v3)) : Int32) = v1 then (if (v3 : Int32) < 0 ∨ 60 ≤ (Int32.toNatClampNeg v3) then none else (X1_weightsOf_L4 F n v1 (v2 + (k_weights (Int32.toNatClampNeg v3))) (v3 + 1) k_weights k_counts k_size)) else (X1_weightsOf_L4 F n v1 v2 (v3 + 1) k_weights k_counts k_size)))
def X1_weightsOf (F : Nat) (p1 : Int32) (k_weights : (Nat → Int32)) (k_counts : (Nat → Int32)) (k_size : Int32) : Option (Int32) := (X1_weightsOf_L4 F F p1 0 0 k_weights k_counts k_size).bind fun x5 => (some x5)
abbrev rm_X1_weightsOf : Room := { frames := 0, cells := 0, slots := 0, locals := 0 }
theorem ok_X1_weightsOf : OKV RX1 yX1_weightsOf cX1_weightsOf 4 (some .int) 1 := ⟨by decide +kernel, qV_X1_weightsOf, qL_X1_weightsOf, qI_X1, qD_X1_weightsOf⟩
set_option maxHeartbeats 4000000 in
set_option maxRecDepth 100000 in
theorem c_X1_weightsOf (l : Launch) (D : va_G) (cI cZ cL cW : ClassId) (F : Nat) (a0 : Nat) (a1 : Nat) (a2 : Nat) (a3 : Nat) (a4 : Nat) (a5 : Nat) (a6 : Nat) (a7 : Nat) (k_keys : (Nat → Int32)) (k_values : (Nat → Int32)) (k_weights : (Nat → Int32)) (k_counts : (Nat → Int32)) (k_lasts : (Nat → Int32)) (k_tills : (Nat → Int32)) (k_pinned : (Nat → Int32)) (k_size : Int32) (k_load : Int32) (k_pinnedLoad : Int32) (k_uses : Int32) (k_aging : Int32) (k_halvings : Int32) (p1 : Int32) (r : Int32) (hf : X1_weightsOf F p1 k_weights k_counts k_size = some r) : CtrR l D (tyL cI cZ cL cW) nestW yX1_weightsOf cX1_weightsOf 4 (some .int) rm_X1_weightsOf [.ref a0, .int p1] (MX1 cI cZ cL cW a0 a1 a2 a3 a4 a5 a6 a7 k_keys k_values k_weights k_counts k_lasts k_tills k_pinned k_size k_load k_pinnedLoad k_uses k_aging k_halvings) (some (.int r)) := by
  refine ofR RX1 (by decide) rfl (Nat.le_of_ble_eq_true rfl) ?_
  intro p e s m below meth c ls C hr hlk hE hP hl
  generalize (List.toArray ([.ref a0, .int p1] : List Value)) = args at C ⊢
  obtain ⟨hx, hb, hml, hown, ht⟩ := id C
  have hl : lv_has ls 4 [(0, .ref a0), (1, .int p1)] := hl
  have L4 : ∀ (Q : State → Prop) (n : Nat) (v1 : Int32) (v2 : Int32) (v3 : Int32) (x2 : Int32) (ls : Array Slot), X1_weightsOf_L4 F n v1 v2 v3 k_weights k_counts k_size = some x2 → lv_has ls 4 [(0, .ref a0), (1, .int v1), (2, .int v2), (3, .int v3)] → (∀ ls : Array Slot, lv_has ls 4 [(2, .int x2)] → W p l e rm_X1_weightsOf s m args below meth c s.heap [] 0 0 Q (F0 m 37 ls [])) → W p l e rm_X1_weightsOf s m args below meth c s.heap [] 0 0 Q (F0 m 4 ls []) := by
    intro Q n
    induction n with
    | zero => intro v1 v2 v3 x2 ls hf hl hk; exact nn_s hf
    | succ n ih =>
      intro v1 v2 v3 x2 ls hf hl hk
      refine lv_iload_n hx hb dX1_weightsOf_4 rfl (lv_at hl 3 rfl) ?_
      refine lv_aload_n hx hb dX1_weightsOf_5 rfl (lv_at hl 0 rfl) ?_
      refine gf_X1 (v := .int k_size) C hE hP 0 7 rfl (by decide) qF_X1_44 rfl dX1_weightsOf_6 ?_
      refine lv_icmp_ge (tgt := 37) hx hb dX1_weightsOf_9 (by decide) (fun c4 => ?_) (fun c4 => ?_)
      · have hf := it_p hf c4
        cases hf
        exact hk ls (lv_sub hl [2] rfl)
      · have hf := it_n hf c4
        refine lv_aload_n hx hb dX1_weightsOf_12 rfl (lv_at hl 0 rfl) ?_
        refine gf_X1 (v := .ref a4) C hE hP 0 3 rfl (by decide) qF_X1_21 rfl dX1_weightsOf_13 ?_
        refine lv_iload_n hx hb dX1_weightsOf_16 rfl (lv_at hl 3 rfl) ?_
        obtain ⟨g3, hf⟩ := it_g hf
        refine va_iald hx hb hE.1 hP 4 0 rfl rfl g3 dX1_weightsOf_17 ?_
        refine lv_iload_n hx hb dX1_weightsOf_18 rfl (lv_at hl 1 rfl) ?_
        refine lv_icmp_ne (tgt := 31) hx hb dX1_weightsOf_19 (by decide) (fun c2 => ?_) (fun c2 => ?_)
        · have hf := it_n hf c2
          refine lv_iinc (v := (v3 + 1)) (lv' := [(3, .int (v3 + 1)), (0, .ref a0), (1, .int v1), (2, .int v2)]) hx hb dX1_weightsOf_31 hl (k := 3) rfl rfl (by decide) rfl (fun ls hl => ?_)
          refine lv_goto (tgt := 4) hx hb dX1_weightsOf_34 (by decide) ?_
          exact ih v1 v2 (v3 + 1) _ ls hf (lv_sub hl [1, 2, 3, 0] rfl) hk
        · have hf := it_p hf c2
          refine lv_iload_n hx hb dX1_weightsOf_22 rfl (lv_at hl 2 rfl) ?_
          refine lv_aload_n hx hb dX1_weightsOf_23 rfl (lv_at hl 0 rfl) ?_
          refine gf_X1 (v := .ref a3) C hE hP 0 2 rfl (by decide) qF_X1_18 rfl dX1_weightsOf_24 ?_
          refine lv_iload_n hx hb dX1_weightsOf_27 rfl (lv_at hl 3 rfl) ?_
          obtain ⟨g1, hf⟩ := it_g hf
          refine va_iald hx hb hE.1 hP 3 0 rfl rfl g1 dX1_weightsOf_28 ?_
          refine lv_iadd hx hb dX1_weightsOf_29 ?_
          refine lv_istore_n (lv' := [(2, .int (v2 + (k_weights (Int32.toNatClampNeg v3)))), (0, .ref a0), (1, .int v1), (3, .int v3)]) hx hb dX1_weightsOf_30 rfl hl (by decide) rfl (fun ls hl => ?_)
          refine lv_iinc (v := (v3 + 1)) (lv' := [(3, .int (v3 + 1)), (2, .int (v2 + (k_weights (Int32.toNatClampNeg v3)))), (0, .ref a0), (1, .int v1)]) hx hb dX1_weightsOf_31 hl (k := 3) rfl rfl (by decide) rfl (fun ls hl => ?_)
          refine lv_goto (tgt := 4) hx hb dX1_weightsOf_34 (by decide) ?_
          exact ih v1 (v2 + (k_weights (Int32.toNatClampNeg v3))) (v3 + 1) _ ls hf (lv_sub hl [2, 3, 1, 0] rfl) hk
  refine lv_iconst (v := 0) hx hb dX1_weightsOf_0 (by decide) ?_
  refine lv_istore_n (lv' := [(2, .int 0), (0, .ref a0), (1, .int p1)]) hx hb dX1_weightsOf_1 rfl hl (by decide) rfl (fun ls hl => ?_)
  refine lv_iconst (v := 0) hx hb dX1_weightsOf_2 (by decide) ?_
  refine lv_istore_n (lv' := [(3, .int 0), (2, .int 0), (0, .ref a0), (1, .int p1)]) hx hb dX1_weightsOf_3 rfl hl (by decide) rfl (fun ls hl => ?_)
  obtain ⟨x5, h6, hf⟩ := bd_s hf
  refine L4 _ F p1 0 0 x5 ls h6 (lv_sub hl [2, 3, 1, 0] rfl) (fun ls hl => ?_)
  refine lv_iload_n hx hb dX1_weightsOf_37 rfl (lv_at hl 0 rfl) ?_
  exact rt_i C hr hlk dX1_weightsOf_38 (congrArg (fun o => o.map Value.int) hf)
def X1_youngLoad (F : Nat) (k_weights : (Nat → Int32)) (k_counts : (Nat → Int32)) (k_size : Int32) : Option (Int32) := (X1_weightsOf F 1 k_weights k_counts k_size).bind fun r1 => (some r1)
abbrev rm_X1_youngLoad : Room := { frames := 1, cells := 0, slots := 0, locals := 23 }
theorem ok_X1_youngLoad : OKV RX1 yX1_youngLoad cX1_youngLoad 1 (some .int) 0 := ⟨by decide +kernel, qV_X1_youngLoad, qL_X1_youngLoad, qI_X1, qD_X1_youngLoad⟩
set_option maxHeartbeats 4000000 in
set_option maxRecDepth 100000 in
theorem c_X1_youngLoad (l : Launch) (D : va_G) (cI cZ cL cW : ClassId) (F : Nat) (a0 : Nat) (a1 : Nat) (a2 : Nat) (a3 : Nat) (a4 : Nat) (a5 : Nat) (a6 : Nat) (a7 : Nat) (k_keys : (Nat → Int32)) (k_values : (Nat → Int32)) (k_weights : (Nat → Int32)) (k_counts : (Nat → Int32)) (k_lasts : (Nat → Int32)) (k_tills : (Nat → Int32)) (k_pinned : (Nat → Int32)) (k_size : Int32) (k_load : Int32) (k_pinnedLoad : Int32) (k_uses : Int32) (k_aging : Int32) (k_halvings : Int32) (r : Int32) (hf : X1_youngLoad F k_weights k_counts k_size = some r) : CtrR l D (tyL cI cZ cL cW) nestW yX1_youngLoad cX1_youngLoad 1 (some .int) rm_X1_youngLoad [.ref a0] (MX1 cI cZ cL cW a0 a1 a2 a3 a4 a5 a6 a7 k_keys k_values k_weights k_counts k_lasts k_tills k_pinned k_size k_load k_pinnedLoad k_uses k_aging k_halvings) (some (.int r)) := by
  refine ofR RX1 (by decide) rfl (Nat.le_of_ble_eq_true rfl) ?_
  intro p e s m below meth c ls C hr hlk hE hP hl
  generalize (List.toArray ([.ref a0] : List Value)) = args at C ⊢
  obtain ⟨hx, hb, hml, hown, ht⟩ := id C
  have hl : lv_has ls 1 [(0, .ref a0)] := hl
  refine lv_aload_n hx hb dX1_youngLoad_0 rfl (lv_at hl 0 rfl) ?_
  refine lv_iconst (v := 1) hx hb dX1_youngLoad_1 (by decide) ?_
  obtain ⟨r1, h2, hf⟩ := bd_s hf
  refine iv_R (rest := []) (st1 := [.int r1]) C hE hP (c_X1_weightsOf l D cI cZ cL cW F a0 a1 a2 a3 a4 a5 a6 a7 k_keys k_values k_weights k_counts k_lasts k_tills k_pinned k_size k_load k_pinnedLoad k_uses k_aging k_halvings 1 r1  h2) ok_X1_weightsOf qM_X1_90 rfl rfl ⟨(Nat.le_of_ble_eq_true rfl), (Nat.le_of_ble_eq_true rfl)⟩ rfl rfl hl.1 (Nat.le_of_ble_eq_true rfl) ⟨Nat.zero_le _, Nat.zero_le _⟩ dX1_youngLoad_2 rfl rfl ?_
  exact rt_i C hr hlk dX1_youngLoad_5 (congrArg (fun o => o.map Value.int) hf)
def X1_howManyOf_L4 (F : Nat) : Nat → Int32 → Int32 → Int32 → (Nat → Int32) → Int32 → Option (Int32)
  | 0, _, _, _, _, _ => none
  | n + 1, v1, v2, v3, k_counts, k_size => if (k_size : Int32) ≤ v3 then (some v2) else (if (v3 : Int32) < 0 ∨ 60 ≤ (Int32.toNatClampNeg v3) then none else (if ((k_counts (Int32.toNatClampNeg v3)) : Int32) = v1 then (X1_howManyOf_L4 F n v1 (v2 + 1) (v3 + 1) k_counts k_size) else (X1_howManyOf_L4 F n v1 v2 (v3 + 1) k_counts k_size)))
def X1_howManyOf (F : Nat) (p1 : Int32) (k_counts : (Nat → Int32)) (k_size : Int32) : Option (Int32) := (X1_howManyOf_L4 F F p1 0 0 k_counts k_size).bind fun x4 => (some x4)
abbrev rm_X1_howManyOf : Room := { frames := 0, cells := 0, slots := 0, locals := 0 }
theorem ok_X1_howManyOf : OKV RX1 yX1_howManyOf cX1_howManyOf 4 (some .int) 1 := ⟨by decide +kernel, qV_X1_howManyOf, qL_X1_howManyOf, qI_X1, qD_X1_howManyOf⟩
set_option maxHeartbeats 4000000 in
set_option maxRecDepth 100000 in
theorem c_X1_howManyOf (l : Launch) (D : va_G) (cI cZ cL cW : ClassId) (F : Nat) (a0 : Nat) (a1 : Nat) (a2 : Nat) (a3 : Nat) (a4 : Nat) (a5 : Nat) (a6 : Nat) (a7 : Nat) (k_keys : (Nat → Int32)) (k_values : (Nat → Int32)) (k_weights : (Nat → Int32)) (k_counts : (Nat → Int32)) (k_lasts : (Nat → Int32)) (k_tills : (Nat → Int32)) (k_pinned : (Nat → Int32)) (k_size : Int32) (k_load : Int32) (k_pinnedLoad : Int32) (k_uses : Int32) (k_aging : Int32) (k_halvings : Int32) (p1 : Int32) (r : Int32) (hf : X1_howManyOf F p1 k_counts k_size = some r) : CtrR l D (tyL cI cZ cL cW) nestW yX1_howManyOf cX1_howManyOf 4 (some .int) rm_X1_howManyOf [.ref a0, .int p1] (MX1 cI cZ cL cW a0 a1 a2 a3 a4 a5 a6 a7 k_keys k_values k_weights k_counts k_lasts k_tills k_pinned k_size k_load k_pinnedLoad k_uses k_aging k_halvings) (some (.int r)) := by
  refine ofR RX1 (by decide) rfl (Nat.le_of_ble_eq_true rfl) ?_
  intro p e s m below meth c ls C hr hlk hE hP hl
  generalize (List.toArray ([.ref a0, .int p1] : List Value)) = args at C ⊢
  obtain ⟨hx, hb, hml, hown, ht⟩ := id C
  have hl : lv_has ls 4 [(0, .ref a0), (1, .int p1)] := hl
  have L4 : ∀ (Q : State → Prop) (n : Nat) (v1 : Int32) (v2 : Int32) (v3 : Int32) (x2 : Int32) (ls : Array Slot), X1_howManyOf_L4 F n v1 v2 v3 k_counts k_size = some x2 → lv_has ls 4 [(0, .ref a0), (1, .int v1), (2, .int v2), (3, .int v3)] → (∀ ls : Array Slot, lv_has ls 4 [(2, .int x2)] → W p l e rm_X1_howManyOf s m args below meth c s.heap [] 0 0 Q (F0 m 31 ls [])) → W p l e rm_X1_howManyOf s m args below meth c s.heap [] 0 0 Q (F0 m 4 ls []) := by
    intro Q n
    induction n with
    | zero => intro v1 v2 v3 x2 ls hf hl hk; exact nn_s hf
    | succ n ih =>
      intro v1 v2 v3 x2 ls hf hl hk
      refine lv_iload_n hx hb dX1_howManyOf_4 rfl (lv_at hl 3 rfl) ?_
      refine lv_aload_n hx hb dX1_howManyOf_5 rfl (lv_at hl 0 rfl) ?_
      refine gf_X1 (v := .int k_size) C hE hP 0 7 rfl (by decide) qF_X1_44 rfl dX1_howManyOf_6 ?_
      refine lv_icmp_ge (tgt := 31) hx hb dX1_howManyOf_9 (by decide) (fun c3 => ?_) (fun c3 => ?_)
      · have hf := it_p hf c3
        cases hf
        exact hk ls (lv_sub hl [2] rfl)
      · have hf := it_n hf c3
        refine lv_aload_n hx hb dX1_howManyOf_12 rfl (lv_at hl 0 rfl) ?_
        refine gf_X1 (v := .ref a4) C hE hP 0 3 rfl (by decide) qF_X1_21 rfl dX1_howManyOf_13 ?_
        refine lv_iload_n hx hb dX1_howManyOf_16 rfl (lv_at hl 3 rfl) ?_
        obtain ⟨g2, hf⟩ := it_g hf
        refine va_iald hx hb hE.1 hP 4 0 rfl rfl g2 dX1_howManyOf_17 ?_
        refine lv_iload_n hx hb dX1_howManyOf_18 rfl (lv_at hl 1 rfl) ?_
        refine lv_icmp_ne (tgt := 25) hx hb dX1_howManyOf_19 (by decide) (fun c1 => ?_) (fun c1 => ?_)
        · have hf := it_n hf c1
          refine lv_iinc (v := (v3 + 1)) (lv' := [(3, .int (v3 + 1)), (0, .ref a0), (1, .int v1), (2, .int v2)]) hx hb dX1_howManyOf_25 hl (k := 3) rfl rfl (by decide) rfl (fun ls hl => ?_)
          refine lv_goto (tgt := 4) hx hb dX1_howManyOf_28 (by decide) ?_
          exact ih v1 v2 (v3 + 1) _ ls hf (lv_sub hl [1, 2, 3, 0] rfl) hk
        · have hf := it_p hf c1
          refine lv_iinc (v := (v2 + 1)) (lv' := [(2, .int (v2 + 1)), (0, .ref a0), (1, .int v1), (3, .int v3)]) hx hb dX1_howManyOf_22 hl (k := 2) rfl rfl (by decide) rfl (fun ls hl => ?_)
          refine lv_iinc (v := (v3 + 1)) (lv' := [(3, .int (v3 + 1)), (2, .int (v2 + 1)), (0, .ref a0), (1, .int v1)]) hx hb dX1_howManyOf_25 hl (k := 3) rfl rfl (by decide) rfl (fun ls hl => ?_)
          refine lv_goto (tgt := 4) hx hb dX1_howManyOf_28 (by decide) ?_
          exact ih v1 (v2 + 1) (v3 + 1) _ ls hf (lv_sub hl [2, 3, 1, 0] rfl) hk
  refine lv_iconst (v := 0) hx hb dX1_howManyOf_0 (by decide) ?_
  refine lv_istore_n (lv' := [(2, .int 0), (0, .ref a0), (1, .int p1)]) hx hb dX1_howManyOf_1 rfl hl (by decide) rfl (fun ls hl => ?_)
  refine lv_iconst (v := 0) hx hb dX1_howManyOf_2 (by decide) ?_
  refine lv_istore_n (lv' := [(3, .int 0), (2, .int 0), (0, .ref a0), (1, .int p1)]) hx hb dX1_howManyOf_3 rfl hl (by decide) rfl (fun ls hl => ?_)
  obtain ⟨x4, h5, hf⟩ := bd_s hf
  refine L4 _ F p1 0 0 x4 ls h5 (lv_sub hl [2, 3, 1, 0] rfl) (fun ls hl => ?_)
  refine lv_iload_n hx hb dX1_howManyOf_31 rfl (lv_at hl 0 rfl) ?_
  exact rt_i C hr hlk dX1_howManyOf_32 (congrArg (fun o => o.map Value.int) hf)
def X1_countAbove_L4 (F : Nat) : Nat → Int32 → Int32 → Int32 → (Nat → Int32) → Int32 → Option (Int32)
  | 0, _, _, _, _, _ => none
  | n + 1, v1, v2, v3, k_counts, k_size => if (k_size : Int32) ≤ v3 then (some v2) else (if (v3 : Int32) < 0 ∨ 60 ≤ (Int32.toNatClampNeg v3) then none else (if ((k_counts (Int32.toNatClampNeg v3)) : Int32) ≤ v1 then (X1_countAbove_L4 F n v1 v2 (v3 + 1) k_counts k_size) else (if (v2 : Int32) = (-1) then (if (v3 : Int32) < 0 ∨ 60 ≤ (Int32.toNatClampNeg v3) then none else (X1_countAbove_L4 F n v1 (k_counts (Int32.toNatClampNeg v3)) (v3 + 1) k_counts k_size)) else (if (v3 : Int32) < 0 ∨ 60 ≤ (Int32.toNatClampNeg v3) then none else (if (v2 : Int32) ≤ (k_counts (Int32.toNatClampNeg v3)) then (X1_countAbove_L4 F n v1 v2 (v3 + 1) k_counts k_size) else (if (v3 : Int32) < 0 ∨ 60 ≤ (Int32.toNatClampNeg v3) then none else (X1_countAbove_L4 F n v1 (k_counts (Int32.toNatClampNeg v3)) (v3 + 1) k_counts k_size)))))))
def X1_countAbove (F : Nat) (p1 : Int32) (k_counts : (Nat → Int32)) (k_size : Int32) : Option (Int32) := (X1_countAbove_L4 F F p1 (-1) 0 k_counts k_size).bind fun x9 => (some x9)
abbrev rm_X1_countAbove : Room := { frames := 0, cells := 0, slots := 0, locals := 0 }
theorem ok_X1_countAbove : OKV RX1 yX1_countAbove cX1_countAbove 4 (some .int) 1 := ⟨by decide +kernel, qV_X1_countAbove, qL_X1_countAbove, qI_X1, qD_X1_countAbove⟩
set_option maxHeartbeats 4000000 in
set_option maxRecDepth 100000 in
theorem c_X1_countAbove (l : Launch) (D : va_G) (cI cZ cL cW : ClassId) (F : Nat) (a0 : Nat) (a1 : Nat) (a2 : Nat) (a3 : Nat) (a4 : Nat) (a5 : Nat) (a6 : Nat) (a7 : Nat) (k_keys : (Nat → Int32)) (k_values : (Nat → Int32)) (k_weights : (Nat → Int32)) (k_counts : (Nat → Int32)) (k_lasts : (Nat → Int32)) (k_tills : (Nat → Int32)) (k_pinned : (Nat → Int32)) (k_size : Int32) (k_load : Int32) (k_pinnedLoad : Int32) (k_uses : Int32) (k_aging : Int32) (k_halvings : Int32) (p1 : Int32) (r : Int32) (hf : X1_countAbove F p1 k_counts k_size = some r) : CtrR l D (tyL cI cZ cL cW) nestW yX1_countAbove cX1_countAbove 4 (some .int) rm_X1_countAbove [.ref a0, .int p1] (MX1 cI cZ cL cW a0 a1 a2 a3 a4 a5 a6 a7 k_keys k_values k_weights k_counts k_lasts k_tills k_pinned k_size k_load k_pinnedLoad k_uses k_aging k_halvings) (some (.int r)) := by
  refine ofR RX1 (by decide) rfl (Nat.le_of_ble_eq_true rfl) ?_
  intro p e s m below meth c ls C hr hlk hE hP hl
  generalize (List.toArray ([.ref a0, .int p1] : List Value)) = args at C ⊢
  obtain ⟨hx, hb, hml, hown, ht⟩ := id C
  have hl : lv_has ls 4 [(0, .ref a0), (1, .int p1)] := hl
  have L4 : ∀ (Q : State → Prop) (n : Nat) (v1 : Int32) (v2 : Int32) (v3 : Int32) (x2 : Int32) (ls : Array Slot), X1_countAbove_L4 F n v1 v2 v3 k_counts k_size = some x2 → lv_has ls 4 [(0, .ref a0), (1, .int v1), (2, .int v2), (3, .int v3)] → (∀ ls : Array Slot, lv_has ls 4 [(2, .int x2)] → W p l e rm_X1_countAbove s m args below meth c s.heap [] 0 0 Q (F0 m 50 ls [])) → W p l e rm_X1_countAbove s m args below meth c s.heap [] 0 0 Q (F0 m 4 ls []) := by
    intro Q n
    induction n with
    | zero => intro v1 v2 v3 x2 ls hf hl hk; exact nn_s hf
    | succ n ih =>
      intro v1 v2 v3 x2 ls hf hl hk
      refine lv_iload_n hx hb dX1_countAbove_4 rfl (lv_at hl 3 rfl) ?_
      refine lv_aload_n hx hb dX1_countAbove_5 rfl (lv_at hl 0 rfl) ?_
      refine gf_X1 (v := .int k_size) C hE hP 0 7 rfl (by decide) qF_X1_44 rfl dX1_countAbove_6 ?_
      refine lv_icmp_ge (tgt := 50) hx hb dX1_countAbove_9 (by decide) (fun c8 => ?_) (fun c8 => ?_)
      · have hf := it_p hf c8
        cases hf
        exact hk ls (lv_sub hl [2] rfl)
      · have hf := it_n hf c8
        refine lv_aload_n hx hb dX1_countAbove_12 rfl (lv_at hl 0 rfl) ?_
        refine gf_X1 (v := .ref a4) C hE hP 0 3 rfl (by decide) qF_X1_21 rfl dX1_countAbove_13 ?_
        refine lv_iload_n hx hb dX1_countAbove_16 rfl (lv_at hl 3 rfl) ?_
        obtain ⟨g7, hf⟩ := it_g hf
        refine va_iald hx hb hE.1 hP 4 0 rfl rfl g7 dX1_countAbove_17 ?_
        refine lv_iload_n hx hb dX1_countAbove_18 rfl (lv_at hl 1 rfl) ?_
        refine lv_icmp_le (tgt := 44) hx hb dX1_countAbove_19 (by decide) (fun c6 => ?_) (fun c6 => ?_)
        · have hf := it_p hf c6
          refine lv_iinc (v := (v3 + 1)) (lv' := [(3, .int (v3 + 1)), (0, .ref a0), (1, .int v1), (2, .int v2)]) hx hb dX1_countAbove_44 hl (k := 3) rfl rfl (by decide) rfl (fun ls hl => ?_)
          refine lv_goto (tgt := 4) hx hb dX1_countAbove_47 (by decide) ?_
          exact ih v1 v2 (v3 + 1) _ ls hf (lv_sub hl [1, 2, 3, 0] rfl) hk
        · have hf := it_n hf c6
          refine lv_iload_n hx hb dX1_countAbove_22 rfl (lv_at hl 2 rfl) ?_
          refine lv_iconst (v := (-1)) hx hb dX1_countAbove_23 (by decide) ?_
          refine lv_icmp_eq (tgt := 37) hx hb dX1_countAbove_24 (by decide) (fun c5 => ?_) (fun c5 => ?_)
          · have hf := it_p hf c5
            refine lv_aload_n hx hb dX1_countAbove_37 rfl (lv_at hl 0 rfl) ?_
            refine gf_X1 (v := .ref a4) C hE hP 0 3 rfl (by decide) qF_X1_21 rfl dX1_countAbove_38 ?_
            refine lv_iload_n hx hb dX1_countAbove_41 rfl (lv_at hl 3 rfl) ?_
            obtain ⟨g1, hf⟩ := it_g hf
            refine va_iald hx hb hE.1 hP 4 0 rfl rfl g1 dX1_countAbove_42 ?_
            refine lv_istore_n (lv' := [(2, .int (k_counts (Int32.toNatClampNeg v3))), (0, .ref a0), (1, .int v1), (3, .int v3)]) hx hb dX1_countAbove_43 rfl hl (by decide) rfl (fun ls hl => ?_)
            refine lv_iinc (v := (v3 + 1)) (lv' := [(3, .int (v3 + 1)), (2, .int (k_counts (Int32.toNatClampNeg v3))), (0, .ref a0), (1, .int v1)]) hx hb dX1_countAbove_44 hl (k := 3) rfl rfl (by decide) rfl (fun ls hl => ?_)
            refine lv_goto (tgt := 4) hx hb dX1_countAbove_47 (by decide) ?_
            exact ih v1 (k_counts (Int32.toNatClampNeg v3)) (v3 + 1) _ ls hf (lv_sub hl [2, 3, 1, 0] rfl) hk
          · have hf := it_n hf c5
            refine lv_aload_n hx hb dX1_countAbove_27 rfl (lv_at hl 0 rfl) ?_
            refine gf_X1 (v := .ref a4) C hE hP 0 3 rfl (by decide) qF_X1_21 rfl dX1_countAbove_28 ?_
            refine lv_iload_n hx hb dX1_countAbove_31 rfl (lv_at hl 3 rfl) ?_
            obtain ⟨g4, hf⟩ := it_g hf
            refine va_iald hx hb hE.1 hP 4 0 rfl rfl g4 dX1_countAbove_32 ?_
            refine lv_iload_n hx hb dX1_countAbove_33 rfl (lv_at hl 2 rfl) ?_
            refine lv_icmp_ge (tgt := 44) hx hb dX1_countAbove_34 (by decide) (fun c3 => ?_) (fun c3 => ?_)
            · have hf := it_p hf c3
              refine lv_iinc (v := (v3 + 1)) (lv' := [(3, .int (v3 + 1)), (0, .ref a0), (1, .int v1), (2, .int v2)]) hx hb dX1_countAbove_44 hl (k := 3) rfl rfl (by decide) rfl (fun ls hl => ?_)
              refine lv_goto (tgt := 4) hx hb dX1_countAbove_47 (by decide) ?_
              exact ih v1 v2 (v3 + 1) _ ls hf (lv_sub hl [1, 2, 3, 0] rfl) hk
            · have hf := it_n hf c3
              refine lv_aload_n hx hb dX1_countAbove_37 rfl (lv_at hl 0 rfl) ?_
              refine gf_X1 (v := .ref a4) C hE hP 0 3 rfl (by decide) qF_X1_21 rfl dX1_countAbove_38 ?_
              refine lv_iload_n hx hb dX1_countAbove_41 rfl (lv_at hl 3 rfl) ?_
              obtain ⟨g2, hf⟩ := it_g hf
              refine va_iald hx hb hE.1 hP 4 0 rfl rfl g2 dX1_countAbove_42 ?_
              refine lv_istore_n (lv' := [(2, .int (k_counts (Int32.toNatClampNeg v3))), (0, .ref a0), (1, .int v1), (3, .int v3)]) hx hb dX1_countAbove_43 rfl hl (by decide) rfl (fun ls hl => ?_)
              refine lv_iinc (v := (v3 + 1)) (lv' := [(3, .int (v3 + 1)), (2, .int (k_counts (Int32.toNatClampNeg v3))), (0, .ref a0), (1, .int v1)]) hx hb dX1_countAbove_44 hl (k := 3) rfl rfl (by decide) rfl (fun ls hl => ?_)
              refine lv_goto (tgt := 4) hx hb dX1_countAbove_47 (by decide) ?_
              exact ih v1 (k_counts (Int32.toNatClampNeg v3)) (v3 + 1) _ ls hf (lv_sub hl [2, 3, 1, 0] rfl) hk
  refine lv_iconst (v := (-1)) hx hb dX1_countAbove_0 (by decide) ?_
  refine lv_istore_n (lv' := [(2, .int (-1)), (0, .ref a0), (1, .int p1)]) hx hb dX1_countAbove_1 rfl hl (by decide) rfl (fun ls hl => ?_)
  refine lv_iconst (v := 0) hx hb dX1_countAbove_2 (by decide) ?_
  refine lv_istore_n (lv' := [(3, .int 0), (2, .int (-1)), (0, .ref a0), (1, .int p1)]) hx hb dX1_countAbove_3 rfl hl (by decide) rfl (fun ls hl => ?_)
  obtain ⟨x9, h10, hf⟩ := bd_s hf
  refine L4 _ F p1 (-1) 0 x9 ls h10 (lv_sub hl [2, 3, 1, 0] rfl) (fun ls hl => ?_)
  refine lv_iload_n hx hb dX1_countAbove_50 rfl (lv_at hl 0 rfl) ?_
  exact rt_i C hr hlk dX1_countAbove_51 (congrArg (fun o => o.map Value.int) hf)
def X1_countAt_L22 (F : Nat) : Nat → Int32 → Int32 → Int32 → (Nat → Int32) → Int32 → Option (Int32)
  | 0, _, _, _, _, _ => none
  | n + 1, v1, v2, v3, k_counts, k_size => if (v1 : Int32) ≤ v3 then (some v2) else (if (v2 : Int32) = (-1) then (some v2) else ((X1_countAbove F v2 k_counts k_size).bind fun r3 => (X1_countAt_L22 F n v1 r3 (v3 + 1) k_counts k_size)))
def X1_countAt (F : Nat) (p1 : Int32) (k_counts : (Nat → Int32)) (k_size : Int32) : Option (Int32) := if (p1 : Int32) < 0 then (some (-1)) else (if (p1 : Int32) < k_size then ((X1_countAbove F 0 k_counts k_size).bind fun r1 => ((X1_countAt_L22 F F p1 r1 0 k_counts k_size).bind fun x7 => (some x7))) else (some (-1)))
abbrev rm_X1_countAt : Room := { frames := 1, cells := 0, slots := 0, locals := 23 }
theorem ok_X1_countAt : OKV RX1 yX1_countAt cX1_countAt 4 (some .int) 1 := ⟨by decide +kernel, qV_X1_countAt, qL_X1_countAt, qI_X1, qD_X1_countAt⟩
set_option maxHeartbeats 4000000 in
set_option maxRecDepth 100000 in
theorem c_X1_countAt (l : Launch) (D : va_G) (cI cZ cL cW : ClassId) (F : Nat) (a0 : Nat) (a1 : Nat) (a2 : Nat) (a3 : Nat) (a4 : Nat) (a5 : Nat) (a6 : Nat) (a7 : Nat) (k_keys : (Nat → Int32)) (k_values : (Nat → Int32)) (k_weights : (Nat → Int32)) (k_counts : (Nat → Int32)) (k_lasts : (Nat → Int32)) (k_tills : (Nat → Int32)) (k_pinned : (Nat → Int32)) (k_size : Int32) (k_load : Int32) (k_pinnedLoad : Int32) (k_uses : Int32) (k_aging : Int32) (k_halvings : Int32) (p1 : Int32) (r : Int32) (hf : X1_countAt F p1 k_counts k_size = some r) : CtrR l D (tyL cI cZ cL cW) nestW yX1_countAt cX1_countAt 4 (some .int) rm_X1_countAt [.ref a0, .int p1] (MX1 cI cZ cL cW a0 a1 a2 a3 a4 a5 a6 a7 k_keys k_values k_weights k_counts k_lasts k_tills k_pinned k_size k_load k_pinnedLoad k_uses k_aging k_halvings) (some (.int r)) := by
  refine ofR RX1 (by decide) rfl (Nat.le_of_ble_eq_true rfl) ?_
  intro p e s m below meth c ls C hr hlk hE hP hl
  generalize (List.toArray ([.ref a0, .int p1] : List Value)) = args at C ⊢
  obtain ⟨hx, hb, hml, hown, ht⟩ := id C
  have hl : lv_has ls 4 [(0, .ref a0), (1, .int p1)] := hl
  have L22 : ∀ (Q : State → Prop) (n : Nat) (v1 : Int32) (v2 : Int32) (v3 : Int32) (x2 : Int32) (ls : Array Slot), X1_countAt_L22 F n v1 v2 v3 k_counts k_size = some x2 → lv_has ls 4 [(0, .ref a0), (1, .int v1), (2, .int v2), (3, .int v3)] → (∀ ls : Array Slot, lv_has ls 4 [(2, .int x2)] → W p l e rm_X1_countAt s m args below meth c s.heap [] 0 0 Q (F0 m 44 ls [])) → W p l e rm_X1_countAt s m args below meth c s.heap [] 0 0 Q (F0 m 22 ls []) := by
    intro Q n
    induction n with
    | zero => intro v1 v2 v3 x2 ls hf hl hk; exact nn_s hf
    | succ n ih =>
      intro v1 v2 v3 x2 ls hf hl hk
      refine lv_iload_n hx hb dX1_countAt_22 rfl (lv_at hl 3 rfl) ?_
      refine lv_iload_n hx hb dX1_countAt_23 rfl (lv_at hl 1 rfl) ?_
      refine lv_icmp_ge (tgt := 44) hx hb dX1_countAt_24 (by decide) (fun c6 => ?_) (fun c6 => ?_)
      · have hf := it_p hf c6
        cases hf
        exact hk ls (lv_sub hl [2] rfl)
      · have hf := it_n hf c6
        refine lv_iload_n hx hb dX1_countAt_27 rfl (lv_at hl 2 rfl) ?_
        refine lv_iconst (v := (-1)) hx hb dX1_countAt_28 (by decide) ?_
        refine lv_icmp_eq (tgt := 44) hx hb dX1_countAt_29 (by decide) (fun c5 => ?_) (fun c5 => ?_)
        · have hf := it_p hf c5
          cases hf
          exact hk ls (lv_sub hl [2] rfl)
        · have hf := it_n hf c5
          refine lv_aload_n hx hb dX1_countAt_32 rfl (lv_at hl 0 rfl) ?_
          refine lv_iload_n hx hb dX1_countAt_33 rfl (lv_at hl 2 rfl) ?_
          obtain ⟨r3, h4, hf⟩ := bd_s hf
          refine iv_R (rest := []) (st1 := [.int r3]) C hE hP (c_X1_countAbove l D cI cZ cL cW F a0 a1 a2 a3 a4 a5 a6 a7 k_keys k_values k_weights k_counts k_lasts k_tills k_pinned k_size k_load k_pinnedLoad k_uses k_aging k_halvings v2 r3  h4) ok_X1_countAbove qM_X1_94 rfl rfl ⟨(Nat.le_of_ble_eq_true rfl), (Nat.le_of_ble_eq_true rfl)⟩ rfl rfl hl.1 (Nat.le_of_ble_eq_true rfl) ⟨Nat.zero_le _, Nat.zero_le _⟩ dX1_countAt_34 rfl rfl ?_
          refine lv_istore_n (lv' := [(2, .int r3), (0, .ref a0), (1, .int v1), (3, .int v3)]) hx hb dX1_countAt_37 rfl hl (by decide) rfl (fun ls hl => ?_)
          refine lv_iinc (v := (v3 + 1)) (lv' := [(3, .int (v3 + 1)), (2, .int r3), (0, .ref a0), (1, .int v1)]) hx hb dX1_countAt_38 hl (k := 3) rfl rfl (by decide) rfl (fun ls hl => ?_)
          refine lv_goto (tgt := 22) hx hb dX1_countAt_41 (by decide) ?_
          exact ih v1 r3 (v3 + 1) _ ls hf (lv_sub hl [2, 3, 1, 0] rfl) hk
  refine lv_iload_n hx hb dX1_countAt_0 rfl (lv_at hl 1 rfl) ?_
  refine lv_if_lt (tgt := 12) hx hb dX1_countAt_1 (by decide) (fun c10 => ?_) (fun c10 => ?_)
  · have hf := it_p hf c10
    refine lv_iconst (v := (-1)) hx hb dX1_countAt_12 (by decide) ?_
    exact rt_i C hr hlk dX1_countAt_13 (congrArg (fun o => o.map Value.int) hf)
  · have hf := it_n hf c10
    refine lv_iload_n hx hb dX1_countAt_4 rfl (lv_at hl 1 rfl) ?_
    refine lv_aload_n hx hb dX1_countAt_5 rfl (lv_at hl 0 rfl) ?_
    refine gf_X1 (v := .int k_size) C hE hP 0 7 rfl (by decide) qF_X1_44 rfl dX1_countAt_6 ?_
    refine lv_icmp_lt (tgt := 14) hx hb dX1_countAt_9 (by decide) (fun c9 => ?_) (fun c9 => ?_)
    · have hf := it_p hf c9
      refine lv_aload_n hx hb dX1_countAt_14 rfl (lv_at hl 0 rfl) ?_
      refine lv_iconst (v := 0) hx hb dX1_countAt_15 (by decide) ?_
      obtain ⟨r1, h2, hf⟩ := bd_s hf
      refine iv_R (rest := []) (st1 := [.int r1]) C hE hP (c_X1_countAbove l D cI cZ cL cW F a0 a1 a2 a3 a4 a5 a6 a7 k_keys k_values k_weights k_counts k_lasts k_tills k_pinned k_size k_load k_pinnedLoad k_uses k_aging k_halvings 0 r1  h2) ok_X1_countAbove qM_X1_94 rfl rfl ⟨(Nat.le_of_ble_eq_true rfl), (Nat.le_of_ble_eq_true rfl)⟩ rfl rfl hl.1 (Nat.le_of_ble_eq_true rfl) ⟨Nat.zero_le _, Nat.zero_le _⟩ dX1_countAt_16 rfl rfl ?_
      refine lv_istore_n (lv' := [(2, .int r1), (0, .ref a0), (1, .int p1)]) hx hb dX1_countAt_19 rfl hl (by decide) rfl (fun ls hl => ?_)
      refine lv_iconst (v := 0) hx hb dX1_countAt_20 (by decide) ?_
      refine lv_istore_n (lv' := [(3, .int 0), (2, .int r1), (0, .ref a0), (1, .int p1)]) hx hb dX1_countAt_21 rfl hl (by decide) rfl (fun ls hl => ?_)
      obtain ⟨x7, h8, hf⟩ := bd_s hf
      refine L22 _ F p1 r1 0 x7 ls h8 (lv_sub hl [2, 3, 1, 0] rfl) (fun ls hl => ?_)
      refine lv_iload_n hx hb dX1_countAt_44 rfl (lv_at hl 0 rfl) ?_
      exact rt_i C hr hlk dX1_countAt_45 (congrArg (fun o => o.map Value.int) hf)
    · have hf := it_n hf c9
      refine lv_iconst (v := (-1)) hx hb dX1_countAt_12 (by decide) ?_
      exact rt_i C hr hlk dX1_countAt_13 (congrArg (fun o => o.map Value.int) hf)
def X1_unlikeCounts_L10 (F : Nat) : Nat → Int32 → Int32 → Int32 → (Nat → Int32) → Int32 → Option (Int32)
  | 0, _, _, _, _, _ => none
  | n + 1, v1, v2, v3, k_counts, k_size => if (k_size : Int32) ≤ v3 then (some v1) else (if (v2 : Int32) = (-1) then (some v1) else ((X1_countAbove F v2 k_counts k_size).bind fun r3 => (X1_unlikeCounts_L10 F n (v1 + 1) r3 (v3 + 1) k_counts k_size)))
def X1_unlikeCounts (F : Nat) (k_counts : (Nat → Int32)) (k_size : Int32) : Option (Int32) := (X1_countAbove F 0 k_counts k_size).bind fun r1 => ((X1_unlikeCounts_L10 F F 0 r1 0 k_counts k_size).bind fun x7 => (some x7))
abbrev rm_X1_unlikeCounts : Room := { frames := 1, cells := 0, slots := 0, locals := 23 }
theorem ok_X1_unlikeCounts : OKV RX1 yX1_unlikeCounts cX1_unlikeCounts 4 (some .int) 0 := ⟨by decide +kernel, qV_X1_unlikeCounts, qL_X1_unlikeCounts, qI_X1, qD_X1_unlikeCounts⟩
set_option maxHeartbeats 4000000 in
set_option maxRecDepth 100000 in
theorem c_X1_unlikeCounts (l : Launch) (D : va_G) (cI cZ cL cW : ClassId) (F : Nat) (a0 : Nat) (a1 : Nat) (a2 : Nat) (a3 : Nat) (a4 : Nat) (a5 : Nat) (a6 : Nat) (a7 : Nat) (k_keys : (Nat → Int32)) (k_values : (Nat → Int32)) (k_weights : (Nat → Int32)) (k_counts : (Nat → Int32)) (k_lasts : (Nat → Int32)) (k_tills : (Nat → Int32)) (k_pinned : (Nat → Int32)) (k_size : Int32) (k_load : Int32) (k_pinnedLoad : Int32) (k_uses : Int32) (k_aging : Int32) (k_halvings : Int32) (r : Int32) (hf : X1_unlikeCounts F k_counts k_size = some r) : CtrR l D (tyL cI cZ cL cW) nestW yX1_unlikeCounts cX1_unlikeCounts 4 (some .int) rm_X1_unlikeCounts [.ref a0] (MX1 cI cZ cL cW a0 a1 a2 a3 a4 a5 a6 a7 k_keys k_values k_weights k_counts k_lasts k_tills k_pinned k_size k_load k_pinnedLoad k_uses k_aging k_halvings) (some (.int r)) := by
  refine ofR RX1 (by decide) rfl (Nat.le_of_ble_eq_true rfl) ?_
  intro p e s m below meth c ls C hr hlk hE hP hl
  generalize (List.toArray ([.ref a0] : List Value)) = args at C ⊢
  obtain ⟨hx, hb, hml, hown, ht⟩ := id C
  have hl : lv_has ls 4 [(0, .ref a0)] := hl
  have L10 : ∀ (Q : State → Prop) (n : Nat) (v1 : Int32) (v2 : Int32) (v3 : Int32) (x1 : Int32) (ls : Array Slot), X1_unlikeCounts_L10 F n v1 v2 v3 k_counts k_size = some x1 → lv_has ls 4 [(0, .ref a0), (1, .int v1), (2, .int v2), (3, .int v3)] → (∀ ls : Array Slot, lv_has ls 4 [(1, .int x1)] → W p l e rm_X1_unlikeCounts s m args below meth c s.heap [] 0 0 Q (F0 m 38 ls [])) → W p l e rm_X1_unlikeCounts s m args below meth c s.heap [] 0 0 Q (F0 m 10 ls []) := by
    intro Q n
    induction n with
    | zero => intro v1 v2 v3 x1 ls hf hl hk; exact nn_s hf
    | succ n ih =>
      intro v1 v2 v3 x1 ls hf hl hk
      refine lv_iload_n hx hb dX1_unlikeCounts_10 rfl (lv_at hl 3 rfl) ?_
      refine lv_aload_n hx hb dX1_unlikeCounts_11 rfl (lv_at hl 0 rfl) ?_
      refine gf_X1 (v := .int k_size) C hE hP 0 7 rfl (by decide) qF_X1_44 rfl dX1_unlikeCounts_12 ?_
      refine lv_icmp_ge (tgt := 38) hx hb dX1_unlikeCounts_15 (by decide) (fun c6 => ?_) (fun c6 => ?_)
      · have hf := it_p hf c6
        cases hf
        exact hk ls (lv_sub hl [1] rfl)
      · have hf := it_n hf c6
        refine lv_iload_n hx hb dX1_unlikeCounts_18 rfl (lv_at hl 2 rfl) ?_
        refine lv_iconst (v := (-1)) hx hb dX1_unlikeCounts_19 (by decide) ?_
        refine lv_icmp_eq (tgt := 38) hx hb dX1_unlikeCounts_20 (by decide) (fun c5 => ?_) (fun c5 => ?_)
        · have hf := it_p hf c5
          cases hf
          exact hk ls (lv_sub hl [1] rfl)
        · have hf := it_n hf c5
          refine lv_iinc (v := (v1 + 1)) (lv' := [(1, .int (v1 + 1)), (0, .ref a0), (2, .int v2), (3, .int v3)]) hx hb dX1_unlikeCounts_23 hl (k := 1) rfl rfl (by decide) rfl (fun ls hl => ?_)
          refine lv_aload_n hx hb dX1_unlikeCounts_26 rfl (lv_at hl 1 rfl) ?_
          refine lv_iload_n hx hb dX1_unlikeCounts_27 rfl (lv_at hl 2 rfl) ?_
          obtain ⟨r3, h4, hf⟩ := bd_s hf
          refine iv_R (rest := []) (st1 := [.int r3]) C hE hP (c_X1_countAbove l D cI cZ cL cW F a0 a1 a2 a3 a4 a5 a6 a7 k_keys k_values k_weights k_counts k_lasts k_tills k_pinned k_size k_load k_pinnedLoad k_uses k_aging k_halvings v2 r3  h4) ok_X1_countAbove qM_X1_94 rfl rfl ⟨(Nat.le_of_ble_eq_true rfl), (Nat.le_of_ble_eq_true rfl)⟩ rfl rfl hl.1 (Nat.le_of_ble_eq_true rfl) ⟨Nat.zero_le _, Nat.zero_le _⟩ dX1_unlikeCounts_28 rfl rfl ?_
          refine lv_istore_n (lv' := [(2, .int r3), (1, .int (v1 + 1)), (0, .ref a0), (3, .int v3)]) hx hb dX1_unlikeCounts_31 rfl hl (by decide) rfl (fun ls hl => ?_)
          refine lv_iinc (v := (v3 + 1)) (lv' := [(3, .int (v3 + 1)), (2, .int r3), (1, .int (v1 + 1)), (0, .ref a0)]) hx hb dX1_unlikeCounts_32 hl (k := 3) rfl rfl (by decide) rfl (fun ls hl => ?_)
          refine lv_goto (tgt := 10) hx hb dX1_unlikeCounts_35 (by decide) ?_
          exact ih (v1 + 1) r3 (v3 + 1) _ ls hf (lv_sub hl [3, 2, 1, 0] rfl) hk
  refine lv_iconst (v := 0) hx hb dX1_unlikeCounts_0 (by decide) ?_
  refine lv_istore_n (lv' := [(1, .int 0), (0, .ref a0)]) hx hb dX1_unlikeCounts_1 rfl hl (by decide) rfl (fun ls hl => ?_)
  refine lv_aload_n hx hb dX1_unlikeCounts_2 rfl (lv_at hl 1 rfl) ?_
  refine lv_iconst (v := 0) hx hb dX1_unlikeCounts_3 (by decide) ?_
  obtain ⟨r1, h2, hf⟩ := bd_s hf
  refine iv_R (rest := []) (st1 := [.int r1]) C hE hP (c_X1_countAbove l D cI cZ cL cW F a0 a1 a2 a3 a4 a5 a6 a7 k_keys k_values k_weights k_counts k_lasts k_tills k_pinned k_size k_load k_pinnedLoad k_uses k_aging k_halvings 0 r1  h2) ok_X1_countAbove qM_X1_94 rfl rfl ⟨(Nat.le_of_ble_eq_true rfl), (Nat.le_of_ble_eq_true rfl)⟩ rfl rfl hl.1 (Nat.le_of_ble_eq_true rfl) ⟨Nat.zero_le _, Nat.zero_le _⟩ dX1_unlikeCounts_4 rfl rfl ?_
  refine lv_istore_n (lv' := [(2, .int r1), (1, .int 0), (0, .ref a0)]) hx hb dX1_unlikeCounts_7 rfl hl (by decide) rfl (fun ls hl => ?_)
  refine lv_iconst (v := 0) hx hb dX1_unlikeCounts_8 (by decide) ?_
  refine lv_istore_n (lv' := [(3, .int 0), (2, .int r1), (1, .int 0), (0, .ref a0)]) hx hb dX1_unlikeCounts_9 rfl hl (by decide) rfl (fun ls hl => ?_)
  obtain ⟨x7, h8, hf⟩ := bd_s hf
  refine L10 _ F 0 r1 0 x7 ls h8 (lv_sub hl [3, 2, 1, 0] rfl) (fun ls hl => ?_)
  refine lv_iload_n hx hb dX1_unlikeCounts_38 rfl (lv_at hl 0 rfl) ?_
  exact rt_i C hr hlk dX1_unlikeCounts_39 (congrArg (fun o => o.map Value.int) hf)
def X1_soonest_L4 (F : Nat) : Nat → Int32 → Int32 → Int32 → (Nat → Int32) → (Nat → Int32) → Int32 → Option (Int32)
  | 0, _, _, _, _, _, _ => none
  | n + 1, v1, v2, v3, k_lasts, k_tills, k_size => if (k_size : Int32) ≤ v3 then (some v2) else (if (v3 : Int32) < 0 ∨ 60 ≤ (Int32.toNatClampNeg v3) then none else (if ((k_tills (Int32.toNatClampNeg v3)) : Int32) = (-1) then (X1_soonest_L4 F n v1 v2 (v3 + 1) k_lasts k_tills k_size) else (if (v3 : Int32) < 0 ∨ 60 ≤ (Int32.toNatClampNeg v3) then none else (if (v1 : Int32) < (k_tills (Int32.toNatClampNeg v3)) then (X1_soonest_L4 F n v1 v2 (v3 + 1) k_lasts k_tills k_size) else (if (v2 : Int32) = (-1) then (X1_soonest_L4 F n v1 v3 (v3 + 1) k_lasts k_tills k_size) else (if (v3 : Int32) < 0 ∨ 60 ≤ (Int32.toNatClampNeg v3) then none else (if (v2 : Int32) < 0 ∨ 60 ≤ (Int32.toNatClampNeg v2) then none else (if ((k_tills (Int32.toNatClampNeg v3)) : Int32) < (k_tills (Int32.toNatClampNeg v2)) then (X1_soonest_L4 F n v1 v3 (v3 + 1) k_lasts k_tills k_size) else (if (v3 : Int32) < 0 ∨ 60 ≤ (Int32.toNatClampNeg v3) then none else (if (v2 : Int32) < 0 ∨ 60 ≤ (Int32.toNatClampNeg v2) then none else (if ((k_tills (Int32.toNatClampNeg v3)) : Int32) = (k_tills (Int32.toNatClampNeg v2)) then (if (v3 : Int32) < 0 ∨ 60 ≤ (Int32.toNatClampNeg v3) then none else (if (v2 : Int32) < 0 ∨ 60 ≤ (Int32.toNatClampNeg v2) then none else (if ((k_lasts (Int32.toNatClampNeg v2)) : Int32) ≤ (k_lasts (Int32.toNatClampNeg v3)) then (X1_soonest_L4 F n v1 v2 (v3 + 1) k_lasts k_tills k_size) else (X1_soonest_L4 F n v1 v3 (v3 + 1) k_lasts k_tills k_size)))) else (X1_soonest_L4 F n v1 v2 (v3 + 1) k_lasts k_tills k_size))))))))))))
def X1_soonest (F : Nat) (p1 : Int32) (k_lasts : (Nat → Int32)) (k_tills : (Nat → Int32)) (k_size : Int32) : Option (Int32) := (X1_soonest_L4 F F p1 (-1) 0 k_lasts k_tills k_size).bind fun x16 => (some x16)
abbrev rm_X1_soonest : Room := { frames := 0, cells := 0, slots := 0, locals := 0 }
theorem ok_X1_soonest : OKV RX1 yX1_soonest cX1_soonest 4 (some .int) 1 := ⟨by decide +kernel, qV_X1_soonest, qL_X1_soonest, qI_X1, qD_X1_soonest⟩
set_option maxHeartbeats 4000000 in
set_option maxRecDepth 100000 in
theorem c_X1_soonest (l : Launch) (D : va_G) (cI cZ cL cW : ClassId) (F : Nat) (a0 : Nat) (a1 : Nat) (a2 : Nat) (a3 : Nat) (a4 : Nat) (a5 : Nat) (a6 : Nat) (a7 : Nat) (k_keys : (Nat → Int32)) (k_values : (Nat → Int32)) (k_weights : (Nat → Int32)) (k_counts : (Nat → Int32)) (k_lasts : (Nat → Int32)) (k_tills : (Nat → Int32)) (k_pinned : (Nat → Int32)) (k_size : Int32) (k_load : Int32) (k_pinnedLoad : Int32) (k_uses : Int32) (k_aging : Int32) (k_halvings : Int32) (p1 : Int32) (r : Int32) (hf : X1_soonest F p1 k_lasts k_tills k_size = some r) : CtrR l D (tyL cI cZ cL cW) nestW yX1_soonest cX1_soonest 4 (some .int) rm_X1_soonest [.ref a0, .int p1] (MX1 cI cZ cL cW a0 a1 a2 a3 a4 a5 a6 a7 k_keys k_values k_weights k_counts k_lasts k_tills k_pinned k_size k_load k_pinnedLoad k_uses k_aging k_halvings) (some (.int r)) := by
  refine ofR RX1 (by decide) rfl (Nat.le_of_ble_eq_true rfl) ?_
  intro p e s m below meth c ls C hr hlk hE hP hl
  generalize (List.toArray ([.ref a0, .int p1] : List Value)) = args at C ⊢
  obtain ⟨hx, hb, hml, hown, ht⟩ := id C
  have hl : lv_has ls 4 [(0, .ref a0), (1, .int p1)] := hl
  have L4 : ∀ (Q : State → Prop) (n : Nat) (v1 : Int32) (v2 : Int32) (v3 : Int32) (x2 : Int32) (ls : Array Slot), X1_soonest_L4 F n v1 v2 v3 k_lasts k_tills k_size = some x2 → lv_has ls 4 [(0, .ref a0), (1, .int v1), (2, .int v2), (3, .int v3)] → (∀ ls : Array Slot, lv_has ls 4 [(2, .int x2)] → W p l e rm_X1_soonest s m args below meth c s.heap [] 0 0 Q (F0 m 90 ls [])) → W p l e rm_X1_soonest s m args below meth c s.heap [] 0 0 Q (F0 m 4 ls []) := by
    intro Q n
    induction n with
    | zero => intro v1 v2 v3 x2 ls hf hl hk; exact nn_s hf
    | succ n ih =>
      intro v1 v2 v3 x2 ls hf hl hk
      refine lv_iload_n hx hb dX1_soonest_4 rfl (lv_at hl 3 rfl) ?_
      refine lv_aload_n hx hb dX1_soonest_5 rfl (lv_at hl 0 rfl) ?_
      refine gf_X1 (v := .int k_size) C hE hP 0 7 rfl (by decide) qF_X1_44 rfl dX1_soonest_6 ?_
      refine lv_icmp_ge (tgt := 90) hx hb dX1_soonest_9 (by decide) (fun c15 => ?_) (fun c15 => ?_)
      · have hf := it_p hf c15
        cases hf
        exact hk ls (lv_sub hl [2] rfl)
      · have hf := it_n hf c15
        refine lv_aload_n hx hb dX1_soonest_12 rfl (lv_at hl 0 rfl) ?_
        refine gf_X1 (v := .ref a6) C hE hP 0 5 rfl (by decide) qF_X1_27 rfl dX1_soonest_13 ?_
        refine lv_iload_n hx hb dX1_soonest_16 rfl (lv_at hl 3 rfl) ?_
        obtain ⟨g14, hf⟩ := it_g hf
        refine va_iald hx hb hE.1 hP 6 0 rfl rfl g14 dX1_soonest_17 ?_
        refine lv_iconst (v := (-1)) hx hb dX1_soonest_18 (by decide) ?_
        refine lv_icmp_eq (tgt := 84) hx hb dX1_soonest_19 (by decide) (fun c13 => ?_) (fun c13 => ?_)
        · have hf := it_p hf c13
          refine lv_iinc (v := (v3 + 1)) (lv' := [(3, .int (v3 + 1)), (0, .ref a0), (1, .int v1), (2, .int v2)]) hx hb dX1_soonest_84 hl (k := 3) rfl rfl (by decide) rfl (fun ls hl => ?_)
          refine lv_goto (tgt := 4) hx hb dX1_soonest_87 (by decide) ?_
          exact ih v1 v2 (v3 + 1) _ ls hf (lv_sub hl [1, 2, 3, 0] rfl) hk
        · have hf := it_n hf c13
          refine lv_aload_n hx hb dX1_soonest_22 rfl (lv_at hl 0 rfl) ?_
          refine gf_X1 (v := .ref a6) C hE hP 0 5 rfl (by decide) qF_X1_27 rfl dX1_soonest_23 ?_
          refine lv_iload_n hx hb dX1_soonest_26 rfl (lv_at hl 3 rfl) ?_
          obtain ⟨g12, hf⟩ := it_g hf
          refine va_iald hx hb hE.1 hP 6 0 rfl rfl g12 dX1_soonest_27 ?_
          refine lv_iload_n hx hb dX1_soonest_28 rfl (lv_at hl 1 rfl) ?_
          refine lv_icmp_gt (tgt := 84) hx hb dX1_soonest_29 (by decide) (fun c11 => ?_) (fun c11 => ?_)
          · have hf := it_p hf c11
            refine lv_iinc (v := (v3 + 1)) (lv' := [(3, .int (v3 + 1)), (0, .ref a0), (1, .int v1), (2, .int v2)]) hx hb dX1_soonest_84 hl (k := 3) rfl rfl (by decide) rfl (fun ls hl => ?_)
            refine lv_goto (tgt := 4) hx hb dX1_soonest_87 (by decide) ?_
            exact ih v1 v2 (v3 + 1) _ ls hf (lv_sub hl [1, 2, 3, 0] rfl) hk
          · have hf := it_n hf c11
            refine lv_iload_n hx hb dX1_soonest_32 rfl (lv_at hl 2 rfl) ?_
            refine lv_iconst (v := (-1)) hx hb dX1_soonest_33 (by decide) ?_
            refine lv_icmp_eq (tgt := 82) hx hb dX1_soonest_34 (by decide) (fun c10 => ?_) (fun c10 => ?_)
            · have hf := it_p hf c10
              refine lv_iload_n hx hb dX1_soonest_82 rfl (lv_at hl 3 rfl) ?_
              refine lv_istore_n (lv' := [(2, .int v3), (0, .ref a0), (1, .int v1), (3, .int v3)]) hx hb dX1_soonest_83 rfl hl (by decide) rfl (fun ls hl => ?_)
              refine lv_iinc (v := (v3 + 1)) (lv' := [(3, .int (v3 + 1)), (2, .int v3), (0, .ref a0), (1, .int v1)]) hx hb dX1_soonest_84 hl (k := 3) rfl rfl (by decide) rfl (fun ls hl => ?_)
              refine lv_goto (tgt := 4) hx hb dX1_soonest_87 (by decide) ?_
              exact ih v1 v3 (v3 + 1) _ ls hf (lv_sub hl [2, 3, 1, 0] rfl) hk
            · have hf := it_n hf c10
              refine lv_aload_n hx hb dX1_soonest_37 rfl (lv_at hl 0 rfl) ?_
              refine gf_X1 (v := .ref a6) C hE hP 0 5 rfl (by decide) qF_X1_27 rfl dX1_soonest_38 ?_
              refine lv_iload_n hx hb dX1_soonest_41 rfl (lv_at hl 3 rfl) ?_
              obtain ⟨g9, hf⟩ := it_g hf
              refine va_iald hx hb hE.1 hP 6 0 rfl rfl g9 dX1_soonest_42 ?_
              refine lv_aload_n hx hb dX1_soonest_43 rfl (lv_at hl 0 rfl) ?_
              refine gf_X1 (v := .ref a6) C hE hP 0 5 rfl (by decide) qF_X1_27 rfl dX1_soonest_44 ?_
              refine lv_iload_n hx hb dX1_soonest_47 rfl (lv_at hl 2 rfl) ?_
              obtain ⟨g8, hf⟩ := it_g hf
              refine va_iald hx hb hE.1 hP 6 0 rfl rfl g8 dX1_soonest_48 ?_
              refine lv_icmp_lt (tgt := 82) hx hb dX1_soonest_49 (by decide) (fun c7 => ?_) (fun c7 => ?_)
              · have hf := it_p hf c7
                refine lv_iload_n hx hb dX1_soonest_82 rfl (lv_at hl 3 rfl) ?_
                refine lv_istore_n (lv' := [(2, .int v3), (0, .ref a0), (1, .int v1), (3, .int v3)]) hx hb dX1_soonest_83 rfl hl (by decide) rfl (fun ls hl => ?_)
                refine lv_iinc (v := (v3 + 1)) (lv' := [(3, .int (v3 + 1)), (2, .int v3), (0, .ref a0), (1, .int v1)]) hx hb dX1_soonest_84 hl (k := 3) rfl rfl (by decide) rfl (fun ls hl => ?_)
                refine lv_goto (tgt := 4) hx hb dX1_soonest_87 (by decide) ?_
                exact ih v1 v3 (v3 + 1) _ ls hf (lv_sub hl [2, 3, 1, 0] rfl) hk
              · have hf := it_n hf c7
                refine lv_aload_n hx hb dX1_soonest_52 rfl (lv_at hl 0 rfl) ?_
                refine gf_X1 (v := .ref a6) C hE hP 0 5 rfl (by decide) qF_X1_27 rfl dX1_soonest_53 ?_
                refine lv_iload_n hx hb dX1_soonest_56 rfl (lv_at hl 3 rfl) ?_
                obtain ⟨g6, hf⟩ := it_g hf
                refine va_iald hx hb hE.1 hP 6 0 rfl rfl g6 dX1_soonest_57 ?_
                refine lv_aload_n hx hb dX1_soonest_58 rfl (lv_at hl 0 rfl) ?_
                refine gf_X1 (v := .ref a6) C hE hP 0 5 rfl (by decide) qF_X1_27 rfl dX1_soonest_59 ?_
                refine lv_iload_n hx hb dX1_soonest_62 rfl (lv_at hl 2 rfl) ?_
                obtain ⟨g5, hf⟩ := it_g hf
                refine va_iald hx hb hE.1 hP 6 0 rfl rfl g5 dX1_soonest_63 ?_
                refine lv_icmp_ne (tgt := 84) hx hb dX1_soonest_64 (by decide) (fun c4 => ?_) (fun c4 => ?_)
                · have hf := it_n hf c4
                  refine lv_iinc (v := (v3 + 1)) (lv' := [(3, .int (v3 + 1)), (0, .ref a0), (1, .int v1), (2, .int v2)]) hx hb dX1_soonest_84 hl (k := 3) rfl rfl (by decide) rfl (fun ls hl => ?_)
                  refine lv_goto (tgt := 4) hx hb dX1_soonest_87 (by decide) ?_
                  exact ih v1 v2 (v3 + 1) _ ls hf (lv_sub hl [1, 2, 3, 0] rfl) hk
                · have hf := it_p hf c4
                  refine lv_aload_n hx hb dX1_soonest_67 rfl (lv_at hl 0 rfl) ?_
                  refine gf_X1 (v := .ref a5) C hE hP 0 4 rfl (by decide) qF_X1_24 rfl dX1_soonest_68 ?_
                  refine lv_iload_n hx hb dX1_soonest_71 rfl (lv_at hl 3 rfl) ?_
                  obtain ⟨g3, hf⟩ := it_g hf
                  refine va_iald hx hb hE.1 hP 5 0 rfl rfl g3 dX1_soonest_72 ?_
                  refine lv_aload_n hx hb dX1_soonest_73 rfl (lv_at hl 0 rfl) ?_
                  refine gf_X1 (v := .ref a5) C hE hP 0 4 rfl (by decide) qF_X1_24 rfl dX1_soonest_74 ?_
                  refine lv_iload_n hx hb dX1_soonest_77 rfl (lv_at hl 2 rfl) ?_
                  obtain ⟨g2, hf⟩ := it_g hf
                  refine va_iald hx hb hE.1 hP 5 0 rfl rfl g2 dX1_soonest_78 ?_
                  refine lv_icmp_ge (tgt := 84) hx hb dX1_soonest_79 (by decide) (fun c1 => ?_) (fun c1 => ?_)
                  · have hf := it_p hf c1
                    refine lv_iinc (v := (v3 + 1)) (lv' := [(3, .int (v3 + 1)), (0, .ref a0), (1, .int v1), (2, .int v2)]) hx hb dX1_soonest_84 hl (k := 3) rfl rfl (by decide) rfl (fun ls hl => ?_)
                    refine lv_goto (tgt := 4) hx hb dX1_soonest_87 (by decide) ?_
                    exact ih v1 v2 (v3 + 1) _ ls hf (lv_sub hl [1, 2, 3, 0] rfl) hk
                  · have hf := it_n hf c1
                    refine lv_iload_n hx hb dX1_soonest_82 rfl (lv_at hl 3 rfl) ?_
                    refine lv_istore_n (lv' := [(2, .int v3), (0, .ref a0), (1, .int v1), (3, .int v3)]) hx hb dX1_soonest_83 rfl hl (by decide) rfl (fun ls hl => ?_)
                    refine lv_iinc (v := (v3 + 1)) (lv' := [(3, .int (v3 + 1)), (2, .int v3), (0, .ref a0), (1, .int v1)]) hx hb dX1_soonest_84 hl (k := 3) rfl rfl (by decide) rfl (fun ls hl => ?_)
                    refine lv_goto (tgt := 4) hx hb dX1_soonest_87 (by decide) ?_
                    exact ih v1 v3 (v3 + 1) _ ls hf (lv_sub hl [2, 3, 1, 0] rfl) hk
  refine lv_iconst (v := (-1)) hx hb dX1_soonest_0 (by decide) ?_
  refine lv_istore_n (lv' := [(2, .int (-1)), (0, .ref a0), (1, .int p1)]) hx hb dX1_soonest_1 rfl hl (by decide) rfl (fun ls hl => ?_)
  refine lv_iconst (v := 0) hx hb dX1_soonest_2 (by decide) ?_
  refine lv_istore_n (lv' := [(3, .int 0), (2, .int (-1)), (0, .ref a0), (1, .int p1)]) hx hb dX1_soonest_3 rfl hl (by decide) rfl (fun ls hl => ?_)
  obtain ⟨x16, h17, hf⟩ := bd_s hf
  refine L4 _ F p1 (-1) 0 x16 ls h17 (lv_sub hl [2, 3, 1, 0] rfl) (fun ls hl => ?_)
  refine lv_iload_n hx hb dX1_soonest_90 rfl (lv_at hl 0 rfl) ?_
  exact rt_i C hr hlk dX1_soonest_91 (congrArg (fun o => o.map Value.int) hf)
