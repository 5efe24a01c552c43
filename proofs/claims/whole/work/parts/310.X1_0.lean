abbrev tX1 : Type := (Nat → Int32) × (Nat → Int32) × (Nat → Int32) × (Nat → Int32) × (Nat → Int32) × (Nat → Int32) × (Nat → Int32) × Int32 × Int32 × Int32 × Int32 × Int32 × Int32
abbrev MX1 (cI cZ cL cW : ClassId) (a0 : Nat) (a1 : Nat) (a2 : Nat) (a3 : Nat) (a4 : Nat) (a5 : Nat) (a6 : Nat) (a7 : Nat) (k_keys : (Nat → Int32)) (k_values : (Nat → Int32)) (k_weights : (Nat → Int32)) (k_counts : (Nat → Int32)) (k_lasts : (Nat → Int32)) (k_tills : (Nat → Int32)) (k_pinned : (Nat → Int32)) (k_size : Int32) (k_load : Int32) (k_pinnedLoad : Int32) (k_uses : Int32) (k_aging : Int32) (k_halvings : Int32) : va_W := [(a0, .inr (1, [.ref a1, .ref a2, .ref a3, .ref a4, .ref a5, .ref a6, .ref a7, .int k_size, .int k_load, .int k_pinnedLoad, .int k_uses, .int k_aging, .int k_halvings])), (a1, .inl (cI, 60, .inl k_keys)), (a2, .inl (cI, 60, .inl k_values)), (a3, .inl (cI, 60, .inl k_weights)), (a4, .inl (cI, 60, .inl k_counts)), (a5, .inl (cI, 60, .inl k_lasts)), (a6, .inl (cI, 60, .inl k_tills)), (a7, .inl (cZ, 60, .inl k_pinned))]
def X1_copyFrom_L92 (F : Nat) : Nat → Int32 → (Nat → Int32) → (Nat → Int32) → Option ((Nat → Int32))
  | 0, _, _, _ => none
  | n + 1, v2, k_pinned, k_o1_pinned => if (60 : Int32) ≤ v2 then (some k_pinned) else (if (v2 : Int32) < 0 ∨ 60 ≤ (Int32.toNatClampNeg v2) then none else (if (v2 : Int32) < 0 ∨ 60 ≤ (Int32.toNatClampNeg v2) then none else (X1_copyFrom_L92 F n (v2 + 1) (upd k_pinned (Int32.toNatClampNeg v2) (vp_nar .boolean (k_o1_pinned (Int32.toNatClampNeg v2)))) k_o1_pinned)))
def X1_copyFrom (F : Nat) (k_keys : (Nat → Int32)) (k_values : (Nat → Int32)) (k_weights : (Nat → Int32)) (k_counts : (Nat → Int32)) (k_lasts : (Nat → Int32)) (k_tills : (Nat → Int32)) (k_pinned : (Nat → Int32)) (k_size : Int32) (k_load : Int32) (k_pinnedLoad : Int32) (k_uses : Int32) (k_aging : Int32) (k_halvings : Int32) (k_o1_keys : (Nat → Int32)) (k_o1_values : (Nat → Int32)) (k_o1_weights : (Nat → Int32)) (k_o1_counts : (Nat → Int32)) (k_o1_lasts : (Nat → Int32)) (k_o1_tills : (Nat → Int32)) (k_o1_pinned : (Nat → Int32)) (k_o1_size : Int32) (k_o1_load : Int32) (k_o1_pinnedLoad : Int32) (k_o1_uses : Int32) (k_o1_aging : Int32) (k_o1_halvings : Int32) : Option ((Nat → Int32) × (Nat → Int32) × (Nat → Int32) × (Nat → Int32) × (Nat → Int32) × (Nat → Int32) × (Nat → Int32) × Int32 × Int32 × Int32 × Int32 × Int32 × Int32) := (X1_copyFrom_L92 F F 0 k_pinned k_o1_pinned).bind fun k4 => (some ((va_cpy k_o1_keys k_keys (Int32.toNatClampNeg 0) (Int32.toNatClampNeg 0) (Int32.toNatClampNeg 60)), (va_cpy k_o1_values k_values (Int32.toNatClampNeg 0) (Int32.toNatClampNeg 0) (Int32.toNatClampNeg 60)), (va_cpy k_o1_weights k_weights (Int32.toNatClampNeg 0) (Int32.toNatClampNeg 0) (Int32.toNatClampNeg 60)), (va_cpy k_o1_counts k_counts (Int32.toNatClampNeg 0) (Int32.toNatClampNeg 0) (Int32.toNatClampNeg 60)), (va_cpy k_o1_lasts k_lasts (Int32.toNatClampNeg 0) (Int32.toNatClampNeg 0) (Int32.toNatClampNeg 60)), (va_cpy k_o1_tills k_tills (Int32.toNatClampNeg 0) (Int32.toNatClampNeg 0) (Int32.toNatClampNeg 60)), k4, k_o1_size, k_o1_load, k_o1_pinnedLoad, k_o1_uses, k_o1_aging, k_o1_halvings))
abbrev rm_X1_copyFrom : Room := { frames := 1, cells := 0, slots := 0, locals := 48 }
theorem ok_X1_copyFrom : OKV RX1 yX1_copyFrom cX1_copyFrom 3 none 1 := ⟨by decide +kernel, qV_X1_copyFrom, qL_X1_copyFrom, qI_X1, qD_X1_copyFrom⟩
set_option maxHeartbeats 4000000 in
set_option maxRecDepth 100000 in
theorem c_X1_copyFrom (l : Launch) (D : va_G) (cI cZ cL cW : ClassId) (F : Nat) (a0 : Nat) (a1 : Nat) (a2 : Nat) (a3 : Nat) (a4 : Nat) (a5 : Nat) (a6 : Nat) (a7 : Nat) (a8 : Nat) (a9 : Nat) (a10 : Nat) (a11 : Nat) (a12 : Nat) (a13 : Nat) (a14 : Nat) (a15 : Nat) (k_keys : (Nat → Int32)) (k_values : (Nat → Int32)) (k_weights : (Nat → Int32)) (k_counts : (Nat → Int32)) (k_lasts : (Nat → Int32)) (k_tills : (Nat → Int32)) (k_pinned : (Nat → Int32)) (k_size : Int32) (k_load : Int32) (k_pinnedLoad : Int32) (k_uses : Int32) (k_aging : Int32) (k_halvings : Int32) (k_o1_keys : (Nat → Int32)) (k_o1_values : (Nat → Int32)) (k_o1_weights : (Nat → Int32)) (k_o1_counts : (Nat → Int32)) (k_o1_lasts : (Nat → Int32)) (k_o1_tills : (Nat → Int32)) (k_o1_pinned : (Nat → Int32)) (k_o1_size : Int32) (k_o1_load : Int32) (k_o1_pinnedLoad : Int32) (k_o1_uses : Int32) (k_o1_aging : Int32) (k_o1_halvings : Int32) (k_keys' : (Nat → Int32)) (k_values' : (Nat → Int32)) (k_weights' : (Nat → Int32)) (k_counts' : (Nat → Int32)) (k_lasts' : (Nat → Int32)) (k_tills' : (Nat → Int32)) (k_pinned' : (Nat → Int32)) (k_size' : Int32) (k_load' : Int32) (k_pinnedLoad' : Int32) (k_uses' : Int32) (k_aging' : Int32) (k_halvings' : Int32) (hf : X1_copyFrom F k_keys k_values k_weights k_counts k_lasts k_tills k_pinned k_size k_load k_pinnedLoad k_uses k_aging k_halvings k_o1_keys k_o1_values k_o1_weights k_o1_counts k_o1_lasts k_o1_tills k_o1_pinned k_o1_size k_o1_load k_o1_pinnedLoad k_o1_uses k_o1_aging k_o1_halvings = some (k_keys', k_values', k_weights', k_counts', k_lasts', k_tills', k_pinned', k_size', k_load', k_pinnedLoad', k_uses', k_aging', k_halvings')) : CtrW l D (tyL cI cZ cL cW) nestW yX1_copyFrom cX1_copyFrom 3 none rm_X1_copyFrom [.ref a0, .ref a8] (MX1 cI cZ cL cW a0 a1 a2 a3 a4 a5 a6 a7 k_keys k_values k_weights k_counts k_lasts k_tills k_pinned k_size k_load k_pinnedLoad k_uses k_aging k_halvings ++ MX1 cI cZ cL cW a8 a9 a10 a11 a12 a13 a14 a15 k_o1_keys k_o1_values k_o1_weights k_o1_counts k_o1_lasts k_o1_tills k_o1_pinned k_o1_size k_o1_load k_o1_pinnedLoad k_o1_uses k_o1_aging k_o1_halvings) (MX1 cI cZ cL cW a0 a1 a2 a3 a4 a5 a6 a7 (k_keys') (k_values') (k_weights') (k_counts') (k_lasts') (k_tills') (k_pinned') (k_size') (k_load') (k_pinnedLoad') (k_uses') (k_aging') (k_halvings') ++ MX1 cI cZ cL cW a8 a9 a10 a11 a12 a13 a14 a15 k_o1_keys k_o1_values k_o1_weights k_o1_counts k_o1_lasts k_o1_tills k_o1_pinned k_o1_size k_o1_load k_o1_pinnedLoad k_o1_uses k_o1_aging k_o1_halvings) none := by
  refine ofA RX1 (by decide) rfl (Nat.le_of_ble_eq_true rfl) ?_
  intro p e s m below meth c ls A C hr hlk hE hA hP hD hS hl
  generalize (List.toArray ([.ref a0, .ref a8] : List Value)) = args at C ⊢
  obtain ⟨hx, hb, hml, hown, ht⟩ := id C
  have hl : lv_has ls 3 [(0, .ref a0), (1, .ref a8)] := hl
  have L92 : ∀ (Q : State → Prop) (n : Nat) (v2 : Int32) (k_keys : (Nat → Int32)) (k_values : (Nat → Int32)) (k_weights : (Nat → Int32)) (k_counts : (Nat → Int32)) (k_lasts : (Nat → Int32)) (k_tills : (Nat → Int32)) (k_pinned : (Nat → Int32)) (k_size : Int32) (k_load : Int32) (k_pinnedLoad : Int32) (k_uses : Int32) (k_aging : Int32) (k_halvings : Int32) (k_o1_keys : (Nat → Int32)) (k_o1_values : (Nat → Int32)) (k_o1_weights : (Nat → Int32)) (k_o1_counts : (Nat → Int32)) (k_o1_lasts : (Nat → Int32)) (k_o1_tills : (Nat → Int32)) (k_o1_pinned : (Nat → Int32)) (k_o1_size : Int32) (k_o1_load : Int32) (k_o1_pinnedLoad : Int32) (k_o1_uses : Int32) (k_o1_aging : Int32) (k_o1_halvings : Int32) (k_pinned' : (Nat → Int32)) (H : Heap) (locs : List Loc) (ls : Array Slot), X1_copyFrom_L92 F n v2 k_pinned k_o1_pinned = some (k_pinned') → va_P D vwCl (MX1 cI cZ cL cW a0 a1 a2 a3 a4 a5 a6 a7 k_keys k_values k_weights k_counts k_lasts k_tills k_pinned k_size k_load k_pinnedLoad k_uses k_aging k_halvings ++ MX1 cI cZ cL cW a8 a9 a10 a11 a12 a13 a14 a15 k_o1_keys k_o1_values k_o1_weights k_o1_counts k_o1_lasts k_o1_tills k_o1_pinned k_o1_size k_o1_load k_o1_pinnedLoad k_o1_uses k_o1_aging k_o1_halvings) H → va_D A (MX1 cI cZ cL cW a0 a1 a2 a3 a4 a5 a6 a7 k_keys k_values k_weights k_counts k_lasts k_tills k_pinned k_size k_load k_pinnedLoad k_uses k_aging k_halvings ++ MX1 cI cZ cL cW a8 a9 a10 a11 a12 a13 a14 a15 k_o1_keys k_o1_values k_o1_weights k_o1_counts k_o1_lasts k_o1_tills k_o1_pinned k_o1_size k_o1_load k_o1_pinnedLoad k_o1_uses k_o1_aging k_o1_halvings) → va_S A s.heap H locs → lv_has ls 3 [(0, .ref a0), (1, .ref a8), (2, .int v2)] → (∀ (H : Heap) (locs : List Loc) (ls : Array Slot), va_P D vwCl (MX1 cI cZ cL cW a0 a1 a2 a3 a4 a5 a6 a7 k_keys k_values k_weights k_counts k_lasts k_tills (k_pinned') k_size k_load k_pinnedLoad k_uses k_aging k_halvings ++ MX1 cI cZ cL cW a8 a9 a10 a11 a12 a13 a14 a15 k_o1_keys k_o1_values k_o1_weights k_o1_counts k_o1_lasts k_o1_tills k_o1_pinned k_o1_size k_o1_load k_o1_pinnedLoad k_o1_uses k_o1_aging k_o1_halvings) H → va_D A (MX1 cI cZ cL cW a0 a1 a2 a3 a4 a5 a6 a7 k_keys k_values k_weights k_counts k_lasts k_tills (k_pinned') k_size k_load k_pinnedLoad k_uses k_aging k_halvings ++ MX1 cI cZ cL cW a8 a9 a10 a11 a12 a13 a14 a15 k_o1_keys k_o1_values k_o1_weights k_o1_counts k_o1_lasts k_o1_tills k_o1_pinned k_o1_size k_o1_load k_o1_pinnedLoad k_o1_uses k_o1_aging k_o1_halvings) → va_S A s.heap H locs → lv_has ls 3 [(0, .ref a0), (1, .ref a8)] → W p l e rm_X1_copyFrom s m args below meth c H locs 0 0 Q (F0 m 116 ls [])) → W p l e rm_X1_copyFrom s m args below meth c H locs 0 0 Q (F0 m 92 ls []) := by
    intro Q n
    induction n with
    | zero => intro v2 k_keys k_values k_weights k_counts k_lasts k_tills k_pinned k_size k_load k_pinnedLoad k_uses k_aging k_halvings k_o1_keys k_o1_values k_o1_weights k_o1_counts k_o1_lasts k_o1_tills k_o1_pinned k_o1_size k_o1_load k_o1_pinnedLoad k_o1_uses k_o1_aging k_o1_halvings k_pinned' H locs ls hf hP hD hS hl hk; exact nn_s hf
    | succ n ih =>
      intro v2 k_keys k_values k_weights k_counts k_lasts k_tills k_pinned k_size k_load k_pinnedLoad k_uses k_aging k_halvings k_o1_keys k_o1_values k_o1_weights k_o1_counts k_o1_lasts k_o1_tills k_o1_pinned k_o1_size k_o1_load k_o1_pinnedLoad k_o1_uses k_o1_aging k_o1_halvings k_pinned' H locs ls hf hP hD hS hl hk
      refine lv_iload_n hx hb dX1_copyFrom_92 rfl (lv_at hl 2 rfl) ?_
      refine lv_bipush (v := 60) hx hb dX1_copyFrom_93 (by decide) ?_
      refine lv_icmp_ge (tgt := 116) hx hb dX1_copyFrom_95 (by decide) (fun c3 => ?_) (fun c3 => ?_)
      · have hf := it_p hf c3
        cases hf
        exact hk _ _ ls hP hD hS (lv_sub hl [0, 1] rfl)
      · have hf := it_n hf c3
        refine lv_aload_n hx hb dX1_copyFrom_98 rfl (lv_at hl 0 rfl) ?_
        refine gf_X1 (v := .ref a7) C hE hP 0 6 rfl (by decide) qF_X1_30 rfl dX1_copyFrom_99 ?_
        refine lv_iload_n hx hb dX1_copyFrom_102 rfl (lv_at hl 2 rfl) ?_
        refine lv_aload_n hx hb dX1_copyFrom_103 rfl (lv_at hl 1 rfl) ?_
        refine gf_X1 (v := .ref a15) C hE hP 8 6 rfl (by decide) qF_X1_30 rfl dX1_copyFrom_104 ?_
        refine lv_iload_n hx hb dX1_copyFrom_107 rfl (lv_at hl 2 rfl) ?_
        obtain ⟨g2, hf⟩ := it_g hf
        refine va_zald hx hb hE.1 hP 15 1 rfl rfl g2 dX1_copyFrom_108 ?_
        obtain ⟨g1, hf⟩ := it_g hf
        refine va_zast hx hb hE.1 hP hD hS 7 1 rfl rfl g1 dX1_copyFrom_109 (fun H locs (hP : va_P D vwCl (MX1 cI cZ cL cW a0 a1 a2 a3 a4 a5 a6 a7 k_keys k_values k_weights k_counts k_lasts k_tills (upd k_pinned (Int32.toNatClampNeg v2) (vp_nar .boolean (k_o1_pinned (Int32.toNatClampNeg v2)))) k_size k_load k_pinnedLoad k_uses k_aging k_halvings ++ MX1 cI cZ cL cW a8 a9 a10 a11 a12 a13 a14 a15 k_o1_keys k_o1_values k_o1_weights k_o1_counts k_o1_lasts k_o1_tills k_o1_pinned k_o1_size k_o1_load k_o1_pinnedLoad k_o1_uses k_o1_aging k_o1_halvings) H) (hD : va_D A (MX1 cI cZ cL cW a0 a1 a2 a3 a4 a5 a6 a7 k_keys k_values k_weights k_counts k_lasts k_tills (upd k_pinned (Int32.toNatClampNeg v2) (vp_nar .boolean (k_o1_pinned (Int32.toNatClampNeg v2)))) k_size k_load k_pinnedLoad k_uses k_aging k_halvings ++ MX1 cI cZ cL cW a8 a9 a10 a11 a12 a13 a14 a15 k_o1_keys k_o1_values k_o1_weights k_o1_counts k_o1_lasts k_o1_tills k_o1_pinned k_o1_size k_o1_load k_o1_pinnedLoad k_o1_uses k_o1_aging k_o1_halvings)) hS => ?_)
        refine lv_iinc (v := (v2 + 1)) (lv' := [(2, .int (v2 + 1)), (0, .ref a0), (1, .ref a8)]) hx hb dX1_copyFrom_110 hl (k := 2) rfl rfl (by decide) rfl (fun ls hl => ?_)
        refine lv_goto (tgt := 92) hx hb dX1_copyFrom_113 (by decide) ?_
        exact ih (v2 + 1) k_keys k_values k_weights k_counts k_lasts k_tills (upd k_pinned (Int32.toNatClampNeg v2) (vp_nar .boolean (k_o1_pinned (Int32.toNatClampNeg v2)))) k_size k_load k_pinnedLoad k_uses k_aging k_halvings k_o1_keys k_o1_values k_o1_weights k_o1_counts k_o1_lasts k_o1_tills k_o1_pinned k_o1_size k_o1_load k_o1_pinnedLoad k_o1_uses k_o1_aging k_o1_halvings _ _ _ ls hf hP hD hS (lv_sub hl [1, 2, 0] rfl) hk
  refine lv_aload_n hx hb dX1_copyFrom_0 rfl (lv_at hl 1 rfl) ?_
  refine gf_X1 (v := .ref a9) C hE hP 8 0 rfl (by decide) qF_X1_9 rfl dX1_copyFrom_1 ?_
  refine lv_iconst (v := 0) hx hb dX1_copyFrom_4 (by decide) ?_
  refine lv_aload_n hx hb dX1_copyFrom_5 rfl (lv_at hl 0 rfl) ?_
  refine gf_X1 (v := .ref a1) C hE hP 0 0 rfl (by decide) qF_X1_9 rfl dX1_copyFrom_6 ?_
  refine lv_iconst (v := 0) hx hb dX1_copyFrom_9 (by decide) ?_
  refine lv_bipush (v := 60) hx hb dX1_copyFrom_10 (by decide) ?_
  refine va_copyi hx hb (hml.trans hl.1.symm) hown (ht _ qM_X1_38) (ht _ qX_arraycopy) (ht _ qS_arraycopy) (ht _ qI_J10) hE.1 hP hD hS 9 1 0 0 rfl rfl rfl rfl rfl (by decide) (by decide) (by decide) (by decide) (by decide) (fun _ _ => rfl) (Nat.le_of_ble_eq_true rfl) (by decide) dX1_copyFrom_12 (fun H locs (hP : va_P D vwCl (MX1 cI cZ cL cW a0 a1 a2 a3 a4 a5 a6 a7 (va_cpy k_o1_keys k_keys (Int32.toNatClampNeg 0) (Int32.toNatClampNeg 0) (Int32.toNatClampNeg 60)) k_values k_weights k_counts k_lasts k_tills k_pinned k_size k_load k_pinnedLoad k_uses k_aging k_halvings ++ MX1 cI cZ cL cW a8 a9 a10 a11 a12 a13 a14 a15 k_o1_keys k_o1_values k_o1_weights k_o1_counts k_o1_lasts k_o1_tills k_o1_pinned k_o1_size k_o1_load k_o1_pinnedLoad k_o1_uses k_o1_aging k_o1_halvings) H) (hD : va_D A (MX1 cI cZ cL cW a0 a1 a2 a3 a4 a5 a6 a7 (va_cpy k_o1_keys k_keys (Int32.toNatClampNeg 0) (Int32.toNatClampNeg 0) (Int32.toNatClampNeg 60)) k_values k_weights k_counts k_lasts k_tills k_pinned k_size k_load k_pinnedLoad k_uses k_aging k_halvings ++ MX1 cI cZ cL cW a8 a9 a10 a11 a12 a13 a14 a15 k_o1_keys k_o1_values k_o1_weights k_o1_counts k_o1_lasts k_o1_tills k_o1_pinned k_o1_size k_o1_load k_o1_pinnedLoad k_o1_uses k_o1_aging k_o1_halvings)) hS => ?_)
  refine lv_aload_n hx hb dX1_copyFrom_15 rfl (lv_at hl 1 rfl) ?_
  refine gf_X1 (v := .ref a10) C hE hP 8 1 rfl (by decide) qF_X1_15 rfl dX1_copyFrom_16 ?_
  refine lv_iconst (v := 0) hx hb dX1_copyFrom_19 (by decide) ?_
  refine lv_aload_n hx hb dX1_copyFrom_20 rfl (lv_at hl 0 rfl) ?_
  refine gf_X1 (v := .ref a2) C hE hP 0 1 rfl (by decide) qF_X1_15 rfl dX1_copyFrom_21 ?_
  refine lv_iconst (v := 0) hx hb dX1_copyFrom_24 (by decide) ?_
  refine lv_bipush (v := 60) hx hb dX1_copyFrom_25 (by decide) ?_
  refine va_copyi hx hb (hml.trans hl.1.symm) hown (ht _ qM_X1_38) (ht _ qX_arraycopy) (ht _ qS_arraycopy) (ht _ qI_J10) hE.1 hP hD hS 10 2 0 0 rfl rfl rfl rfl rfl (by decide) (by decide) (by decide) (by decide) (by decide) (fun _ _ => rfl) (Nat.le_of_ble_eq_true rfl) (by decide) dX1_copyFrom_27 (fun H locs (hP : va_P D vwCl (MX1 cI cZ cL cW a0 a1 a2 a3 a4 a5 a6 a7 (va_cpy k_o1_keys k_keys (Int32.toNatClampNeg 0) (Int32.toNatClampNeg 0) (Int32.toNatClampNeg 60)) (va_cpy k_o1_values k_values (Int32.toNatClampNeg 0) (Int32.toNatClampNeg 0) (Int32.toNatClampNeg 60)) k_weights k_counts k_lasts k_tills k_pinned k_size k_load k_pinnedLoad k_uses k_aging k_halvings ++ MX1 cI cZ cL cW a8 a9 a10 a11 a12 a13 a14 a15 k_o1_keys k_o1_values k_o1_weights k_o1_counts k_o1_lasts k_o1_tills k_o1_pinned k_o1_size k_o1_load k_o1_pinnedLoad k_o1_uses k_o1_aging k_o1_halvings) H) (hD : va_D A (MX1 cI cZ cL cW a0 a1 a2 a3 a4 a5 a6 a7 (va_cpy k_o1_keys k_keys (Int32.toNatClampNeg 0) (Int32.toNatClampNeg 0) (Int32.toNatClampNeg 60)) (va_cpy k_o1_values k_values (Int32.toNatClampNeg 0) (Int32.toNatClampNeg 0) (Int32.toNatClampNeg 60)) k_weights k_counts k_lasts k_tills k_pinned k_size k_load k_pinnedLoad k_uses k_aging k_halvings ++ MX1 cI cZ cL cW a8 a9 a10 a11 a12 a13 a14 a15 k_o1_keys k_o1_values k_o1_weights k_o1_counts k_o1_lasts k_o1_tills k_o1_pinned k_o1_size k_o1_load k_o1_pinnedLoad k_o1_uses k_o1_aging k_o1_halvings)) hS => ?_)
  refine lv_aload_n hx hb dX1_copyFrom_30 rfl (lv_at hl 1 rfl) ?_
  refine gf_X1 (v := .ref a11) C hE hP 8 2 rfl (by decide) qF_X1_18 rfl dX1_copyFrom_31 ?_
  refine lv_iconst (v := 0) hx hb dX1_copyFrom_34 (by decide) ?_
  refine lv_aload_n hx hb dX1_copyFrom_35 rfl (lv_at hl 0 rfl) ?_
  refine gf_X1 (v := .ref a3) C hE hP 0 2 rfl (by decide) qF_X1_18 rfl dX1_copyFrom_36 ?_
  refine lv_iconst (v := 0) hx hb dX1_copyFrom_39 (by decide) ?_
  refine lv_bipush (v := 60) hx hb dX1_copyFrom_40 (by decide) ?_
  refine va_copyi hx hb (hml.trans hl.1.symm) hown (ht _ qM_X1_38) (ht _ qX_arraycopy) (ht _ qS_arraycopy) (ht _ qI_J10) hE.1 hP hD hS 11 3 0 0 rfl rfl rfl rfl rfl (by decide) (by decide) (by decide) (by decide) (by decide) (fun _ _ => rfl) (Nat.le_of_ble_eq_true rfl) (by decide) dX1_copyFrom_42 (fun H locs (hP : va_P D vwCl (MX1 cI cZ cL cW a0 a1 a2 a3 a4 a5 a6 a7 (va_cpy k_o1_keys k_keys (Int32.toNatClampNeg 0) (Int32.toNatClampNeg 0) (Int32.toNatClampNeg 60)) (va_cpy k_o1_values k_values (Int32.toNatClampNeg 0) (Int32.toNatClampNeg 0) (Int32.toNatClampNeg 60)) (va_cpy k_o1_weights k_weights (Int32.toNatClampNeg 0) (Int32.toNatClampNeg 0) (Int32.toNatClampNeg 60)) k_counts k_lasts k_tills k_pinned k_size k_load k_pinnedLoad k_uses k_aging k_halvings ++ MX1 cI cZ cL cW a8 a9 a10 a11 a12 a13 a14 a15 k_o1_keys k_o1_values k_o1_weights k_o1_counts k_o1_lasts k_o1_tills k_o1_pinned k_o1_size k_o1_load k_o1_pinnedLoad k_o1_uses k_o1_aging k_o1_halvings) H) (hD : va_D A (MX1 cI cZ cL cW a0 a1 a2 a3 a4 a5 a6 a7 (va_cpy k_o1_keys k_keys (Int32.toNatClampNeg 0) (Int32.toNatClampNeg 0) (Int32.toNatClampNeg 60)) (va_cpy k_o1_values k_values (Int32.toNatClampNeg 0) (Int32.toNatClampNeg 0) (Int32.toNatClampNeg 60)) (va_cpy k_o1_weights k_weights (Int32.toNatClampNeg 0) (Int32.toNatClampNeg 0) (Int32.toNatClampNeg 60)) k_counts k_lasts k_tills k_pinned k_size k_load k_pinnedLoad k_uses k_aging k_halvings ++ MX1 cI cZ cL cW a8 a9 a10 a11 a12 a13 a14 a15 k_o1_keys k_o1_values k_o1_weights k_o1_counts k_o1_lasts k_o1_tills k_o1_pinned k_o1_size k_o1_load k_o1_pinnedLoad k_o1_uses k_o1_aging k_o1_halvings)) hS => ?_)
  refine lv_aload_n hx hb dX1_copyFrom_45 rfl (lv_at hl 1 rfl) ?_
  refine gf_X1 (v := .ref a12) C hE hP 8 3 rfl (by decide) qF_X1_21 rfl dX1_copyFrom_46 ?_
  refine lv_iconst (v := 0) hx hb dX1_copyFrom_49 (by decide) ?_
  refine lv_aload_n hx hb dX1_copyFrom_50 rfl (lv_at hl 0 rfl) ?_
  refine gf_X1 (v := .ref a4) C hE hP 0 3 rfl (by decide) qF_X1_21 rfl dX1_copyFrom_51 ?_
  refine lv_iconst (v := 0) hx hb dX1_copyFrom_54 (by decide) ?_
  refine lv_bipush (v := 60) hx hb dX1_copyFrom_55 (by decide) ?_
  refine va_copyi hx hb (hml.trans hl.1.symm) hown (ht _ qM_X1_38) (ht _ qX_arraycopy) (ht _ qS_arraycopy) (ht _ qI_J10) hE.1 hP hD hS 12 4 0 0 rfl rfl rfl rfl rfl (by decide) (by decide) (by decide) (by decide) (by decide) (fun _ _ => rfl) (Nat.le_of_ble_eq_true rfl) (by decide) dX1_copyFrom_57 (fun H locs (hP : va_P D vwCl (MX1 cI cZ cL cW a0 a1 a2 a3 a4 a5 a6 a7 (va_cpy k_o1_keys k_keys (Int32.toNatClampNeg 0) (Int32.toNatClampNeg 0) (Int32.toNatClampNeg 60)) (va_cpy k_o1_values k_values (Int32.toNatClampNeg 0) (Int32.toNatClampNeg 0) (Int32.toNatClampNeg 60)) (va_cpy k_o1_weights k_weights (Int32.toNatClampNeg 0) (Int32.toNatClampNeg 0) (Int32.toNatClampNeg 60)) (va_cpy k_o1_counts k_counts (Int32.toNatClampNeg 0) (Int32.toNatClampNeg 0) (Int32.toNatClampNeg 60)) k_lasts k_tills k_pinned k_size k_load k_pinnedLoad k_uses k_aging k_halvings ++ MX1 cI cZ cL cW a8 a9 a10 a11 a12 a13 a14 a15 k_o1_keys k_o1_values k_o1_weights k_o1_counts k_o1_lasts k_o1_tills k_o1_pinned k_o1_size k_o1_load k_o1_pinnedLoad k_o1_uses k_o1_aging k_o1_halvings) H) (hD : va_D A (MX1 cI cZ cL cW a0 a1 a2 a3 a4 a5 a6 a7 (va_cpy k_o1_keys k_keys (Int32.toNatClampNeg 0) (Int32.toNatClampNeg 0) (Int32.toNatClampNeg 60)) (va_cpy k_o1_values k_values (Int32.toNatClampNeg 0) (Int32.toNatClampNeg 0) (Int32.toNatClampNeg 60)) (va_cpy k_o1_weights k_weights (Int32.toNatClampNeg 0) (Int32.toNatClampNeg 0) (Int32.toNatClampNeg 60)) (va_cpy k_o1_counts k_counts (Int32.toNatClampNeg 0) (Int32.toNatClampNeg 0) (Int32.toNatClampNeg 60)) k_lasts k_tills k_pinned k_size k_load k_pinnedLoad k_uses k_aging k_halvings ++ MX1 cI cZ cL cW a8 a9 a10 a11 a12 a13 a14 a15 k_o1_keys k_o1_values k_o1_weights k_o1_counts k_o1_lasts k_o1_tills k_o1_pinned k_o1_size k_o1_load k_o1_pinnedLoad k_o1_uses k_o1_aging k_o1_halvings)) hS => ?_)
  refine lv_aload_n hx hb dX1_copyFrom_60 rfl (lv_at hl 1 rfl) ?_
  refine gf_X1 (v := .ref a13) C hE hP 8 4 rfl (by decide) qF_X1_24 rfl dX1_copyFrom_61 ?_
  refine lv_iconst (v := 0) hx hb dX1_copyFrom_64 (by decide) ?_
  refine lv_aload_n hx hb dX1_copyFrom_65 rfl (lv_at hl 0 rfl) ?_
  refine gf_X1 (v := .ref a5) C hE hP 0 4 rfl (by decide) qF_X1_24 rfl dX1_copyFrom_66 ?_
  refine lv_iconst (v := 0) hx hb dX1_copyFrom_69 (by decide) ?_
  refine lv_bipush (v := 60) hx hb dX1_copyFrom_70 (by decide) ?_
  refine va_copyi hx hb (hml.trans hl.1.symm) hown (ht _ qM_X1_38) (ht _ qX_arraycopy) (ht _ qS_arraycopy) (ht _ qI_J10) hE.1 hP hD hS 13 5 0 0 rfl rfl rfl rfl rfl (by decide) (by decide) (by decide) (by decide) (by decide) (fun _ _ => rfl) (Nat.le_of_ble_eq_true rfl) (by decide) dX1_copyFrom_72 (fun H locs (hP : va_P D vwCl (MX1 cI cZ cL cW a0 a1 a2 a3 a4 a5 a6 a7 (va_cpy k_o1_keys k_keys (Int32.toNatClampNeg 0) (Int32.toNatClampNeg 0) (Int32.toNatClampNeg 60)) (va_cpy k_o1_values k_values (Int32.toNatClampNeg 0) (Int32.toNatClampNeg 0) (Int32.toNatClampNeg 60)) (va_cpy k_o1_weights k_weights (Int32.toNatClampNeg 0) (Int32.toNatClampNeg 0) (Int32.toNatClampNeg 60)) (va_cpy k_o1_counts k_counts (Int32.toNatClampNeg 0) (Int32.toNatClampNeg 0) (Int32.toNatClampNeg 60)) (va_cpy k_o1_lasts k_lasts (Int32.toNatClampNeg 0) (Int32.toNatClampNeg 0) (Int32.toNatClampNeg 60)) k_tills k_pinned k_size k_load k_pinnedLoad k_uses k_aging k_halvings ++ MX1 cI cZ cL cW a8 a9 a10 a11 a12 a13 a14 a15 k_o1_keys k_o1_values k_o1_weights k_o1_counts k_o1_lasts k_o1_tills k_o1_pinned k_o1_size k_o1_load k_o1_pinnedLoad k_o1_uses k_o1_aging k_o1_halvings) H) (hD : va_D A (MX1 cI cZ cL cW a0 a1 a2 a3 a4 a5 a6 a7 (va_cpy k_o1_keys k_keys (Int32.toNatClampNeg 0) (Int32.toNatClampNeg 0) (Int32.toNatClampNeg 60)) (va_cpy k_o1_values k_values (Int32.toNatClampNeg 0) (Int32.toNatClampNeg 0) (Int32.toNatClampNeg 60)) (va_cpy k_o1_weights k_weights (Int32.toNatClampNeg 0) (Int32.toNatClampNeg 0) (Int32.toNatClampNeg 60)) (va_cpy k_o1_counts k_counts (Int32.toNatClampNeg 0) (Int32.toNatClampNeg 0) (Int32.toNatClampNeg 60)) (va_cpy k_o1_lasts k_lasts (Int32.toNatClampNeg 0) (Int32.toNatClampNeg 0) (Int32.toNatClampNeg 60)) k_tills k_pinned k_size k_load k_pinnedLoad k_uses k_aging k_halvings ++ MX1 cI cZ cL cW a8 a9 a10 a11 a12 a13 a14 a15 k_o1_keys k_o1_values k_o1_weights k_o1_counts k_o1_lasts k_o1_tills k_o1_pinned k_o1_size k_o1_load k_o1_pinnedLoad k_o1_uses k_o1_aging k_o1_halvings)) hS => ?_)
  refine lv_aload_n hx hb dX1_copyFrom_75 rfl (lv_at hl 1 rfl) ?_
  refine gf_X1 (v := .ref a14) C hE hP 8 5 rfl (by decide) qF_X1_27 rfl dX1_copyFrom_76 ?_
  refine lv_iconst (v := 0) hx hb dX1_copyFrom_79 (by decide) ?_
  refine lv_aload_n hx hb dX1_copyFrom_80 rfl (lv_at hl 0 rfl) ?_
  refine gf_X1 (v := .ref a6) C hE hP 0 5 rfl (by decide) qF_X1_27 rfl dX1_copyFrom_81 ?_
  refine lv_iconst (v := 0) hx hb dX1_copyFrom_84 (by decide) ?_
  refine lv_bipush (v := 60) hx hb dX1_copyFrom_85 (by decide) ?_
  refine va_copyi hx hb (hml.trans hl.1.symm) hown (ht _ qM_X1_38) (ht _ qX_arraycopy) (ht _ qS_arraycopy) (ht _ qI_J10) hE.1 hP hD hS 14 6 0 0 rfl rfl rfl rfl rfl (by decide) (by decide) (by decide) (by decide) (by decide) (fun _ _ => rfl) (Nat.le_of_ble_eq_true rfl) (by decide) dX1_copyFrom_87 (fun H locs (hP : va_P D vwCl (MX1 cI cZ cL cW a0 a1 a2 a3 a4 a5 a6 a7 (va_cpy k_o1_keys k_keys (Int32.toNatClampNeg 0) (Int32.toNatClampNeg 0) (Int32.toNatClampNeg 60)) (va_cpy k_o1_values k_values (Int32.toNatClampNeg 0) (Int32.toNatClampNeg 0) (Int32.toNatClampNeg 60)) (va_cpy k_o1_weights k_weights (Int32.toNatClampNeg 0) (Int32.toNatClampNeg 0) (Int32.toNatClampNeg 60)) (va_cpy k_o1_counts k_counts (Int32.toNatClampNeg 0) (Int32.toNatClampNeg 0) (Int32.toNatClampNeg 60)) (va_cpy k_o1_lasts k_lasts (Int32.toNatClampNeg 0) (Int32.toNatClampNeg 0) (Int32.toNatClampNeg 60)) (va_cpy k_o1_tills k_tills (Int32.toNatClampNeg 0) (Int32.toNatClampNeg 0) (Int32.toNatClampNeg 60)) k_pinned k_size k_load k_pinnedLoad k_uses k_aging k_halvings ++ MX1 cI cZ cL cW a8 a9 a10 a11 a12 a13 a14 a15 k_o1_keys k_o1_values k_o1_weights k_o1_counts k_o1_lasts k_o1_tills k_o1_pinned k_o1_size k_o1_load k_o1_pinnedLoad k_o1_uses k_o1_aging k_o1_halvings) H) (hD : va_D A (MX1 cI cZ cL cW a0 a1 a2 a3 a4 a5 a6 a7 (va_cpy k_o1_keys k_keys (Int32.toNatClampNeg 0) (Int32.toNatClampNeg 0) (Int32.toNatClampNeg 60)) (va_cpy k_o1_values k_values (Int32.toNatClampNeg 0) (Int32.toNatClampNeg 0) (Int32.toNatClampNeg 60)) (va_cpy k_o1_weights k_weights (Int32.toNatClampNeg 0) (Int32.toNatClampNeg 0) (Int32.toNatClampNeg 60)) (va_cpy k_o1_counts k_counts (Int32.toNatClampNeg 0) (Int32.toNatClampNeg 0) (Int32.toNatClampNeg 60)) (va_cpy k_o1_lasts k_lasts (Int32.toNatClampNeg 0) (Int32.toNatClampNeg 0) (Int32.toNatClampNeg 60)) (va_cpy k_o1_tills k_tills (Int32.toNatClampNeg 0) (Int32.toNatClampNeg 0) (Int32.toNatClampNeg 60)) k_pinned k_size k_load k_pinnedLoad k_uses k_aging k_halvings ++ MX1 cI cZ cL cW a8 a9 a10 a11 a12 a13 a14 a15 k_o1_keys k_o1_values k_o1_weights k_o1_counts k_o1_lasts k_o1_tills k_o1_pinned k_o1_size k_o1_load k_o1_pinnedLoad k_o1_uses k_o1_aging k_o1_halvings)) hS => ?_)
  refine lv_iconst (v := 0) hx hb dX1_copyFrom_90 (by decide) ?_
  refine lv_istore_n (lv' := [(2, .int 0), (0, .ref a0), (1, .ref a8)]) hx hb dX1_copyFrom_91 rfl hl (by decide) rfl (fun ls hl => ?_)
  obtain ⟨k4, h5, hf⟩ := bd_s hf
  refine L92 _ F 0 (va_cpy k_o1_keys k_keys (Int32.toNatClampNeg 0) (Int32.toNatClampNeg 0) (Int32.toNatClampNeg 60)) (va_cpy k_o1_values k_values (Int32.toNatClampNeg 0) (Int32.toNatClampNeg 0) (Int32.toNatClampNeg 60)) (va_cpy k_o1_weights k_weights (Int32.toNatClampNeg 0) (Int32.toNatClampNeg 0) (Int32.toNatClampNeg 60)) (va_cpy k_o1_counts k_counts (Int32.toNatClampNeg 0) (Int32.toNatClampNeg 0) (Int32.toNatClampNeg 60)) (va_cpy k_o1_lasts k_lasts (Int32.toNatClampNeg 0) (Int32.toNatClampNeg 0) (Int32.toNatClampNeg 60)) (va_cpy k_o1_tills k_tills (Int32.toNatClampNeg 0) (Int32.toNatClampNeg 0) (Int32.toNatClampNeg 60)) k_pinned k_size k_load k_pinnedLoad k_uses k_aging k_halvings k_o1_keys k_o1_values k_o1_weights k_o1_counts k_o1_lasts k_o1_tills k_o1_pinned k_o1_size k_o1_load k_o1_pinnedLoad k_o1_uses k_o1_aging k_o1_halvings k4 _ _ ls h5 hP hD hS (lv_sub hl [1, 2, 0] rfl) (fun H locs ls hP hD hS hl => ?_)
  refine lv_aload_n hx hb dX1_copyFrom_116 rfl (lv_at hl 0 rfl) ?_
  refine lv_aload_n hx hb dX1_copyFrom_117 rfl (lv_at hl 1 rfl) ?_
  refine gf_X1 (v := .int k_o1_size) C hE hP 8 7 rfl (by decide) qF_X1_44 rfl dX1_copyFrom_118 ?_
  refine pf_X1 (v := .int k_o1_size) C hE hP hD hS 0 7 rfl (by decide) qF_X1_44 rfl rfl rfl (Nat.le_of_ble_eq_true rfl) dX1_copyFrom_121 (fun H locs (hP : va_P D vwCl (MX1 cI cZ cL cW a0 a1 a2 a3 a4 a5 a6 a7 (va_cpy k_o1_keys k_keys (Int32.toNatClampNeg 0) (Int32.toNatClampNeg 0) (Int32.toNatClampNeg 60)) (va_cpy k_o1_values k_values (Int32.toNatClampNeg 0) (Int32.toNatClampNeg 0) (Int32.toNatClampNeg 60)) (va_cpy k_o1_weights k_weights (Int32.toNatClampNeg 0) (Int32.toNatClampNeg 0) (Int32.toNatClampNeg 60)) (va_cpy k_o1_counts k_counts (Int32.toNatClampNeg 0) (Int32.toNatClampNeg 0) (Int32.toNatClampNeg 60)) (va_cpy k_o1_lasts k_lasts (Int32.toNatClampNeg 0) (Int32.toNatClampNeg 0) (Int32.toNatClampNeg 60)) (va_cpy k_o1_tills k_tills (Int32.toNatClampNeg 0) (Int32.toNatClampNeg 0) (Int32.toNatClampNeg 60)) k4 k_o1_size k_load k_pinnedLoad k_uses k_aging k_halvings ++ MX1 cI cZ cL cW a8 a9 a10 a11 a12 a13 a14 a15 k_o1_keys k_o1_values k_o1_weights k_o1_counts k_o1_lasts k_o1_tills k_o1_pinned k_o1_size k_o1_load k_o1_pinnedLoad k_o1_uses k_o1_aging k_o1_halvings) H) (hD : va_D A (MX1 cI cZ cL cW a0 a1 a2 a3 a4 a5 a6 a7 (va_cpy k_o1_keys k_keys (Int32.toNatClampNeg 0) (Int32.toNatClampNeg 0) (Int32.toNatClampNeg 60)) (va_cpy k_o1_values k_values (Int32.toNatClampNeg 0) (Int32.toNatClampNeg 0) (Int32.toNatClampNeg 60)) (va_cpy k_o1_weights k_weights (Int32.toNatClampNeg 0) (Int32.toNatClampNeg 0) (Int32.toNatClampNeg 60)) (va_cpy k_o1_counts k_counts (Int32.toNatClampNeg 0) (Int32.toNatClampNeg 0) (Int32.toNatClampNeg 60)) (va_cpy k_o1_lasts k_lasts (Int32.toNatClampNeg 0) (Int32.toNatClampNeg 0) (Int32.toNatClampNeg 60)) (va_cpy k_o1_tills k_tills (Int32.toNatClampNeg 0) (Int32.toNatClampNeg 0) (Int32.toNatClampNeg 60)) k4 k_o1_size k_load k_pinnedLoad k_uses k_aging k_halvings ++ MX1 cI cZ cL cW a8 a9 a10 a11 a12 a13 a14 a15 k_o1_keys k_o1_values k_o1_weights k_o1_counts k_o1_lasts k_o1_tills k_o1_pinned k_o1_size k_o1_load k_o1_pinnedLoad k_o1_uses k_o1_aging k_o1_halvings)) hS => ?_)
  refine lv_aload_n hx hb dX1_copyFrom_124 rfl (lv_at hl 0 rfl) ?_
  refine lv_aload_n hx hb dX1_copyFrom_125 rfl (lv_at hl 1 rfl) ?_
  refine gf_X1 (v := .int k_o1_load) C hE hP 8 8 rfl (by decide) qF_X1_47 rfl dX1_copyFrom_126 ?_
  refine pf_X1 (v := .int k_o1_load) C hE hP hD hS 0 8 rfl (by decide) qF_X1_47 rfl rfl rfl (Nat.le_of_ble_eq_true rfl) dX1_copyFrom_129 (fun H locs (hP : va_P D vwCl (MX1 cI cZ cL cW a0 a1 a2 a3 a4 a5 a6 a7 (va_cpy k_o1_keys k_keys (Int32.toNatClampNeg 0) (Int32.toNatClampNeg 0) (Int32.toNatClampNeg 60)) (va_cpy k_o1_values k_values (Int32.toNatClampNeg 0) (Int32.toNatClampNeg 0) (Int32.toNatClampNeg 60)) (va_cpy k_o1_weights k_weights (Int32.toNatClampNeg 0) (Int32.toNatClampNeg 0) (Int32.toNatClampNeg 60)) (va_cpy k_o1_counts k_counts (Int32.toNatClampNeg 0) (Int32.toNatClampNeg 0) (Int32.toNatClampNeg 60)) (va_cpy k_o1_lasts k_lasts (Int32.toNatClampNeg 0) (Int32.toNatClampNeg 0) (Int32.toNatClampNeg 60)) (va_cpy k_o1_tills k_tills (Int32.toNatClampNeg 0) (Int32.toNatClampNeg 0) (Int32.toNatClampNeg 60)) k4 k_o1_size k_o1_load k_pinnedLoad k_uses k_aging k_halvings ++ MX1 cI cZ cL cW a8 a9 a10 a11 a12 a13 a14 a15 k_o1_keys k_o1_values k_o1_weights k_o1_counts k_o1_lasts k_o1_tills k_o1_pinned k_o1_size k_o1_load k_o1_pinnedLoad k_o1_uses k_o1_aging k_o1_halvings) H) (hD : va_D A (MX1 cI cZ cL cW a0 a1 a2 a3 a4 a5 a6 a7 (va_cpy k_o1_keys k_keys (Int32.toNatClampNeg 0) (Int32.toNatClampNeg 0) (Int32.toNatClampNeg 60)) (va_cpy k_o1_values k_values (Int32.toNatClampNeg 0) (Int32.toNatClampNeg 0) (Int32.toNatClampNeg 60)) (va_cpy k_o1_weights k_weights (Int32.toNatClampNeg 0) (Int32.toNatClampNeg 0) (Int32.toNatClampNeg 60)) (va_cpy k_o1_counts k_counts (Int32.toNatClampNeg 0) (Int32.toNatClampNeg 0) (Int32.toNatClampNeg 60)) (va_cpy k_o1_lasts k_lasts (Int32.toNatClampNeg 0) (Int32.toNatClampNeg 0) (Int32.toNatClampNeg 60)) (va_cpy k_o1_tills k_tills (Int32.toNatClampNeg 0) (Int32.toNatClampNeg 0) (Int32.toNatClampNeg 60)) k4 k_o1_size k_o1_load k_pinnedLoad k_uses k_aging k_halvings ++ MX1 cI cZ cL cW a8 a9 a10 a11 a12 a13 a14 a15 k_o1_keys k_o1_values k_o1_weights k_o1_counts k_o1_lasts k_o1_tills k_o1_pinned k_o1_size k_o1_load k_o1_pinnedLoad k_o1_uses k_o1_aging k_o1_halvings)) hS => ?_)
  refine lv_aload_n hx hb dX1_copyFrom_132 rfl (lv_at hl 0 rfl) ?_
  refine lv_aload_n hx hb dX1_copyFrom_133 rfl (lv_at hl 1 rfl) ?_
  refine gf_X1 (v := .int k_o1_pinnedLoad) C hE hP 8 9 rfl (by decide) qF_X1_50 rfl dX1_copyFrom_134 ?_
  refine pf_X1 (v := .int k_o1_pinnedLoad) C hE hP hD hS 0 9 rfl (by decide) qF_X1_50 rfl rfl rfl (Nat.le_of_ble_eq_true rfl) dX1_copyFrom_137 (fun H locs (hP : va_P D vwCl (MX1 cI cZ cL cW a0 a1 a2 a3 a4 a5 a6 a7 (va_cpy k_o1_keys k_keys (Int32.toNatClampNeg 0) (Int32.toNatClampNeg 0) (Int32.toNatClampNeg 60)) (va_cpy k_o1_values k_values (Int32.toNatClampNeg 0) (Int32.toNatClampNeg 0) (Int32.toNatClampNeg 60)) (va_cpy k_o1_weights k_weights (Int32.toNatClampNeg 0) (Int32.toNatClampNeg 0) (Int32.toNatClampNeg 60)) (va_cpy k_o1_counts k_counts (Int32.toNatClampNeg 0) (Int32.toNatClampNeg 0) (Int32.toNatClampNeg 60)) (va_cpy k_o1_lasts k_lasts (Int32.toNatClampNeg 0) (Int32.toNatClampNeg 0) (Int32.toNatClampNeg 60)) (va_cpy k_o1_tills k_tills (Int32.toNatClampNeg 0) (Int32.toNatClampNeg 0) (Int32.toNatClampNeg 60)) k4 k_o1_size k_o1_load k_o1_pinnedLoad k_uses k_aging k_halvings ++ MX1 cI cZ cL cW a8 a9 a10 a11 a12 a13 a14 a15 k_o1_keys k_o1_values k_o1_weights k_o1_counts k_o1_lasts k_o1_tills k_o1_pinned k_o1_size k_o1_load k_o1_pinnedLoad k_o1_uses k_o1_aging k_o1_halvings) H) (hD : va_D A (MX1 cI cZ cL cW a0 a1 a2 a3 a4 a5 a6 a7 (va_cpy k_o1_keys k_keys (Int32.toNatClampNeg 0) (Int32.toNatClampNeg 0) (Int32.toNatClampNeg 60)) (va_cpy k_o1_values k_values (Int32.toNatClampNeg 0) (Int32.toNatClampNeg 0) (Int32.toNatClampNeg 60)) (va_cpy k_o1_weights k_weights (Int32.toNatClampNeg 0) (Int32.toNatClampNeg 0) (Int32.toNatClampNeg 60)) (va_cpy k_o1_counts k_counts (Int32.toNatClampNeg 0) (Int32.toNatClampNeg 0) (Int32.toNatClampNeg 60)) (va_cpy k_o1_lasts k_lasts (Int32.toNatClampNeg 0) (Int32.toNatClampNeg 0) (Int32.toNatClampNeg 60)) (va_cpy k_o1_tills k_tills (Int32.toNatClampNeg 0) (Int32.toNatClampNeg 0) (Int32.toNatClampNeg 60)) k4 k_o1_size k_o1_load k_o1_pinnedLoad k_uses k_aging k_halvings ++ MX1 cI cZ cL cW a8 a9 a10 a11 a12 a13 a14 a15 k_o1_keys k_o1_values k_o1_weights k_o1_counts k_o1_lasts k_o1_tills k_o1_pinned k_o1_size k_o1_load k_o1_pinnedLoad k_o1_uses k_o1_aging k_o1_halvings)) hS => ?_)
  refine lv_aload_n hx hb dX1_copyFrom_140 rfl (lv_at hl 0 rfl) ?_
  refine lv_aload_n hx hb dX1_copyFrom_141 rfl (lv_at hl 1 rfl) ?_
  refine gf_X1 (v := .int k_o1_uses) C hE hP 8 10 rfl (by decide) qF_X1_53 rfl dX1_copyFrom_142 ?_
  refine pf_X1 (v := .int k_o1_uses) C hE hP hD hS 0 10 rfl (by decide) qF_X1_53 rfl rfl rfl (Nat.le_of_ble_eq_true rfl) dX1_copyFrom_145 (fun H locs (hP : va_P D vwCl (MX1 cI cZ cL cW a0 a1 a2 a3 a4 a5 a6 a7 (va_cpy k_o1_keys k_keys (Int32.toNatClampNeg 0) (Int32.toNatClampNeg 0) (Int32.toNatClampNeg 60)) (va_cpy k_o1_values k_values (Int32.toNatClampNeg 0) (Int32.toNatClampNeg 0) (Int32.toNatClampNeg 60)) (va_cpy k_o1_weights k_weights (Int32.toNatClampNeg 0) (Int32.toNatClampNeg 0) (Int32.toNatClampNeg 60)) (va_cpy k_o1_counts k_counts (Int32.toNatClampNeg 0) (Int32.toNatClampNeg 0) (Int32.toNatClampNeg 60)) (va_cpy k_o1_lasts k_lasts (Int32.toNatClampNeg 0) (Int32.toNatClampNeg 0) (Int32.toNatClampNeg 60)) (va_cpy k_o1_tills k_tills (Int32.toNatClampNeg 0) (Int32.toNatClampNeg 0) (Int32.toNatClampNeg 60)) k4 k_o1_size k_o1_load k_o1_pinnedLoad k_o1_uses k_aging k_halvings ++ MX1 cI cZ cL cW a8 a9 a10 a11 a12 a13 a14 a15 k_o1_keys k_o1_values k_o1_weights k_o1_counts k_o1_lasts k_o1_tills k_o1_pinned k_o1_size k_o1_load k_o1_pinnedLoad k_o1_uses k_o1_aging k_o1_halvings) H) (hD : va_D A (MX1 cI cZ cL cW a0 a1 a2 a3 a4 a5 a6 a7 (va_cpy k_o1_keys k_keys (Int32.toNatClampNeg 0) (Int32.toNatClampNeg 0) (Int32.toNatClampNeg 60)) (va_cpy k_o1_values k_values (Int32.toNatClampNeg 0) (Int32.toNatClampNeg 0) (Int32.toNatClampNeg 60)) (va_cpy k_o1_weights k_weights (Int32.toNatClampNeg 0) (Int32.toNatClampNeg 0) (Int32.toNatClampNeg 60)) (va_cpy k_o1_counts k_counts (Int32.toNatClampNeg 0) (Int32.toNatClampNeg 0) (Int32.toNatClampNeg 60)) (va_cpy k_o1_lasts k_lasts (Int32.toNatClampNeg 0) (Int32.toNatClampNeg 0) (Int32.toNatClampNeg 60)) (va_cpy k_o1_tills k_tills (Int32.toNatClampNeg 0) (Int32.toNatClampNeg 0) (Int32.toNatClampNeg 60)) k4 k_o1_size k_o1_load k_o1_pinnedLoad k_o1_uses k_aging k_halvings ++ MX1 cI cZ cL cW a8 a9 a10 a11 a12 a13 a14 a15 k_o1_keys k_o1_values k_o1_weights k_o1_counts k_o1_lasts k_o1_tills k_o1_pinned k_o1_size k_o1_load k_o1_pinnedLoad k_o1_uses k_o1_aging k_o1_halvings)) hS => ?_)
  refine lv_aload_n hx hb dX1_copyFrom_148 rfl (lv_at hl 0 rfl) ?_
  refine lv_aload_n hx hb dX1_copyFrom_149 rfl (lv_at hl 1 rfl) ?_
  refine gf_X1 (v := .int k_o1_aging) C hE hP 8 11 rfl (by decide) qF_X1_34 rfl dX1_copyFrom_150 ?_
  refine pf_X1 (v := .int k_o1_aging) C hE hP hD hS 0 11 rfl (by decide) qF_X1_34 rfl rfl rfl (Nat.le_of_ble_eq_true rfl) dX1_copyFrom_153 (fun H locs (hP : va_P D vwCl (MX1 cI cZ cL cW a0 a1 a2 a3 a4 a5 a6 a7 (va_cpy k_o1_keys k_keys (Int32.toNatClampNeg 0) (Int32.toNatClampNeg 0) (Int32.toNatClampNeg 60)) (va_cpy k_o1_values k_values (Int32.toNatClampNeg 0) (Int32.toNatClampNeg 0) (Int32.toNatClampNeg 60)) (va_cpy k_o1_weights k_weights (Int32.toNatClampNeg 0) (Int32.toNatClampNeg 0) (Int32.toNatClampNeg 60)) (va_cpy k_o1_counts k_counts (Int32.toNatClampNeg 0) (Int32.toNatClampNeg 0) (Int32.toNatClampNeg 60)) (va_cpy k_o1_lasts k_lasts (Int32.toNatClampNeg 0) (Int32.toNatClampNeg 0) (Int32.toNatClampNeg 60)) (va_cpy k_o1_tills k_tills (Int32.toNatClampNeg 0) (Int32.toNatClampNeg 0) (Int32.toNatClampNeg 60)) k4 k_o1_size k_o1_load k_o1_pinnedLoad k_o1_uses k_o1_aging k_halvings ++ MX1 cI cZ cL cW a8 a9 a10 a11 a12 a13 a14 a15 k_o1_keys k_o1_values k_o1_weights k_o1_counts k_o1_lasts k_o1_tills k_o1_pinned k_o1_size k_o1_load k_o1_pinnedLoad k_o1_uses k_o1_aging k_o1_halvings) H) (hD : va_D A (MX1 cI cZ cL cW a0 a1 a2 a3 a4 a5 a6 a7 (va_cpy k_o1_keys k_keys (Int32.toNatClampNeg 0) (Int32.toNatClampNeg 0) (Int32.toNatClampNeg 60)) (va_cpy k_o1_values k_values (Int32.toNatClampNeg 0) (Int32.toNatClampNeg 0) (Int32.toNatClampNeg 60)) (va_cpy k_o1_weights k_weights (Int32.toNatClampNeg 0) (Int32.toNatClampNeg 0) (Int32.toNatClampNeg 60)) (va_cpy k_o1_counts k_counts (Int32.toNatClampNeg 0) (Int32.toNatClampNeg 0) (Int32.toNatClampNeg 60)) (va_cpy k_o1_lasts k_lasts (Int32.toNatClampNeg 0) (Int32.toNatClampNeg 0) (Int32.toNatClampNeg 60)) (va_cpy k_o1_tills k_tills (Int32.toNatClampNeg 0) (Int32.toNatClampNeg 0) (Int32.toNatClampNeg 60)) k4 k_o1_size k_o1_load k_o1_pinnedLoad k_o1_uses k_o1_aging k_halvings ++ MX1 cI cZ cL cW a8 a9 a10 a11 a12 a13 a14 a15 k_o1_keys k_o1_values k_o1_weights k_o1_counts k_o1_lasts k_o1_tills k_o1_pinned k_o1_size k_o1_load k_o1_pinnedLoad k_o1_uses k_o1_aging k_o1_halvings)) hS => ?_)
  refine lv_aload_n hx hb dX1_copyFrom_156 rfl (lv_at hl 0 rfl) ?_
  refine lv_aload_n hx hb dX1_copyFrom_157 rfl (lv_at hl 1 rfl) ?_
  refine gf_X1 (v := .int k_o1_halvings) C hE hP 8 12 rfl (by decide) qF_X1_56 rfl dX1_copyFrom_158 ?_
  refine pf_X1 (v := .int k_o1_halvings) C hE hP hD hS 0 12 rfl (by decide) qF_X1_56 rfl rfl rfl (Nat.le_of_ble_eq_true rfl) dX1_copyFrom_161 (fun H locs (hP : va_P D vwCl (MX1 cI cZ cL cW a0 a1 a2 a3 a4 a5 a6 a7 (va_cpy k_o1_keys k_keys (Int32.toNatClampNeg 0) (Int32.toNatClampNeg 0) (Int32.toNatClampNeg 60)) (va_cpy k_o1_values k_values (Int32.toNatClampNeg 0) (Int32.toNatClampNeg 0) (Int32.toNatClampNeg 60)) (va_cpy k_o1_weights k_weights (Int32.toNatClampNeg 0) (Int32.toNatClampNeg 0) (Int32.toNatClampNeg 60)) (va_cpy k_o1_counts k_counts (Int32.toNatClampNeg 0) (Int32.toNatClampNeg 0) (Int32.toNatClampNeg 60)) (va_cpy k_o1_lasts k_lasts (Int32.toNatClampNeg 0) (Int32.toNatClampNeg 0) (Int32.toNatClampNeg 60)) (va_cpy k_o1_tills k_tills (Int32.toNatClampNeg 0) (Int32.toNatClampNeg 0) (Int32.toNatClampNeg 60)) k4 k_o1_size k_o1_load k_o1_pinnedLoad k_o1_uses k_o1_aging k_o1_halvings ++ MX1 cI cZ cL cW a8 a9 a10 a11 a12 a13 a14 a15 k_o1_keys k_o1_values k_o1_weights k_o1_counts k_o1_lasts k_o1_tills k_o1_pinned k_o1_size k_o1_load k_o1_pinnedLoad k_o1_uses k_o1_aging k_o1_halvings) H) (hD : va_D A (MX1 cI cZ cL cW a0 a1 a2 a3 a4 a5 a6 a7 (va_cpy k_o1_keys k_keys (Int32.toNatClampNeg 0) (Int32.toNatClampNeg 0) (Int32.toNatClampNeg 60)) (va_cpy k_o1_values k_values (Int32.toNatClampNeg 0) (Int32.toNatClampNeg 0) (Int32.toNatClampNeg 60)) (va_cpy k_o1_weights k_weights (Int32.toNatClampNeg 0) (Int32.toNatClampNeg 0) (Int32.toNatClampNeg 60)) (va_cpy k_o1_counts k_counts (Int32.toNatClampNeg 0) (Int32.toNatClampNeg 0) (Int32.toNatClampNeg 60)) (va_cpy k_o1_lasts k_lasts (Int32.toNatClampNeg 0) (Int32.toNatClampNeg 0) (Int32.toNatClampNeg 60)) (va_cpy k_o1_tills k_tills (Int32.toNatClampNeg 0) (Int32.toNatClampNeg 0) (Int32.toNatClampNeg 60)) k4 k_o1_size k_o1_load k_o1_pinnedLoad k_o1_uses k_o1_aging k_o1_halvings ++ MX1 cI cZ cL cW a8 a9 a10 a11 a12 a13 a14 a15 k_o1_keys k_o1_values k_o1_weights k_o1_counts k_o1_lasts k_o1_tills k_o1_pinned k_o1_size k_o1_load k_o1_pinnedLoad k_o1_uses k_o1_aging k_o1_halvings)) hS => ?_)
  cases hf
  exact rw_v C hr hlk hP hD hS dX1_copyFrom_164
def X1_empty (F : Nat) (p1 : Int32) (k_size : Int32) (k_load : Int32) (k_pinnedLoad : Int32) (k_uses : Int32) (k_aging : Int32) (k_halvings : Int32) : Option (Int32 × Int32 × Int32 × Int32 × Int32 × Int32) := some (0, 0, 0, 0, p1, 0)
abbrev rm_X1_empty : Room := { frames := 0, cells := 0, slots := 0, locals := 0 }
theorem ok_X1_empty : OKV RX1 yX1_empty cX1_empty 2 none 1 := ⟨by decide +kernel, qV_X1_empty, qL_X1_empty, qI_X1, qD_X1_empty⟩
set_option maxHeartbeats 4000000 in
set_option maxRecDepth 100000 in
theorem c_X1_empty (l : Launch) (D : va_G) (cI cZ cL cW : ClassId) (F : Nat) (a0 : Nat) (a1 : Nat) (a2 : Nat) (a3 : Nat) (a4 : Nat) (a5 : Nat) (a6 : Nat) (a7 : Nat) (k_keys : (Nat → Int32)) (k_values : (Nat → Int32)) (k_weights : (Nat → Int32)) (k_counts : (Nat → Int32)) (k_lasts : (Nat → Int32)) (k_tills : (Nat → Int32)) (k_pinned : (Nat → Int32)) (k_size : Int32) (k_load : Int32) (k_pinnedLoad : Int32) (k_uses : Int32) (k_aging : Int32) (k_halvings : Int32) (p1 : Int32) (k_size' : Int32) (k_load' : Int32) (k_pinnedLoad' : Int32) (k_uses' : Int32) (k_aging' : Int32) (k_halvings' : Int32) (hf : X1_empty F p1 k_size k_load k_pinnedLoad k_uses k_aging k_halvings = some (k_size', k_load', k_pinnedLoad', k_uses', k_aging', k_halvings')) : CtrW l D (tyL cI cZ cL cW) nestW yX1_empty cX1_empty 2 none rm_X1_empty [.ref a0, .int p1] (MX1 cI cZ cL cW a0 a1 a2 a3 a4 a5 a6 a7 k_keys k_values k_weights k_counts k_lasts k_tills k_pinned k_size k_load k_pinnedLoad k_uses k_aging k_halvings) (MX1 cI cZ cL cW a0 a1 a2 a3 a4 a5 a6 a7 k_keys k_values k_weights k_counts k_lasts k_tills k_pinned (k_size') (k_load') (k_pinnedLoad') (k_uses') (k_aging') (k_halvings')) none := by
  refine ofA RX1 (by decide) rfl (Nat.le_of_ble_eq_true rfl) ?_
  intro p e s m below meth c ls A C hr hlk hE hA hP hD hS hl
  generalize (List.toArray ([.ref a0, .int p1] : List Value)) = args at C ⊢
  obtain ⟨hx, hb, hml, hown, ht⟩ := id C
  have hl : lv_has ls 2 [(0, .ref a0), (1, .int p1)] := hl
  refine lv_aload_n hx hb dX1_empty_0 rfl (lv_at hl 0 rfl) ?_
  refine lv_iconst (v := 0) hx hb dX1_empty_1 (by decide) ?_
  refine pf_X1 (v := .int 0) C hE hP hD hS 0 7 rfl (by decide) qF_X1_44 rfl rfl rfl (Nat.le_of_ble_eq_true rfl) dX1_empty_2 (fun H locs (hP : va_P D vwCl (MX1 cI cZ cL cW a0 a1 a2 a3 a4 a5 a6 a7 k_keys k_values k_weights k_counts k_lasts k_tills k_pinned 0 k_load k_pinnedLoad k_uses k_aging k_halvings) H) (hD : va_D A (MX1 cI cZ cL cW a0 a1 a2 a3 a4 a5 a6 a7 k_keys k_values k_weights k_counts k_lasts k_tills k_pinned 0 k_load k_pinnedLoad k_uses k_aging k_halvings)) hS => ?_)
  refine lv_aload_n hx hb dX1_empty_5 rfl (lv_at hl 0 rfl) ?_
  refine lv_iconst (v := 0) hx hb dX1_empty_6 (by decide) ?_
  refine pf_X1 (v := .int 0) C hE hP hD hS 0 8 rfl (by decide) qF_X1_47 rfl rfl rfl (Nat.le_of_ble_eq_true rfl) dX1_empty_7 (fun H locs (hP : va_P D vwCl (MX1 cI cZ cL cW a0 a1 a2 a3 a4 a5 a6 a7 k_keys k_values k_weights k_counts k_lasts k_tills k_pinned 0 0 k_pinnedLoad k_uses k_aging k_halvings) H) (hD : va_D A (MX1 cI cZ cL cW a0 a1 a2 a3 a4 a5 a6 a7 k_keys k_values k_weights k_counts k_lasts k_tills k_pinned 0 0 k_pinnedLoad k_uses k_aging k_halvings)) hS => ?_)
  refine lv_aload_n hx hb dX1_empty_10 rfl (lv_at hl 0 rfl) ?_
  refine lv_iconst (v := 0) hx hb dX1_empty_11 (by decide) ?_
  refine pf_X1 (v := .int 0) C hE hP hD hS 0 9 rfl (by decide) qF_X1_50 rfl rfl rfl (Nat.le_of_ble_eq_true rfl) dX1_empty_12 (fun H locs (hP : va_P D vwCl (MX1 cI cZ cL cW a0 a1 a2 a3 a4 a5 a6 a7 k_keys k_values k_weights k_counts k_lasts k_tills k_pinned 0 0 0 k_uses k_aging k_halvings) H) (hD : va_D A (MX1 cI cZ cL cW a0 a1 a2 a3 a4 a5 a6 a7 k_keys k_values k_weights k_counts k_lasts k_tills k_pinned 0 0 0 k_uses k_aging k_halvings)) hS => ?_)
  refine lv_aload_n hx hb dX1_empty_15 rfl (lv_at hl 0 rfl) ?_
  refine lv_iconst (v := 0) hx hb dX1_empty_16 (by decide) ?_
  refine pf_X1 (v := .int 0) C hE hP hD hS 0 10 rfl (by decide) qF_X1_53 rfl rfl rfl (Nat.le_of_ble_eq_true rfl) dX1_empty_17 (fun H locs (hP : va_P D vwCl (MX1 cI cZ cL cW a0 a1 a2 a3 a4 a5 a6 a7 k_keys k_values k_weights k_counts k_lasts k_tills k_pinned 0 0 0 0 k_aging k_halvings) H) (hD : va_D A (MX1 cI cZ cL cW a0 a1 a2 a3 a4 a5 a6 a7 k_keys k_values k_weights k_counts k_lasts k_tills k_pinned 0 0 0 0 k_aging k_halvings)) hS => ?_)
  refine lv_aload_n hx hb dX1_empty_20 rfl (lv_at hl 0 rfl) ?_
  refine lv_iload_n hx hb dX1_empty_21 rfl (lv_at hl 1 rfl) ?_
  refine pf_X1 (v := .int p1) C hE hP hD hS 0 11 rfl (by decide) qF_X1_34 rfl rfl rfl (Nat.le_of_ble_eq_true rfl) dX1_empty_22 (fun H locs (hP : va_P D vwCl (MX1 cI cZ cL cW a0 a1 a2 a3 a4 a5 a6 a7 k_keys k_values k_weights k_counts k_lasts k_tills k_pinned 0 0 0 0 p1 k_halvings) H) (hD : va_D A (MX1 cI cZ cL cW a0 a1 a2 a3 a4 a5 a6 a7 k_keys k_values k_weights k_counts k_lasts k_tills k_pinned 0 0 0 0 p1 k_halvings)) hS => ?_)
  refine lv_aload_n hx hb dX1_empty_25 rfl (lv_at hl 0 rfl) ?_
  refine lv_iconst (v := 0) hx hb dX1_empty_26 (by decide) ?_
  refine pf_X1 (v := .int 0) C hE hP hD hS 0 12 rfl (by decide) qF_X1_56 rfl rfl rfl (Nat.le_of_ble_eq_true rfl) dX1_empty_27 (fun H locs (hP : va_P D vwCl (MX1 cI cZ cL cW a0 a1 a2 a3 a4 a5 a6 a7 k_keys k_values k_weights k_counts k_lasts k_tills k_pinned 0 0 0 0 p1 0) H) (hD : va_D A (MX1 cI cZ cL cW a0 a1 a2 a3 a4 a5 a6 a7 k_keys k_values k_weights k_counts k_lasts k_tills k_pinned 0 0 0 0 p1 0)) hS => ?_)
  cases hf
  exact rw_v C hr hlk hP hD hS dX1_empty_30
def X1_has (F : Nat) (p1 : Int32) (k_size : Int32) : Option (Int32) := if (p1 : Int32) < 0 then (some 0) else (if (k_size : Int32) ≤ p1 then (some 0) else (some 1))
abbrev rm_X1_has : Room := { frames := 0, cells := 0, slots := 0, locals := 0 }
theorem ok_X1_has : OKV RX1 yX1_has cX1_has 2 (some .boolean) 1 := ⟨by decide +kernel, qV_X1_has, qL_X1_has, qI_X1, qD_X1_has⟩
set_option maxHeartbeats 4000000 in
set_option maxRecDepth 100000 in
theorem c_X1_has (l : Launch) (D : va_G) (cI cZ cL cW : ClassId) (F : Nat) (a0 : Nat) (a1 : Nat) (a2 : Nat) (a3 : Nat) (a4 : Nat) (a5 : Nat) (a6 : Nat) (a7 : Nat) (k_keys : (Nat → Int32)) (k_values : (Nat → Int32)) (k_weights : (Nat → Int32)) (k_counts : (Nat → Int32)) (k_lasts : (Nat → Int32)) (k_tills : (Nat → Int32)) (k_pinned : (Nat → Int32)) (k_size : Int32) (k_load : Int32) (k_pinnedLoad : Int32) (k_uses : Int32) (k_aging : Int32) (k_halvings : Int32) (p1 : Int32) (r : Int32) (hf : X1_has F p1 k_size = some r) : CtrR l D (tyL cI cZ cL cW) nestW yX1_has cX1_has 2 (some .boolean) rm_X1_has [.ref a0, .int p1] (MX1 cI cZ cL cW a0 a1 a2 a3 a4 a5 a6 a7 k_keys k_values k_weights k_counts k_lasts k_tills k_pinned k_size k_load k_pinnedLoad k_uses k_aging k_halvings) (some (.int r)) := by
  refine ofR RX1 (by decide) rfl (Nat.le_of_ble_eq_true rfl) ?_
  intro p e s m below meth c ls C hr hlk hE hP hl
  generalize (List.toArray ([.ref a0, .int p1] : List Value)) = args at C ⊢
  obtain ⟨hx, hb, hml, hown, ht⟩ := id C
  have hl : lv_has ls 2 [(0, .ref a0), (1, .int p1)] := hl
  refine lv_iload_n hx hb dX1_has_0 rfl (lv_at hl 1 rfl) ?_
  refine lv_if_lt (tgt := 16) hx hb dX1_has_1 (by decide) (fun c2 => ?_) (fun c2 => ?_)
  · have hf := it_p hf c2
    refine lv_iconst (v := 0) hx hb dX1_has_16 (by decide) ?_
    exact rt_z C hr hlk (by decide) dX1_has_17 (congrArg (fun o => o.map Value.int) hf)
  · have hf := it_n hf c2
    refine lv_iload_n hx hb dX1_has_4 rfl (lv_at hl 1 rfl) ?_
    refine lv_aload_n hx hb dX1_has_5 rfl (lv_at hl 0 rfl) ?_
    refine gf_X1 (v := .int k_size) C hE hP 0 7 rfl (by decide) qF_X1_44 rfl dX1_has_6 ?_
    refine lv_icmp_ge (tgt := 16) hx hb dX1_has_9 (by decide) (fun c1 => ?_) (fun c1 => ?_)
    · have hf := it_p hf c1
      refine lv_iconst (v := 0) hx hb dX1_has_16 (by decide) ?_
      exact rt_z C hr hlk (by decide) dX1_has_17 (congrArg (fun o => o.map Value.int) hf)
    · have hf := it_n hf c1
      refine lv_iconst (v := 1) hx hb dX1_has_12 (by decide) ?_
      refine lv_goto (tgt := 17) hx hb dX1_has_13 (by decide) ?_
      exact rt_z C hr hlk (by decide) dX1_has_17 (congrArg (fun o => o.map Value.int) hf)
def X1_find_L2 (F : Nat) : Nat → Int32 → Int32 → (Nat → Int32) → Int32 → Option (Int32)
  | 0, _, _, _, _ => none
  | n + 1, v1, v2, k_keys, k_size => if (k_size : Int32) ≤ v2 then (some (-1)) else (if (v2 : Int32) < 0 ∨ 60 ≤ (Int32.toNatClampNeg v2) then none else (if ((k_keys (Int32.toNatClampNeg v2)) : Int32) = v1 then (some v2) else (X1_find_L2 F n v1 (v2 + 1) k_keys k_size)))
def X1_find (F : Nat) (p1 : Int32) (k_keys : (Nat → Int32)) (k_size : Int32) : Option (Int32) := X1_find_L2 F F p1 0 k_keys k_size
abbrev rm_X1_find : Room := { frames := 0, cells := 0, slots := 0, locals := 0 }
theorem ok_X1_find : OKV RX1 yX1_find cX1_find 3 (some .int) 1 := ⟨by decide +kernel, qV_X1_find, qL_X1_find, qI_X1, qD_X1_find⟩
set_option maxHeartbeats 4000000 in
set_option maxRecDepth 100000 in
theorem c_X1_find (l : Launch) (D : va_G) (cI cZ cL cW : ClassId) (F : Nat) (a0 : Nat) (a1 : Nat) (a2 : Nat) (a3 : Nat) (a4 : Nat) (a5 : Nat) (a6 : Nat) (a7 : Nat) (k_keys : (Nat → Int32)) (k_values : (Nat → Int32)) (k_weights : (Nat → Int32)) (k_counts : (Nat → Int32)) (k_lasts : (Nat → Int32)) (k_tills : (Nat → Int32)) (k_pinned : (Nat → Int32)) (k_size : Int32) (k_load : Int32) (k_pinnedLoad : Int32) (k_uses : Int32) (k_aging : Int32) (k_halvings : Int32) (p1 : Int32) (r : Int32) (hf : X1_find F p1 k_keys k_size = some r) : CtrR l D (tyL cI cZ cL cW) nestW yX1_find cX1_find 3 (some .int) rm_X1_find [.ref a0, .int p1] (MX1 cI cZ cL cW a0 a1 a2 a3 a4 a5 a6 a7 k_keys k_values k_weights k_counts k_lasts k_tills k_pinned k_size k_load k_pinnedLoad k_uses k_aging k_halvings) (some (.int r)) := by
  refine ofR RX1 (by decide) rfl (Nat.le_of_ble_eq_true rfl) ?_
  intro p e s m below meth c ls C hr hlk hE hP hl
  generalize (List.toArray ([.ref a0, .int p1] : List Value)) = args at C ⊢
  obtain ⟨hx, hb, hml, hown, ht⟩ := id C
  have hl : lv_has ls 3 [(0, .ref a0), (1, .int p1)] := hl
  have L2 : ∀ (n : Nat) (v1 : Int32) (v2 : Int32) (ls : Array Slot), X1_find_L2 F n v1 v2 k_keys k_size = some r → lv_has ls 3 [(0, .ref a0), (1, .int v1), (2, .int v2)] → W p l e rm_X1_find s m args below meth c s.heap [] 0 0 (MQ below (QR (some (.int r))) args s 0 0 (fun _ => False)) (F0 m 2 ls []) := by
    intro n
    induction n with
    | zero => intro v1 v2 ls hf hl; exact nn_s hf
    | succ n ih =>
      intro v1 v2 ls hf hl
      refine lv_iload_n hx hb dX1_find_2 rfl (lv_at hl 2 rfl) ?_
      refine lv_aload_n hx hb dX1_find_3 rfl (lv_at hl 0 rfl) ?_
      refine gf_X1 (v := .int k_size) C hE hP 0 7 rfl (by decide) qF_X1_44 rfl dX1_find_4 ?_
      refine lv_icmp_ge (tgt := 28) hx hb dX1_find_7 (by decide) (fun c3 => ?_) (fun c3 => ?_)
      · have hf := it_p hf c3
        refine lv_iconst (v := (-1)) hx hb dX1_find_28 (by decide) ?_
        exact rt_i C hr hlk dX1_find_29 (congrArg (fun o => o.map Value.int) hf)
      · have hf := it_n hf c3
        refine lv_aload_n hx hb dX1_find_10 rfl (lv_at hl 0 rfl) ?_
        refine gf_X1 (v := .ref a1) C hE hP 0 0 rfl (by decide) qF_X1_9 rfl dX1_find_11 ?_
        refine lv_iload_n hx hb dX1_find_14 rfl (lv_at hl 2 rfl) ?_
        obtain ⟨g2, hf⟩ := it_g hf
        refine va_iald hx hb hE.1 hP 1 0 rfl rfl g2 dX1_find_15 ?_
        refine lv_iload_n hx hb dX1_find_16 rfl (lv_at hl 1 rfl) ?_
        refine lv_icmp_ne (tgt := 22) hx hb dX1_find_17 (by decide) (fun c1 => ?_) (fun c1 => ?_)
        · have hf := it_n hf c1
          refine lv_iinc (v := (v2 + 1)) (lv' := [(2, .int (v2 + 1)), (0, .ref a0), (1, .int v1)]) hx hb dX1_find_22 hl (k := 2) rfl rfl (by decide) rfl (fun ls hl => ?_)
          refine lv_goto (tgt := 2) hx hb dX1_find_25 (by decide) ?_
          exact ih v1 (v2 + 1) ls hf (lv_sub hl [1, 2, 0] rfl)
        · have hf := it_p hf c1
          refine lv_iload_n hx hb dX1_find_20 rfl (lv_at hl 2 rfl) ?_
          exact rt_i C hr hlk dX1_find_21 (congrArg (fun o => o.map Value.int) hf)
  refine lv_iconst (v := 0) hx hb dX1_find_0 (by decide) ?_
  refine lv_istore_n (lv' := [(2, .int 0), (0, .ref a0), (1, .int p1)]) hx hb dX1_find_1 rfl hl (by decide) rfl (fun ls hl => ?_)
  exact L2 F p1 0 ls hf (lv_sub hl [1, 2, 0] rfl)
def X1_keyOf (F : Nat) (p1 : Int32) (k_keys : (Nat → Int32)) (k_size : Int32) : Option (Int32) := (X1_has F p1 k_size).bind fun r1 => (if (r1 : Int32) = 0 then (some (-1)) else (if (p1 : Int32) < 0 ∨ 60 ≤ (Int32.toNatClampNeg p1) then none else (some (k_keys (Int32.toNatClampNeg p1)))))
abbrev rm_X1_keyOf : Room := { frames := 1, cells := 0, slots := 0, locals := 21 }
theorem ok_X1_keyOf : OKV RX1 yX1_keyOf cX1_keyOf 2 (some .int) 1 := ⟨by decide +kernel, qV_X1_keyOf, qL_X1_keyOf, qI_X1, qD_X1_keyOf⟩
set_option maxHeartbeats 4000000 in
set_option maxRecDepth 100000 in
theorem c_X1_keyOf (l : Launch) (D : va_G) (cI cZ cL cW : ClassId) (F : Nat) (a0 : Nat) (a1 : Nat) (a2 : Nat) (a3 : Nat) (a4 : Nat) (a5 : Nat) (a6 : Nat) (a7 : Nat) (k_keys : (Nat → Int32)) (k_values : (Nat → Int32)) (k_weights : (Nat → Int32)) (k_counts : (Nat → Int32)) (k_lasts : (Nat → Int32)) (k_tills : (Nat → Int32)) (k_pinned : (Nat → Int32)) (k_size : Int32) (k_load : Int32) (k_pinnedLoad : Int32) (k_uses : Int32) (k_aging : Int32) (k_halvings : Int32) (p1 : Int32) (r : Int32) (hf : X1_keyOf F p1 k_keys k_size = some r) : CtrR l D (tyL cI cZ cL cW) nestW yX1_keyOf cX1_keyOf 2 (some .int) rm_X1_keyOf [.ref a0, .int p1] (MX1 cI cZ cL cW a0 a1 a2 a3 a4 a5 a6 a7 k_keys k_values k_weights k_counts k_lasts k_tills k_pinned k_size k_load k_pinnedLoad k_uses k_aging k_halvings) (some (.int r)) := by
  refine ofR RX1 (by decide) rfl (Nat.le_of_ble_eq_true rfl) ?_
  intro p e s m below meth c ls C hr hlk hE hP hl
  generalize (List.toArray ([.ref a0, .int p1] : List Value)) = args at C ⊢
  obtain ⟨hx, hb, hml, hown, ht⟩ := id C
  have hl : lv_has ls 2 [(0, .ref a0), (1, .int p1)] := hl
  refine lv_aload_n hx hb dX1_keyOf_0 rfl (lv_at hl 0 rfl) ?_
  refine lv_iload_n hx hb dX1_keyOf_1 rfl (lv_at hl 1 rfl) ?_
  obtain ⟨r1, h2, hf⟩ := bd_s hf
  refine iv_R (rest := []) (st1 := [.int r1]) C hE hP (c_X1_has l D cI cZ cL cW F a0 a1 a2 a3 a4 a5 a6 a7 k_keys k_values k_weights k_counts k_lasts k_tills k_pinned k_size k_load k_pinnedLoad k_uses k_aging k_halvings p1 r1  h2) ok_X1_has qM_X1_59 rfl rfl ⟨(Nat.le_of_ble_eq_true rfl), (Nat.le_of_ble_eq_true rfl)⟩ rfl rfl hl.1 (Nat.le_of_ble_eq_true rfl) ⟨Nat.zero_le _, Nat.zero_le _⟩ dX1_keyOf_2 rfl rfl ?_
  refine lv_if_eq (tgt := 17) hx hb dX1_keyOf_5 (by decide) (fun c4 => ?_) (fun c4 => ?_)
  · have hf := it_p hf c4
    refine lv_iconst (v := (-1)) hx hb dX1_keyOf_17 (by decide) ?_
    exact rt_i C hr hlk dX1_keyOf_18 (congrArg (fun o => o.map Value.int) hf)
  · have hf := it_n hf c4
    refine lv_aload_n hx hb dX1_keyOf_8 rfl (lv_at hl 0 rfl) ?_
    refine gf_X1 (v := .ref a1) C hE hP 0 0 rfl (by decide) qF_X1_9 rfl dX1_keyOf_9 ?_
    refine lv_iload_n hx hb dX1_keyOf_12 rfl (lv_at hl 1 rfl) ?_
    obtain ⟨g3, hf⟩ := it_g hf
    refine va_iald hx hb hE.1 hP 1 0 rfl rfl g3 dX1_keyOf_13 ?_
    refine lv_goto (tgt := 18) hx hb dX1_keyOf_14 (by decide) ?_
    exact rt_i C hr hlk dX1_keyOf_18 (congrArg (fun o => o.map Value.int) hf)
def X1_add (F : Nat) (p1 : Int32) (p2 : Int32) (p3 : Int32) (p4 : Int32) (k_keys : (Nat → Int32)) (k_values : (Nat → Int32)) (k_weights : (Nat → Int32)) (k_counts : (Nat → Int32)) (k_lasts : (Nat → Int32)) (k_tills : (Nat → Int32)) (k_pinned : (Nat → Int32)) (k_size : Int32) (k_load : Int32) : Option ((Nat → Int32) × (Nat → Int32) × (Nat → Int32) × (Nat → Int32) × (Nat → Int32) × (Nat → Int32) × (Nat → Int32) × Int32 × Int32) := if (k_size : Int32) < 60 then (if (k_size : Int32) < 0 ∨ 60 ≤ (Int32.toNatClampNeg k_size) then none else (if (k_size : Int32) < 0 ∨ 60 ≤ (Int32.toNatClampNeg k_size) then none else (if (k_size : Int32) < 0 ∨ 60 ≤ (Int32.toNatClampNeg k_size) then none else (if (k_size : Int32) < 0 ∨ 60 ≤ (Int32.toNatClampNeg k_size) then none else (if (k_size : Int32) < 0 ∨ 60 ≤ (Int32.toNatClampNeg k_size) then none else (if (k_size : Int32) < 0 ∨ 60 ≤ (Int32.toNatClampNeg k_size) then none else (if (k_size : Int32) < 0 ∨ 60 ≤ (Int32.toNatClampNeg k_size) then none else (some ((upd k_keys (Int32.toNatClampNeg k_size) p1), (upd k_values (Int32.toNatClampNeg k_size) p2), (upd k_weights (Int32.toNatClampNeg k_size) p3), (upd k_counts (Int32.toNatClampNeg k_size) 0), (upd k_lasts (Int32.toNatClampNeg k_size) 0), (upd k_tills (Int32.toNatClampNeg k_size) p4), (upd k_pinned (Int32.toNatClampNeg k_size) (vp_nar .boolean 0)), (k_size + 1), (k_load + p3)))))))))) else (some (k_keys, k_values, k_weights, k_counts, k_lasts, k_tills, k_pinned, k_size, k_load))
abbrev rm_X1_add : Room := { frames := 0, cells := 0, slots := 0, locals := 0 }
theorem ok_X1_add : OKV RX1 yX1_add cX1_add 5 none 4 := ⟨by decide +kernel, qV_X1_add, qL_X1_add, qI_X1, qD_X1_add⟩
set_option maxHeartbeats 4000000 in
set_option maxRecDepth 100000 in
theorem c_X1_add (l : Launch) (D : va_G) (cI cZ cL cW : ClassId) (F : Nat) (a0 : Nat) (a1 : Nat) (a2 : Nat) (a3 : Nat) (a4 : Nat) (a5 : Nat) (a6 : Nat) (a7 : Nat) (k_keys : (Nat → Int32)) (k_values : (Nat → Int32)) (k_weights : (Nat → Int32)) (k_counts : (Nat → Int32)) (k_lasts : (Nat → Int32)) (k_tills : (Nat → Int32)) (k_pinned : (Nat → Int32)) (k_size : Int32) (k_load : Int32) (k_pinnedLoad : Int32) (k_uses : Int32) (k_aging : Int32) (k_halvings : Int32) (p1 : Int32) (p2 : Int32) (p3 : Int32) (p4 : Int32) (k_keys' : (Nat → Int32)) (k_values' : (Nat → Int32)) (k_weights' : (Nat → Int32)) (k_counts' : (Nat → Int32)) (k_lasts' : (Nat → Int32)) (k_tills' : (Nat → Int32)) (k_pinned' : (Nat → Int32)) (k_size' : Int32) (k_load' : Int32) (hf : X1_add F p1 p2 p3 p4 k_keys k_values k_weights k_counts k_lasts k_tills k_pinned k_size k_load = some (k_keys', k_values', k_weights', k_counts', k_lasts', k_tills', k_pinned', k_size', k_load')) : CtrW l D (tyL cI cZ cL cW) nestW yX1_add cX1_add 5 none rm_X1_add [.ref a0, .int p1, .int p2, .int p3, .int p4] (MX1 cI cZ cL cW a0 a1 a2 a3 a4 a5 a6 a7 k_keys k_values k_weights k_counts k_lasts k_tills k_pinned k_size k_load k_pinnedLoad k_uses k_aging k_halvings) (MX1 cI cZ cL cW a0 a1 a2 a3 a4 a5 a6 a7 (k_keys') (k_values') (k_weights') (k_counts') (k_lasts') (k_tills') (k_pinned') (k_size') (k_load') k_pinnedLoad k_uses k_aging k_halvings) none := by
  refine ofA RX1 (by decide) rfl (Nat.le_of_ble_eq_true rfl) ?_
  intro p e s m below meth c ls A C hr hlk hE hA hP hD hS hl
  generalize (List.toArray ([.ref a0, .int p1, .int p2, .int p3, .int p4] : List Value)) = args at C ⊢
  obtain ⟨hx, hb, hml, hown, ht⟩ := id C
  have hl : lv_has ls 5 [(0, .ref a0), (1, .int p1), (2, .int p2), (3, .int p3), (4, .int p4)] := hl
  refine lv_aload_n hx hb dX1_add_0 rfl (lv_at hl 0 rfl) ?_
  refine gf_X1 (v := .int k_size) C hE hP 0 7 rfl (by decide) qF_X1_44 rfl dX1_add_1 ?_
  refine lv_bipush (v := 60) hx hb dX1_add_4 (by decide) ?_
  refine lv_icmp_lt (tgt := 10) hx hb dX1_add_6 (by decide) (fun c8 => ?_) (fun c8 => ?_)
  · have hf := it_p hf c8
    refine lv_aload_n hx hb dX1_add_10 rfl (lv_at hl 0 rfl) ?_
    refine gf_X1 (v := .ref a1) C hE hP 0 0 rfl (by decide) qF_X1_9 rfl dX1_add_11 ?_
    refine lv_aload_n hx hb dX1_add_14 rfl (lv_at hl 0 rfl) ?_
    refine gf_X1 (v := .int k_size) C hE hP 0 7 rfl (by decide) qF_X1_44 rfl dX1_add_15 ?_
    refine lv_iload_n hx hb dX1_add_18 rfl (lv_at hl 1 rfl) ?_
    obtain ⟨g7, hf⟩ := it_g hf
    refine va_iast hx hb hE.1 hP hD hS 1 0 rfl rfl g7 dX1_add_19 (fun H locs (hP : va_P D vwCl (MX1 cI cZ cL cW a0 a1 a2 a3 a4 a5 a6 a7 (upd k_keys (Int32.toNatClampNeg k_size) p1) k_values k_weights k_counts k_lasts k_tills k_pinned k_size k_load k_pinnedLoad k_uses k_aging k_halvings) H) (hD : va_D A (MX1 cI cZ cL cW a0 a1 a2 a3 a4 a5 a6 a7 (upd k_keys (Int32.toNatClampNeg k_size) p1) k_values k_weights k_counts k_lasts k_tills k_pinned k_size k_load k_pinnedLoad k_uses k_aging k_halvings)) hS => ?_)
    refine lv_aload_n hx hb dX1_add_20 rfl (lv_at hl 0 rfl) ?_
    refine gf_X1 (v := .ref a2) C hE hP 0 1 rfl (by decide) qF_X1_15 rfl dX1_add_21 ?_
    refine lv_aload_n hx hb dX1_add_24 rfl (lv_at hl 0 rfl) ?_
    refine gf_X1 (v := .int k_size) C hE hP 0 7 rfl (by decide) qF_X1_44 rfl dX1_add_25 ?_
    refine lv_iload_n hx hb dX1_add_28 rfl (lv_at hl 2 rfl) ?_
    obtain ⟨g6, hf⟩ := it_g hf
    refine va_iast hx hb hE.1 hP hD hS 2 0 rfl rfl g6 dX1_add_29 (fun H locs (hP : va_P D vwCl (MX1 cI cZ cL cW a0 a1 a2 a3 a4 a5 a6 a7 (upd k_keys (Int32.toNatClampNeg k_size) p1) (upd k_values (Int32.toNatClampNeg k_size) p2) k_weights k_counts k_lasts k_tills k_pinned k_size k_load k_pinnedLoad k_uses k_aging k_halvings) H) (hD : va_D A (MX1 cI cZ cL cW a0 a1 a2 a3 a4 a5 a6 a7 (upd k_keys (Int32.toNatClampNeg k_size) p1) (upd k_values (Int32.toNatClampNeg k_size) p2) k_weights k_counts k_lasts k_tills k_pinned k_size k_load k_pinnedLoad k_uses k_aging k_halvings)) hS => ?_)
    refine lv_aload_n hx hb dX1_add_30 rfl (lv_at hl 0 rfl) ?_
    refine gf_X1 (v := .ref a3) C hE hP 0 2 rfl (by decide) qF_X1_18 rfl dX1_add_31 ?_
    refine lv_aload_n hx hb dX1_add_34 rfl (lv_at hl 0 rfl) ?_
    refine gf_X1 (v := .int k_size) C hE hP 0 7 rfl (by decide) qF_X1_44 rfl dX1_add_35 ?_
    refine lv_iload_n hx hb dX1_add_38 rfl (lv_at hl 3 rfl) ?_
    obtain ⟨g5, hf⟩ := it_g hf
    refine va_iast hx hb hE.1 hP hD hS 3 0 rfl rfl g5 dX1_add_39 (fun H locs (hP : va_P D vwCl (MX1 cI cZ cL cW a0 a1 a2 a3 a4 a5 a6 a7 (upd k_keys (Int32.toNatClampNeg k_size) p1) (upd k_values (Int32.toNatClampNeg k_size) p2) (upd k_weights (Int32.toNatClampNeg k_size) p3) k_counts k_lasts k_tills k_pinned k_size k_load k_pinnedLoad k_uses k_aging k_halvings) H) (hD : va_D A (MX1 cI cZ cL cW a0 a1 a2 a3 a4 a5 a6 a7 (upd k_keys (Int32.toNatClampNeg k_size) p1) (upd k_values (Int32.toNatClampNeg k_size) p2) (upd k_weights (Int32.toNatClampNeg k_size) p3) k_counts k_lasts k_tills k_pinned k_size k_load k_pinnedLoad k_uses k_aging k_halvings)) hS => ?_)
    refine lv_aload_n hx hb dX1_add_40 rfl (lv_at hl 0 rfl) ?_
    refine gf_X1 (v := .ref a4) C hE hP 0 3 rfl (by decide) qF_X1_21 rfl dX1_add_41 ?_
    refine lv_aload_n hx hb dX1_add_44 rfl (lv_at hl 0 rfl) ?_
    refine gf_X1 (v := .int k_size) C hE hP 0 7 rfl (by decide) qF_X1_44 rfl dX1_add_45 ?_
    refine lv_iconst (v := 0) hx hb dX1_add_48 (by decide) ?_
    obtain ⟨g4, hf⟩ := it_g hf
    refine va_iast hx hb hE.1 hP hD hS 4 0 rfl rfl g4 dX1_add_49 (fun H locs (hP : va_P D vwCl (MX1 cI cZ cL cW a0 a1 a2 a3 a4 a5 a6 a7 (upd k_keys (Int32.toNatClampNeg k_size) p1) (upd k_values (Int32.toNatClampNeg k_size) p2) (upd k_weights (Int32.toNatClampNeg k_size) p3) (upd k_counts (Int32.toNatClampNeg k_size) 0) k_lasts k_tills k_pinned k_size k_load k_pinnedLoad k_uses k_aging k_halvings) H) (hD : va_D A (MX1 cI cZ cL cW a0 a1 a2 a3 a4 a5 a6 a7 (upd k_keys (Int32.toNatClampNeg k_size) p1) (upd k_values (Int32.toNatClampNeg k_size) p2) (upd k_weights (Int32.toNatClampNeg k_size) p3) (upd k_counts (Int32.toNatClampNeg k_size) 0) k_lasts k_tills k_pinned k_size k_load k_pinnedLoad k_uses k_aging k_halvings)) hS => ?_)
    refine lv_aload_n hx hb dX1_add_50 rfl (lv_at hl 0 rfl) ?_
    refine gf_X1 (v := .ref a5) C hE hP 0 4 rfl (by decide) qF_X1_24 rfl dX1_add_51 ?_
    refine lv_aload_n hx hb dX1_add_54 rfl (lv_at hl 0 rfl) ?_
    refine gf_X1 (v := .int k_size) C hE hP 0 7 rfl (by decide) qF_X1_44 rfl dX1_add_55 ?_
    refine lv_iconst (v := 0) hx hb dX1_add_58 (by decide) ?_
    obtain ⟨g3, hf⟩ := it_g hf
    refine va_iast hx hb hE.1 hP hD hS 5 0 rfl rfl g3 dX1_add_59 (fun H locs (hP : va_P D vwCl (MX1 cI cZ cL cW a0 a1 a2 a3 a4 a5 a6 a7 (upd k_keys (Int32.toNatClampNeg k_size) p1) (upd k_values (Int32.toNatClampNeg k_size) p2) (upd k_weights (Int32.toNatClampNeg k_size) p3) (upd k_counts (Int32.toNatClampNeg k_size) 0) (upd k_lasts (Int32.toNatClampNeg k_size) 0) k_tills k_pinned k_size k_load k_pinnedLoad k_uses k_aging k_halvings) H) (hD : va_D A (MX1 cI cZ cL cW a0 a1 a2 a3 a4 a5 a6 a7 (upd k_keys (Int32.toNatClampNeg k_size) p1) (upd k_values (Int32.toNatClampNeg k_size) p2) (upd k_weights (Int32.toNatClampNeg k_size) p3) (upd k_counts (Int32.toNatClampNeg k_size) 0) (upd k_lasts (Int32.toNatClampNeg k_size) 0) k_tills k_pinned k_size k_load k_pinnedLoad k_uses k_aging k_halvings)) hS => ?_)
    refine lv_aload_n hx hb dX1_add_60 rfl (lv_at hl 0 rfl) ?_
    refine gf_X1 (v := .ref a6) C hE hP 0 5 rfl (by decide) qF_X1_27 rfl dX1_add_61 ?_
    refine lv_aload_n hx hb dX1_add_64 rfl (lv_at hl 0 rfl) ?_
    refine gf_X1 (v := .int k_size) C hE hP 0 7 rfl (by decide) qF_X1_44 rfl dX1_add_65 ?_
    refine lv_iload hx hb dX1_add_68 (lv_at hl 4 rfl) ?_
    obtain ⟨g2, hf⟩ := it_g hf
    refine va_iast hx hb hE.1 hP hD hS 6 0 rfl rfl g2 dX1_add_70 (fun H locs (hP : va_P D vwCl (MX1 cI cZ cL cW a0 a1 a2 a3 a4 a5 a6 a7 (upd k_keys (Int32.toNatClampNeg k_size) p1) (upd k_values (Int32.toNatClampNeg k_size) p2) (upd k_weights (Int32.toNatClampNeg k_size) p3) (upd k_counts (Int32.toNatClampNeg k_size) 0) (upd k_lasts (Int32.toNatClampNeg k_size) 0) (upd k_tills (Int32.toNatClampNeg k_size) p4) k_pinned k_size k_load k_pinnedLoad k_uses k_aging k_halvings) H) (hD : va_D A (MX1 cI cZ cL cW a0 a1 a2 a3 a4 a5 a6 a7 (upd k_keys (Int32.toNatClampNeg k_size) p1) (upd k_values (Int32.toNatClampNeg k_size) p2) (upd k_weights (Int32.toNatClampNeg k_size) p3) (upd k_counts (Int32.toNatClampNeg k_size) 0) (upd k_lasts (Int32.toNatClampNeg k_size) 0) (upd k_tills (Int32.toNatClampNeg k_size) p4) k_pinned k_size k_load k_pinnedLoad k_uses k_aging k_halvings)) hS => ?_)
    refine lv_aload_n hx hb dX1_add_71 rfl (lv_at hl 0 rfl) ?_
    refine gf_X1 (v := .ref a7) C hE hP 0 6 rfl (by decide) qF_X1_30 rfl dX1_add_72 ?_
    refine lv_aload_n hx hb dX1_add_75 rfl (lv_at hl 0 rfl) ?_
    refine gf_X1 (v := .int k_size) C hE hP 0 7 rfl (by decide) qF_X1_44 rfl dX1_add_76 ?_
    refine lv_iconst (v := 0) hx hb dX1_add_79 (by decide) ?_
    obtain ⟨g1, hf⟩ := it_g hf
    refine va_zast hx hb hE.1 hP hD hS 7 1 rfl rfl g1 dX1_add_80 (fun H locs (hP : va_P D vwCl (MX1 cI cZ cL cW a0 a1 a2 a3 a4 a5 a6 a7 (upd k_keys (Int32.toNatClampNeg k_size) p1) (upd k_values (Int32.toNatClampNeg k_size) p2) (upd k_weights (Int32.toNatClampNeg k_size) p3) (upd k_counts (Int32.toNatClampNeg k_size) 0) (upd k_lasts (Int32.toNatClampNeg k_size) 0) (upd k_tills (Int32.toNatClampNeg k_size) p4) (upd k_pinned (Int32.toNatClampNeg k_size) (vp_nar .boolean 0)) k_size k_load k_pinnedLoad k_uses k_aging k_halvings) H) (hD : va_D A (MX1 cI cZ cL cW a0 a1 a2 a3 a4 a5 a6 a7 (upd k_keys (Int32.toNatClampNeg k_size) p1) (upd k_values (Int32.toNatClampNeg k_size) p2) (upd k_weights (Int32.toNatClampNeg k_size) p3) (upd k_counts (Int32.toNatClampNeg k_size) 0) (upd k_lasts (Int32.toNatClampNeg k_size) 0) (upd k_tills (Int32.toNatClampNeg k_size) p4) (upd k_pinned (Int32.toNatClampNeg k_size) (vp_nar .boolean 0)) k_size k_load k_pinnedLoad k_uses k_aging k_halvings)) hS => ?_)
    refine lv_aload_n hx hb dX1_add_81 rfl (lv_at hl 0 rfl) ?_
    refine lv_dup hx hb dX1_add_82 rfl ?_
    refine gf_X1 (v := .int k_size) C hE hP 0 7 rfl (by decide) qF_X1_44 rfl dX1_add_83 ?_
    refine lv_iconst (v := 1) hx hb dX1_add_86 (by decide) ?_
    refine lv_iadd hx hb dX1_add_87 ?_
    refine pf_X1 (v := .int (k_size + 1)) C hE hP hD hS 0 7 rfl (by decide) qF_X1_44 rfl rfl rfl (Nat.le_of_ble_eq_true rfl) dX1_add_88 (fun H locs (hP : va_P D vwCl (MX1 cI cZ cL cW a0 a1 a2 a3 a4 a5 a6 a7 (upd k_keys (Int32.toNatClampNeg k_size) p1) (upd k_values (Int32.toNatClampNeg k_size) p2) (upd k_weights (Int32.toNatClampNeg k_size) p3) (upd k_counts (Int32.toNatClampNeg k_size) 0) (upd k_lasts (Int32.toNatClampNeg k_size) 0) (upd k_tills (Int32.toNatClampNeg k_size) p4) (upd k_pinned (Int32.toNatClampNeg k_size) (vp_nar .boolean 0)) (k_size + 1) k_load k_pinnedLoad k_uses k_aging k_halvings) H) (hD : va_D A (MX1 cI cZ cL cW a0 a1 a2 a3 a4 a5 a6 a7 (upd k_keys (Int32.toNatClampNeg k_size) p1) (upd k_values (Int32.toNatClampNeg k_size) p2) (upd k_weights (Int32.toNatClampNeg k_size) p3) (upd k_counts (Int32.toNatClampNeg k_size) 0) (upd k_lasts (Int32.toNatClampNeg k_size) 0) (upd k_tills (Int32.toNatClampNeg k_size) p4) (upd k_pinned (Int32.toNatClampNeg k_size) (vp_nar .boolean 0)) (k_size + 1) k_load k_pinnedLoad k_uses k_aging k_halvings)) hS => ?_)
    refine lv_aload_n hx hb dX1_add_91 rfl (lv_at hl 0 rfl) ?_
    refine lv_dup hx hb dX1_add_92 rfl ?_
    refine gf_X1 (v := .int k_load) C hE hP 0 8 rfl (by decide) qF_X1_47 rfl dX1_add_93 ?_
    refine lv_iload_n hx hb dX1_add_96 rfl (lv_at hl 3 rfl) ?_
    refine lv_iadd hx hb dX1_add_97 ?_
    refine pf_X1 (v := .int (k_load + p3)) C hE hP hD hS 0 8 rfl (by decide) qF_X1_47 rfl rfl rfl (Nat.le_of_ble_eq_true rfl) dX1_add_98 (fun H locs (hP : va_P D vwCl (MX1 cI cZ cL cW a0 a1 a2 a3 a4 a5 a6 a7 (upd k_keys (Int32.toNatClampNeg k_size) p1) (upd k_values (Int32.toNatClampNeg k_size) p2) (upd k_weights (Int32.toNatClampNeg k_size) p3) (upd k_counts (Int32.toNatClampNeg k_size) 0) (upd k_lasts (Int32.toNatClampNeg k_size) 0) (upd k_tills (Int32.toNatClampNeg k_size) p4) (upd k_pinned (Int32.toNatClampNeg k_size) (vp_nar .boolean 0)) (k_size + 1) (k_load + p3) k_pinnedLoad k_uses k_aging k_halvings) H) (hD : va_D A (MX1 cI cZ cL cW a0 a1 a2 a3 a4 a5 a6 a7 (upd k_keys (Int32.toNatClampNeg k_size) p1) (upd k_values (Int32.toNatClampNeg k_size) p2) (upd k_weights (Int32.toNatClampNeg k_size) p3) (upd k_counts (Int32.toNatClampNeg k_size) 0) (upd k_lasts (Int32.toNatClampNeg k_size) 0) (upd k_tills (Int32.toNatClampNeg k_size) p4) (upd k_pinned (Int32.toNatClampNeg k_size) (vp_nar .boolean 0)) (k_size + 1) (k_load + p3) k_pinnedLoad k_uses k_aging k_halvings)) hS => ?_)
    cases hf
    exact rw_v C hr hlk hP hD hS dX1_add_101
  · have hf := it_n hf c8
    cases hf
    exact rw_v C hr hlk hP hD hS dX1_add_9
def X1_change (F : Nat) (p1 : Int32) (p2 : Int32) (p3 : Int32) (p4 : Int32) (k_values : (Nat → Int32)) (k_weights : (Nat → Int32)) (k_tills : (Nat → Int32)) (k_pinned : (Nat → Int32)) (k_size : Int32) (k_load : Int32) (k_pinnedLoad : Int32) : Option ((Nat → Int32) × (Nat → Int32) × (Nat → Int32) × Int32 × Int32) := (X1_has F p1 k_size).bind fun r1 => (if (r1 : Int32) = 0 then (some (k_values, k_weights, k_tills, k_load, k_pinnedLoad)) else (if (p1 : Int32) < 0 ∨ 60 ≤ (Int32.toNatClampNeg p1) then none else (if (p1 : Int32) < 0 ∨ 60 ≤ (Int32.toNatClampNeg p1) then none else (if ((k_pinned (Int32.toNatClampNeg p1)) : Int32) = 0 then (if (p1 : Int32) < 0 ∨ 60 ≤ (Int32.toNatClampNeg p1) then none else (if (p1 : Int32) < 0 ∨ 60 ≤ (Int32.toNatClampNeg p1) then none else (if (p1 : Int32) < 0 ∨ 60 ≤ (Int32.toNatClampNeg p1) then none else (some ((upd k_values (Int32.toNatClampNeg p1) p2), (upd k_weights (Int32.toNatClampNeg p1) p3), (upd k_tills (Int32.toNatClampNeg p1) p4), (k_load + (p3 - (k_weights (Int32.toNatClampNeg p1)))), k_pinnedLoad))))) else (if (p1 : Int32) < 0 ∨ 60 ≤ (Int32.toNatClampNeg p1) then none else (if (p1 : Int32) < 0 ∨ 60 ≤ (Int32.toNatClampNeg p1) then none else (if (p1 : Int32) < 0 ∨ 60 ≤ (Int32.toNatClampNeg p1) then none else (some ((upd k_values (Int32.toNatClampNeg p1) p2), (upd k_weights (Int32.toNatClampNeg p1) p3), (upd k_tills (Int32.toNatClampNeg p1) p4), (k_load + (p3 - (k_weights (Int32.toNatClampNeg p1)))), (k_pinnedLoad + (p3 - (k_weights (Int32.toNatClampNeg p1)))))))))))))
abbrev rm_X1_change : Room := { frames := 1, cells := 0, slots := 0, locals := 21 }
theorem ok_X1_change : OKV RX1 yX1_change cX1_change 6 none 4 := ⟨by decide +kernel, qV_X1_change, qL_X1_change, qI_X1, qD_X1_change⟩
set_option maxHeartbeats 4000000 in
set_option maxRecDepth 100000 in
theorem c_X1_change (l : Launch) (D : va_G) (cI cZ cL cW : ClassId) (F : Nat) (a0 : Nat) (a1 : Nat) (a2 : Nat) (a3 : Nat) (a4 : Nat) (a5 : Nat) (a6 : Nat) (a7 : Nat) (k_keys : (Nat → Int32)) (k_values : (Nat → Int32)) (k_weights : (Nat → Int32)) (k_counts : (Nat → Int32)) (k_lasts : (Nat → Int32)) (k_tills : (Nat → Int32)) (k_pinned : (Nat → Int32)) (k_size : Int32) (k_load : Int32) (k_pinnedLoad : Int32) (k_uses : Int32) (k_aging : Int32) (k_halvings : Int32) (p1 : Int32) (p2 : Int32) (p3 : Int32) (p4 : Int32) (k_values' : (Nat → Int32)) (k_weights' : (Nat → Int32)) (k_tills' : (Nat → Int32)) (k_load' : Int32) (k_pinnedLoad' : Int32) (hf : X1_change F p1 p2 p3 p4 k_values k_weights k_tills k_pinned k_size k_load k_pinnedLoad = some (k_values', k_weights', k_tills', k_load', k_pinnedLoad')) : CtrW l D (tyL cI cZ cL cW) nestW yX1_change cX1_change 6 none rm_X1_change [.ref a0, .int p1, .int p2, .int p3, .int p4] (MX1 cI cZ cL cW a0 a1 a2 a3 a4 a5 a6 a7 k_keys k_values k_weights k_counts k_lasts k_tills k_pinned k_size k_load k_pinnedLoad k_uses k_aging k_halvings) (MX1 cI cZ cL cW a0 a1 a2 a3 a4 a5 a6 a7 k_keys (k_values') (k_weights') k_counts k_lasts (k_tills') k_pinned k_size (k_load') (k_pinnedLoad') k_uses k_aging k_halvings) none := by
  refine ofA RX1 (by decide) rfl (Nat.le_of_ble_eq_true rfl) ?_
  intro p e s m below meth c ls A C hr hlk hE hA hP hD hS hl
  generalize (List.toArray ([.ref a0, .int p1, .int p2, .int p3, .int p4] : List Value)) = args at C ⊢
  obtain ⟨hx, hb, hml, hown, ht⟩ := id C
  have hl : lv_has ls 6 [(0, .ref a0), (1, .int p1), (2, .int p2), (3, .int p3), (4, .int p4)] := hl
  refine lv_aload_n hx hb dX1_change_0 rfl (lv_at hl 0 rfl) ?_
  refine lv_iload_n hx hb dX1_change_1 rfl (lv_at hl 1 rfl) ?_
  obtain ⟨r1, h2, hf⟩ := bd_s hf
  refine iv_R (rest := []) (st1 := [.int r1]) C hE hP (c_X1_has l D cI cZ cL cW F a0 a1 a2 a3 a4 a5 a6 a7 k_keys k_values k_weights k_counts k_lasts k_tills k_pinned k_size k_load k_pinnedLoad k_uses k_aging k_halvings p1 r1  h2) ok_X1_has qM_X1_59 rfl rfl ⟨(Nat.le_of_ble_eq_true rfl), (Nat.le_of_ble_eq_true rfl)⟩ rfl rfl hl.1 (Nat.le_of_ble_eq_true rfl) ⟨Nat.zero_le _, Nat.zero_le _⟩ dX1_change_2 rfl rfl ?_
  refine lv_if_ne (tgt := 9) hx hb dX1_change_5 (by decide) (fun c12 => ?_) (fun c12 => ?_)
  · have hf := it_n hf c12
    refine lv_iload_n hx hb dX1_change_9 rfl (lv_at hl 3 rfl) ?_
    refine lv_aload_n hx hb dX1_change_10 rfl (lv_at hl 0 rfl) ?_
    refine gf_X1 (v := .ref a3) C hE hP 0 2 rfl (by decide) qF_X1_18 rfl dX1_change_11 ?_
    refine lv_iload_n hx hb dX1_change_14 rfl (lv_at hl 1 rfl) ?_
    obtain ⟨g11, hf⟩ := it_g hf
    refine va_iald hx hb hE.1 hP 3 0 rfl rfl g11 dX1_change_15 ?_
    refine lv_isub hx hb dX1_change_16 ?_
    refine lv_istore (lv' := [(5, .int (p3 - (k_weights (Int32.toNatClampNeg p1)))), (0, .ref a0), (1, .int p1), (2, .int p2), (3, .int p3), (4, .int p4)]) hx hb dX1_change_17 hl (by decide) rfl (fun ls hl => ?_)
    refine lv_aload_n hx hb dX1_change_19 rfl (lv_at hl 1 rfl) ?_
    refine lv_dup hx hb dX1_change_20 rfl ?_
    refine gf_X1 (v := .int k_load) C hE hP 0 8 rfl (by decide) qF_X1_47 rfl dX1_change_21 ?_
    refine lv_iload hx hb dX1_change_24 (lv_at hl 0 rfl) ?_
    refine lv_iadd hx hb dX1_change_26 ?_
    refine pf_X1 (v := .int (k_load + (p3 - (k_weights (Int32.toNatClampNeg p1))))) C hE hP hD hS 0 8 rfl (by decide) qF_X1_47 rfl rfl rfl (Nat.le_of_ble_eq_true rfl) dX1_change_27 (fun H locs (hP : va_P D vwCl (MX1 cI cZ cL cW a0 a1 a2 a3 a4 a5 a6 a7 k_keys k_values k_weights k_counts k_lasts k_tills k_pinned k_size (k_load + (p3 - (k_weights (Int32.toNatClampNeg p1)))) k_pinnedLoad k_uses k_aging k_halvings) H) (hD : va_D A (MX1 cI cZ cL cW a0 a1 a2 a3 a4 a5 a6 a7 k_keys k_values k_weights k_counts k_lasts k_tills k_pinned k_size (k_load + (p3 - (k_weights (Int32.toNatClampNeg p1)))) k_pinnedLoad k_uses k_aging k_halvings)) hS => ?_)
    refine lv_aload_n hx hb dX1_change_30 rfl (lv_at hl 1 rfl) ?_
    refine gf_X1 (v := .ref a7) C hE hP 0 6 rfl (by decide) qF_X1_30 rfl dX1_change_31 ?_
    refine lv_iload_n hx hb dX1_change_34 rfl (lv_at hl 2 rfl) ?_
    obtain ⟨g10, hf⟩ := it_g hf
    refine va_zald hx hb hE.1 hP 7 1 rfl rfl g10 dX1_change_35 ?_
    refine lv_if_eq (tgt := 50) hx hb dX1_change_36 (by decide) (fun c9 => ?_) (fun c9 => ?_)
    · have hf := it_p hf c9
      refine lv_aload_n hx hb dX1_change_50 rfl (lv_at hl 1 rfl) ?_
      refine gf_X1 (v := .ref a2) C hE hP 0 1 rfl (by decide) qF_X1_15 rfl dX1_change_51 ?_
      refine lv_iload_n hx hb dX1_change_54 rfl (lv_at hl 2 rfl) ?_
      refine lv_iload_n hx hb dX1_change_55 rfl (lv_at hl 3 rfl) ?_
      obtain ⟨g5, hf⟩ := it_g hf
      refine va_iast hx hb hE.1 hP hD hS 2 0 rfl rfl g5 dX1_change_56 (fun H locs (hP : va_P D vwCl (MX1 cI cZ cL cW a0 a1 a2 a3 a4 a5 a6 a7 k_keys (upd k_values (Int32.toNatClampNeg p1) p2) k_weights k_counts k_lasts k_tills k_pinned k_size (k_load + (p3 - (k_weights (Int32.toNatClampNeg p1)))) k_pinnedLoad k_uses k_aging k_halvings) H) (hD : va_D A (MX1 cI cZ cL cW a0 a1 a2 a3 a4 a5 a6 a7 k_keys (upd k_values (Int32.toNatClampNeg p1) p2) k_weights k_counts k_lasts k_tills k_pinned k_size (k_load + (p3 - (k_weights (Int32.toNatClampNeg p1)))) k_pinnedLoad k_uses k_aging k_halvings)) hS => ?_)
      refine lv_aload_n hx hb dX1_change_57 rfl (lv_at hl 1 rfl) ?_
      refine gf_X1 (v := .ref a3) C hE hP 0 2 rfl (by decide) qF_X1_18 rfl dX1_change_58 ?_
      refine lv_iload_n hx hb dX1_change_61 rfl (lv_at hl 2 rfl) ?_
      refine lv_iload_n hx hb dX1_change_62 rfl (lv_at hl 4 rfl) ?_
      obtain ⟨g4, hf⟩ := it_g hf
      refine va_iast hx hb hE.1 hP hD hS 3 0 rfl rfl g4 dX1_change_63 (fun H locs (hP : va_P D vwCl (MX1 cI cZ cL cW a0 a1 a2 a3 a4 a5 a6 a7 k_keys (upd k_values (Int32.toNatClampNeg p1) p2) (upd k_weights (Int32.toNatClampNeg p1) p3) k_counts k_lasts k_tills k_pinned k_size (k_load + (p3 - (k_weights (Int32.toNatClampNeg p1)))) k_pinnedLoad k_uses k_aging k_halvings) H) (hD : va_D A (MX1 cI cZ cL cW a0 a1 a2 a3 a4 a5 a6 a7 k_keys (upd k_values (Int32.toNatClampNeg p1) p2) (upd k_weights (Int32.toNatClampNeg p1) p3) k_counts k_lasts k_tills k_pinned k_size (k_load + (p3 - (k_weights (Int32.toNatClampNeg p1)))) k_pinnedLoad k_uses k_aging k_halvings)) hS => ?_)
      refine lv_aload_n hx hb dX1_change_64 rfl (lv_at hl 1 rfl) ?_
      refine gf_X1 (v := .ref a6) C hE hP 0 5 rfl (by decide) qF_X1_27 rfl dX1_change_65 ?_
      refine lv_iload_n hx hb dX1_change_68 rfl (lv_at hl 2 rfl) ?_
      refine lv_iload hx hb dX1_change_69 (lv_at hl 5 rfl) ?_
      obtain ⟨g3, hf⟩ := it_g hf
      refine va_iast hx hb hE.1 hP hD hS 6 0 rfl rfl g3 dX1_change_71 (fun H locs (hP : va_P D vwCl (MX1 cI cZ cL cW a0 a1 a2 a3 a4 a5 a6 a7 k_keys (upd k_values (Int32.toNatClampNeg p1) p2) (upd k_weights (Int32.toNatClampNeg p1) p3) k_counts k_lasts (upd k_tills (Int32.toNatClampNeg p1) p4) k_pinned k_size (k_load + (p3 - (k_weights (Int32.toNatClampNeg p1)))) k_pinnedLoad k_uses k_aging k_halvings) H) (hD : va_D A (MX1 cI cZ cL cW a0 a1 a2 a3 a4 a5 a6 a7 k_keys (upd k_values (Int32.toNatClampNeg p1) p2) (upd k_weights (Int32.toNatClampNeg p1) p3) k_counts k_lasts (upd k_tills (Int32.toNatClampNeg p1) p4) k_pinned k_size (k_load + (p3 - (k_weights (Int32.toNatClampNeg p1)))) k_pinnedLoad k_uses k_aging k_halvings)) hS => ?_)
      cases hf
      exact rw_v C hr hlk hP hD hS dX1_change_72
    · have hf := it_n hf c9
      refine lv_aload_n hx hb dX1_change_39 rfl (lv_at hl 1 rfl) ?_
      refine lv_dup hx hb dX1_change_40 rfl ?_
      refine gf_X1 (v := .int k_pinnedLoad) C hE hP 0 9 rfl (by decide) qF_X1_50 rfl dX1_change_41 ?_
      refine lv_iload hx hb dX1_change_44 (lv_at hl 0 rfl) ?_
      refine lv_iadd hx hb dX1_change_46 ?_
      refine pf_X1 (v := .int (k_pinnedLoad + (p3 - (k_weights (Int32.toNatClampNeg p1))))) C hE hP hD hS 0 9 rfl (by decide) qF_X1_50 rfl rfl rfl (Nat.le_of_ble_eq_true rfl) dX1_change_47 (fun H locs (hP : va_P D vwCl (MX1 cI cZ cL cW a0 a1 a2 a3 a4 a5 a6 a7 k_keys k_values k_weights k_counts k_lasts k_tills k_pinned k_size (k_load + (p3 - (k_weights (Int32.toNatClampNeg p1)))) (k_pinnedLoad + (p3 - (k_weights (Int32.toNatClampNeg p1)))) k_uses k_aging k_halvings) H) (hD : va_D A (MX1 cI cZ cL cW a0 a1 a2 a3 a4 a5 a6 a7 k_keys k_values k_weights k_counts k_lasts k_tills k_pinned k_size (k_load + (p3 - (k_weights (Int32.toNatClampNeg p1)))) (k_pinnedLoad + (p3 - (k_weights (Int32.toNatClampNeg p1)))) k_uses k_aging k_halvings)) hS => ?_)
      refine lv_aload_n hx hb dX1_change_50 rfl (lv_at hl 1 rfl) ?_
      refine gf_X1 (v := .ref a2) C hE hP 0 1 rfl (by decide) qF_X1_15 rfl dX1_change_51 ?_
      refine lv_iload_n hx hb dX1_change_54 rfl (lv_at hl 2 rfl) ?_
      refine lv_iload_n hx hb dX1_change_55 rfl (lv_at hl 3 rfl) ?_
      obtain ⟨g8, hf⟩ := it_g hf
      refine va_iast hx hb hE.1 hP hD hS 2 0 rfl rfl g8 dX1_change_56 (fun H locs (hP : va_P D vwCl (MX1 cI cZ cL cW a0 a1 a2 a3 a4 a5 a6 a7 k_keys (upd k_values (Int32.toNatClampNeg p1) p2) k_weights k_counts k_lasts k_tills k_pinned k_size (k_load + (p3 - (k_weights (Int32.toNatClampNeg p1)))) (k_pinnedLoad + (p3 - (k_weights (Int32.toNatClampNeg p1)))) k_uses k_aging k_halvings) H) (hD : va_D A (MX1 cI cZ cL cW a0 a1 a2 a3 a4 a5 a6 a7 k_keys (upd k_values (Int32.toNatClampNeg p1) p2) k_weights k_counts k_lasts k_tills k_pinned k_size (k_load + (p3 - (k_weights (Int32.toNatClampNeg p1)))) (k_pinnedLoad + (p3 - (k_weights (Int32.toNatClampNeg p1)))) k_uses k_aging k_halvings)) hS => ?_)
      refine lv_aload_n hx hb dX1_change_57 rfl (lv_at hl 1 rfl) ?_
      refine gf_X1 (v := .ref a3) C hE hP 0 2 rfl (by decide) qF_X1_18 rfl dX1_change_58 ?_
      refine lv_iload_n hx hb dX1_change_61 rfl (lv_at hl 2 rfl) ?_
      refine lv_iload_n hx hb dX1_change_62 rfl (lv_at hl 4 rfl) ?_
      obtain ⟨g7, hf⟩ := it_g hf
      refine va_iast hx hb hE.1 hP hD hS 3 0 rfl rfl g7 dX1_change_63 (fun H locs (hP : va_P D vwCl (MX1 cI cZ cL cW a0 a1 a2 a3 a4 a5 a6 a7 k_keys (upd k_values (Int32.toNatClampNeg p1) p2) (upd k_weights (Int32.toNatClampNeg p1) p3) k_counts k_lasts k_tills k_pinned k_size (k_load + (p3 - (k_weights (Int32.toNatClampNeg p1)))) (k_pinnedLoad + (p3 - (k_weights (Int32.toNatClampNeg p1)))) k_uses k_aging k_halvings) H) (hD : va_D A (MX1 cI cZ cL cW a0 a1 a2 a3 a4 a5 a6 a7 k_keys (upd k_values (Int32.toNatClampNeg p1) p2) (upd k_weights (Int32.toNatClampNeg p1) p3) k_counts k_lasts k_tills k_pinned k_size (k_load + (p3 - (k_weights (Int32.toNatClampNeg p1)))) (k_pinnedLoad + (p3 - (k_weights (Int32.toNatClampNeg p1)))) k_uses k_aging k_halvings)) hS => ?_)
      refine lv_aload_n hx hb dX1_change_64 rfl (lv_at hl 1 rfl) ?_
      refine gf_X1 (v := .ref a6) C hE hP 0 5 rfl (by decide) qF_X1_27 rfl dX1_change_65 ?_
      refine lv_iload_n hx hb dX1_change_68 rfl (lv_at hl 2 rfl) ?_
      refine lv_iload hx hb dX1_change_69 (lv_at hl 5 rfl) ?_
      obtain ⟨g6, hf⟩ := it_g hf
      refine va_iast hx hb hE.1 hP hD hS 6 0 rfl rfl g6 dX1_change_71 (fun H locs (hP : va_P D vwCl (MX1 cI cZ cL cW a0 a1 a2 a3 a4 a5 a6 a7 k_keys (upd k_values (Int32.toNatClampNeg p1) p2) (upd k_weights (Int32.toNatClampNeg p1) p3) k_counts k_lasts (upd k_tills (Int32.toNatClampNeg p1) p4) k_pinned k_size (k_load + (p3 - (k_weights (Int32.toNatClampNeg p1)))) (k_pinnedLoad + (p3 - (k_weights (Int32.toNatClampNeg p1)))) k_uses k_aging k_halvings) H) (hD : va_D A (MX1 cI cZ cL cW a0 a1 a2 a3 a4 a5 a6 a7 k_keys (upd k_values (Int32.toNatClampNeg p1) p2) (upd k_weights (Int32.toNatClampNeg p1) p3) k_counts k_lasts (upd k_tills (Int32.toNatClampNeg p1) p4) k_pinned k_size (k_load + (p3 - (k_weights (Int32.toNatClampNeg p1)))) (k_pinnedLoad + (p3 - (k_weights (Int32.toNatClampNeg p1)))) k_uses k_aging k_halvings)) hS => ?_)
      cases hf
      exact rw_v C hr hlk hP hD hS dX1_change_72
  · have hf := it_p hf c12
    cases hf
    exact rw_v C hr hlk hP hD hS dX1_change_8
def X1_drop (F : Nat) (p1 : Int32) (k_keys : (Nat → Int32)) (k_values : (Nat → Int32)) (k_weights : (Nat → Int32)) (k_counts : (Nat → Int32)) (k_lasts : (Nat → Int32)) (k_tills : (Nat → Int32)) (k_pinned : (Nat → Int32)) (k_size : Int32) (k_load : Int32) (k_pinnedLoad : Int32) : Option ((Nat → Int32) × (Nat → Int32) × (Nat → Int32) × (Nat → Int32) × (Nat → Int32) × (Nat → Int32) × (Nat → Int32) × Int32 × Int32 × Int32) := (X1_has F p1 k_size).bind fun r1 => (if (r1 : Int32) = 0 then (some (k_keys, k_values, k_weights, k_counts, k_lasts, k_tills, k_pinned, k_size, k_load, k_pinnedLoad)) else (if (p1 : Int32) < 0 ∨ 60 ≤ (Int32.toNatClampNeg p1) then none else (if (p1 : Int32) < 0 ∨ 60 ≤ (Int32.toNatClampNeg p1) then none else (if ((k_pinned (Int32.toNatClampNeg p1)) : Int32) = 0 then (if ((k_size - 1) : Int32) < 0 ∨ 60 ≤ (Int32.toNatClampNeg (k_size - 1)) then none else (if (p1 : Int32) < 0 ∨ 60 ≤ (Int32.toNatClampNeg p1) then none else (if ((k_size - 1) : Int32) < 0 ∨ 60 ≤ (Int32.toNatClampNeg (k_size - 1)) then none else (if (p1 : Int32) < 0 ∨ 60 ≤ (Int32.toNatClampNeg p1) then none else (if ((k_size - 1) : Int32) < 0 ∨ 60 ≤ (Int32.toNatClampNeg (k_size - 1)) then none else (if (p1 : Int32) < 0 ∨ 60 ≤ (Int32.toNatClampNeg p1) then none else (if ((k_size - 1) : Int32) < 0 ∨ 60 ≤ (Int32.toNatClampNeg (k_size - 1)) then none else (if (p1 : Int32) < 0 ∨ 60 ≤ (Int32.toNatClampNeg p1) then none else (if ((k_size - 1) : Int32) < 0 ∨ 60 ≤ (Int32.toNatClampNeg (k_size - 1)) then none else (if (p1 : Int32) < 0 ∨ 60 ≤ (Int32.toNatClampNeg p1) then none else (if ((k_size - 1) : Int32) < 0 ∨ 60 ≤ (Int32.toNatClampNeg (k_size - 1)) then none else (if (p1 : Int32) < 0 ∨ 60 ≤ (Int32.toNatClampNeg p1) then none else (if ((k_size - 1) : Int32) < 0 ∨ 60 ≤ (Int32.toNatClampNeg (k_size - 1)) then none else (if (p1 : Int32) < 0 ∨ 60 ≤ (Int32.toNatClampNeg p1) then none else (some ((upd k_keys (Int32.toNatClampNeg p1) (k_keys (Int32.toNatClampNeg (k_size - 1)))), (upd k_values (Int32.toNatClampNeg p1) (k_values (Int32.toNatClampNeg (k_size - 1)))), (upd k_weights (Int32.toNatClampNeg p1) (k_weights (Int32.toNatClampNeg (k_size - 1)))), (upd k_counts (Int32.toNatClampNeg p1) (k_counts (Int32.toNatClampNeg (k_size - 1)))), (upd k_lasts (Int32.toNatClampNeg p1) (k_lasts (Int32.toNatClampNeg (k_size - 1)))), (upd k_tills (Int32.toNatClampNeg p1) (k_tills (Int32.toNatClampNeg (k_size - 1)))), (upd k_pinned (Int32.toNatClampNeg p1) (vp_nar .boolean (k_pinned (Int32.toNatClampNeg (k_size - 1))))), (k_size - 1), (k_load - (k_weights (Int32.toNatClampNeg p1))), k_pinnedLoad)))))))))))))))) else (if (p1 : Int32) < 0 ∨ 60 ≤ (Int32.toNatClampNeg p1) then none else (if ((k_size - 1) : Int32) < 0 ∨ 60 ≤ (Int32.toNatClampNeg (k_size - 1)) then none else (if (p1 : Int32) < 0 ∨ 60 ≤ (Int32.toNatClampNeg p1) then none else (if ((k_size - 1) : Int32) < 0 ∨ 60 ≤ (Int32.toNatClampNeg (k_size - 1)) then none else (if (p1 : Int32) < 0 ∨ 60 ≤ (Int32.toNatClampNeg p1) then none else (if ((k_size - 1) : Int32) < 0 ∨ 60 ≤ (Int32.toNatClampNeg (k_size - 1)) then none else (if (p1 : Int32) < 0 ∨ 60 ≤ (Int32.toNatClampNeg p1) then none else (if ((k_size - 1) : Int32) < 0 ∨ 60 ≤ (Int32.toNatClampNeg (k_size - 1)) then none else (if (p1 : Int32) < 0 ∨ 60 ≤ (Int32.toNatClampNeg p1) then none else (if ((k_size - 1) : Int32) < 0 ∨ 60 ≤ (Int32.toNatClampNeg (k_size - 1)) then none else (if (p1 : Int32) < 0 ∨ 60 ≤ (Int32.toNatClampNeg p1) then none else (if ((k_size - 1) : Int32) < 0 ∨ 60 ≤ (Int32.toNatClampNeg (k_size - 1)) then none else (if (p1 : Int32) < 0 ∨ 60 ≤ (Int32.toNatClampNeg p1) then none else (if ((k_size - 1) : Int32) < 0 ∨ 60 ≤ (Int32.toNatClampNeg (k_size - 1)) then none else (if (p1 : Int32) < 0 ∨ 60 ≤ (Int32.toNatClampNeg p1) then none else (some ((upd k_keys (Int32.toNatClampNeg p1) (k_keys (Int32.toNatClampNeg (k_size - 1)))), (upd k_values (Int32.toNatClampNeg p1) (k_values (Int32.toNatClampNeg (k_size - 1)))), (upd k_weights (Int32.toNatClampNeg p1) (k_weights (Int32.toNatClampNeg (k_size - 1)))), (upd k_counts (Int32.toNatClampNeg p1) (k_counts (Int32.toNatClampNeg (k_size - 1)))), (upd k_lasts (Int32.toNatClampNeg p1) (k_lasts (Int32.toNatClampNeg (k_size - 1)))), (upd k_tills (Int32.toNatClampNeg p1) (k_tills (Int32.toNatClampNeg (k_size - 1)))), (upd k_pinned (Int32.toNatClampNeg p1) (vp_nar .boolean (k_pinned (Int32.toNatClampNeg (k_size - 1))))), (k_size - 1), (k_load - (k_weights (Int32.toNatClampNeg p1))), (k_pinnedLoad - (k_weights (Int32.toNatClampNeg p1))))))))))))))))))))))))
abbrev rm_X1_drop : Room := { frames := 1, cells := 0, slots := 0, locals := 21 }
theorem ok_X1_drop : OKV RX1 yX1_drop cX1_drop 2 none 1 := ⟨by decide +kernel, qV_X1_drop, qL_X1_drop, qI_X1, qD_X1_drop⟩
set_option maxHeartbeats 4000000 in
set_option maxRecDepth 100000 in
theorem c_X1_drop (l : Launch) (D : va_G) (cI cZ cL cW : ClassId) (F : Nat) (a0 : Nat) (a1 : Nat) (a2 : Nat) (a3 : Nat) (a4 : Nat) (a5 : Nat) (a6 : Nat) (a7 : Nat) (k_keys : (Nat → Int32)) (k_values : (Nat → Int32)) (k_weights : (Nat → Int32)) (k_counts : (Nat → Int32)) (k_lasts : (Nat → Int32)) (k_tills : (Nat → Int32)) (k_pinned : (Nat → Int32)) (k_size : Int32) (k_load : Int32) (k_pinnedLoad : Int32) (k_uses : Int32) (k_aging : Int32) (k_halvings : Int32) (p1 : Int32) (k_keys' : (Nat → Int32)) (k_values' : (Nat → Int32)) (k_weights' : (Nat → Int32)) (k_counts' : (Nat → Int32)) (k_lasts' : (Nat → Int32)) (k_tills' : (Nat → Int32)) (k_pinned' : (Nat → Int32)) (k_size' : Int32) (k_load' : Int32) (k_pinnedLoad' : Int32) (hf : X1_drop F p1 k_keys k_values k_weights k_counts k_lasts k_tills k_pinned k_size k_load k_pinnedLoad = some (k_keys', k_values', k_weights', k_counts', k_lasts', k_tills', k_pinned', k_size', k_load', k_pinnedLoad')) : CtrW l D (tyL cI cZ cL cW) nestW yX1_drop cX1_drop 2 none rm_X1_drop [.ref a0, .int p1] (MX1 cI cZ cL cW a0 a1 a2 a3 a4 a5 a6 a7 k_keys k_values k_weights k_counts k_lasts k_tills k_pinned k_size k_load k_pinnedLoad k_uses k_aging k_halvings) (MX1 cI cZ cL cW a0 a1 a2 a3 a4 a5 a6 a7 (k_keys') (k_values') (k_weights') (k_counts') (k_lasts') (k_tills') (k_pinned') (k_size') (k_load') (k_pinnedLoad') k_uses k_aging k_halvings) none := by
  refine ofA RX1 (by decide) rfl (Nat.le_of_ble_eq_true rfl) ?_
  intro p e s m below meth c ls A C hr hlk hE hA hP hD hS hl
  generalize (List.toArray ([.ref a0, .int p1] : List Value)) = args at C ⊢
  obtain ⟨hx, hb, hml, hown, ht⟩ := id C
  have hl : lv_has ls 2 [(0, .ref a0), (1, .int p1)] := hl
  refine lv_aload_n hx hb dX1_drop_0 rfl (lv_at hl 0 rfl) ?_
  refine lv_iload_n hx hb dX1_drop_1 rfl (lv_at hl 1 rfl) ?_
  obtain ⟨r1, h2, hf⟩ := bd_s hf
  refine iv_R (rest := []) (st1 := [.int r1]) C hE hP (c_X1_has l D cI cZ cL cW F a0 a1 a2 a3 a4 a5 a6 a7 k_keys k_values k_weights k_counts k_lasts k_tills k_pinned k_size k_load k_pinnedLoad k_uses k_aging k_halvings p1 r1  h2) ok_X1_has qM_X1_59 rfl rfl ⟨(Nat.le_of_ble_eq_true rfl), (Nat.le_of_ble_eq_true rfl)⟩ rfl rfl hl.1 (Nat.le_of_ble_eq_true rfl) ⟨Nat.zero_le _, Nat.zero_le _⟩ dX1_drop_2 rfl rfl ?_
  refine lv_if_ne (tgt := 9) hx hb dX1_drop_5 (by decide) (fun c35 => ?_) (fun c35 => ?_)
  · have hf := it_n hf c35
    refine lv_aload_n hx hb dX1_drop_9 rfl (lv_at hl 0 rfl) ?_
    refine lv_dup hx hb dX1_drop_10 rfl ?_
    refine gf_X1 (v := .int k_load) C hE hP 0 8 rfl (by decide) qF_X1_47 rfl dX1_drop_11 ?_
    refine lv_aload_n hx hb dX1_drop_14 rfl (lv_at hl 0 rfl) ?_
    refine gf_X1 (v := .ref a3) C hE hP 0 2 rfl (by decide) qF_X1_18 rfl dX1_drop_15 ?_
    refine lv_iload_n hx hb dX1_drop_18 rfl (lv_at hl 1 rfl) ?_
    obtain ⟨g34, hf⟩ := it_g hf
    refine va_iald hx hb hE.1 hP 3 0 rfl rfl g34 dX1_drop_19 ?_
    refine lv_isub hx hb dX1_drop_20 ?_
    refine pf_X1 (v := .int (k_load - (k_weights (Int32.toNatClampNeg p1)))) C hE hP hD hS 0 8 rfl (by decide) qF_X1_47 rfl rfl rfl (Nat.le_of_ble_eq_true rfl) dX1_drop_21 (fun H locs (hP : va_P D vwCl (MX1 cI cZ cL cW a0 a1 a2 a3 a4 a5 a6 a7 k_keys k_values k_weights k_counts k_lasts k_tills k_pinned k_size (k_load - (k_weights (Int32.toNatClampNeg p1))) k_pinnedLoad k_uses k_aging k_halvings) H) (hD : va_D A (MX1 cI cZ cL cW a0 a1 a2 a3 a4 a5 a6 a7 k_keys k_values k_weights k_counts k_lasts k_tills k_pinned k_size (k_load - (k_weights (Int32.toNatClampNeg p1))) k_pinnedLoad k_uses k_aging k_halvings)) hS => ?_)
    refine lv_aload_n hx hb dX1_drop_24 rfl (lv_at hl 0 rfl) ?_
    refine gf_X1 (v := .ref a7) C hE hP 0 6 rfl (by decide) qF_X1_30 rfl dX1_drop_25 ?_
    refine lv_iload_n hx hb dX1_drop_28 rfl (lv_at hl 1 rfl) ?_
    obtain ⟨g33, hf⟩ := it_g hf
    refine va_zald hx hb hE.1 hP 7 1 rfl rfl g33 dX1_drop_29 ?_
    refine lv_if_eq (tgt := 48) hx hb dX1_drop_30 (by decide) (fun c32 => ?_) (fun c32 => ?_)
    · have hf := it_p hf c32
      refine lv_aload_n hx hb dX1_drop_48 rfl (lv_at hl 0 rfl) ?_
      refine lv_dup hx hb dX1_drop_49 rfl ?_
      refine gf_X1 (v := .int k_size) C hE hP 0 7 rfl (by decide) qF_X1_44 rfl dX1_drop_50 ?_
      refine lv_iconst (v := 1) hx hb dX1_drop_53 (by decide) ?_
      refine lv_isub hx hb dX1_drop_54 ?_
      refine pf_X1 (v := .int (k_size - 1)) C hE hP hD hS 0 7 rfl (by decide) qF_X1_44 rfl rfl rfl (Nat.le_of_ble_eq_true rfl) dX1_drop_55 (fun H locs (hP : va_P D vwCl (MX1 cI cZ cL cW a0 a1 a2 a3 a4 a5 a6 a7 k_keys k_values k_weights k_counts k_lasts k_tills k_pinned (k_size - 1) (k_load - (k_weights (Int32.toNatClampNeg p1))) k_pinnedLoad k_uses k_aging k_halvings) H) (hD : va_D A (MX1 cI cZ cL cW a0 a1 a2 a3 a4 a5 a6 a7 k_keys k_values k_weights k_counts k_lasts k_tills k_pinned (k_size - 1) (k_load - (k_weights (Int32.toNatClampNeg p1))) k_pinnedLoad k_uses k_aging k_halvings)) hS => ?_)
      refine lv_aload_n hx hb dX1_drop_58 rfl (lv_at hl 0 rfl) ?_
      refine gf_X1 (v := .ref a1) C hE hP 0 0 rfl (by decide) qF_X1_9 rfl dX1_drop_59 ?_
      refine lv_iload_n hx hb dX1_drop_62 rfl (lv_at hl 1 rfl) ?_
      refine lv_aload_n hx hb dX1_drop_63 rfl (lv_at hl 0 rfl) ?_
      refine gf_X1 (v := .ref a1) C hE hP 0 0 rfl (by decide) qF_X1_9 rfl dX1_drop_64 ?_
      refine lv_aload_n hx hb dX1_drop_67 rfl (lv_at hl 0 rfl) ?_
      refine gf_X1 (v := .int (k_size - 1)) C hE hP 0 7 rfl (by decide) qF_X1_44 rfl dX1_drop_68 ?_
      obtain ⟨g16, hf⟩ := it_g hf
      refine va_iald hx hb hE.1 hP 1 0 rfl rfl g16 dX1_drop_71 ?_
      obtain ⟨g15, hf⟩ := it_g hf
      refine va_iast hx hb hE.1 hP hD hS 1 0 rfl rfl g15 dX1_drop_72 (fun H locs (hP : va_P D vwCl (MX1 cI cZ cL cW a0 a1 a2 a3 a4 a5 a6 a7 (upd k_keys (Int32.toNatClampNeg p1) (k_keys (Int32.toNatClampNeg (k_size - 1)))) k_values k_weights k_counts k_lasts k_tills k_pinned (k_size - 1) (k_load - (k_weights (Int32.toNatClampNeg p1))) k_pinnedLoad k_uses k_aging k_halvings) H) (hD : va_D A (MX1 cI cZ cL cW a0 a1 a2 a3 a4 a5 a6 a7 (upd k_keys (Int32.toNatClampNeg p1) (k_keys (Int32.toNatClampNeg (k_size - 1)))) k_values k_weights k_counts k_lasts k_tills k_pinned (k_size - 1) (k_load - (k_weights (Int32.toNatClampNeg p1))) k_pinnedLoad k_uses k_aging k_halvings)) hS => ?_)
      refine lv_aload_n hx hb dX1_drop_73 rfl (lv_at hl 0 rfl) ?_
      refine gf_X1 (v := .ref a2) C hE hP 0 1 rfl (by decide) qF_X1_15 rfl dX1_drop_74 ?_
      refine lv_iload_n hx hb dX1_drop_77 rfl (lv_at hl 1 rfl) ?_
      refine lv_aload_n hx hb dX1_drop_78 rfl (lv_at hl 0 rfl) ?_
      refine gf_X1 (v := .ref a2) C hE hP 0 1 rfl (by decide) qF_X1_15 rfl dX1_drop_79 ?_
      refine lv_aload_n hx hb dX1_drop_82 rfl (lv_at hl 0 rfl) ?_
      refine gf_X1 (v := .int (k_size - 1)) C hE hP 0 7 rfl (by decide) qF_X1_44 rfl dX1_drop_83 ?_
      obtain ⟨g14, hf⟩ := it_g hf
      refine va_iald hx hb hE.1 hP 2 0 rfl rfl g14 dX1_drop_86 ?_
      obtain ⟨g13, hf⟩ := it_g hf
      refine va_iast hx hb hE.1 hP hD hS 2 0 rfl rfl g13 dX1_drop_87 (fun H locs (hP : va_P D vwCl (MX1 cI cZ cL cW a0 a1 a2 a3 a4 a5 a6 a7 (upd k_keys (Int32.toNatClampNeg p1) (k_keys (Int32.toNatClampNeg (k_size - 1)))) (upd k_values (Int32.toNatClampNeg p1) (k_values (Int32.toNatClampNeg (k_size - 1)))) k_weights k_counts k_lasts k_tills k_pinned (k_size - 1) (k_load - (k_weights (Int32.toNatClampNeg p1))) k_pinnedLoad k_uses k_aging k_halvings) H) (hD : va_D A (MX1 cI cZ cL cW a0 a1 a2 a3 a4 a5 a6 a7 (upd k_keys (Int32.toNatClampNeg p1) (k_keys (Int32.toNatClampNeg (k_size - 1)))) (upd k_values (Int32.toNatClampNeg p1) (k_values (Int32.toNatClampNeg (k_size - 1)))) k_weights k_counts k_lasts k_tills k_pinned (k_size - 1) (k_load - (k_weights (Int32.toNatClampNeg p1))) k_pinnedLoad k_uses k_aging k_halvings)) hS => ?_)
      refine lv_aload_n hx hb dX1_drop_88 rfl (lv_at hl 0 rfl) ?_
      refine gf_X1 (v := .ref a3) C hE hP 0 2 rfl (by decide) qF_X1_18 rfl dX1_drop_89 ?_
      refine lv_iload_n hx hb dX1_drop_92 rfl (lv_at hl 1 rfl) ?_
      refine lv_aload_n hx hb dX1_drop_93 rfl (lv_at hl 0 rfl) ?_
      refine gf_X1 (v := .ref a3) C hE hP 0 2 rfl (by decide) qF_X1_18 rfl dX1_drop_94 ?_
      refine lv_aload_n hx hb dX1_drop_97 rfl (lv_at hl 0 rfl) ?_
      refine gf_X1 (v := .int (k_size - 1)) C hE hP 0 7 rfl (by decide) qF_X1_44 rfl dX1_drop_98 ?_
      obtain ⟨g12, hf⟩ := it_g hf
      refine va_iald hx hb hE.1 hP 3 0 rfl rfl g12 dX1_drop_101 ?_
      obtain ⟨g11, hf⟩ := it_g hf
      refine va_iast hx hb hE.1 hP hD hS 3 0 rfl rfl g11 dX1_drop_102 (fun H locs (hP : va_P D vwCl (MX1 cI cZ cL cW a0 a1 a2 a3 a4 a5 a6 a7 (upd k_keys (Int32.toNatClampNeg p1) (k_keys (Int32.toNatClampNeg (k_size - 1)))) (upd k_values (Int32.toNatClampNeg p1) (k_values (Int32.toNatClampNeg (k_size - 1)))) (upd k_weights (Int32.toNatClampNeg p1) (k_weights (Int32.toNatClampNeg (k_size - 1)))) k_counts k_lasts k_tills k_pinned (k_size - 1) (k_load - (k_weights (Int32.toNatClampNeg p1))) k_pinnedLoad k_uses k_aging k_halvings) H) (hD : va_D A (MX1 cI cZ cL cW a0 a1 a2 a3 a4 a5 a6 a7 (upd k_keys (Int32.toNatClampNeg p1) (k_keys (Int32.toNatClampNeg (k_size - 1)))) (upd k_values (Int32.toNatClampNeg p1) (k_values (Int32.toNatClampNeg (k_size - 1)))) (upd k_weights (Int32.toNatClampNeg p1) (k_weights (Int32.toNatClampNeg (k_size - 1)))) k_counts k_lasts k_tills k_pinned (k_size - 1) (k_load - (k_weights (Int32.toNatClampNeg p1))) k_pinnedLoad k_uses k_aging k_halvings)) hS => ?_)
      refine lv_aload_n hx hb dX1_drop_103 rfl (lv_at hl 0 rfl) ?_
      refine gf_X1 (v := .ref a4) C hE hP 0 3 rfl (by decide) qF_X1_21 rfl dX1_drop_104 ?_
      refine lv_iload_n hx hb dX1_drop_107 rfl (lv_at hl 1 rfl) ?_
      refine lv_aload_n hx hb dX1_drop_108 rfl (lv_at hl 0 rfl) ?_
      refine gf_X1 (v := .ref a4) C hE hP 0 3 rfl (by decide) qF_X1_21 rfl dX1_drop_109 ?_
      refine lv_aload_n hx hb dX1_drop_112 rfl (lv_at hl 0 rfl) ?_
      refine gf_X1 (v := .int (k_size - 1)) C hE hP 0 7 rfl (by decide) qF_X1_44 rfl dX1_drop_113 ?_
      obtain ⟨g10, hf⟩ := it_g hf
      refine va_iald hx hb hE.1 hP 4 0 rfl rfl g10 dX1_drop_116 ?_
      obtain ⟨g9, hf⟩ := it_g hf
      refine va_iast hx hb hE.1 hP hD hS 4 0 rfl rfl g9 dX1_drop_117 (fun H locs (hP : va_P D vwCl (MX1 cI cZ cL cW a0 a1 a2 a3 a4 a5 a6 a7 (upd k_keys (Int32.toNatClampNeg p1) (k_keys (Int32.toNatClampNeg (k_size - 1)))) (upd k_values (Int32.toNatClampNeg p1) (k_values (Int32.toNatClampNeg (k_size - 1)))) (upd k_weights (Int32.toNatClampNeg p1) (k_weights (Int32.toNatClampNeg (k_size - 1)))) (upd k_counts (Int32.toNatClampNeg p1) (k_counts (Int32.toNatClampNeg (k_size - 1)))) k_lasts k_tills k_pinned (k_size - 1) (k_load - (k_weights (Int32.toNatClampNeg p1))) k_pinnedLoad k_uses k_aging k_halvings) H) (hD : va_D A (MX1 cI cZ cL cW a0 a1 a2 a3 a4 a5 a6 a7 (upd k_keys (Int32.toNatClampNeg p1) (k_keys (Int32.toNatClampNeg (k_size - 1)))) (upd k_values (Int32.toNatClampNeg p1) (k_values (Int32.toNatClampNeg (k_size - 1)))) (upd k_weights (Int32.toNatClampNeg p1) (k_weights (Int32.toNatClampNeg (k_size - 1)))) (upd k_counts (Int32.toNatClampNeg p1) (k_counts (Int32.toNatClampNeg (k_size - 1)))) k_lasts k_tills k_pinned (k_size - 1) (k_load - (k_weights (Int32.toNatClampNeg p1))) k_pinnedLoad k_uses k_aging k_halvings)) hS => ?_)
      refine lv_aload_n hx hb dX1_drop_118 rfl (lv_at hl 0 rfl) ?_
      refine gf_X1 (v := .ref a5) C hE hP 0 4 rfl (by decide) qF_X1_24 rfl dX1_drop_119 ?_
      refine lv_iload_n hx hb dX1_drop_122 rfl (lv_at hl 1 rfl) ?_
      refine lv_aload_n hx hb dX1_drop_123 rfl (lv_at hl 0 rfl) ?_
      refine gf_X1 (v := .ref a5) C hE hP 0 4 rfl (by decide) qF_X1_24 rfl dX1_drop_124 ?_
      refine lv_aload_n hx hb dX1_drop_127 rfl (lv_at hl 0 rfl) ?_
      refine gf_X1 (v := .int (k_size - 1)) C hE hP 0 7 rfl (by decide) qF_X1_44 rfl dX1_drop_128 ?_
      obtain ⟨g8, hf⟩ := it_g hf
      refine va_iald hx hb hE.1 hP 5 0 rfl rfl g8 dX1_drop_131 ?_
      obtain ⟨g7, hf⟩ := it_g hf
      refine va_iast hx hb hE.1 hP hD hS 5 0 rfl rfl g7 dX1_drop_132 (fun H locs (hP : va_P D vwCl (MX1 cI cZ cL cW a0 a1 a2 a3 a4 a5 a6 a7 (upd k_keys (Int32.toNatClampNeg p1) (k_keys (Int32.toNatClampNeg (k_size - 1)))) (upd k_values (Int32.toNatClampNeg p1) (k_values (Int32.toNatClampNeg (k_size - 1)))) (upd k_weights (Int32.toNatClampNeg p1) (k_weights (Int32.toNatClampNeg (k_size - 1)))) (upd k_counts (Int32.toNatClampNeg p1) (k_counts (Int32.toNatClampNeg (k_size - 1)))) (upd k_lasts (Int32.toNatClampNeg p1) (k_lasts (Int32.toNatClampNeg (k_size - 1)))) k_tills k_pinned (k_size - 1) (k_load - (k_weights (Int32.toNatClampNeg p1))) k_pinnedLoad k_uses k_aging k_halvings) H) (hD : va_D A (MX1 cI cZ cL cW a0 a1 a2 a3 a4 a5 a6 a7 (upd k_keys (Int32.toNatClampNeg p1) (k_keys (Int32.toNatClampNeg (k_size - 1)))) (upd k_values (Int32.toNatClampNeg p1) (k_values (Int32.toNatClampNeg (k_size - 1)))) (upd k_weights (Int32.toNatClampNeg p1) (k_weights (Int32.toNatClampNeg (k_size - 1)))) (upd k_counts (Int32.toNatClampNeg p1) (k_counts (Int32.toNatClampNeg (k_size - 1)))) (upd k_lasts (Int32.toNatClampNeg p1) (k_lasts (Int32.toNatClampNeg (k_size - 1)))) k_tills k_pinned (k_size - 1) (k_load - (k_weights (Int32.toNatClampNeg p1))) k_pinnedLoad k_uses k_aging k_halvings)) hS => ?_)
      refine lv_aload_n hx hb dX1_drop_133 rfl (lv_at hl 0 rfl) ?_
      refine gf_X1 (v := .ref a6) C hE hP 0 5 rfl (by decide) qF_X1_27 rfl dX1_drop_134 ?_
      refine lv_iload_n hx hb dX1_drop_137 rfl (lv_at hl 1 rfl) ?_
      refine lv_aload_n hx hb dX1_drop_138 rfl (lv_at hl 0 rfl) ?_
      refine gf_X1 (v := .ref a6) C hE hP 0 5 rfl (by decide) qF_X1_27 rfl dX1_drop_139 ?_
      refine lv_aload_n hx hb dX1_drop_142 rfl (lv_at hl 0 rfl) ?_
      refine gf_X1 (v := .int (k_size - 1)) C hE hP 0 7 rfl (by decide) qF_X1_44 rfl dX1_drop_143 ?_
      obtain ⟨g6, hf⟩ := it_g hf
      refine va_iald hx hb hE.1 hP 6 0 rfl rfl g6 dX1_drop_146 ?_
      obtain ⟨g5, hf⟩ := it_g hf
      refine va_iast hx hb hE.1 hP hD hS 6 0 rfl rfl g5 dX1_drop_147 (fun H locs (hP : va_P D vwCl (MX1 cI cZ cL cW a0 a1 a2 a3 a4 a5 a6 a7 (upd k_keys (Int32.toNatClampNeg p1) (k_keys (Int32.toNatClampNeg (k_size - 1)))) (upd k_values (Int32.toNatClampNeg p1) (k_values (Int32.toNatClampNeg (k_size - 1)))) (upd k_weights (Int32.toNatClampNeg p1) (k_weights (Int32.toNatClampNeg (k_size - 1)))) (upd k_counts (Int32.toNatClampNeg p1) (k_counts (Int32.toNatClampNeg (k_size - 1)))) (upd k_lasts (Int32.toNatClampNeg p1) (k_lasts (Int32.toNatClampNeg (k_size - 1)))) (upd k_tills (Int32.toNatClampNeg p1) (k_tills (Int32.toNatClampNeg (k_size - 1)))) k_pinned (k_size - 1) (k_load - (k_weights (Int32.toNatClampNeg p1))) k_pinnedLoad k_uses k_aging k_halvings) H) (hD : va_D A (MX1 cI cZ cL cW a0 a1 a2 a3 a4 a5 a6 a7 (upd k_keys (Int32.toNatClampNeg p1) (k_keys (Int32.toNatClampNeg (k_size - 1)))) (upd k_values (Int32.toNatClampNeg p1) (k_values (Int32.toNatClampNeg (k_size - 1)))) (upd k_weights (Int32.toNatClampNeg p1) (k_weights (Int32.toNatClampNeg (k_size - 1)))) (upd k_counts (Int32.toNatClampNeg p1) (k_counts (Int32.toNatClampNeg (k_size - 1)))) (upd k_lasts (Int32.toNatClampNeg p1) (k_lasts (Int32.toNatClampNeg (k_size - 1)))) (upd k_tills (Int32.toNatClampNeg p1) (k_tills (Int32.toNatClampNeg (k_size - 1)))) k_pinned (k_size - 1) (k_load - (k_weights (Int32.toNatClampNeg p1))) k_pinnedLoad k_uses k_aging k_halvings)) hS => ?_)
      refine lv_aload_n hx hb dX1_drop_148 rfl (lv_at hl 0 rfl) ?_
      refine gf_X1 (v := .ref a7) C hE hP 0 6 rfl (by decide) qF_X1_30 rfl dX1_drop_149 ?_
      refine lv_iload_n hx hb dX1_drop_152 rfl (lv_at hl 1 rfl) ?_
      refine lv_aload_n hx hb dX1_drop_153 rfl (lv_at hl 0 rfl) ?_
      refine gf_X1 (v := .ref a7) C hE hP 0 6 rfl (by decide) qF_X1_30 rfl dX1_drop_154 ?_
      refine lv_aload_n hx hb dX1_drop_157 rfl (lv_at hl 0 rfl) ?_
      refine gf_X1 (v := .int (k_size - 1)) C hE hP 0 7 rfl (by decide) qF_X1_44 rfl dX1_drop_158 ?_
      obtain ⟨g4, hf⟩ := it_g hf
      refine va_zald hx hb hE.1 hP 7 1 rfl rfl g4 dX1_drop_161 ?_
      obtain ⟨g3, hf⟩ := it_g hf
      refine va_zast hx hb hE.1 hP hD hS 7 1 rfl rfl g3 dX1_drop_162 (fun H locs (hP : va_P D vwCl (MX1 cI cZ cL cW a0 a1 a2 a3 a4 a5 a6 a7 (upd k_keys (Int32.toNatClampNeg p1) (k_keys (Int32.toNatClampNeg (k_size - 1)))) (upd k_values (Int32.toNatClampNeg p1) (k_values (Int32.toNatClampNeg (k_size - 1)))) (upd k_weights (Int32.toNatClampNeg p1) (k_weights (Int32.toNatClampNeg (k_size - 1)))) (upd k_counts (Int32.toNatClampNeg p1) (k_counts (Int32.toNatClampNeg (k_size - 1)))) (upd k_lasts (Int32.toNatClampNeg p1) (k_lasts (Int32.toNatClampNeg (k_size - 1)))) (upd k_tills (Int32.toNatClampNeg p1) (k_tills (Int32.toNatClampNeg (k_size - 1)))) (upd k_pinned (Int32.toNatClampNeg p1) (vp_nar .boolean (k_pinned (Int32.toNatClampNeg (k_size - 1))))) (k_size - 1) (k_load - (k_weights (Int32.toNatClampNeg p1))) k_pinnedLoad k_uses k_aging k_halvings) H) (hD : va_D A (MX1 cI cZ cL cW a0 a1 a2 a3 a4 a5 a6 a7 (upd k_keys (Int32.toNatClampNeg p1) (k_keys (Int32.toNatClampNeg (k_size - 1)))) (upd k_values (Int32.toNatClampNeg p1) (k_values (Int32.toNatClampNeg (k_size - 1)))) (upd k_weights (Int32.toNatClampNeg p1) (k_weights (Int32.toNatClampNeg (k_size - 1)))) (upd k_counts (Int32.toNatClampNeg p1) (k_counts (Int32.toNatClampNeg (k_size - 1)))) (upd k_lasts (Int32.toNatClampNeg p1) (k_lasts (Int32.toNatClampNeg (k_size - 1)))) (upd k_tills (Int32.toNatClampNeg p1) (k_tills (Int32.toNatClampNeg (k_size - 1)))) (upd k_pinned (Int32.toNatClampNeg p1) (vp_nar .boolean (k_pinned (Int32.toNatClampNeg (k_size - 1))))) (k_size - 1) (k_load - (k_weights (Int32.toNatClampNeg p1))) k_pinnedLoad k_uses k_aging k_halvings)) hS => ?_)
      cases hf
      exact rw_v C hr hlk hP hD hS dX1_drop_163
    · have hf := it_n hf c32
      refine lv_aload_n hx hb dX1_drop_33 rfl (lv_at hl 0 rfl) ?_
      refine lv_dup hx hb dX1_drop_34 rfl ?_
      refine gf_X1 (v := .int k_pinnedLoad) C hE hP 0 9 rfl (by decide) qF_X1_50 rfl dX1_drop_35 ?_
      refine lv_aload_n hx hb dX1_drop_38 rfl (lv_at hl 0 rfl) ?_
      refine gf_X1 (v := .ref a3) C hE hP 0 2 rfl (by decide) qF_X1_18 rfl dX1_drop_39 ?_
      refine lv_iload_n hx hb dX1_drop_42 rfl (lv_at hl 1 rfl) ?_
      obtain ⟨g31, hf⟩ := it_g hf
      refine va_iald hx hb hE.1 hP 3 0 rfl rfl g31 dX1_drop_43 ?_
      refine lv_isub hx hb dX1_drop_44 ?_
      refine pf_X1 (v := .int (k_pinnedLoad - (k_weights (Int32.toNatClampNeg p1)))) C hE hP hD hS 0 9 rfl (by decide) qF_X1_50 rfl rfl rfl (Nat.le_of_ble_eq_true rfl) dX1_drop_45 (fun H locs (hP : va_P D vwCl (MX1 cI cZ cL cW a0 a1 a2 a3 a4 a5 a6 a7 k_keys k_values k_weights k_counts k_lasts k_tills k_pinned k_size (k_load - (k_weights (Int32.toNatClampNeg p1))) (k_pinnedLoad - (k_weights (Int32.toNatClampNeg p1))) k_uses k_aging k_halvings) H) (hD : va_D A (MX1 cI cZ cL cW a0 a1 a2 a3 a4 a5 a6 a7 k_keys k_values k_weights k_counts k_lasts k_tills k_pinned k_size (k_load - (k_weights (Int32.toNatClampNeg p1))) (k_pinnedLoad - (k_weights (Int32.toNatClampNeg p1))) k_uses k_aging k_halvings)) hS => ?_)
      refine lv_aload_n hx hb dX1_drop_48 rfl (lv_at hl 0 rfl) ?_
      refine lv_dup hx hb dX1_drop_49 rfl ?_
      refine gf_X1 (v := .int k_size) C hE hP 0 7 rfl (by decide) qF_X1_44 rfl dX1_drop_50 ?_
      refine lv_iconst (v := 1) hx hb dX1_drop_53 (by decide) ?_
      refine lv_isub hx hb dX1_drop_54 ?_
      refine pf_X1 (v := .int (k_size - 1)) C hE hP hD hS 0 7 rfl (by decide) qF_X1_44 rfl rfl rfl (Nat.le_of_ble_eq_true rfl) dX1_drop_55 (fun H locs (hP : va_P D vwCl (MX1 cI cZ cL cW a0 a1 a2 a3 a4 a5 a6 a7 k_keys k_values k_weights k_counts k_lasts k_tills k_pinned (k_size - 1) (k_load - (k_weights (Int32.toNatClampNeg p1))) (k_pinnedLoad - (k_weights (Int32.toNatClampNeg p1))) k_uses k_aging k_halvings) H) (hD : va_D A (MX1 cI cZ cL cW a0 a1 a2 a3 a4 a5 a6 a7 k_keys k_values k_weights k_counts k_lasts k_tills k_pinned (k_size - 1) (k_load - (k_weights (Int32.toNatClampNeg p1))) (k_pinnedLoad - (k_weights (Int32.toNatClampNeg p1))) k_uses k_aging k_halvings)) hS => ?_)
      refine lv_aload_n hx hb dX1_drop_58 rfl (lv_at hl 0 rfl) ?_
      refine gf_X1 (v := .ref a1) C hE hP 0 0 rfl (by decide) qF_X1_9 rfl dX1_drop_59 ?_
      refine lv_iload_n hx hb dX1_drop_62 rfl (lv_at hl 1 rfl) ?_
      refine lv_aload_n hx hb dX1_drop_63 rfl (lv_at hl 0 rfl) ?_
      refine gf_X1 (v := .ref a1) C hE hP 0 0 rfl (by decide) qF_X1_9 rfl dX1_drop_64 ?_
      refine lv_aload_n hx hb dX1_drop_67 rfl (lv_at hl 0 rfl) ?_
      refine gf_X1 (v := .int (k_size - 1)) C hE hP 0 7 rfl (by decide) qF_X1_44 rfl dX1_drop_68 ?_
      obtain ⟨g30, hf⟩ := it_g hf
      refine va_iald hx hb hE.1 hP 1 0 rfl rfl g30 dX1_drop_71 ?_
      obtain ⟨g29, hf⟩ := it_g hf
      refine va_iast hx hb hE.1 hP hD hS 1 0 rfl rfl g29 dX1_drop_72 (fun H locs (hP : va_P D vwCl (MX1 cI cZ cL cW a0 a1 a2 a3 a4 a5 a6 a7 (upd k_keys (Int32.toNatClampNeg p1) (k_keys (Int32.toNatClampNeg (k_size - 1)))) k_values k_weights k_counts k_lasts k_tills k_pinned (k_size - 1) (k_load - (k_weights (Int32.toNatClampNeg p1))) (k_pinnedLoad - (k_weights (Int32.toNatClampNeg p1))) k_uses k_aging k_halvings) H) (hD : va_D A (MX1 cI cZ cL cW a0 a1 a2 a3 a4 a5 a6 a7 (upd k_keys (Int32.toNatClampNeg p1) (k_keys (Int32.toNatClampNeg (k_size - 1)))) k_values k_weights k_counts k_lasts k_tills k_pinned (k_size - 1) (k_load - (k_weights (Int32.toNatClampNeg p1))) (k_pinnedLoad - (k_weights (Int32.toNatClampNeg p1))) k_uses k_aging k_halvings)) hS => ?_)
      refine lv_aload_n hx hb dX1_drop_73 rfl (lv_at hl 0 rfl) ?_
      refine gf_X1 (v := .ref a2) C hE hP 0 1 rfl (by decide) qF_X1_15 rfl dX1_drop_74 ?_
      refine lv_iload_n hx hb dX1_drop_77 rfl (lv_at hl 1 rfl) ?_
      refine lv_aload_n hx hb dX1_drop_78 rfl (lv_at hl 0 rfl) ?_
      refine gf_X1 (v := .ref a2) C hE hP 0 1 rfl (by decide) qF_X1_15 rfl dX1_drop_79 ?_
      refine lv_aload_n hx hb dX1_drop_82 rfl (lv_at hl 0 rfl) ?_
      refine gf_X1 (v := .int (k_size - 1)) C hE hP 0 7 rfl (by decide) qF_X1_44 rfl dX1_drop_83 ?_
      obtain ⟨g28, hf⟩ := it_g hf
      refine va_iald hx hb hE.1 hP 2 0 rfl rfl g28 dX1_drop_86 ?_
      obtain ⟨g27, hf⟩ := it_g hf
      refine va_iast hx hb hE.1 hP hD hS 2 0 rfl rfl g27 dX1_drop_87 (fun H locs (hP : va_P D vwCl (MX1 cI cZ cL cW a0 a1 a2 a3 a4 a5 a6 a7 (upd k_keys (Int32.toNatClampNeg p1) (k_keys (Int32.toNatClampNeg (k_size - 1)))) (upd k_values (Int32.toNatClampNeg p1) (k_values (Int32.toNatClampNeg (k_size - 1)))) k_weights k_counts k_lasts k_tills k_pinned (k_size - 1) (k_load - (k_weights (Int32.toNatClampNeg p1))) (k_pinnedLoad - (k_weights (Int32.toNatClampNeg p1))) k_uses k_aging k_halvings) H) (hD : va_D A (MX1 cI cZ cL cW a0 a1 a2 a3 a4 a5 a6 a7 (upd k_keys (Int32.toNatClampNeg p1) (k_keys (Int32.toNatClampNeg (k_size - 1)))) (upd k_values (Int32.toNatClampNeg p1) (k_values (Int32.toNatClampNeg (k_size - 1)))) k_weights k_counts k_lasts k_tills k_pinned (k_size - 1) (k_load - (k_weights (Int32.toNatClampNeg p1))) (k_pinnedLoad - (k_weights (Int32.toNatClampNeg p1))) k_uses k_aging k_halvings)) hS => ?_)
      refine lv_aload_n hx hb dX1_drop_88 rfl (lv_at hl 0 rfl) ?_
      refine gf_X1 (v := .ref a3) C hE hP 0 2 rfl (by decide) qF_X1_18 rfl dX1_drop_89 ?_
      refine lv_iload_n hx hb dX1_drop_92 rfl (lv_at hl 1 rfl) ?_
      refine lv_aload_n hx hb dX1_drop_93 rfl (lv_at hl 0 rfl) ?_
      refine gf_X1 (v := .ref a3) C hE hP 0 2 rfl (by decide) qF_X1_18 rfl dX1_drop_94 ?_
      refine lv_aload_n hx hb dX1_drop_97 rfl (lv_at hl 0 rfl) ?_
      refine gf_X1 (v := .int (k_size - 1)) C hE hP 0 7 rfl (by decide) qF_X1_44 rfl dX1_drop_98 ?_
      obtain ⟨g26, hf⟩ := it_g hf
      refine va_iald hx hb hE.1 hP 3 0 rfl rfl g26 dX1_drop_101 ?_
      obtain ⟨g25, hf⟩ := it_g hf
      refine va_iast hx hb hE.1 hP hD hS 3 0 rfl rfl g25 dX1_drop_102 (fun H locs (hP : va_P D vwCl (MX1 cI cZ cL cW a0 a1 a2 a3 a4 a5 a6 a7 (upd k_keys (Int32.toNatClampNeg p1) (k_keys (Int32.toNatClampNeg (k_size - 1)))) (upd k_values (Int32.toNatClampNeg p1) (k_values (Int32.toNatClampNeg (k_size - 1)))) (upd k_weights (Int32.toNatClampNeg p1) (k_weights (Int32.toNatClampNeg (k_size - 1)))) k_counts k_lasts k_tills k_pinned (k_size - 1) (k_load - (k_weights (Int32.toNatClampNeg p1))) (k_pinnedLoad - (k_weights (Int32.toNatClampNeg p1))) k_uses k_aging k_halvings) H) (hD : va_D A (MX1 cI cZ cL cW a0 a1 a2 a3 a4 a5 a6 a7 (upd k_keys (Int32.toNatClampNeg p1) (k_keys (Int32.toNatClampNeg (k_size - 1)))) (upd k_values (Int32.toNatClampNeg p1) (k_values (Int32.toNatClampNeg (k_size - 1)))) (upd k_weights (Int32.toNatClampNeg p1) (k_weights (Int32.toNatClampNeg (k_size - 1)))) k_counts k_lasts k_tills k_pinned (k_size - 1) (k_load - (k_weights (Int32.toNatClampNeg p1))) (k_pinnedLoad - (k_weights (Int32.toNatClampNeg p1))) k_uses k_aging k_halvings)) hS => ?_)
      refine lv_aload_n hx hb dX1_drop_103 rfl (lv_at hl 0 rfl) ?_
      refine gf_X1 (v := .ref a4) C hE hP 0 3 rfl (by decide) qF_X1_21 rfl dX1_drop_104 ?_
      refine lv_iload_n hx hb dX1_drop_107 rfl (lv_at hl 1 rfl) ?_
      refine lv_aload_n hx hb dX1_drop_108 rfl (lv_at hl 0 rfl) ?_
      refine gf_X1 (v := .ref a4) C hE hP 0 3 rfl (by decide) qF_X1_21 rfl dX1_drop_109 ?_
      refine lv_aload_n hx hb dX1_drop_112 rfl (lv_at hl 0 rfl) ?_
      refine gf_X1 (v := .int (k_size - 1)) C hE hP 0 7 rfl (by decide) qF_X1_44 rfl dX1_drop_113 ?_
      obtain ⟨g24, hf⟩ := it_g hf
      refine va_iald hx hb hE.1 hP 4 0 rfl rfl g24 dX1_drop_116 ?_
      obtain ⟨g23, hf⟩ := it_g hf
      refine va_iast hx hb hE.1 hP hD hS 4 0 rfl rfl g23 dX1_drop_117 (fun H locs (hP : va_P D vwCl (MX1 cI cZ cL cW a0 a1 a2 a3 a4 a5 a6 a7 (upd k_keys (Int32.toNatClampNeg p1) (k_keys (Int32.toNatClampNeg (k_size - 1)))) (upd k_values (Int32.toNatClampNeg p1) (k_values (Int32.toNatClampNeg (k_size - 1)))) (upd k_weights (Int32.toNatClampNeg p1) (k_weights (Int32.toNatClampNeg (k_size - 1)))) (upd k_counts (Int32.toNatClampNeg p1) (k_counts (Int32.toNatClampNeg (k_size - 1)))) k_lasts k_tills k_pinned (k_size - 1) (k_load - (k_weights (Int32.toNatClampNeg p1))) (k_pinnedLoad - (k_weights (Int32.toNatClampNeg p1))) k_uses k_aging k_halvings) H) (hD : va_D A (MX1 cI cZ cL cW a0 a1 a2 a3 a4 a5 a6 a7 (upd k_keys (Int32.toNatClampNeg p1) (k_keys (Int32.toNatClampNeg (k_size - 1)))) (upd k_values (Int32.toNatClampNeg p1) (k_values (Int32.toNatClampNeg (k_size - 1)))) (upd k_weights (Int32.toNatClampNeg p1) (k_weights (Int32.toNatClampNeg (k_size - 1)))) (upd k_counts (Int32.toNatClampNeg p1) (k_counts (Int32.toNatClampNeg (k_size - 1)))) k_lasts k_tills k_pinned (k_size - 1) (k_load - (k_weights (Int32.toNatClampNeg p1))) (k_pinnedLoad - (k_weights (Int32.toNatClampNeg p1))) k_uses k_aging k_halvings)) hS => ?_)
      refine lv_aload_n hx hb dX1_drop_118 rfl (lv_at hl 0 rfl) ?_
      refine gf_X1 (v := .ref a5) C hE hP 0 4 rfl (by decide) qF_X1_24 rfl dX1_drop_119 ?_
      refine lv_iload_n hx hb dX1_drop_122 rfl (lv_at hl 1 rfl) ?_
      refine lv_aload_n hx hb dX1_drop_123 rfl (lv_at hl 0 rfl) ?_
      refine gf_X1 (v := .ref a5) C hE hP 0 4 rfl (by decide) qF_X1_24 rfl dX1_drop_124 ?_
      refine lv_aload_n hx hb dX1_drop_127 rfl (lv_at hl 0 rfl) ?_
      refine gf_X1 (v := .int (k_size - 1)) C hE hP 0 7 rfl (by decide) qF_X1_44 rfl dX1_drop_128 ?_
      obtain ⟨g22, hf⟩ := it_g hf
      refine va_iald hx hb hE.1 hP 5 0 rfl rfl g22 dX1_drop_131 ?_
      obtain ⟨g21, hf⟩ := it_g hf
      refine va_iast hx hb hE.1 hP hD hS 5 0 rfl rfl g21 dX1_drop_132 (fun H locs (hP : va_P D vwCl (MX1 cI cZ cL cW a0 a1 a2 a3 a4 a5 a6 a7 (upd k_keys (Int32.toNatClampNeg p1) (k_keys (Int32.toNatClampNeg (k_size - 1)))) (upd k_values (Int32.toNatClampNeg p1) (k_values (Int32.toNatClampNeg (k_size - 1)))) (upd k_weights (Int32.toNatClampNeg p1) (k_weights (Int32.toNatClampNeg (k_size - 1)))) (upd k_counts (Int32.toNatClampNeg p1) (k_counts (Int32.toNatClampNeg (k_size - 1)))) (upd k_lasts (Int32.toNatClampNeg p1) (k_lasts (Int32.toNatClampNeg (k_size - 1)))) k_tills k_pinned (k_size - 1) (k_load - (k_weights (Int32.toNatClampNeg p1))) (k_pinnedLoad - (k_weights (Int32.toNatClampNeg p1))) k_uses k_aging k_halvings) H) (hD : va_D A (MX1 cI cZ cL cW a0 a1 a2 a3 a4 a5 a6 a7 (upd k_keys (Int32.toNatClampNeg p1) (k_keys (Int32.toNatClampNeg (k_size - 1)))) (upd k_values (Int32.toNatClampNeg p1) (k_values (Int32.toNatClampNeg (k_size - 1)))) (upd k_weights (Int32.toNatClampNeg p1) (k_weights (Int32.toNatClampNeg (k_size - 1)))) (upd k_counts (Int32.toNatClampNeg p1) (k_counts (Int32.toNatClampNeg (k_size - 1)))) (upd k_lasts (Int32.toNatClampNeg p1) (k_lasts (Int32.toNatClampNeg (k_size - 1)))) k_tills k_pinned (k_size - 1) (k_load - (k_weights (Int32.toNatClampNeg p1))) (k_pinnedLoad - (k_weights (Int32.toNatClampNeg p1))) k_uses k_aging k_halvings)) hS => ?_)
      refine lv_aload_n hx hb dX1_drop_133 rfl (lv_at hl 0 rfl) ?_
      refine gf_X1 (v := .ref a6) C hE hP 0 5 rfl (by decide) qF_X1_27 rfl dX1_drop_134 ?_
      refine lv_iload_n hx hb dX1_drop_137 rfl (lv_at hl 1 rfl) ?_
      refine lv_aload_n hx hb dX1_drop_138 rfl (lv_at hl 0 rfl) ?_
      refine gf_X1 (v := .ref a6) C hE hP 0 5 rfl (by decide) qF_X1_27 rfl dX1_drop_139 ?_
      refine lv_aload_n hx hb dX1_drop_142 rfl (lv_at hl 0 rfl) ?_
      refine gf_X1 (v := .int (k_size - 1)) C hE hP 0 7 rfl (by decide) qF_X1_44 rfl dX1_drop_143 ?_
      obtain ⟨g20, hf⟩ := it_g hf
      refine va_iald hx hb hE.1 hP 6 0 rfl rfl g20 dX1_drop_146 ?_
      obtain ⟨g19, hf⟩ := it_g hf
      refine va_iast hx hb hE.1 hP hD hS 6 0 rfl rfl g19 dX1_drop_147 (fun H locs (hP : va_P D vwCl (MX1 cI cZ cL cW a0 a1 a2 a3 a4 a5 a6 a7 (upd k_keys (Int32.toNatClampNeg p1) (k_keys (Int32.toNatClampNeg (k_size - 1)))) (upd k_values (Int32.toNatClampNeg p1) (k_values (Int32.toNatClampNeg (k_size - 1)))) (upd k_weights (Int32.toNatClampNeg p1) (k_weights (Int32.toNatClampNeg (k_size - 1)))) (upd k_counts (Int32.toNatClampNeg p1) (k_counts (Int32.toNatClampNeg (k_size - 1)))) (upd k_lasts (Int32.toNatClampNeg p1) (k_lasts (Int32.toNatClampNeg (k_size - 1)))) (upd k_tills (Int32.toNatClampNeg p1) (k_tills (Int32.toNatClampNeg (k_size - 1)))) k_pinned (k_size - 1) (k_load - (k_weights (Int32.toNatClampNeg p1))) (k_pinnedLoad - (k_weights (Int32.toNatClampNeg p1))) k_uses k_aging k_halvings) H) (hD : va_D A (MX1 cI cZ cL cW a0 a1 a2 a3 a4 a5 a6 a7 (upd k_keys (Int32.toNatClampNeg p1) (k_keys (Int32.toNatClampNeg (k_size - 1)))) (upd k_values (Int32.toNatClampNeg p1) (k_values (Int32.toNatClampNeg (k_size - 1)))) (upd k_weights (Int32.toNatClampNeg p1) (k_weights (Int32.toNatClampNeg (k_size - 1)))) (upd k_counts (Int32.toNatClampNeg p1) (k_counts (Int32.toNatClampNeg (k_size - 1)))) (upd k_lasts (Int32.toNatClampNeg p1) (k_lasts (Int32.toNatClampNeg (k_size - 1)))) (upd k_tills (Int32.toNatClampNeg p1) (k_tills (Int32.toNatClampNeg (k_size - 1)))) k_pinned (k_size - 1) (k_load - (k_weights (Int32.toNatClampNeg p1))) (k_pinnedLoad - (k_weights (Int32.toNatClampNeg p1))) k_uses k_aging k_halvings)) hS => ?_)
      refine lv_aload_n hx hb dX1_drop_148 rfl (lv_at hl 0 rfl) ?_
      refine gf_X1 (v := .ref a7) C hE hP 0 6 rfl (by decide) qF_X1_30 rfl dX1_drop_149 ?_
      refine lv_iload_n hx hb dX1_drop_152 rfl (lv_at hl 1 rfl) ?_
      refine lv_aload_n hx hb dX1_drop_153 rfl (lv_at hl 0 rfl) ?_
      refine gf_X1 (v := .ref a7) C hE hP 0 6 rfl (by decide) qF_X1_30 rfl dX1_drop_154 ?_
      refine lv_aload_n hx hb dX1_drop_157 rfl (lv_at hl 0 rfl) ?_
      refine gf_X1 (v := .int (k_size - 1)) C hE hP 0 7 rfl (by decide) qF_X1_44 rfl dX1_drop_158 ?_
      obtain ⟨g18, hf⟩ := it_g hf
      refine va_zald hx hb hE.1 hP 7 1 rfl rfl g18 dX1_drop_161 ?_
      obtain ⟨g17, hf⟩ := it_g hf
      refine va_zast hx hb hE.1 hP hD hS 7 1 rfl rfl g17 dX1_drop_162 (fun H locs (hP : va_P D vwCl (MX1 cI cZ cL cW a0 a1 a2 a3 a4 a5 a6 a7 (upd k_keys (Int32.toNatClampNeg p1) (k_keys (Int32.toNatClampNeg (k_size - 1)))) (upd k_values (Int32.toNatClampNeg p1) (k_values (Int32.toNatClampNeg (k_size - 1)))) (upd k_weights (Int32.toNatClampNeg p1) (k_weights (Int32.toNatClampNeg (k_size - 1)))) (upd k_counts (Int32.toNatClampNeg p1) (k_counts (Int32.toNatClampNeg (k_size - 1)))) (upd k_lasts (Int32.toNatClampNeg p1) (k_lasts (Int32.toNatClampNeg (k_size - 1)))) (upd k_tills (Int32.toNatClampNeg p1) (k_tills (Int32.toNatClampNeg (k_size - 1)))) (upd k_pinned (Int32.toNatClampNeg p1) (vp_nar .boolean (k_pinned (Int32.toNatClampNeg (k_size - 1))))) (k_size - 1) (k_load - (k_weights (Int32.toNatClampNeg p1))) (k_pinnedLoad - (k_weights (Int32.toNatClampNeg p1))) k_uses k_aging k_halvings) H) (hD : va_D A (MX1 cI cZ cL cW a0 a1 a2 a3 a4 a5 a6 a7 (upd k_keys (Int32.toNatClampNeg p1) (k_keys (Int32.toNatClampNeg (k_size - 1)))) (upd k_values (Int32.toNatClampNeg p1) (k_values (Int32.toNatClampNeg (k_size - 1)))) (upd k_weights (Int32.toNatClampNeg p1) (k_weights (Int32.toNatClampNeg (k_size - 1)))) (upd k_counts (Int32.toNatClampNeg p1) (k_counts (Int32.toNatClampNeg (k_size - 1)))) (upd k_lasts (Int32.toNatClampNeg p1) (k_lasts (Int32.toNatClampNeg (k_size - 1)))) (upd k_tills (Int32.toNatClampNeg p1) (k_tills (Int32.toNatClampNeg (k_size - 1)))) (upd k_pinned (Int32.toNatClampNeg p1) (vp_nar .boolean (k_pinned (Int32.toNatClampNeg (k_size - 1))))) (k_size - 1) (k_load - (k_weights (Int32.toNatClampNeg p1))) (k_pinnedLoad - (k_weights (Int32.toNatClampNeg p1))) k_uses k_aging k_halvings)) hS => ?_)
      cases hf
      exact rw_v C hr hlk hP hD hS dX1_drop_163
  · have hf := it_p hf c35
    cases hf
    exact rw_v C hr hlk hP hD hS dX1_drop_8
def X1_fasten (F : Nat) (p1 : Int32) (p2 : Int32) (k_weights : (Nat → Int32)) (k_pinned : (Nat → Int32)) (k_size : Int32) (k_pinnedLoad : Int32) : Option (Int32 × (Nat → Int32) × Int32) := (X1_has F p1 k_size).bind fun r1 => (if (r1 : Int32) = 0 then (some (0, k_pinned, k_pinnedLoad)) else (if (p1 : Int32) < 0 ∨ 60 ≤ (Int32.toNatClampNeg p1) then none else (if ((k_pinned (Int32.toNatClampNeg p1)) : Int32) = p2 then (some (0, k_pinned, k_pinnedLoad)) else (if (p1 : Int32) < 0 ∨ 60 ≤ (Int32.toNatClampNeg p1) then none else (if (p2 : Int32) = 0 then (if (p1 : Int32) < 0 ∨ 60 ≤ (Int32.toNatClampNeg p1) then none else (some (1, (upd k_pinned (Int32.toNatClampNeg p1) (vp_nar .boolean p2)), (k_pinnedLoad + (-(k_weights (Int32.toNatClampNeg p1))))))) else (if (p1 : Int32) < 0 ∨ 60 ≤ (Int32.toNatClampNeg p1) then none else (some (1, (upd k_pinned (Int32.toNatClampNeg p1) (vp_nar .boolean p2)), (k_pinnedLoad + (k_weights (Int32.toNatClampNeg p1)))))))))))
abbrev rm_X1_fasten : Room := { frames := 1, cells := 0, slots := 0, locals := 21 }
theorem ok_X1_fasten : OKV RX1 yX1_fasten cX1_fasten 3 (some .boolean) 2 := ⟨by decide +kernel, qV_X1_fasten, qL_X1_fasten, qI_X1, qD_X1_fasten⟩
set_option maxHeartbeats 4000000 in
set_option maxRecDepth 100000 in
theorem c_X1_fasten (l : Launch) (D : va_G) (cI cZ cL cW : ClassId) (F : Nat) (a0 : Nat) (a1 : Nat) (a2 : Nat) (a3 : Nat) (a4 : Nat) (a5 : Nat) (a6 : Nat) (a7 : Nat) (k_keys : (Nat → Int32)) (k_values : (Nat → Int32)) (k_weights : (Nat → Int32)) (k_counts : (Nat → Int32)) (k_lasts : (Nat → Int32)) (k_tills : (Nat → Int32)) (k_pinned : (Nat → Int32)) (k_size : Int32) (k_load : Int32) (k_pinnedLoad : Int32) (k_uses : Int32) (k_aging : Int32) (k_halvings : Int32) (p1 : Int32) (p2 : Int32) (r : Int32) (k_pinned' : (Nat → Int32)) (k_pinnedLoad' : Int32) (hf : X1_fasten F p1 p2 k_weights k_pinned k_size k_pinnedLoad = some (r, k_pinned', k_pinnedLoad')) : CtrW l D (tyL cI cZ cL cW) nestW yX1_fasten cX1_fasten 3 (some .boolean) rm_X1_fasten [.ref a0, .int p1, .int p2] (MX1 cI cZ cL cW a0 a1 a2 a3 a4 a5 a6 a7 k_keys k_values k_weights k_counts k_lasts k_tills k_pinned k_size k_load k_pinnedLoad k_uses k_aging k_halvings) (MX1 cI cZ cL cW a0 a1 a2 a3 a4 a5 a6 a7 k_keys k_values k_weights k_counts k_lasts k_tills (k_pinned') k_size k_load (k_pinnedLoad') k_uses k_aging k_halvings) (some (.int r)) := by
  refine ofA RX1 (by decide) rfl (Nat.le_of_ble_eq_true rfl) ?_
  intro p e s m below meth c ls A C hr hlk hE hA hP hD hS hl
  generalize (List.toArray ([.ref a0, .int p1, .int p2] : List Value)) = args at C ⊢
  obtain ⟨hx, hb, hml, hown, ht⟩ := id C
  have hl : lv_has ls 3 [(0, .ref a0), (1, .int p1), (2, .int p2)] := hl
  refine lv_aload_n hx hb dX1_fasten_0 rfl (lv_at hl 0 rfl) ?_
  refine lv_iload_n hx hb dX1_fasten_1 rfl (lv_at hl 1 rfl) ?_
  obtain ⟨r1, h2, hf⟩ := bd_s hf
  refine iv_R (rest := []) (st1 := [.int r1]) C hE hP (c_X1_has l D cI cZ cL cW F a0 a1 a2 a3 a4 a5 a6 a7 k_keys k_values k_weights k_counts k_lasts k_tills k_pinned k_size k_load k_pinnedLoad k_uses k_aging k_halvings p1 r1  h2) ok_X1_has qM_X1_59 rfl rfl ⟨(Nat.le_of_ble_eq_true rfl), (Nat.le_of_ble_eq_true rfl)⟩ rfl rfl hl.1 (Nat.le_of_ble_eq_true rfl) ⟨Nat.zero_le _, Nat.zero_le _⟩ dX1_fasten_2 rfl rfl ?_
  refine lv_if_eq (tgt := 18) hx hb dX1_fasten_5 (by decide) (fun c9 => ?_) (fun c9 => ?_)
  · have hf := it_p hf c9
    refine lv_iconst (v := 0) hx hb dX1_fasten_18 (by decide) ?_
    cases hf
    exact rw_z C hr hlk (by decide) hP hD hS dX1_fasten_19 rfl
  · have hf := it_n hf c9
    refine lv_aload_n hx hb dX1_fasten_8 rfl (lv_at hl 0 rfl) ?_
    refine gf_X1 (v := .ref a7) C hE hP 0 6 rfl (by decide) qF_X1_30 rfl dX1_fasten_9 ?_
    refine lv_iload_n hx hb dX1_fasten_12 rfl (lv_at hl 1 rfl) ?_
    obtain ⟨g8, hf⟩ := it_g hf
    refine va_zald hx hb hE.1 hP 7 1 rfl rfl g8 dX1_fasten_13 ?_
    refine lv_iload_n hx hb dX1_fasten_14 rfl (lv_at hl 2 rfl) ?_
    refine lv_icmp_ne (tgt := 20) hx hb dX1_fasten_15 (by decide) (fun c7 => ?_) (fun c7 => ?_)
    · have hf := it_n hf c7
      refine lv_aload_n hx hb dX1_fasten_20 rfl (lv_at hl 0 rfl) ?_
      refine gf_X1 (v := .ref a7) C hE hP 0 6 rfl (by decide) qF_X1_30 rfl dX1_fasten_21 ?_
      refine lv_iload_n hx hb dX1_fasten_24 rfl (lv_at hl 1 rfl) ?_
      refine lv_iload_n hx hb dX1_fasten_25 rfl (lv_at hl 2 rfl) ?_
      obtain ⟨g6, hf⟩ := it_g hf
      refine va_zast hx hb hE.1 hP hD hS 7 1 rfl rfl g6 dX1_fasten_26 (fun H locs (hP : va_P D vwCl (MX1 cI cZ cL cW a0 a1 a2 a3 a4 a5 a6 a7 k_keys k_values k_weights k_counts k_lasts k_tills (upd k_pinned (Int32.toNatClampNeg p1) (vp_nar .boolean p2)) k_size k_load k_pinnedLoad k_uses k_aging k_halvings) H) (hD : va_D A (MX1 cI cZ cL cW a0 a1 a2 a3 a4 a5 a6 a7 k_keys k_values k_weights k_counts k_lasts k_tills (upd k_pinned (Int32.toNatClampNeg p1) (vp_nar .boolean p2)) k_size k_load k_pinnedLoad k_uses k_aging k_halvings)) hS => ?_)
      refine lv_aload_n hx hb dX1_fasten_27 rfl (lv_at hl 0 rfl) ?_
      refine lv_dup hx hb dX1_fasten_28 rfl ?_
      refine gf_X1 (v := .int k_pinnedLoad) C hE hP 0 9 rfl (by decide) qF_X1_50 rfl dX1_fasten_29 ?_
      refine lv_iload_n hx hb dX1_fasten_32 rfl (lv_at hl 2 rfl) ?_
      refine lv_if_eq (tgt := 45) hx hb dX1_fasten_33 (by decide) (fun c5 => ?_) (fun c5 => ?_)
      · have hf := it_p hf c5
        refine lv_aload_n hx hb dX1_fasten_45 rfl (lv_at hl 0 rfl) ?_
        refine gf_X1 (v := .ref a3) C hE hP 0 2 rfl (by decide) qF_X1_18 rfl dX1_fasten_46 ?_
        refine lv_iload_n hx hb dX1_fasten_49 rfl (lv_at hl 1 rfl) ?_
        obtain ⟨g3, hf⟩ := it_g hf
        refine va_iald hx hb hE.1 hP 3 0 rfl rfl g3 dX1_fasten_50 ?_
        refine lv_ineg hx hb dX1_fasten_51 ?_
        refine lv_iadd hx hb dX1_fasten_52 ?_
        refine pf_X1 (v := .int (k_pinnedLoad + (-(k_weights (Int32.toNatClampNeg p1))))) C hE hP hD hS 0 9 rfl (by decide) qF_X1_50 rfl rfl rfl (Nat.le_of_ble_eq_true rfl) dX1_fasten_53 (fun H locs (hP : va_P D vwCl (MX1 cI cZ cL cW a0 a1 a2 a3 a4 a5 a6 a7 k_keys k_values k_weights k_counts k_lasts k_tills (upd k_pinned (Int32.toNatClampNeg p1) (vp_nar .boolean p2)) k_size k_load (k_pinnedLoad + (-(k_weights (Int32.toNatClampNeg p1)))) k_uses k_aging k_halvings) H) (hD : va_D A (MX1 cI cZ cL cW a0 a1 a2 a3 a4 a5 a6 a7 k_keys k_values k_weights k_counts k_lasts k_tills (upd k_pinned (Int32.toNatClampNeg p1) (vp_nar .boolean p2)) k_size k_load (k_pinnedLoad + (-(k_weights (Int32.toNatClampNeg p1)))) k_uses k_aging k_halvings)) hS => ?_)
        refine lv_iconst (v := 1) hx hb dX1_fasten_56 (by decide) ?_
        cases hf
        exact rw_z C hr hlk (by decide) hP hD hS dX1_fasten_57 rfl
      · have hf := it_n hf c5
        refine lv_aload_n hx hb dX1_fasten_36 rfl (lv_at hl 0 rfl) ?_
        refine gf_X1 (v := .ref a3) C hE hP 0 2 rfl (by decide) qF_X1_18 rfl dX1_fasten_37 ?_
        refine lv_iload_n hx hb dX1_fasten_40 rfl (lv_at hl 1 rfl) ?_
        obtain ⟨g4, hf⟩ := it_g hf
        refine va_iald hx hb hE.1 hP 3 0 rfl rfl g4 dX1_fasten_41 ?_
        refine lv_goto (tgt := 52) hx hb dX1_fasten_42 (by decide) ?_
        refine lv_iadd hx hb dX1_fasten_52 ?_
        refine pf_X1 (v := .int (k_pinnedLoad + (k_weights (Int32.toNatClampNeg p1)))) C hE hP hD hS 0 9 rfl (by decide) qF_X1_50 rfl rfl rfl (Nat.le_of_ble_eq_true rfl) dX1_fasten_53 (fun H locs (hP : va_P D vwCl (MX1 cI cZ cL cW a0 a1 a2 a3 a4 a5 a6 a7 k_keys k_values k_weights k_counts k_lasts k_tills (upd k_pinned (Int32.toNatClampNeg p1) (vp_nar .boolean p2)) k_size k_load (k_pinnedLoad + (k_weights (Int32.toNatClampNeg p1))) k_uses k_aging k_halvings) H) (hD : va_D A (MX1 cI cZ cL cW a0 a1 a2 a3 a4 a5 a6 a7 k_keys k_values k_weights k_counts k_lasts k_tills (upd k_pinned (Int32.toNatClampNeg p1) (vp_nar .boolean p2)) k_size k_load (k_pinnedLoad + (k_weights (Int32.toNatClampNeg p1))) k_uses k_aging k_halvings)) hS => ?_)
        refine lv_iconst (v := 1) hx hb dX1_fasten_56 (by decide) ?_
        cases hf
        exact rw_z C hr hlk (by decide) hP hD hS dX1_fasten_57 rfl
    · have hf := it_p hf c7
      refine lv_iconst (v := 0) hx hb dX1_fasten_18 (by decide) ?_
      cases hf
      exact rw_z C hr hlk (by decide) hP hD hS dX1_fasten_19 rfl
def X1_halve_L2 (F : Nat) : Nat → Int32 → (Nat → Int32) → Int32 → Option ((Nat → Int32))
  | 0, _, _, _ => none
  | n + 1, v1, k_counts, k_size => if (k_size : Int32) ≤ v1 then (some k_counts) else (if (v1 : Int32) < 0 ∨ 60 ≤ (Int32.toNatClampNeg v1) then none else (if (v1 : Int32) < 0 ∨ 60 ≤ (Int32.toNatClampNeg v1) then none else (X1_halve_L2 F n (v1 + 1) (upd k_counts (Int32.toNatClampNeg v1) (if ((k_counts (Int32.toNatClampNeg v1)) / 2) < 1 then 1 else ((k_counts (Int32.toNatClampNeg v1)) / 2))) k_size)))
def X1_halve (F : Nat) (k_counts : (Nat → Int32)) (k_size : Int32) (k_halvings : Int32) : Option ((Nat → Int32) × Int32) := (X1_halve_L2 F F 0 k_counts k_size).bind fun k4 => (some (k4, (k_halvings + 1)))
abbrev rm_X1_halve : Room := { frames := 1, cells := 0, slots := 0, locals := 48 }
theorem ok_X1_halve : OKV RX1 yX1_halve cX1_halve 2 none 0 := ⟨by decide +kernel, qV_X1_halve, qL_X1_halve, qI_X1, qD_X1_halve⟩
set_option maxHeartbeats 4000000 in
set_option maxRecDepth 100000 in
theorem c_X1_halve (l : Launch) (D : va_G) (cI cZ cL cW : ClassId) (F : Nat) (a0 : Nat) (a1 : Nat) (a2 : Nat) (a3 : Nat) (a4 : Nat) (a5 : Nat) (a6 : Nat) (a7 : Nat) (k_keys : (Nat → Int32)) (k_values : (Nat → Int32)) (k_weights : (Nat → Int32)) (k_counts : (Nat → Int32)) (k_lasts : (Nat → Int32)) (k_tills : (Nat → Int32)) (k_pinned : (Nat → Int32)) (k_size : Int32) (k_load : Int32) (k_pinnedLoad : Int32) (k_uses : Int32) (k_aging : Int32) (k_halvings : Int32) (k_counts' : (Nat → Int32)) (k_halvings' : Int32) (hf : X1_halve F k_counts k_size k_halvings = some (k_counts', k_halvings')) : CtrW l D (tyL cI cZ cL cW) nestW yX1_halve cX1_halve 2 none rm_X1_halve [.ref a0] (MX1 cI cZ cL cW a0 a1 a2 a3 a4 a5 a6 a7 k_keys k_values k_weights k_counts k_lasts k_tills k_pinned k_size k_load k_pinnedLoad k_uses k_aging k_halvings) (MX1 cI cZ cL cW a0 a1 a2 a3 a4 a5 a6 a7 k_keys k_values k_weights (k_counts') k_lasts k_tills k_pinned k_size k_load k_pinnedLoad k_uses k_aging (k_halvings')) none := by
  refine ofA RX1 (by decide) rfl (Nat.le_of_ble_eq_true rfl) ?_
  intro p e s m below meth c ls A C hr hlk hE hA hP hD hS hl
  generalize (List.toArray ([.ref a0] : List Value)) = args at C ⊢
  obtain ⟨hx, hb, hml, hown, ht⟩ := id C
  have hl : lv_has ls 2 [(0, .ref a0)] := hl
  have L2 : ∀ (Q : State → Prop) (n : Nat) (v1 : Int32) (k_keys : (Nat → Int32)) (k_values : (Nat → Int32)) (k_weights : (Nat → Int32)) (k_counts : (Nat → Int32)) (k_lasts : (Nat → Int32)) (k_tills : (Nat → Int32)) (k_pinned : (Nat → Int32)) (k_size : Int32) (k_load : Int32) (k_pinnedLoad : Int32) (k_uses : Int32) (k_aging : Int32) (k_halvings : Int32) (k_counts' : (Nat → Int32)) (H : Heap) (locs : List Loc) (ls : Array Slot), X1_halve_L2 F n v1 k_counts k_size = some (k_counts') → va_P D vwCl (MX1 cI cZ cL cW a0 a1 a2 a3 a4 a5 a6 a7 k_keys k_values k_weights k_counts k_lasts k_tills k_pinned k_size k_load k_pinnedLoad k_uses k_aging k_halvings) H → va_D A (MX1 cI cZ cL cW a0 a1 a2 a3 a4 a5 a6 a7 k_keys k_values k_weights k_counts k_lasts k_tills k_pinned k_size k_load k_pinnedLoad k_uses k_aging k_halvings) → va_S A s.heap H locs → lv_has ls 2 [(0, .ref a0), (1, .int v1)] → (∀ (H : Heap) (locs : List Loc) (ls : Array Slot), va_P D vwCl (MX1 cI cZ cL cW a0 a1 a2 a3 a4 a5 a6 a7 k_keys k_values k_weights (k_counts') k_lasts k_tills k_pinned k_size k_load k_pinnedLoad k_uses k_aging k_halvings) H → va_D A (MX1 cI cZ cL cW a0 a1 a2 a3 a4 a5 a6 a7 k_keys k_values k_weights (k_counts') k_lasts k_tills k_pinned k_size k_load k_pinnedLoad k_uses k_aging k_halvings) → va_S A s.heap H locs → lv_has ls 2 [(0, .ref a0)] → W p l e rm_X1_halve s m args below meth c H locs 0 0 Q (F0 m 34 ls [])) → W p l e rm_X1_halve s m args below meth c H locs 0 0 Q (F0 m 2 ls []) := by
    intro Q n
    induction n with
    | zero => intro v1 k_keys k_values k_weights k_counts k_lasts k_tills k_pinned k_size k_load k_pinnedLoad k_uses k_aging k_halvings k_counts' H locs ls hf hP hD hS hl hk; exact nn_s hf
    | succ n ih =>
      intro v1 k_keys k_values k_weights k_counts k_lasts k_tills k_pinned k_size k_load k_pinnedLoad k_uses k_aging k_halvings k_counts' H locs ls hf hP hD hS hl hk
      refine lv_iload_n hx hb dX1_halve_2 rfl (lv_at hl 1 rfl) ?_
      refine lv_aload_n hx hb dX1_halve_3 rfl (lv_at hl 0 rfl) ?_
      refine gf_X1 (v := .int k_size) C hE hP 0 7 rfl (by decide) qF_X1_44 rfl dX1_halve_4 ?_
      refine lv_icmp_ge (tgt := 34) hx hb dX1_halve_7 (by decide) (fun c3 => ?_) (fun c3 => ?_)
      · have hf := it_p hf c3
        cases hf
        exact hk _ _ ls hP hD hS (lv_sub hl [0] rfl)
      · have hf := it_n hf c3
        refine lv_aload_n hx hb dX1_halve_10 rfl (lv_at hl 0 rfl) ?_
        refine gf_X1 (v := .ref a4) C hE hP 0 3 rfl (by decide) qF_X1_21 rfl dX1_halve_11 ?_
        refine lv_iload_n hx hb dX1_halve_14 rfl (lv_at hl 1 rfl) ?_
        refine lv_aload_n hx hb dX1_halve_15 rfl (lv_at hl 0 rfl) ?_
        refine gf_X1 (v := .ref a4) C hE hP 0 3 rfl (by decide) qF_X1_21 rfl dX1_halve_16 ?_
        refine lv_iload_n hx hb dX1_halve_19 rfl (lv_at hl 1 rfl) ?_
        obtain ⟨g2, hf⟩ := it_g hf
        refine va_iald hx hb hE.1 hP 4 0 rfl rfl g2 dX1_halve_20 ?_
        refine lv_iconst (v := 2) hx hb dX1_halve_21 (by decide) ?_
        refine lv_idiv hx hb dX1_halve_22 (by decide) ?_
        refine lv_iconst (v := 1) hx hb dX1_halve_23 (by decide) ?_
        refine va_mmax hx hb (hml.trans hl.1.symm) hown (ht _ qM_X1_73) (ht _ qS_J9_max_7cf53) (ht _ qI_J9) (ht _ qD_J9_max_7cf53) (Nat.le_of_ble_eq_true rfl) (Nat.le_of_ble_eq_true rfl) (Nat.zero_le _) (Nat.zero_le _) dX1_halve_24 ?_
        obtain ⟨g1, hf⟩ := it_g hf
        refine va_iast hx hb hE.1 hP hD hS 4 0 rfl rfl g1 dX1_halve_27 (fun H locs (hP : va_P D vwCl (MX1 cI cZ cL cW a0 a1 a2 a3 a4 a5 a6 a7 k_keys k_values k_weights (upd k_counts (Int32.toNatClampNeg v1) (if ((k_counts (Int32.toNatClampNeg v1)) / 2) < 1 then 1 else ((k_counts (Int32.toNatClampNeg v1)) / 2))) k_lasts k_tills k_pinned k_size k_load k_pinnedLoad k_uses k_aging k_halvings) H) (hD : va_D A (MX1 cI cZ cL cW a0 a1 a2 a3 a4 a5 a6 a7 k_keys k_values k_weights (upd k_counts (Int32.toNatClampNeg v1) (if ((k_counts (Int32.toNatClampNeg v1)) / 2) < 1 then 1 else ((k_counts (Int32.toNatClampNeg v1)) / 2))) k_lasts k_tills k_pinned k_size k_load k_pinnedLoad k_uses k_aging k_halvings)) hS => ?_)
        refine lv_iinc (v := (v1 + 1)) (lv' := [(1, .int (v1 + 1)), (0, .ref a0)]) hx hb dX1_halve_28 hl (k := 1) rfl rfl (by decide) rfl (fun ls hl => ?_)
        refine lv_goto (tgt := 2) hx hb dX1_halve_31 (by decide) ?_
        exact ih (v1 + 1) k_keys k_values k_weights (upd k_counts (Int32.toNatClampNeg v1) (if ((k_counts (Int32.toNatClampNeg v1)) / 2) < 1 then 1 else ((k_counts (Int32.toNatClampNeg v1)) / 2))) k_lasts k_tills k_pinned k_size k_load k_pinnedLoad k_uses k_aging k_halvings _ _ _ ls hf hP hD hS (lv_sub hl [1, 0] rfl) hk
  refine lv_iconst (v := 0) hx hb dX1_halve_0 (by decide) ?_
  refine lv_istore_n (lv' := [(1, .int 0), (0, .ref a0)]) hx hb dX1_halve_1 rfl hl (by decide) rfl (fun ls hl => ?_)
  obtain ⟨k4, h5, hf⟩ := bd_s hf
  refine L2 _ F 0 k_keys k_values k_weights k_counts k_lasts k_tills k_pinned k_size k_load k_pinnedLoad k_uses k_aging k_halvings k4 _ _ ls h5 hP hD hS (lv_sub hl [1, 0] rfl) (fun H locs ls hP hD hS hl => ?_)
  refine lv_aload_n hx hb dX1_halve_34 rfl (lv_at hl 0 rfl) ?_
  refine lv_dup hx hb dX1_halve_35 rfl ?_
  refine gf_X1 (v := .int k_halvings) C hE hP 0 12 rfl (by decide) qF_X1_56 rfl dX1_halve_36 ?_
  refine lv_iconst (v := 1) hx hb dX1_halve_39 (by decide) ?_
  refine lv_iadd hx hb dX1_halve_40 ?_
  refine pf_X1 (v := .int (k_halvings + 1)) C hE hP hD hS 0 12 rfl (by decide) qF_X1_56 rfl rfl rfl (Nat.le_of_ble_eq_true rfl) dX1_halve_41 (fun H locs (hP : va_P D vwCl (MX1 cI cZ cL cW a0 a1 a2 a3 a4 a5 a6 a7 k_keys k_values k_weights k4 k_lasts k_tills k_pinned k_size k_load k_pinnedLoad k_uses k_aging (k_halvings + 1)) H) (hD : va_D A (MX1 cI cZ cL cW a0 a1 a2 a3 a4 a5 a6 a7 k_keys k_values k_weights k4 k_lasts k_tills k_pinned k_size k_load k_pinnedLoad k_uses k_aging (k_halvings + 1))) hS => ?_)
  cases hf
  exact rw_v C hr hlk hP hD hS dX1_halve_44
def X1_use (F : Nat) (p1 : Int32) (k_counts : (Nat → Int32)) (k_lasts : (Nat → Int32)) (k_size : Int32) (k_uses : Int32) (k_aging : Int32) (k_halvings : Int32) : Option ((Nat → Int32) × (Nat → Int32) × Int32 × Int32) := (X1_has F p1 k_size).bind fun r1 => (if (r1 : Int32) = 0 then (some (k_counts, k_lasts, k_uses, k_halvings)) else (if (p1 : Int32) < 0 ∨ 60 ≤ (Int32.toNatClampNeg p1) then none else (if (p1 : Int32) < 0 ∨ 60 ≤ (Int32.toNatClampNeg p1) then none else (if (p1 : Int32) < 0 ∨ 60 ≤ (Int32.toNatClampNeg p1) then none else (if (k_aging : Int32) ≤ 0 then (some ((upd k_counts (Int32.toNatClampNeg p1) (if 999999 < ((k_counts (Int32.toNatClampNeg p1)) + 1) then 999999 else ((k_counts (Int32.toNatClampNeg p1)) + 1))), (upd k_lasts (Int32.toNatClampNeg p1) (k_uses + 1)), (k_uses + 1), k_halvings)) else (if k_aging = 0 then none else (if (((k_uses + 1) - (k_uses + 1) / k_aging * k_aging) : Int32) = 0 then ((X1_halve F (upd k_counts (Int32.toNatClampNeg p1) (if 999999 < ((k_counts (Int32.toNatClampNeg p1)) + 1) then 999999 else ((k_counts (Int32.toNatClampNeg p1)) + 1))) k_size k_halvings).bind fun (k_counts_4, k_halvings_5) => (some (k_counts_4, (upd k_lasts (Int32.toNatClampNeg p1) (k_uses + 1)), (k_uses + 1), k_halvings_5))) else (some ((upd k_counts (Int32.toNatClampNeg p1) (if 999999 < ((k_counts (Int32.toNatClampNeg p1)) + 1) then 999999 else ((k_counts (Int32.toNatClampNeg p1)) + 1))), (upd k_lasts (Int32.toNatClampNeg p1) (k_uses + 1)), (k_uses + 1), k_halvings)))))))))
abbrev rm_X1_use : Room := { frames := 2, cells := 0, slots := 0, locals := 69 }
theorem ok_X1_use : OKV RX1 yX1_use cX1_use 2 none 1 := ⟨by decide +kernel, qV_X1_use, qL_X1_use, qI_X1, qD_X1_use⟩
set_option maxHeartbeats 4000000 in
set_option maxRecDepth 100000 in
theorem c_X1_use (l : Launch) (D : va_G) (cI cZ cL cW : ClassId) (F : Nat) (a0 : Nat) (a1 : Nat) (a2 : Nat) (a3 : Nat) (a4 : Nat) (a5 : Nat) (a6 : Nat) (a7 : Nat) (k_keys : (Nat → Int32)) (k_values : (Nat → Int32)) (k_weights : (Nat → Int32)) (k_counts : (Nat → Int32)) (k_lasts : (Nat → Int32)) (k_tills : (Nat → Int32)) (k_pinned : (Nat → Int32)) (k_size : Int32) (k_load : Int32) (k_pinnedLoad : Int32) (k_uses : Int32) (k_aging : Int32) (k_halvings : Int32) (p1 : Int32) (k_counts' : (Nat → Int32)) (k_lasts' : (Nat → Int32)) (k_uses' : Int32) (k_halvings' : Int32) (hf : X1_use F p1 k_counts k_lasts k_size k_uses k_aging k_halvings = some (k_counts', k_lasts', k_uses', k_halvings')) : CtrW l D (tyL cI cZ cL cW) nestW yX1_use cX1_use 2 none rm_X1_use [.ref a0, .int p1] (MX1 cI cZ cL cW a0 a1 a2 a3 a4 a5 a6 a7 k_keys k_values k_weights k_counts k_lasts k_tills k_pinned k_size k_load k_pinnedLoad k_uses k_aging k_halvings) (MX1 cI cZ cL cW a0 a1 a2 a3 a4 a5 a6 a7 k_keys k_values k_weights (k_counts') (k_lasts') k_tills k_pinned k_size k_load k_pinnedLoad (k_uses') k_aging (k_halvings')) none := by
  refine ofA RX1 (by decide) rfl (Nat.le_of_ble_eq_true rfl) ?_
  intro p e s m below meth c ls A C hr hlk hE hA hP hD hS hl
  generalize (List.toArray ([.ref a0, .int p1] : List Value)) = args at C ⊢
  obtain ⟨hx, hb, hml, hown, ht⟩ := id C
  have hl : lv_has ls 2 [(0, .ref a0), (1, .int p1)] := hl
  refine lv_aload_n hx hb dX1_use_0 rfl (lv_at hl 0 rfl) ?_
  refine lv_iload_n hx hb dX1_use_1 rfl (lv_at hl 1 rfl) ?_
  obtain ⟨r1, h2, hf⟩ := bd_s hf
  refine iv_R (rest := []) (st1 := [.int r1]) C hE hP (c_X1_has l D cI cZ cL cW F a0 a1 a2 a3 a4 a5 a6 a7 k_keys k_values k_weights k_counts k_lasts k_tills k_pinned k_size k_load k_pinnedLoad k_uses k_aging k_halvings p1 r1  h2) ok_X1_has qM_X1_59 rfl rfl ⟨(Nat.le_of_ble_eq_true rfl), (Nat.le_of_ble_eq_true rfl)⟩ rfl rfl hl.1 (Nat.le_of_ble_eq_true rfl) ⟨Nat.zero_le _, Nat.zero_le _⟩ dX1_use_2 rfl rfl ?_
  refine lv_if_ne (tgt := 9) hx hb dX1_use_5 (by decide) (fun c12 => ?_) (fun c12 => ?_)
  · have hf := it_n hf c12
    refine lv_aload_n hx hb dX1_use_9 rfl (lv_at hl 0 rfl) ?_
    refine lv_dup hx hb dX1_use_10 rfl ?_
    refine gf_X1 (v := .int k_uses) C hE hP 0 10 rfl (by decide) qF_X1_53 rfl dX1_use_11 ?_
    refine lv_iconst (v := 1) hx hb dX1_use_14 (by decide) ?_
    refine lv_iadd hx hb dX1_use_15 ?_
    refine pf_X1 (v := .int (k_uses + 1)) C hE hP hD hS 0 10 rfl (by decide) qF_X1_53 rfl rfl rfl (Nat.le_of_ble_eq_true rfl) dX1_use_16 (fun H locs (hP : va_P D vwCl (MX1 cI cZ cL cW a0 a1 a2 a3 a4 a5 a6 a7 k_keys k_values k_weights k_counts k_lasts k_tills k_pinned k_size k_load k_pinnedLoad (k_uses + 1) k_aging k_halvings) H) (hD : va_D A (MX1 cI cZ cL cW a0 a1 a2 a3 a4 a5 a6 a7 k_keys k_values k_weights k_counts k_lasts k_tills k_pinned k_size k_load k_pinnedLoad (k_uses + 1) k_aging k_halvings)) hS => ?_)
    refine lv_aload_n hx hb dX1_use_19 rfl (lv_at hl 0 rfl) ?_
    refine gf_X1 (v := .ref a5) C hE hP 0 4 rfl (by decide) qF_X1_24 rfl dX1_use_20 ?_
    refine lv_iload_n hx hb dX1_use_23 rfl (lv_at hl 1 rfl) ?_
    refine lv_aload_n hx hb dX1_use_24 rfl (lv_at hl 0 rfl) ?_
    refine gf_X1 (v := .int (k_uses + 1)) C hE hP 0 10 rfl (by decide) qF_X1_53 rfl dX1_use_25 ?_
    obtain ⟨g11, hf⟩ := it_g hf
    refine va_iast hx hb hE.1 hP hD hS 5 0 rfl rfl g11 dX1_use_28 (fun H locs (hP : va_P D vwCl (MX1 cI cZ cL cW a0 a1 a2 a3 a4 a5 a6 a7 k_keys k_values k_weights k_counts (upd k_lasts (Int32.toNatClampNeg p1) (k_uses + 1)) k_tills k_pinned k_size k_load k_pinnedLoad (k_uses + 1) k_aging k_halvings) H) (hD : va_D A (MX1 cI cZ cL cW a0 a1 a2 a3 a4 a5 a6 a7 k_keys k_values k_weights k_counts (upd k_lasts (Int32.toNatClampNeg p1) (k_uses + 1)) k_tills k_pinned k_size k_load k_pinnedLoad (k_uses + 1) k_aging k_halvings)) hS => ?_)
    refine lv_aload_n hx hb dX1_use_29 rfl (lv_at hl 0 rfl) ?_
    refine gf_X1 (v := .ref a4) C hE hP 0 3 rfl (by decide) qF_X1_21 rfl dX1_use_30 ?_
    refine lv_iload_n hx hb dX1_use_33 rfl (lv_at hl 1 rfl) ?_
    refine lv_aload_n hx hb dX1_use_34 rfl (lv_at hl 0 rfl) ?_
    refine gf_X1 (v := .ref a4) C hE hP 0 3 rfl (by decide) qF_X1_21 rfl dX1_use_35 ?_
    refine lv_iload_n hx hb dX1_use_38 rfl (lv_at hl 1 rfl) ?_
    obtain ⟨g10, hf⟩ := it_g hf
    refine va_iald hx hb hE.1 hP 4 0 rfl rfl g10 dX1_use_39 ?_
    refine lv_iconst (v := 1) hx hb dX1_use_40 (by decide) ?_
    refine lv_iadd hx hb dX1_use_41 ?_
    refine lv_ldc (v := 999999) hx hb hown (ht _ qK_X1_63) dX1_use_42 ?_
    refine va_mmin hx hb (hml.trans hl.1.symm) hown (ht _ qM_X1_64) (ht _ qS_J9_min_7cf53) (ht _ qI_J9) (ht _ qD_J9_min_7cf53) (Nat.le_of_ble_eq_true rfl) (Nat.le_of_ble_eq_true rfl) (Nat.zero_le _) (Nat.zero_le _) dX1_use_44 ?_
    obtain ⟨g9, hf⟩ := it_g hf
    refine va_iast hx hb hE.1 hP hD hS 4 0 rfl rfl g9 dX1_use_47 (fun H locs (hP : va_P D vwCl (MX1 cI cZ cL cW a0 a1 a2 a3 a4 a5 a6 a7 k_keys k_values k_weights (upd k_counts (Int32.toNatClampNeg p1) (if 999999 < ((k_counts (Int32.toNatClampNeg p1)) + 1) then 999999 else ((k_counts (Int32.toNatClampNeg p1)) + 1))) (upd k_lasts (Int32.toNatClampNeg p1) (k_uses + 1)) k_tills k_pinned k_size k_load k_pinnedLoad (k_uses + 1) k_aging k_halvings) H) (hD : va_D A (MX1 cI cZ cL cW a0 a1 a2 a3 a4 a5 a6 a7 k_keys k_values k_weights (upd k_counts (Int32.toNatClampNeg p1) (if 999999 < ((k_counts (Int32.toNatClampNeg p1)) + 1) then 999999 else ((k_counts (Int32.toNatClampNeg p1)) + 1))) (upd k_lasts (Int32.toNatClampNeg p1) (k_uses + 1)) k_tills k_pinned k_size k_load k_pinnedLoad (k_uses + 1) k_aging k_halvings)) hS => ?_)
    refine lv_aload_n hx hb dX1_use_48 rfl (lv_at hl 0 rfl) ?_
    refine gf_X1 (v := .int k_aging) C hE hP 0 11 rfl (by decide) qF_X1_34 rfl dX1_use_49 ?_
    refine lv_if_le (tgt := 71) hx hb dX1_use_52 (by decide) (fun c8 => ?_) (fun c8 => ?_)
    · have hf := it_p hf c8
      cases hf
      exact rw_v C hr hlk hP hD hS dX1_use_71
    · have hf := it_n hf c8
      refine lv_aload_n hx hb dX1_use_55 rfl (lv_at hl 0 rfl) ?_
      refine gf_X1 (v := .int (k_uses + 1)) C hE hP 0 10 rfl (by decide) qF_X1_53 rfl dX1_use_56 ?_
      refine lv_aload_n hx hb dX1_use_59 rfl (lv_at hl 0 rfl) ?_
      refine gf_X1 (v := .int k_aging) C hE hP 0 11 rfl (by decide) qF_X1_34 rfl dX1_use_60 ?_
      obtain ⟨g3, hf⟩ := it_g hf
      refine lv_irem hx hb dX1_use_63 g3 ?_
      refine lv_if_ne (tgt := 71) hx hb dX1_use_64 (by decide) (fun c7 => ?_) (fun c7 => ?_)
      · have hf := it_n hf c7
        cases hf
        exact rw_v C hr hlk hP hD hS dX1_use_71
      · have hf := it_p hf c7
        refine lv_aload_n hx hb dX1_use_67 rfl (lv_at hl 0 rfl) ?_
        obtain ⟨⟨k_counts_4, k_halvings_5⟩, h6, hf⟩ := bd_s hf
        refine iv_A (rest := []) (st1 := []) C hE hP hD hS hA (c_X1_halve l D cI cZ cL cW F a0 a1 a2 a3 a4 a5 a6 a7 k_keys k_values k_weights (upd k_counts (Int32.toNatClampNeg p1) (if 999999 < ((k_counts (Int32.toNatClampNeg p1)) + 1) then 999999 else ((k_counts (Int32.toNatClampNeg p1)) + 1))) (upd k_lasts (Int32.toNatClampNeg p1) (k_uses + 1)) k_tills k_pinned k_size k_load k_pinnedLoad (k_uses + 1) k_aging k_halvings   k_counts_4 k_halvings_5 h6) ok_X1_halve qM_X1_70 rfl rfl ⟨(Nat.le_of_ble_eq_true rfl), (Nat.le_of_ble_eq_true rfl)⟩ rfl rfl hl.1 (Nat.le_of_ble_eq_true rfl) ⟨Nat.zero_le _, Nat.zero_le _⟩ dX1_use_68 rfl rfl (fun H locs (hP : va_P D vwCl (MX1 cI cZ cL cW a0 a1 a2 a3 a4 a5 a6 a7 k_keys k_values k_weights k_counts_4 (upd k_lasts (Int32.toNatClampNeg p1) (k_uses + 1)) k_tills k_pinned k_size k_load k_pinnedLoad (k_uses + 1) k_aging k_halvings_5) H) (hD : va_D A (MX1 cI cZ cL cW a0 a1 a2 a3 a4 a5 a6 a7 k_keys k_values k_weights k_counts_4 (upd k_lasts (Int32.toNatClampNeg p1) (k_uses + 1)) k_tills k_pinned k_size k_load k_pinnedLoad (k_uses + 1) k_aging k_halvings_5)) hS => ?_)
        cases hf
        exact rw_v C hr hlk hP hD hS dX1_use_71
  · have hf := it_p hf c12
    cases hf
    exact rw_v C hr hlk hP hD hS dX1_use_8
def X1_precedes (F : Nat) (p1 : Int32) (p2 : Int32) (p3 : Int32) (k_counts : (Nat → Int32)) (k_lasts : (Nat → Int32)) : Option (Int32) := if (p1 : Int32) = 1 then (if (p2 : Int32) < 0 ∨ 60 ≤ (Int32.toNatClampNeg p2) then none else (if (p3 : Int32) < 0 ∨ 60 ≤ (Int32.toNatClampNeg p3) then none else (if ((k_counts (Int32.toNatClampNeg p2)) : Int32) = (k_counts (Int32.toNatClampNeg p3)) then (if (p2 : Int32) < 0 ∨ 60 ≤ (Int32.toNatClampNeg p2) then none else (if (p3 : Int32) < 0 ∨ 60 ≤ (Int32.toNatClampNeg p3) then none else (if ((k_lasts (Int32.toNatClampNeg p3)) : Int32) ≤ (k_lasts (Int32.toNatClampNeg p2)) then (some 0) else (some 1)))) else (if (p2 : Int32) < 0 ∨ 60 ≤ (Int32.toNatClampNeg p2) then none else (if (p3 : Int32) < 0 ∨ 60 ≤ (Int32.toNatClampNeg p3) then none else (if ((k_counts (Int32.toNatClampNeg p3)) : Int32) ≤ (k_counts (Int32.toNatClampNeg p2)) then (some 0) else (some 1))))))) else (if (p2 : Int32) < 0 ∨ 60 ≤ (Int32.toNatClampNeg p2) then none else (if (p3 : Int32) < 0 ∨ 60 ≤ (Int32.toNatClampNeg p3) then none else (if ((k_lasts (Int32.toNatClampNeg p3)) : Int32) ≤ (k_lasts (Int32.toNatClampNeg p2)) then (some 0) else (some 1))))
abbrev rm_X1_precedes : Room := { frames := 0, cells := 0, slots := 0, locals := 0 }
theorem ok_X1_precedes : OKV RX1 yX1_precedes cX1_precedes 4 (some .boolean) 3 := ⟨by decide +kernel, qV_X1_precedes, qL_X1_precedes, qI_X1, qD_X1_precedes⟩
set_option maxHeartbeats 4000000 in
set_option maxRecDepth 100000 in
theorem c_X1_precedes (l : Launch) (D : va_G) (cI cZ cL cW : ClassId) (F : Nat) (a0 : Nat) (a1 : Nat) (a2 : Nat) (a3 : Nat) (a4 : Nat) (a5 : Nat) (a6 : Nat) (a7 : Nat) (k_keys : (Nat → Int32)) (k_values : (Nat → Int32)) (k_weights : (Nat → Int32)) (k_counts : (Nat → Int32)) (k_lasts : (Nat → Int32)) (k_tills : (Nat → Int32)) (k_pinned : (Nat → Int32)) (k_size : Int32) (k_load : Int32) (k_pinnedLoad : Int32) (k_uses : Int32) (k_aging : Int32) (k_halvings : Int32) (p1 : Int32) (p2 : Int32) (p3 : Int32) (r : Int32) (hf : X1_precedes F p1 p2 p3 k_counts k_lasts = some r) : CtrR l D (tyL cI cZ cL cW) nestW yX1_precedes cX1_precedes 4 (some .boolean) rm_X1_precedes [.ref a0, .int p1, .int p2, .int p3] (MX1 cI cZ cL cW a0 a1 a2 a3 a4 a5 a6 a7 k_keys k_values k_weights k_counts k_lasts k_tills k_pinned k_size k_load k_pinnedLoad k_uses k_aging k_halvings) (some (.int r)) := by
  refine ofR RX1 (by decide) rfl (Nat.le_of_ble_eq_true rfl) ?_
  intro p e s m below meth c ls C hr hlk hE hP hl
  generalize (List.toArray ([.ref a0, .int p1, .int p2, .int p3] : List Value)) = args at C ⊢
  obtain ⟨hx, hb, hml, hown, ht⟩ := id C
  have hl : lv_has ls 4 [(0, .ref a0), (1, .int p1), (2, .int p2), (3, .int p3)] := hl
  refine lv_iload_n hx hb dX1_precedes_0 rfl (lv_at hl 1 rfl) ?_
  refine lv_iconst (v := 1) hx hb dX1_precedes_1 (by decide) ?_
  refine lv_icmp_ne (tgt := 41) hx hb dX1_precedes_2 (by decide) (fun c13 => ?_) (fun c13 => ?_)
  · have hf := it_n hf c13
    refine lv_aload_n hx hb dX1_precedes_41 rfl (lv_at hl 0 rfl) ?_
    refine gf_X1 (v := .ref a5) C hE hP 0 4 rfl (by decide) qF_X1_24 rfl dX1_precedes_42 ?_
    refine lv_iload_n hx hb dX1_precedes_45 rfl (lv_at hl 2 rfl) ?_
    obtain ⟨g3, hf⟩ := it_g hf
    refine va_iald hx hb hE.1 hP 5 0 rfl rfl g3 dX1_precedes_46 ?_
    refine lv_aload_n hx hb dX1_precedes_47 rfl (lv_at hl 0 rfl) ?_
    refine gf_X1 (v := .ref a5) C hE hP 0 4 rfl (by decide) qF_X1_24 rfl dX1_precedes_48 ?_
    refine lv_iload_n hx hb dX1_precedes_51 rfl (lv_at hl 3 rfl) ?_
    obtain ⟨g2, hf⟩ := it_g hf
    refine va_iald hx hb hE.1 hP 5 0 rfl rfl g2 dX1_precedes_52 ?_
    refine lv_icmp_ge (tgt := 60) hx hb dX1_precedes_53 (by decide) (fun c1 => ?_) (fun c1 => ?_)
    · have hf := it_p hf c1
      refine lv_iconst (v := 0) hx hb dX1_precedes_60 (by decide) ?_
      exact rt_z C hr hlk (by decide) dX1_precedes_61 (congrArg (fun o => o.map Value.int) hf)
    · have hf := it_n hf c1
      refine lv_iconst (v := 1) hx hb dX1_precedes_56 (by decide) ?_
      refine lv_goto (tgt := 61) hx hb dX1_precedes_57 (by decide) ?_
      exact rt_z C hr hlk (by decide) dX1_precedes_61 (congrArg (fun o => o.map Value.int) hf)
  · have hf := it_p hf c13
    refine lv_aload_n hx hb dX1_precedes_5 rfl (lv_at hl 0 rfl) ?_
    refine gf_X1 (v := .ref a4) C hE hP 0 3 rfl (by decide) qF_X1_21 rfl dX1_precedes_6 ?_
    refine lv_iload_n hx hb dX1_precedes_9 rfl (lv_at hl 2 rfl) ?_
    obtain ⟨g12, hf⟩ := it_g hf
    refine va_iald hx hb hE.1 hP 4 0 rfl rfl g12 dX1_precedes_10 ?_
    refine lv_aload_n hx hb dX1_precedes_11 rfl (lv_at hl 0 rfl) ?_
    refine gf_X1 (v := .ref a4) C hE hP 0 3 rfl (by decide) qF_X1_21 rfl dX1_precedes_12 ?_
    refine lv_iload_n hx hb dX1_precedes_15 rfl (lv_at hl 3 rfl) ?_
    obtain ⟨g11, hf⟩ := it_g hf
    refine va_iald hx hb hE.1 hP 4 0 rfl rfl g11 dX1_precedes_16 ?_
    refine lv_icmp_eq (tgt := 41) hx hb dX1_precedes_17 (by decide) (fun c10 => ?_) (fun c10 => ?_)
    · have hf := it_p hf c10
      refine lv_aload_n hx hb dX1_precedes_41 rfl (lv_at hl 0 rfl) ?_
      refine gf_X1 (v := .ref a5) C hE hP 0 4 rfl (by decide) qF_X1_24 rfl dX1_precedes_42 ?_
      refine lv_iload_n hx hb dX1_precedes_45 rfl (lv_at hl 2 rfl) ?_
      obtain ⟨g6, hf⟩ := it_g hf
      refine va_iald hx hb hE.1 hP 5 0 rfl rfl g6 dX1_precedes_46 ?_
      refine lv_aload_n hx hb dX1_precedes_47 rfl (lv_at hl 0 rfl) ?_
      refine gf_X1 (v := .ref a5) C hE hP 0 4 rfl (by decide) qF_X1_24 rfl dX1_precedes_48 ?_
      refine lv_iload_n hx hb dX1_precedes_51 rfl (lv_at hl 3 rfl) ?_
      obtain ⟨g5, hf⟩ := it_g hf
      refine va_iald hx hb hE.1 hP 5 0 rfl rfl g5 dX1_precedes_52 ?_
      refine lv_icmp_ge (tgt := 60) hx hb dX1_precedes_53 (by decide) (fun c4 => ?_) (fun c4 => ?_)
      · have hf := it_p hf c4
        refine lv_iconst (v := 0) hx hb dX1_precedes_60 (by decide) ?_
        exact rt_z C hr hlk (by decide) dX1_precedes_61 (congrArg (fun o => o.map Value.int) hf)
      · have hf := it_n hf c4
        refine lv_iconst (v := 1) hx hb dX1_precedes_56 (by decide) ?_
        refine lv_goto (tgt := 61) hx hb dX1_precedes_57 (by decide) ?_
        exact rt_z C hr hlk (by decide) dX1_precedes_61 (congrArg (fun o => o.map Value.int) hf)
    · have hf := it_n hf c10
      refine lv_aload_n hx hb dX1_precedes_20 rfl (lv_at hl 0 rfl) ?_
      refine gf_X1 (v := .ref a4) C hE hP 0 3 rfl (by decide) qF_X1_21 rfl dX1_precedes_21 ?_
      refine lv_iload_n hx hb dX1_precedes_24 rfl (lv_at hl 2 rfl) ?_
      obtain ⟨g9, hf⟩ := it_g hf
      refine va_iald hx hb hE.1 hP 4 0 rfl rfl g9 dX1_precedes_25 ?_
      refine lv_aload_n hx hb dX1_precedes_26 rfl (lv_at hl 0 rfl) ?_
      refine gf_X1 (v := .ref a4) C hE hP 0 3 rfl (by decide) qF_X1_21 rfl dX1_precedes_27 ?_
      refine lv_iload_n hx hb dX1_precedes_30 rfl (lv_at hl 3 rfl) ?_
      obtain ⟨g8, hf⟩ := it_g hf
      refine va_iald hx hb hE.1 hP 4 0 rfl rfl g8 dX1_precedes_31 ?_
      refine lv_icmp_ge (tgt := 39) hx hb dX1_precedes_32 (by decide) (fun c7 => ?_) (fun c7 => ?_)
      · have hf := it_p hf c7
        refine lv_iconst (v := 0) hx hb dX1_precedes_39 (by decide) ?_
        exact rt_z C hr hlk (by decide) dX1_precedes_40 (congrArg (fun o => o.map Value.int) hf)
      · have hf := it_n hf c7
        refine lv_iconst (v := 1) hx hb dX1_precedes_35 (by decide) ?_
        refine lv_goto (tgt := 40) hx hb dX1_precedes_36 (by decide) ?_
        exact rt_z C hr hlk (by decide) dX1_precedes_40 (congrArg (fun o => o.map Value.int) hf)
def X1_placeOf_L5 (F : Nat) : Nat → Int32 → Int32 → Int32 → Int32 → (Nat → Int32) → (Nat → Int32) → Int32 → Option (Int32)
  | 0, _, _, _, _, _, _, _ => none
  | n + 1, v1, v2, v3, v4, k_counts, k_lasts, k_size => if (k_size : Int32) ≤ v4 then (some v3) else ((X1_precedes F v1 v4 v2 k_counts k_lasts).bind fun r1 => (if (r1 : Int32) = 0 then (X1_placeOf_L5 F n v1 v2 v3 (v4 + 1) k_counts k_lasts k_size) else (X1_placeOf_L5 F n v1 v2 (v3 + 1) (v4 + 1) k_counts k_lasts k_size)))
def X1_placeOf (F : Nat) (p1 : Int32) (p2 : Int32) (k_counts : (Nat → Int32)) (k_lasts : (Nat → Int32)) (k_size : Int32) : Option (Int32) := (X1_placeOf_L5 F F p1 p2 0 0 k_counts k_lasts k_size).bind fun x5 => (some x5)
abbrev rm_X1_placeOf : Room := { frames := 1, cells := 0, slots := 0, locals := 23 }
theorem ok_X1_placeOf : OKV RX1 yX1_placeOf cX1_placeOf 5 (some .int) 2 := ⟨by decide +kernel, qV_X1_placeOf, qL_X1_placeOf, qI_X1, qD_X1_placeOf⟩
set_option maxHeartbeats 4000000 in
set_option maxRecDepth 100000 in
theorem c_X1_placeOf (l : Launch) (D : va_G) (cI cZ cL cW : ClassId) (F : Nat) (a0 : Nat) (a1 : Nat) (a2 : Nat) (a3 : Nat) (a4 : Nat) (a5 : Nat) (a6 : Nat) (a7 : Nat) (k_keys : (Nat → Int32)) (k_values : (Nat → Int32)) (k_weights : (Nat → Int32)) (k_counts : (Nat → Int32)) (k_lasts : (Nat → Int32)) (k_tills : (Nat → Int32)) (k_pinned : (Nat → Int32)) (k_size : Int32) (k_load : Int32) (k_pinnedLoad : Int32) (k_uses : Int32) (k_aging : Int32) (k_halvings : Int32) (p1 : Int32) (p2 : Int32) (r : Int32) (hf : X1_placeOf F p1 p2 k_counts k_lasts k_size = some r) : CtrR l D (tyL cI cZ cL cW) nestW yX1_placeOf cX1_placeOf 5 (some .int) rm_X1_placeOf [.ref a0, .int p1, .int p2] (MX1 cI cZ cL cW a0 a1 a2 a3 a4 a5 a6 a7 k_keys k_values k_weights k_counts k_lasts k_tills k_pinned k_size k_load k_pinnedLoad k_uses k_aging k_halvings) (some (.int r)) := by
  refine ofR RX1 (by decide) rfl (Nat.le_of_ble_eq_true rfl) ?_
  intro p e s m below meth c ls C hr hlk hE hP hl
  generalize (List.toArray ([.ref a0, .int p1, .int p2] : List Value)) = args at C ⊢
  obtain ⟨hx, hb, hml, hown, ht⟩ := id C
  have hl : lv_has ls 5 [(0, .ref a0), (1, .int p1), (2, .int p2)] := hl
  have L5 : ∀ (Q : State → Prop) (n : Nat) (v1 : Int32) (v2 : Int32) (v3 : Int32) (v4 : Int32) (x3 : Int32) (ls : Array Slot), X1_placeOf_L5 F n v1 v2 v3 v4 k_counts k_lasts k_size = some x3 → lv_has ls 5 [(0, .ref a0), (1, .int v1), (2, .int v2), (3, .int v3), (4, .int v4)] → (∀ ls : Array Slot, lv_has ls 5 [(3, .int x3)] → W p l e rm_X1_placeOf s m args below meth c s.heap [] 0 0 Q (F0 m 34 ls [])) → W p l e rm_X1_placeOf s m args below meth c s.heap [] 0 0 Q (F0 m 5 ls []) := by
    intro Q n
    induction n with
    | zero => intro v1 v2 v3 v4 x3 ls hf hl hk; exact nn_s hf
    | succ n ih =>
      intro v1 v2 v3 v4 x3 ls hf hl hk
      refine lv_iload hx hb dX1_placeOf_5 (lv_at hl 4 rfl) ?_
      refine lv_aload_n hx hb dX1_placeOf_7 rfl (lv_at hl 0 rfl) ?_
      refine gf_X1 (v := .int k_size) C hE hP 0 7 rfl (by decide) qF_X1_44 rfl dX1_placeOf_8 ?_
      refine lv_icmp_ge (tgt := 34) hx hb dX1_placeOf_11 (by decide) (fun c4 => ?_) (fun c4 => ?_)
      · have hf := it_p hf c4
        cases hf
        exact hk ls (lv_sub hl [3] rfl)
      · have hf := it_n hf c4
        refine lv_aload_n hx hb dX1_placeOf_14 rfl (lv_at hl 0 rfl) ?_
        refine lv_iload_n hx hb dX1_placeOf_15 rfl (lv_at hl 1 rfl) ?_
        refine lv_iload hx hb dX1_placeOf_16 (lv_at hl 4 rfl) ?_
        refine lv_iload_n hx hb dX1_placeOf_18 rfl (lv_at hl 2 rfl) ?_
        obtain ⟨r1, h2, hf⟩ := bd_s hf
        refine iv_R (rest := []) (st1 := [.int r1]) C hE hP (c_X1_precedes l D cI cZ cL cW F a0 a1 a2 a3 a4 a5 a6 a7 k_keys k_values k_weights k_counts k_lasts k_tills k_pinned k_size k_load k_pinnedLoad k_uses k_aging k_halvings v1 v4 v2 r1  h2) ok_X1_precedes qM_X1_76 rfl rfl ⟨(Nat.le_of_ble_eq_true rfl), (Nat.le_of_ble_eq_true rfl)⟩ rfl rfl hl.1 (Nat.le_of_ble_eq_true rfl) ⟨Nat.zero_le _, Nat.zero_le _⟩ dX1_placeOf_19 rfl rfl ?_
        refine lv_if_eq (tgt := 28) hx hb dX1_placeOf_22 (by decide) (fun c3 => ?_) (fun c3 => ?_)
        · have hf := it_p hf c3
          refine lv_iinc (v := (v4 + 1)) (lv' := [(4, .int (v4 + 1)), (0, .ref a0), (1, .int v1), (2, .int v2), (3, .int v3)]) hx hb dX1_placeOf_28 hl (k := 4) rfl rfl (by decide) rfl (fun ls hl => ?_)
          refine lv_goto (tgt := 5) hx hb dX1_placeOf_31 (by decide) ?_
          exact ih v1 v2 v3 (v4 + 1) _ ls hf (lv_sub hl [1, 2, 3, 4, 0] rfl) hk
        · have hf := it_n hf c3
          refine lv_iinc (v := (v3 + 1)) (lv' := [(3, .int (v3 + 1)), (0, .ref a0), (1, .int v1), (2, .int v2), (4, .int v4)]) hx hb dX1_placeOf_25 hl (k := 3) rfl rfl (by decide) rfl (fun ls hl => ?_)
          refine lv_iinc (v := (v4 + 1)) (lv' := [(4, .int (v4 + 1)), (3, .int (v3 + 1)), (0, .ref a0), (1, .int v1), (2, .int v2)]) hx hb dX1_placeOf_28 hl (k := 4) rfl rfl (by decide) rfl (fun ls hl => ?_)
          refine lv_goto (tgt := 5) hx hb dX1_placeOf_31 (by decide) ?_
          exact ih v1 v2 (v3 + 1) (v4 + 1) _ ls hf (lv_sub hl [2, 3, 4, 1, 0] rfl) hk
  refine lv_iconst (v := 0) hx hb dX1_placeOf_0 (by decide) ?_
  refine lv_istore_n (lv' := [(3, .int 0), (0, .ref a0), (1, .int p1), (2, .int p2)]) hx hb dX1_placeOf_1 rfl hl (by decide) rfl (fun ls hl => ?_)
  refine lv_iconst (v := 0) hx hb dX1_placeOf_2 (by decide) ?_
  refine lv_istore (lv' := [(4, .int 0), (3, .int 0), (0, .ref a0), (1, .int p1), (2, .int p2)]) hx hb dX1_placeOf_3 hl (by decide) rfl (fun ls hl => ?_)
  obtain ⟨x5, h6, hf⟩ := bd_s hf
  refine L5 _ F p1 p2 0 0 x5 ls h6 (lv_sub hl [2, 3, 4, 1, 0] rfl) (fun ls hl => ?_)
  refine lv_iload_n hx hb dX1_placeOf_34 rfl (lv_at hl 0 rfl) ?_
  exact rt_i C hr hlk dX1_placeOf_35 (congrArg (fun o => o.map Value.int) hf)
def X1_keyAt_L2 (F : Nat) : Nat → Int32 → Int32 → Int32 → (Nat → Int32) → (Nat → Int32) → (Nat → Int32) → Int32 → Option (Int32)
  | 0, _, _, _, _, _, _, _ => none
  | n + 1, v1, v2, v3, k_keys, k_counts, k_lasts, k_size => if (k_size : Int32) ≤ v3 then (some (-1)) else ((X1_placeOf F v1 v3 k_counts k_lasts k_size).bind fun r1 => (if (r1 : Int32) = v2 then (if (v3 : Int32) < 0 ∨ 60 ≤ (Int32.toNatClampNeg v3) then none else (some (k_keys (Int32.toNatClampNeg v3)))) else (X1_keyAt_L2 F n v1 v2 (v3 + 1) k_keys k_counts k_lasts k_size)))
def X1_keyAt (F : Nat) (p1 : Int32) (p2 : Int32) (k_keys : (Nat → Int32)) (k_counts : (Nat → Int32)) (k_lasts : (Nat → Int32)) (k_size : Int32) : Option (Int32) := X1_keyAt_L2 F F p1 p2 0 k_keys k_counts k_lasts k_size
abbrev rm_X1_keyAt : Room := { frames := 2, cells := 0, slots := 0, locals := 47 }
theorem ok_X1_keyAt : OKV RX1 yX1_keyAt cX1_keyAt 4 (some .int) 2 := ⟨by decide +kernel, qV_X1_keyAt, qL_X1_keyAt, qI_X1, qD_X1_keyAt⟩
set_option maxHeartbeats 4000000 in
set_option maxRecDepth 100000 in
theorem c_X1_keyAt (l : Launch) (D : va_G) (cI cZ cL cW : ClassId) (F : Nat) (a0 : Nat) (a1 : Nat) (a2 : Nat) (a3 : Nat) (a4 : Nat) (a5 : Nat) (a6 : Nat) (a7 : Nat) (k_keys : (Nat → Int32)) (k_values : (Nat → Int32)) (k_weights : (Nat → Int32)) (k_counts : (Nat → Int32)) (k_lasts : (Nat → Int32)) (k_tills : (Nat → Int32)) (k_pinned : (Nat → Int32)) (k_size : Int32) (k_load : Int32) (k_pinnedLoad : Int32) (k_uses : Int32) (k_aging : Int32) (k_halvings : Int32) (p1 : Int32) (p2 : Int32) (r : Int32) (hf : X1_keyAt F p1 p2 k_keys k_counts k_lasts k_size = some r) : CtrR l D (tyL cI cZ cL cW) nestW yX1_keyAt cX1_keyAt 4 (some .int) rm_X1_keyAt [.ref a0, .int p1, .int p2] (MX1 cI cZ cL cW a0 a1 a2 a3 a4 a5 a6 a7 k_keys k_values k_weights k_counts k_lasts k_tills k_pinned k_size k_load k_pinnedLoad k_uses k_aging k_halvings) (some (.int r)) := by
  refine ofR RX1 (by decide) rfl (Nat.le_of_ble_eq_true rfl) ?_
  intro p e s m below meth c ls C hr hlk hE hP hl
  generalize (List.toArray ([.ref a0, .int p1, .int p2] : List Value)) = args at C ⊢
  obtain ⟨hx, hb, hml, hown, ht⟩ := id C
  have hl : lv_has ls 4 [(0, .ref a0), (1, .int p1), (2, .int p2)] := hl
  have L2 : ∀ (n : Nat) (v1 : Int32) (v2 : Int32) (v3 : Int32) (ls : Array Slot), X1_keyAt_L2 F n v1 v2 v3 k_keys k_counts k_lasts k_size = some r → lv_has ls 4 [(0, .ref a0), (1, .int v1), (2, .int v2), (3, .int v3)] → W p l e rm_X1_keyAt s m args below meth c s.heap [] 0 0 (MQ below (QR (some (.int r))) args s 0 0 (fun _ => False)) (F0 m 2 ls []) := by
    intro n
    induction n with
    | zero => intro v1 v2 v3 ls hf hl; exact nn_s hf
    | succ n ih =>
      intro v1 v2 v3 ls hf hl
      refine lv_iload_n hx hb dX1_keyAt_2 rfl (lv_at hl 3 rfl) ?_
      refine lv_aload_n hx hb dX1_keyAt_3 rfl (lv_at hl 0 rfl) ?_
      refine gf_X1 (v := .int k_size) C hE hP 0 7 rfl (by decide) qF_X1_44 rfl dX1_keyAt_4 ?_
      refine lv_icmp_ge (tgt := 33) hx hb dX1_keyAt_7 (by decide) (fun c5 => ?_) (fun c5 => ?_)
      · have hf := it_p hf c5
        refine lv_iconst (v := (-1)) hx hb dX1_keyAt_33 (by decide) ?_
        exact rt_i C hr hlk dX1_keyAt_34 (congrArg (fun o => o.map Value.int) hf)
      · have hf := it_n hf c5
        refine lv_aload_n hx hb dX1_keyAt_10 rfl (lv_at hl 0 rfl) ?_
        refine lv_iload_n hx hb dX1_keyAt_11 rfl (lv_at hl 1 rfl) ?_
        refine lv_iload_n hx hb dX1_keyAt_12 rfl (lv_at hl 3 rfl) ?_
        obtain ⟨r1, h2, hf⟩ := bd_s hf
        refine iv_R (rest := []) (st1 := [.int r1]) C hE hP (c_X1_placeOf l D cI cZ cL cW F a0 a1 a2 a3 a4 a5 a6 a7 k_keys k_values k_weights k_counts k_lasts k_tills k_pinned k_size k_load k_pinnedLoad k_uses k_aging k_halvings v1 v3 r1  h2) ok_X1_placeOf qM_X1_80 rfl rfl ⟨(Nat.le_of_ble_eq_true rfl), (Nat.le_of_ble_eq_true rfl)⟩ rfl rfl hl.1 (Nat.le_of_ble_eq_true rfl) ⟨Nat.zero_le _, Nat.zero_le _⟩ dX1_keyAt_13 rfl rfl ?_
        refine lv_iload_n hx hb dX1_keyAt_16 rfl (lv_at hl 2 rfl) ?_
        refine lv_icmp_ne (tgt := 27) hx hb dX1_keyAt_17 (by decide) (fun c4 => ?_) (fun c4 => ?_)
        · have hf := it_n hf c4
          refine lv_iinc (v := (v3 + 1)) (lv' := [(3, .int (v3 + 1)), (0, .ref a0), (1, .int v1), (2, .int v2)]) hx hb dX1_keyAt_27 hl (k := 3) rfl rfl (by decide) rfl (fun ls hl => ?_)
          refine lv_goto (tgt := 2) hx hb dX1_keyAt_30 (by decide) ?_
          exact ih v1 v2 (v3 + 1) ls hf (lv_sub hl [1, 2, 3, 0] rfl)
        · have hf := it_p hf c4
          refine lv_aload_n hx hb dX1_keyAt_20 rfl (lv_at hl 0 rfl) ?_
          refine gf_X1 (v := .ref a1) C hE hP 0 0 rfl (by decide) qF_X1_9 rfl dX1_keyAt_21 ?_
          refine lv_iload_n hx hb dX1_keyAt_24 rfl (lv_at hl 3 rfl) ?_
          obtain ⟨g3, hf⟩ := it_g hf
          refine va_iald hx hb hE.1 hP 1 0 rfl rfl g3 dX1_keyAt_25 ?_
          exact rt_i C hr hlk dX1_keyAt_26 (congrArg (fun o => o.map Value.int) hf)
  refine lv_iconst (v := 0) hx hb dX1_keyAt_0 (by decide) ?_
  refine lv_istore_n (lv' := [(3, .int 0), (0, .ref a0), (1, .int p1), (2, .int p2)]) hx hb dX1_keyAt_1 rfl hl (by decide) rfl (fun ls hl => ?_)
  exact L2 F p1 p2 0 ls hf (lv_sub hl [1, 2, 3, 0] rfl)
def X1_weightsAhead_L18 (F : Nat) : Nat → Int32 → Int32 → Int32 → Int32 → (Nat → Int32) → (Nat → Int32) → (Nat → Int32) → Int32 → Option (Int32)
  | 0, _, _, _, _, _, _, _, _ => none
  | n + 1, v1, v2, v3, v4, k_weights, k_counts, k_lasts, k_size => if (k_size : Int32) ≤ v4 then (some v3) else ((X1_placeOf F v1 v4 k_counts k_lasts k_size).bind fun r1 => (if (v2 : Int32) ≤ r1 then (X1_weightsAhead_L18 F n v1 v2 v3 (v4 + 1) k_weights k_counts k_lasts k_size) else (if (v4 : Int32) < 0 ∨ 60 ≤ (Int32.toNatClampNeg v4) then none else (X1_weightsAhead_L18 F n v1 v2 (v3 + (k_weights (Int32.toNatClampNeg v4))) (v4 + 1) k_weights k_counts k_lasts k_size))))
def X1_weightsAhead (F : Nat) (p1 : Int32) (p2 : Int32) (k_weights : (Nat → Int32)) (k_counts : (Nat → Int32)) (k_lasts : (Nat → Int32)) (k_size : Int32) (k_load : Int32) : Option (Int32) := if (p2 : Int32) < k_size then ((X1_weightsAhead_L18 F F p1 p2 0 0 k_weights k_counts k_lasts k_size).bind fun x6 => (some x6)) else (some k_load)
abbrev rm_X1_weightsAhead : Room := { frames := 2, cells := 0, slots := 0, locals := 47 }
theorem ok_X1_weightsAhead : OKV RX1 yX1_weightsAhead cX1_weightsAhead 5 (some .int) 2 := ⟨by decide +kernel, qV_X1_weightsAhead, qL_X1_weightsAhead, qI_X1, qD_X1_weightsAhead⟩
set_option maxHeartbeats 4000000 in
set_option maxRecDepth 100000 in
theorem c_X1_weightsAhead (l : Launch) (D : va_G) (cI cZ cL cW : ClassId) (F : Nat) (a0 : Nat) (a1 : Nat) (a2 : Nat) (a3 : Nat) (a4 : Nat) (a5 : Nat) (a6 : Nat) (a7 : Nat) (k_keys : (Nat → Int32)) (k_values : (Nat → Int32)) (k_weights : (Nat → Int32)) (k_counts : (Nat → Int32)) (k_lasts : (Nat → Int32)) (k_tills : (Nat → Int32)) (k_pinned : (Nat → Int32)) (k_size : Int32) (k_load : Int32) (k_pinnedLoad : Int32) (k_uses : Int32) (k_aging : Int32) (k_halvings : Int32) (p1 : Int32) (p2 : Int32) (r : Int32) (hf : X1_weightsAhead F p1 p2 k_weights k_counts k_lasts k_size k_load = some r) : CtrR l D (tyL cI cZ cL cW) nestW yX1_weightsAhead cX1_weightsAhead 5 (some .int) rm_X1_weightsAhead [.ref a0, .int p1, .int p2] (MX1 cI cZ cL cW a0 a1 a2 a3 a4 a5 a6 a7 k_keys k_values k_weights k_counts k_lasts k_tills k_pinned k_size k_load k_pinnedLoad k_uses k_aging k_halvings) (some (.int r)) := by
  refine ofR RX1 (by decide) rfl (Nat.le_of_ble_eq_true rfl) ?_
  intro p e s m below meth c ls C hr hlk hE hP hl
  generalize (List.toArray ([.ref a0, .int p1, .int p2] : List Value)) = args at C ⊢
  obtain ⟨hx, hb, hml, hown, ht⟩ := id C
  have hl : lv_has ls 5 [(0, .ref a0), (1, .int p1), (2, .int p2)] := hl
  have L18 : ∀ (Q : State → Prop) (n : Nat) (v1 : Int32) (v2 : Int32) (v3 : Int32) (v4 : Int32) (x3 : Int32) (ls : Array Slot), X1_weightsAhead_L18 F n v1 v2 v3 v4 k_weights k_counts k_lasts k_size = some x3 → lv_has ls 5 [(0, .ref a0), (1, .int v1), (2, .int v2), (3, .int v3), (4, .int v4)] → (∀ ls : Array Slot, lv_has ls 5 [(3, .int x3)] → W p l e rm_X1_weightsAhead s m args below meth c s.heap [] 0 0 Q (F0 m 54 ls [])) → W p l e rm_X1_weightsAhead s m args below meth c s.heap [] 0 0 Q (F0 m 18 ls []) := by
    intro Q n
    induction n with
    | zero => intro v1 v2 v3 v4 x3 ls hf hl hk; exact nn_s hf
    | succ n ih =>
      intro v1 v2 v3 v4 x3 ls hf hl hk
      refine lv_iload hx hb dX1_weightsAhead_18 (lv_at hl 4 rfl) ?_
      refine lv_aload_n hx hb dX1_weightsAhead_20 rfl (lv_at hl 0 rfl) ?_
      refine gf_X1 (v := .int k_size) C hE hP 0 7 rfl (by decide) qF_X1_44 rfl dX1_weightsAhead_21 ?_
      refine lv_icmp_ge (tgt := 54) hx hb dX1_weightsAhead_24 (by decide) (fun c5 => ?_) (fun c5 => ?_)
      · have hf := it_p hf c5
        cases hf
        exact hk ls (lv_sub hl [3] rfl)
      · have hf := it_n hf c5
        refine lv_aload_n hx hb dX1_weightsAhead_27 rfl (lv_at hl 0 rfl) ?_
        refine lv_iload_n hx hb dX1_weightsAhead_28 rfl (lv_at hl 1 rfl) ?_
        refine lv_iload hx hb dX1_weightsAhead_29 (lv_at hl 4 rfl) ?_
        obtain ⟨r1, h2, hf⟩ := bd_s hf
        refine iv_R (rest := []) (st1 := [.int r1]) C hE hP (c_X1_placeOf l D cI cZ cL cW F a0 a1 a2 a3 a4 a5 a6 a7 k_keys k_values k_weights k_counts k_lasts k_tills k_pinned k_size k_load k_pinnedLoad k_uses k_aging k_halvings v1 v4 r1  h2) ok_X1_placeOf qM_X1_80 rfl rfl ⟨(Nat.le_of_ble_eq_true rfl), (Nat.le_of_ble_eq_true rfl)⟩ rfl rfl hl.1 (Nat.le_of_ble_eq_true rfl) ⟨Nat.zero_le _, Nat.zero_le _⟩ dX1_weightsAhead_31 rfl rfl ?_
        refine lv_iload_n hx hb dX1_weightsAhead_34 rfl (lv_at hl 2 rfl) ?_
        refine lv_icmp_ge (tgt := 48) hx hb dX1_weightsAhead_35 (by decide) (fun c4 => ?_) (fun c4 => ?_)
        · have hf := it_p hf c4
          refine lv_iinc (v := (v4 + 1)) (lv' := [(4, .int (v4 + 1)), (0, .ref a0), (1, .int v1), (2, .int v2), (3, .int v3)]) hx hb dX1_weightsAhead_48 hl (k := 4) rfl rfl (by decide) rfl (fun ls hl => ?_)
          refine lv_goto (tgt := 18) hx hb dX1_weightsAhead_51 (by decide) ?_
          exact ih v1 v2 v3 (v4 + 1) _ ls hf (lv_sub hl [1, 2, 3, 4, 0] rfl) hk
        · have hf := it_n hf c4
          refine lv_iload_n hx hb dX1_weightsAhead_38 rfl (lv_at hl 3 rfl) ?_
          refine lv_aload_n hx hb dX1_weightsAhead_39 rfl (lv_at hl 0 rfl) ?_
          refine gf_X1 (v := .ref a3) C hE hP 0 2 rfl (by decide) qF_X1_18 rfl dX1_weightsAhead_40 ?_
          refine lv_iload hx hb dX1_weightsAhead_43 (lv_at hl 4 rfl) ?_
          obtain ⟨g3, hf⟩ := it_g hf
          refine va_iald hx hb hE.1 hP 3 0 rfl rfl g3 dX1_weightsAhead_45 ?_
          refine lv_iadd hx hb dX1_weightsAhead_46 ?_
          refine lv_istore_n (lv' := [(3, .int (v3 + (k_weights (Int32.toNatClampNeg v4)))), (0, .ref a0), (1, .int v1), (2, .int v2), (4, .int v4)]) hx hb dX1_weightsAhead_47 rfl hl (by decide) rfl (fun ls hl => ?_)
          refine lv_iinc (v := (v4 + 1)) (lv' := [(4, .int (v4 + 1)), (3, .int (v3 + (k_weights (Int32.toNatClampNeg v4)))), (0, .ref a0), (1, .int v1), (2, .int v2)]) hx hb dX1_weightsAhead_48 hl (k := 4) rfl rfl (by decide) rfl (fun ls hl => ?_)
          refine lv_goto (tgt := 18) hx hb dX1_weightsAhead_51 (by decide) ?_
          exact ih v1 v2 (v3 + (k_weights (Int32.toNatClampNeg v4))) (v4 + 1) _ ls hf (lv_sub hl [2, 3, 4, 1, 0] rfl) hk
  refine lv_iload_n hx hb dX1_weightsAhead_0 rfl (lv_at hl 2 rfl) ?_
  refine lv_aload_n hx hb dX1_weightsAhead_1 rfl (lv_at hl 0 rfl) ?_
  refine gf_X1 (v := .int k_size) C hE hP 0 7 rfl (by decide) qF_X1_44 rfl dX1_weightsAhead_2 ?_
  refine lv_icmp_lt (tgt := 13) hx hb dX1_weightsAhead_5 (by decide) (fun c8 => ?_) (fun c8 => ?_)
  · have hf := it_p hf c8
    refine lv_iconst (v := 0) hx hb dX1_weightsAhead_13 (by decide) ?_
    refine lv_istore_n (lv' := [(3, .int 0), (0, .ref a0), (1, .int p1), (2, .int p2)]) hx hb dX1_weightsAhead_14 rfl hl (by decide) rfl (fun ls hl => ?_)
    refine lv_iconst (v := 0) hx hb dX1_weightsAhead_15 (by decide) ?_
    refine lv_istore (lv' := [(4, .int 0), (3, .int 0), (0, .ref a0), (1, .int p1), (2, .int p2)]) hx hb dX1_weightsAhead_16 hl (by decide) rfl (fun ls hl => ?_)
    obtain ⟨x6, h7, hf⟩ := bd_s hf
    refine L18 _ F p1 p2 0 0 x6 ls h7 (lv_sub hl [2, 3, 4, 1, 0] rfl) (fun ls hl => ?_)
    refine lv_iload_n hx hb dX1_weightsAhead_54 rfl (lv_at hl 0 rfl) ?_
    exact rt_i C hr hlk dX1_weightsAhead_55 (congrArg (fun o => o.map Value.int) hf)
  · have hf := it_n hf c8
    refine lv_aload_n hx hb dX1_weightsAhead_8 rfl (lv_at hl 0 rfl) ?_
    refine gf_X1 (v := .int k_load) C hE hP 0 8 rfl (by decide) qF_X1_47 rfl dX1_weightsAhead_9 ?_
    exact rt_i C hr hlk dX1_weightsAhead_12 (congrArg (fun o => o.map Value.int) hf)
def X1_mayGo (F : Nat) (p1 : Int32) (p2 : Int32) (k_keys : (Nat → Int32)) (k_pinned : (Nat → Int32)) : Option (Int32) := if (p1 : Int32) < 0 ∨ 60 ≤ (Int32.toNatClampNeg p1) then none else (if ((k_pinned (Int32.toNatClampNeg p1)) : Int32) = 0 then (if (p1 : Int32) < 0 ∨ 60 ≤ (Int32.toNatClampNeg p1) then none else (if ((k_keys (Int32.toNatClampNeg p1)) : Int32) = p2 then (some 0) else (some 1))) else (some 0))
abbrev rm_X1_mayGo : Room := { frames := 0, cells := 0, slots := 0, locals := 0 }
theorem ok_X1_mayGo : OKV RX1 yX1_mayGo cX1_mayGo 3 (some .boolean) 2 := ⟨by decide +kernel, qV_X1_mayGo, qL_X1_mayGo, qI_X1, qD_X1_mayGo⟩
set_option maxHeartbeats 4000000 in
set_option maxRecDepth 100000 in
theorem c_X1_mayGo (l : Launch) (D : va_G) (cI cZ cL cW : ClassId) (F : Nat) (a0 : Nat) (a1 : Nat) (a2 : Nat) (a3 : Nat) (a4 : Nat) (a5 : Nat) (a6 : Nat) (a7 : Nat) (k_keys : (Nat → Int32)) (k_values : (Nat → Int32)) (k_weights : (Nat → Int32)) (k_counts : (Nat → Int32)) (k_lasts : (Nat → Int32)) (k_tills : (Nat → Int32)) (k_pinned : (Nat → Int32)) (k_size : Int32) (k_load : Int32) (k_pinnedLoad : Int32) (k_uses : Int32) (k_aging : Int32) (k_halvings : Int32) (p1 : Int32) (p2 : Int32) (r : Int32) (hf : X1_mayGo F p1 p2 k_keys k_pinned = some r) : CtrR l D (tyL cI cZ cL cW) nestW yX1_mayGo cX1_mayGo 3 (some .boolean) rm_X1_mayGo [.ref a0, .int p1, .int p2] (MX1 cI cZ cL cW a0 a1 a2 a3 a4 a5 a6 a7 k_keys k_values k_weights k_counts k_lasts k_tills k_pinned k_size k_load k_pinnedLoad k_uses k_aging k_halvings) (some (.int r)) := by
  refine ofR RX1 (by decide) rfl (Nat.le_of_ble_eq_true rfl) ?_
  intro p e s m below meth c ls C hr hlk hE hP hl
  generalize (List.toArray ([.ref a0, .int p1, .int p2] : List Value)) = args at C ⊢
  obtain ⟨hx, hb, hml, hown, ht⟩ := id C
  have hl : lv_has ls 3 [(0, .ref a0), (1, .int p1), (2, .int p2)] := hl
  refine lv_aload_n hx hb dX1_mayGo_0 rfl (lv_at hl 0 rfl) ?_
  refine gf_X1 (v := .ref a7) C hE hP 0 6 rfl (by decide) qF_X1_30 rfl dX1_mayGo_1 ?_
  refine lv_iload_n hx hb dX1_mayGo_4 rfl (lv_at hl 1 rfl) ?_
  obtain ⟨g4, hf⟩ := it_g hf
  refine va_zald hx hb hE.1 hP 7 1 rfl rfl g4 dX1_mayGo_5 ?_
  refine lv_if_ne (tgt := 23) hx hb dX1_mayGo_6 (by decide) (fun c3 => ?_) (fun c3 => ?_)
  · have hf := it_n hf c3
    refine lv_iconst (v := 0) hx hb dX1_mayGo_23 (by decide) ?_
    exact rt_z C hr hlk (by decide) dX1_mayGo_24 (congrArg (fun o => o.map Value.int) hf)
  · have hf := it_p hf c3
    refine lv_aload_n hx hb dX1_mayGo_9 rfl (lv_at hl 0 rfl) ?_
    refine gf_X1 (v := .ref a1) C hE hP 0 0 rfl (by decide) qF_X1_9 rfl dX1_mayGo_10 ?_
    refine lv_iload_n hx hb dX1_mayGo_13 rfl (lv_at hl 1 rfl) ?_
    obtain ⟨g2, hf⟩ := it_g hf
    refine va_iald hx hb hE.1 hP 1 0 rfl rfl g2 dX1_mayGo_14 ?_
    refine lv_iload_n hx hb dX1_mayGo_15 rfl (lv_at hl 2 rfl) ?_
    refine lv_icmp_eq (tgt := 23) hx hb dX1_mayGo_16 (by decide) (fun c1 => ?_) (fun c1 => ?_)
    · have hf := it_p hf c1
      refine lv_iconst (v := 0) hx hb dX1_mayGo_23 (by decide) ?_
      exact rt_z C hr hlk (by decide) dX1_mayGo_24 (congrArg (fun o => o.map Value.int) hf)
    · have hf := it_n hf c1
      refine lv_iconst (v := 1) hx hb dX1_mayGo_19 (by decide) ?_
      refine lv_goto (tgt := 24) hx hb dX1_mayGo_20 (by decide) ?_
      exact rt_z C hr hlk (by decide) dX1_mayGo_24 (congrArg (fun o => o.map Value.int) hf)
