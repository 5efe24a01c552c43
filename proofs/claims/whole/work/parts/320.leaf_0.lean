abbrev tX2 : Type := (Nat → Int32) × Int32
abbrev MX2 (cI cZ cL cW : ClassId) (a0 : Nat) (a1 : Nat) (k_keys : (Nat → Int32)) (k_size : Int32) : va_W := [(a0, .inr (2, [.ref a1, .int k_size])), (a1, .inl (cI, 16, .inl k_keys))]
abbrev tX7 : Type := (Nat → Int32) × (Nat → Int32) × (Nat → Int32) × (Nat → Int32) × (Nat → Int32) × Int32 × Int32 × Int32
abbrev MX7 (cI cZ cL cW : ClassId) (a0 : Nat) (a1 : Nat) (a2 : Nat) (a3 : Nat) (a4 : Nat) (a5 : Nat) (k_kinds : (Nat → Int32)) (k_keys : (Nat → Int32)) (k_values : (Nat → Int32)) (k_weights : (Nat → Int32)) (k_depths : (Nat → Int32)) (k_size : Int32) (k_lost : Int32) (k_depth : Int32) : va_W := [(a0, .inr (7, [.ref a1, .ref a2, .ref a3, .ref a4, .ref a5, .int k_size, .int k_lost, .int k_depth])), (a1, .inl (cI, 100, .inl k_kinds)), (a2, .inl (cI, 100, .inl k_keys)), (a3, .inl (cI, 100, .inl k_values)), (a4, .inl (cI, 100, .inl k_weights)), (a5, .inl (cI, 100, .inl k_depths))]
abbrev tX4 : Type := (Nat → Int32) × (Nat → Int32) × (Nat → Int32) × (Nat → Int32) × (Nat → Int32) × Int32 × Int32
abbrev MX4 (cI cZ cL cW : ClassId) (a0 : Nat) (a1 : Nat) (a2 : Nat) (a3 : Nat) (a4 : Nat) (a5 : Nat) (k_kinds : (Nat → Int32)) (k_keys : (Nat → Int32)) (k_depths : (Nat → Int32)) (k_weights : (Nat → Int32)) (k_hearers : (Nat → Int32)) (k_size : Int32) (k_next : Int32) : va_W := [(a0, .inr (4, [.ref a1, .ref a2, .ref a3, .ref a4, .ref a5, .int k_size, .int k_next])), (a1, .inl (cI, 40, .inl k_kinds)), (a2, .inl (cI, 40, .inl k_keys)), (a3, .inl (cI, 40, .inl k_depths)), (a4, .inl (cI, 40, .inl k_weights)), (a5, .inl (cI, 40, .inl k_hearers))]
abbrev tX5 : Type := (Nat → Int32) × Int32
abbrev MX5 (cI cZ cL cW : ClassId) (a0 : Nat) (a1 : Nat) (k_keys : (Nat → Int32)) (k_size : Int32) : va_W := [(a0, .inr (5, [.ref a1, .int k_size])), (a1, .inl (cI, 100, .inl k_keys))]
abbrev tX3 : Type := Int32 × Int32 × Int32 × Int32 × Int32 × Int32 × Int32 × Int32 × Int32
abbrev MX3 (cI cZ cL cW : ClassId) (a0 : Nat) (k_kind : Int32) (k_divisor : Int32) (k_rest : Int32) (k_act : Int32) (k_shift : Int32) (k_weight : Int32) (k_on : Int32) (k_heardSoFar : Int32) (k_didSoFar : Int32) : va_W := [(a0, .inr (3, [.int k_kind, .int k_divisor, .int k_rest, .int k_act, .int k_shift, .int k_weight, .int k_on, .int k_heardSoFar, .int k_didSoFar]))]
def X2_copyFrom (F : Nat) (k_keys : (Nat → Int32)) (k_size : Int32) (k_o1_keys : (Nat → Int32)) (k_o1_size : Int32) : Option ((Nat → Int32) × Int32) := some ((va_cpy k_o1_keys k_keys (Int32.toNatClampNeg 0) (Int32.toNatClampNeg 0) (Int32.toNatClampNeg 16)), k_o1_size)
abbrev rm_X2_copyFrom : Room := { frames := 1, cells := 0, slots := 0, locals := 48 }
theorem ok_X2_copyFrom : OKV RX2 yX2_copyFrom cX2_copyFrom 2 none 1 := ⟨by decide +kernel, qV_X2_copyFrom, qL_X2_copyFrom, qI_X2, qD_X2_copyFrom⟩
set_option maxHeartbeats 4000000 in
set_option maxRecDepth 100000 in
theorem c_X2_copyFrom (l : Launch) (D : va_G) (cI cZ cL cW : ClassId) (F : Nat) (a0 : Nat) (a1 : Nat) (a2 : Nat) (a3 : Nat) (k_keys : (Nat → Int32)) (k_size : Int32) (k_o1_keys : (Nat → Int32)) (k_o1_size : Int32) (k_keys' : (Nat → Int32)) (k_size' : Int32) (hf : X2_copyFrom F k_keys k_size k_o1_keys k_o1_size = some (k_keys', k_size')) : CtrW l D (tyL cI cZ cL cW) nestW yX2_copyFrom cX2_copyFrom 2 none rm_X2_copyFrom [.ref a0, .ref a2] (MX2 cI cZ cL cW a0 a1 k_keys k_size ++ MX2 cI cZ cL cW a2 a3 k_o1_keys k_o1_size) (MX2 cI cZ cL cW a0 a1 (k_keys') (k_size') ++ MX2 cI cZ cL cW a2 a3 k_o1_keys k_o1_size) none := by
  refine ofA RX2 (by decide) rfl (Nat.le_of_ble_eq_true rfl) ?_
  intro p e s m below meth c ls A C hr hlk hE hA hP hD hS hl
  generalize (List.toArray ([.ref a0, .ref a2] : List Value)) = args at C ⊢
  obtain ⟨hx, hb, hml, hown, ht⟩ := id C
  have hl : lv_has ls 2 [(0, .ref a0), (1, .ref a2)] := hl
  refine lv_aload_n hx hb dX2_copyFrom_0 rfl (lv_at hl 1 rfl) ?_
  refine gf_X2 (v := .ref a3) C hE hP 2 0 rfl (by decide) qF_X2_9 rfl dX2_copyFrom_1 ?_
  refine lv_iconst (v := 0) hx hb dX2_copyFrom_4 (by decide) ?_
  refine lv_aload_n hx hb dX2_copyFrom_5 rfl (lv_at hl 0 rfl) ?_
  refine gf_X2 (v := .ref a1) C hE hP 0 0 rfl (by decide) qF_X2_9 rfl dX2_copyFrom_6 ?_
  refine lv_iconst (v := 0) hx hb dX2_copyFrom_9 (by decide) ?_
  refine lv_bipush (v := 16) hx hb dX2_copyFrom_10 (by decide) ?_
  refine va_copyi hx hb (hml.trans hl.1.symm) hown (ht _ qM_X2_15) (ht _ qX_arraycopy) (ht _ qS_arraycopy) (ht _ qI_J10) hE.1 hP hD hS 3 1 0 0 rfl rfl rfl rfl rfl (by decide) (by decide) (by decide) (by decide) (by decide) (fun _ _ => rfl) (Nat.le_of_ble_eq_true rfl) (by decide) dX2_copyFrom_12 (fun H locs (hP : va_P D vwCl (MX2 cI cZ cL cW a0 a1 (va_cpy k_o1_keys k_keys (Int32.toNatClampNeg 0) (Int32.toNatClampNeg 0) (Int32.toNatClampNeg 16)) k_size ++ MX2 cI cZ cL cW a2 a3 k_o1_keys k_o1_size) H) (hD : va_D A (MX2 cI cZ cL cW a0 a1 (va_cpy k_o1_keys k_keys (Int32.toNatClampNeg 0) (Int32.toNatClampNeg 0) (Int32.toNatClampNeg 16)) k_size ++ MX2 cI cZ cL cW a2 a3 k_o1_keys k_o1_size)) hS => ?_)
  refine lv_aload_n hx hb dX2_copyFrom_15 rfl (lv_at hl 0 rfl) ?_
  refine lv_aload_n hx hb dX2_copyFrom_16 rfl (lv_at hl 1 rfl) ?_
  refine gf_X2 (v := .int k_o1_size) C hE hP 2 1 rfl (by decide) qF_X2_21 rfl dX2_copyFrom_17 ?_
  refine pf_X2 (v := .int k_o1_size) C hE hP hD hS 0 1 rfl (by decide) qF_X2_21 rfl rfl rfl (Nat.le_of_ble_eq_true rfl) dX2_copyFrom_20 (fun H locs (hP : va_P D vwCl (MX2 cI cZ cL cW a0 a1 (va_cpy k_o1_keys k_keys (Int32.toNatClampNeg 0) (Int32.toNatClampNeg 0) (Int32.toNatClampNeg 16)) k_o1_size ++ MX2 cI cZ cL cW a2 a3 k_o1_keys k_o1_size) H) (hD : va_D A (MX2 cI cZ cL cW a0 a1 (va_cpy k_o1_keys k_keys (Int32.toNatClampNeg 0) (Int32.toNatClampNeg 0) (Int32.toNatClampNeg 16)) k_o1_size ++ MX2 cI cZ cL cW a2 a3 k_o1_keys k_o1_size)) hS => ?_)
  cases hf
  exact rw_v C hr hlk hP hD hS dX2_copyFrom_23
def X2_add_L26 (F : Nat) : Nat → Int32 → Int32 → (Nat → Int32) → Option ((Nat → Int32))
  | 0, _, _, _ => none
  | n + 1, v1, v2, k_keys => if (v2 : Int32) ≤ 0 then (some k_keys) else (if ((v2 - 1) : Int32) < 0 ∨ 16 ≤ (Int32.toNatClampNeg (v2 - 1)) then none else (if (v2 : Int32) < 0 ∨ 16 ≤ (Int32.toNatClampNeg v2) then none else (X2_add_L26 F n v1 (v2 + (-1)) (upd k_keys (Int32.toNatClampNeg v2) (k_keys (Int32.toNatClampNeg (v2 - 1)))))))
def X2_add (F : Nat) (p1 : Int32) (k_keys : (Nat → Int32)) (k_size : Int32) : Option ((Nat → Int32) × Int32) := if (16 : Int32) ≤ k_size then ((X2_add_L26 F F p1 (k_size - 1) k_keys).bind fun k4 => (some ((upd k4 (Int32.toNatClampNeg 0) p1), k_size))) else ((X2_add_L26 F F p1 ((k_size + 1) - 1) k_keys).bind fun k6 => (some ((upd k6 (Int32.toNatClampNeg 0) p1), (k_size + 1))))
abbrev rm_X2_add : Room := { frames := 0, cells := 0, slots := 0, locals := 0 }
theorem ok_X2_add : OKV RX2 yX2_add cX2_add 3 none 1 := ⟨by decide +kernel, qV_X2_add, qL_X2_add, qI_X2, qD_X2_add⟩
set_option maxHeartbeats 4000000 in
set_option maxRecDepth 100000 in
theorem c_X2_add (l : Launch) (D : va_G) (cI cZ cL cW : ClassId) (F : Nat) (a0 : Nat) (a1 : Nat) (k_keys : (Nat → Int32)) (k_size : Int32) (p1 : Int32) (k_keys' : (Nat → Int32)) (k_size' : Int32) (hf : X2_add F p1 k_keys k_size = some (k_keys', k_size')) : CtrW l D (tyL cI cZ cL cW) nestW yX2_add cX2_add 3 none rm_X2_add [.ref a0, .int p1] (MX2 cI cZ cL cW a0 a1 k_keys k_size) (MX2 cI cZ cL cW a0 a1 (k_keys') (k_size')) none := by
  refine ofA RX2 (by decide) rfl (Nat.le_of_ble_eq_true rfl) ?_
  intro p e s m below meth c ls A C hr hlk hE hA hP hD hS hl
  generalize (List.toArray ([.ref a0, .int p1] : List Value)) = args at C ⊢
  obtain ⟨hx, hb, hml, hown, ht⟩ := id C
  have hl : lv_has ls 3 [(0, .ref a0), (1, .int p1)] := hl
  have L26 : ∀ (Q : State → Prop) (n : Nat) (v1 : Int32) (v2 : Int32) (k_keys : (Nat → Int32)) (k_size : Int32) (k_keys' : (Nat → Int32)) (H : Heap) (locs : List Loc) (ls : Array Slot), X2_add_L26 F n v1 v2 k_keys = some (k_keys') → va_P D vwCl (MX2 cI cZ cL cW a0 a1 k_keys k_size) H → va_D A (MX2 cI cZ cL cW a0 a1 k_keys k_size) → va_S A s.heap H locs → lv_has ls 3 [(0, .ref a0), (1, .int v1), (2, .int v2)] → (∀ (H : Heap) (locs : List Loc) (ls : Array Slot), va_P D vwCl (MX2 cI cZ cL cW a0 a1 (k_keys') k_size) H → va_D A (MX2 cI cZ cL cW a0 a1 (k_keys') k_size) → va_S A s.heap H locs → lv_has ls 3 [(0, .ref a0), (1, .int v1)] → W p l e rm_X2_add s m args below meth c H locs 0 0 Q (F0 m 50 ls [])) → W p l e rm_X2_add s m args below meth c H locs 0 0 Q (F0 m 26 ls []) := by
    intro Q n
    induction n with
    | zero => intro v1 v2 k_keys k_size k_keys' H locs ls hf hP hD hS hl hk; exact nn_s hf
    | succ n ih =>
      intro v1 v2 k_keys k_size k_keys' H locs ls hf hP hD hS hl hk
      refine lv_iload_n hx hb dX2_add_26 rfl (lv_at hl 2 rfl) ?_
      refine lv_if_le (tgt := 50) hx hb dX2_add_27 (by decide) (fun c3 => ?_) (fun c3 => ?_)
      · have hf := it_p hf c3
        cases hf
        exact hk _ _ ls hP hD hS (lv_sub hl [0, 1] rfl)
      · have hf := it_n hf c3
        refine lv_aload_n hx hb dX2_add_30 rfl (lv_at hl 0 rfl) ?_
        refine gf_X2 (v := .ref a1) C hE hP 0 0 rfl (by decide) qF_X2_9 rfl dX2_add_31 ?_
        refine lv_iload_n hx hb dX2_add_34 rfl (lv_at hl 2 rfl) ?_
        refine lv_aload_n hx hb dX2_add_35 rfl (lv_at hl 0 rfl) ?_
        refine gf_X2 (v := .ref a1) C hE hP 0 0 rfl (by decide) qF_X2_9 rfl dX2_add_36 ?_
        refine lv_iload_n hx hb dX2_add_39 rfl (lv_at hl 2 rfl) ?_
        refine lv_iconst (v := 1) hx hb dX2_add_40 (by decide) ?_
        refine lv_isub hx hb dX2_add_41 ?_
        obtain ⟨g2, hf⟩ := it_g hf
        refine va_iald hx hb hE.1 hP 1 0 rfl rfl g2 dX2_add_42 ?_
        obtain ⟨g1, hf⟩ := it_g hf
        refine va_iast hx hb hE.1 hP hD hS 1 0 rfl rfl g1 dX2_add_43 (fun H locs (hP : va_P D vwCl (MX2 cI cZ cL cW a0 a1 (upd k_keys (Int32.toNatClampNeg v2) (k_keys (Int32.toNatClampNeg (v2 - 1)))) k_size) H) (hD : va_D A (MX2 cI cZ cL cW a0 a1 (upd k_keys (Int32.toNatClampNeg v2) (k_keys (Int32.toNatClampNeg (v2 - 1)))) k_size)) hS => ?_)
        refine lv_iinc (v := (v2 + (-1))) (lv' := [(2, .int (v2 + (-1))), (0, .ref a0), (1, .int v1)]) hx hb dX2_add_44 hl (k := 2) rfl rfl (by decide) rfl (fun ls hl => ?_)
        refine lv_goto (tgt := 26) hx hb dX2_add_47 (by decide) ?_
        exact ih v1 (v2 + (-1)) (upd k_keys (Int32.toNatClampNeg v2) (k_keys (Int32.toNatClampNeg (v2 - 1)))) k_size _ _ _ ls hf hP hD hS (lv_sub hl [1, 2, 0] rfl) hk
  refine lv_aload_n hx hb dX2_add_0 rfl (lv_at hl 0 rfl) ?_
  refine gf_X2 (v := .int k_size) C hE hP 0 1 rfl (by decide) qF_X2_21 rfl dX2_add_1 ?_
  refine lv_bipush (v := 16) hx hb dX2_add_4 (by decide) ?_
  refine lv_icmp_ge (tgt := 19) hx hb dX2_add_6 (by decide) (fun c8 => ?_) (fun c8 => ?_)
  · have hf := it_p hf c8
    refine lv_aload_n hx hb dX2_add_19 rfl (lv_at hl 0 rfl) ?_
    refine gf_X2 (v := .int k_size) C hE hP 0 1 rfl (by decide) qF_X2_21 rfl dX2_add_20 ?_
    refine lv_iconst (v := 1) hx hb dX2_add_23 (by decide) ?_
    refine lv_isub hx hb dX2_add_24 ?_
    refine lv_istore_n (lv' := [(2, .int (k_size - 1)), (0, .ref a0), (1, .int p1)]) hx hb dX2_add_25 rfl hl (by decide) rfl (fun ls hl => ?_)
    obtain ⟨k4, h5, hf⟩ := bd_s hf
    refine L26 _ F p1 (k_size - 1) k_keys k_size k4 _ _ ls h5 hP hD hS (lv_sub hl [1, 2, 0] rfl) (fun H locs ls hP hD hS hl => ?_)
    refine lv_aload_n hx hb dX2_add_50 rfl (lv_at hl 0 rfl) ?_
    refine gf_X2 (v := .ref a1) C hE hP 0 0 rfl (by decide) qF_X2_9 rfl dX2_add_51 ?_
    refine lv_iconst (v := 0) hx hb dX2_add_54 (by decide) ?_
    refine lv_iload_n hx hb dX2_add_55 rfl (lv_at hl 1 rfl) ?_
    refine va_iast hx hb hE.1 hP hD hS 1 0 rfl rfl (vp_l (by decide)) dX2_add_56 (fun H locs (hP : va_P D vwCl (MX2 cI cZ cL cW a0 a1 (upd k4 (Int32.toNatClampNeg 0) p1) k_size) H) (hD : va_D A (MX2 cI cZ cL cW a0 a1 (upd k4 (Int32.toNatClampNeg 0) p1) k_size)) hS => ?_)
    cases hf
    exact rw_v C hr hlk hP hD hS dX2_add_57
  · have hf := it_n hf c8
    refine lv_aload_n hx hb dX2_add_9 rfl (lv_at hl 0 rfl) ?_
    refine lv_dup hx hb dX2_add_10 rfl ?_
    refine gf_X2 (v := .int k_size) C hE hP 0 1 rfl (by decide) qF_X2_21 rfl dX2_add_11 ?_
    refine lv_iconst (v := 1) hx hb dX2_add_14 (by decide) ?_
    refine lv_iadd hx hb dX2_add_15 ?_
    refine pf_X2 (v := .int (k_size + 1)) C hE hP hD hS 0 1 rfl (by decide) qF_X2_21 rfl rfl rfl (Nat.le_of_ble_eq_true rfl) dX2_add_16 (fun H locs (hP : va_P D vwCl (MX2 cI cZ cL cW a0 a1 k_keys (k_size + 1)) H) (hD : va_D A (MX2 cI cZ cL cW a0 a1 k_keys (k_size + 1))) hS => ?_)
    refine lv_aload_n hx hb dX2_add_19 rfl (lv_at hl 0 rfl) ?_
    refine gf_X2 (v := .int (k_size + 1)) C hE hP 0 1 rfl (by decide) qF_X2_21 rfl dX2_add_20 ?_
    refine lv_iconst (v := 1) hx hb dX2_add_23 (by decide) ?_
    refine lv_isub hx hb dX2_add_24 ?_
    refine lv_istore_n (lv' := [(2, .int ((k_size + 1) - 1)), (0, .ref a0), (1, .int p1)]) hx hb dX2_add_25 rfl hl (by decide) rfl (fun ls hl => ?_)
    obtain ⟨k6, h7, hf⟩ := bd_s hf
    refine L26 _ F p1 ((k_size + 1) - 1) k_keys (k_size + 1) k6 _ _ ls h7 hP hD hS (lv_sub hl [1, 2, 0] rfl) (fun H locs ls hP hD hS hl => ?_)
    refine lv_aload_n hx hb dX2_add_50 rfl (lv_at hl 0 rfl) ?_
    refine gf_X2 (v := .ref a1) C hE hP 0 0 rfl (by decide) qF_X2_9 rfl dX2_add_51 ?_
    refine lv_iconst (v := 0) hx hb dX2_add_54 (by decide) ?_
    refine lv_iload_n hx hb dX2_add_55 rfl (lv_at hl 1 rfl) ?_
    refine va_iast hx hb hE.1 hP hD hS 1 0 rfl rfl (vp_l (by decide)) dX2_add_56 (fun H locs (hP : va_P D vwCl (MX2 cI cZ cL cW a0 a1 (upd k6 (Int32.toNatClampNeg 0) p1) (k_size + 1)) H) (hD : va_D A (MX2 cI cZ cL cW a0 a1 (upd k6 (Int32.toNatClampNeg 0) p1) (k_size + 1))) hS => ?_)
    cases hf
    exact rw_v C hr hlk hP hD hS dX2_add_57
def X2_forget_L4 (F : Nat) : Nat → Int32 → Int32 → Int32 → (Nat → Int32) → Int32 → Option (Int32 × (Nat → Int32))
  | 0, _, _, _, _, _ => none
  | n + 1, v1, v2, v3, k_keys, k_size => if (k_size : Int32) ≤ v3 then (some (v2, k_keys)) else (if (v3 : Int32) < 0 ∨ 16 ≤ (Int32.toNatClampNeg v3) then none else (if ((k_keys (Int32.toNatClampNeg v3)) : Int32) = v1 then (X2_forget_L4 F n v1 v2 (v3 + 1) k_keys k_size) else (if (v3 : Int32) < 0 ∨ 16 ≤ (Int32.toNatClampNeg v3) then none else (if (v2 : Int32) < 0 ∨ 16 ≤ (Int32.toNatClampNeg v2) then none else (X2_forget_L4 F n v1 (v2 + 1) (v3 + 1) (upd k_keys (Int32.toNatClampNeg v2) (k_keys (Int32.toNatClampNeg v3))) k_size)))))
def X2_forget (F : Nat) (p1 : Int32) (k_keys : (Nat → Int32)) (k_size : Int32) : Option (Int32 × (Nat → Int32) × Int32) := (X2_forget_L4 F F p1 0 0 k_keys k_size).bind fun (x6, k7) => (if (k_size : Int32) ≤ x6 then (some (0, k7, x6)) else (some (1, k7, x6)))
abbrev rm_X2_forget : Room := { frames := 0, cells := 0, slots := 0, locals := 0 }
theorem ok_X2_forget : OKV RX2 yX2_forget cX2_forget 4 (some .boolean) 1 := ⟨by decide +kernel, qV_X2_forget, qL_X2_forget, qI_X2, qD_X2_forget⟩
set_option maxHeartbeats 4000000 in
set_option maxRecDepth 100000 in
theorem c_X2_forget (l : Launch) (D : va_G) (cI cZ cL cW : ClassId) (F : Nat) (a0 : Nat) (a1 : Nat) (k_keys : (Nat → Int32)) (k_size : Int32) (p1 : Int32) (r : Int32) (k_keys' : (Nat → Int32)) (k_size' : Int32) (hf : X2_forget F p1 k_keys k_size = some (r, k_keys', k_size')) : CtrW l D (tyL cI cZ cL cW) nestW yX2_forget cX2_forget 4 (some .boolean) rm_X2_forget [.ref a0, .int p1] (MX2 cI cZ cL cW a0 a1 k_keys k_size) (MX2 cI cZ cL cW a0 a1 (k_keys') (k_size')) (some (.int r)) := by
  refine ofA RX2 (by decide) rfl (Nat.le_of_ble_eq_true rfl) ?_
  intro p e s m below meth c ls A C hr hlk hE hA hP hD hS hl
  generalize (List.toArray ([.ref a0, .int p1] : List Value)) = args at C ⊢
  obtain ⟨hx, hb, hml, hown, ht⟩ := id C
  have hl : lv_has ls 4 [(0, .ref a0), (1, .int p1)] := hl
  have L4 : ∀ (Q : State → Prop) (n : Nat) (v1 : Int32) (v2 : Int32) (v3 : Int32) (k_keys : (Nat → Int32)) (k_size : Int32) (x2 : Int32) (k_keys' : (Nat → Int32)) (H : Heap) (locs : List Loc) (ls : Array Slot), X2_forget_L4 F n v1 v2 v3 k_keys k_size = some (x2, k_keys') → va_P D vwCl (MX2 cI cZ cL cW a0 a1 k_keys k_size) H → va_D A (MX2 cI cZ cL cW a0 a1 k_keys k_size) → va_S A s.heap H locs → lv_has ls 4 [(0, .ref a0), (1, .int v1), (2, .int v2), (3, .int v3)] → (∀ (H : Heap) (locs : List Loc) (ls : Array Slot), va_P D vwCl (MX2 cI cZ cL cW a0 a1 (k_keys') k_size) H → va_D A (MX2 cI cZ cL cW a0 a1 (k_keys') k_size) → va_S A s.heap H locs → lv_has ls 4 [(0, .ref a0), (2, .int x2)] → W p l e rm_X2_forget s m args below meth c H locs 0 0 Q (F0 m 43 ls [])) → W p l e rm_X2_forget s m args below meth c H locs 0 0 Q (F0 m 4 ls []) := by
    intro Q n
    induction n with
    | zero => intro v1 v2 v3 k_keys k_size x2 k_keys' H locs ls hf hP hD hS hl hk; exact nn_s hf
    | succ n ih =>
      intro v1 v2 v3 k_keys k_size x2 k_keys' H locs ls hf hP hD hS hl hk
      refine lv_iload_n hx hb dX2_forget_4 rfl (lv_at hl 3 rfl) ?_
      refine lv_aload_n hx hb dX2_forget_5 rfl (lv_at hl 0 rfl) ?_
      refine gf_X2 (v := .int k_size) C hE hP 0 1 rfl (by decide) qF_X2_21 rfl dX2_forget_6 ?_
      refine lv_icmp_ge (tgt := 43) hx hb dX2_forget_9 (by decide) (fun c5 => ?_) (fun c5 => ?_)
      · have hf := it_p hf c5
        cases hf
        exact hk _ _ ls hP hD hS (lv_sub hl [0, 2] rfl)
      · have hf := it_n hf c5
        refine lv_aload_n hx hb dX2_forget_12 rfl (lv_at hl 0 rfl) ?_
        refine gf_X2 (v := .ref a1) C hE hP 0 0 rfl (by decide) qF_X2_9 rfl dX2_forget_13 ?_
        refine lv_iload_n hx hb dX2_forget_16 rfl (lv_at hl 3 rfl) ?_
        obtain ⟨g4, hf⟩ := it_g hf
        refine va_iald hx hb hE.1 hP 1 0 rfl rfl g4 dX2_forget_17 ?_
        refine lv_iload_n hx hb dX2_forget_18 rfl (lv_at hl 1 rfl) ?_
        refine lv_icmp_eq (tgt := 37) hx hb dX2_forget_19 (by decide) (fun c3 => ?_) (fun c3 => ?_)
        · have hf := it_p hf c3
          refine lv_iinc (v := (v3 + 1)) (lv' := [(3, .int (v3 + 1)), (0, .ref a0), (1, .int v1), (2, .int v2)]) hx hb dX2_forget_37 hl (k := 3) rfl rfl (by decide) rfl (fun ls hl => ?_)
          refine lv_goto (tgt := 4) hx hb dX2_forget_40 (by decide) ?_
          exact ih v1 v2 (v3 + 1) k_keys k_size _ _ _ _ ls hf hP hD hS (lv_sub hl [1, 2, 3, 0] rfl) hk
        · have hf := it_n hf c3
          refine lv_aload_n hx hb dX2_forget_22 rfl (lv_at hl 0 rfl) ?_
          refine gf_X2 (v := .ref a1) C hE hP 0 0 rfl (by decide) qF_X2_9 rfl dX2_forget_23 ?_
          refine lv_iload_n hx hb dX2_forget_26 rfl (lv_at hl 2 rfl) ?_
          refine lv_aload_n hx hb dX2_forget_27 rfl (lv_at hl 0 rfl) ?_
          refine gf_X2 (v := .ref a1) C hE hP 0 0 rfl (by decide) qF_X2_9 rfl dX2_forget_28 ?_
          refine lv_iload_n hx hb dX2_forget_31 rfl (lv_at hl 3 rfl) ?_
          obtain ⟨g2, hf⟩ := it_g hf
          refine va_iald hx hb hE.1 hP 1 0 rfl rfl g2 dX2_forget_32 ?_
          obtain ⟨g1, hf⟩ := it_g hf
          refine va_iast hx hb hE.1 hP hD hS 1 0 rfl rfl g1 dX2_forget_33 (fun H locs (hP : va_P D vwCl (MX2 cI cZ cL cW a0 a1 (upd k_keys (Int32.toNatClampNeg v2) (k_keys (Int32.toNatClampNeg v3))) k_size) H) (hD : va_D A (MX2 cI cZ cL cW a0 a1 (upd k_keys (Int32.toNatClampNeg v2) (k_keys (Int32.toNatClampNeg v3))) k_size)) hS => ?_)
          refine lv_iinc (v := (v2 + 1)) (lv' := [(2, .int (v2 + 1)), (0, .ref a0), (1, .int v1), (3, .int v3)]) hx hb dX2_forget_34 hl (k := 2) rfl rfl (by decide) rfl (fun ls hl => ?_)
          refine lv_iinc (v := (v3 + 1)) (lv' := [(3, .int (v3 + 1)), (2, .int (v2 + 1)), (0, .ref a0), (1, .int v1)]) hx hb dX2_forget_37 hl (k := 3) rfl rfl (by decide) rfl (fun ls hl => ?_)
          refine lv_goto (tgt := 4) hx hb dX2_forget_40 (by decide) ?_
          exact ih v1 (v2 + 1) (v3 + 1) (upd k_keys (Int32.toNatClampNeg v2) (k_keys (Int32.toNatClampNeg v3))) k_size _ _ _ _ ls hf hP hD hS (lv_sub hl [2, 3, 1, 0] rfl) hk
  refine lv_iconst (v := 0) hx hb dX2_forget_0 (by decide) ?_
  refine lv_istore_n (lv' := [(2, .int 0), (0, .ref a0), (1, .int p1)]) hx hb dX2_forget_1 rfl hl (by decide) rfl (fun ls hl => ?_)
  refine lv_iconst (v := 0) hx hb dX2_forget_2 (by decide) ?_
  refine lv_istore_n (lv' := [(3, .int 0), (2, .int 0), (0, .ref a0), (1, .int p1)]) hx hb dX2_forget_3 rfl hl (by decide) rfl (fun ls hl => ?_)
  obtain ⟨⟨x6, k7⟩, h8, hf⟩ := bd_s hf
  refine L4 _ F p1 0 0 k_keys k_size x6 k7 _ _ ls h8 hP hD hS (lv_sub hl [2, 3, 1, 0] rfl) (fun H locs ls hP hD hS hl => ?_)
  refine lv_iload_n hx hb dX2_forget_43 rfl (lv_at hl 1 rfl) ?_
  refine lv_aload_n hx hb dX2_forget_44 rfl (lv_at hl 0 rfl) ?_
  refine gf_X2 (v := .int k_size) C hE hP 0 1 rfl (by decide) qF_X2_21 rfl dX2_forget_45 ?_
  refine lv_icmp_ge (tgt := 55) hx hb dX2_forget_48 (by decide) (fun c9 => ?_) (fun c9 => ?_)
  · have hf := it_p hf c9
    refine lv_iconst (v := 0) hx hb dX2_forget_55 (by decide) ?_
    refine lv_istore_n (lv' := [(3, .int 0), (0, .ref a0), (2, .int x6)]) hx hb dX2_forget_56 rfl hl (by decide) rfl (fun ls hl => ?_)
    refine lv_aload_n hx hb dX2_forget_57 rfl (lv_at hl 1 rfl) ?_
    refine lv_iload_n hx hb dX2_forget_58 rfl (lv_at hl 2 rfl) ?_
    refine pf_X2 (v := .int x6) C hE hP hD hS 0 1 rfl (by decide) qF_X2_21 rfl rfl rfl (Nat.le_of_ble_eq_true rfl) dX2_forget_59 (fun H locs (hP : va_P D vwCl (MX2 cI cZ cL cW a0 a1 k7 x6) H) (hD : va_D A (MX2 cI cZ cL cW a0 a1 k7 x6)) hS => ?_)
    refine lv_iload_n hx hb dX2_forget_62 rfl (lv_at hl 0 rfl) ?_
    cases hf
    exact rw_z C hr hlk (by decide) hP hD hS dX2_forget_63 rfl
  · have hf := it_n hf c9
    refine lv_iconst (v := 1) hx hb dX2_forget_51 (by decide) ?_
    refine lv_goto (tgt := 56) hx hb dX2_forget_52 (by decide) ?_
    refine lv_istore_n (lv' := [(3, .int 1), (0, .ref a0), (2, .int x6)]) hx hb dX2_forget_56 rfl hl (by decide) rfl (fun ls hl => ?_)
    refine lv_aload_n hx hb dX2_forget_57 rfl (lv_at hl 1 rfl) ?_
    refine lv_iload_n hx hb dX2_forget_58 rfl (lv_at hl 2 rfl) ?_
    refine pf_X2 (v := .int x6) C hE hP hD hS 0 1 rfl (by decide) qF_X2_21 rfl rfl rfl (Nat.le_of_ble_eq_true rfl) dX2_forget_59 (fun H locs (hP : va_P D vwCl (MX2 cI cZ cL cW a0 a1 k7 x6) H) (hD : va_D A (MX2 cI cZ cL cW a0 a1 k7 x6)) hS => ?_)
    refine lv_iload_n hx hb dX2_forget_62 rfl (lv_at hl 0 rfl) ?_
    cases hf
    exact rw_z C hr hlk (by decide) hP hD hS dX2_forget_63 rfl
def X2_keyAt (F : Nat) (p1 : Int32) (k_keys : (Nat → Int32)) (k_size : Int32) : Option (Int32) := if (p1 : Int32) < 0 then (some (-1)) else (if (k_size : Int32) ≤ p1 then (some (-1)) else (if (p1 : Int32) < 0 ∨ 16 ≤ (Int32.toNatClampNeg p1) then none else (some (k_keys (Int32.toNatClampNeg p1)))))
abbrev rm_X2_keyAt : Room := { frames := 0, cells := 0, slots := 0, locals := 0 }
theorem ok_X2_keyAt : OKV RX2 yX2_keyAt cX2_keyAt 2 (some .int) 1 := ⟨by decide +kernel, qV_X2_keyAt, qL_X2_keyAt, qI_X2, qD_X2_keyAt⟩
set_option maxHeartbeats 4000000 in
set_option maxRecDepth 100000 in
theorem c_X2_keyAt (l : Launch) (D : va_G) (cI cZ cL cW : ClassId) (F : Nat) (a0 : Nat) (a1 : Nat) (k_keys : (Nat → Int32)) (k_size : Int32) (p1 : Int32) (r : Int32) (hf : X2_keyAt F p1 k_keys k_size = some r) : CtrR l D (tyL cI cZ cL cW) nestW yX2_keyAt cX2_keyAt 2 (some .int) rm_X2_keyAt [.ref a0, .int p1] (MX2 cI cZ cL cW a0 a1 k_keys k_size) (some (.int r)) := by
  refine ofR RX2 (by decide) rfl (Nat.le_of_ble_eq_true rfl) ?_
  intro p e s m below meth c ls C hr hlk hE hP hl
  generalize (List.toArray ([.ref a0, .int p1] : List Value)) = args at C ⊢
  obtain ⟨hx, hb, hml, hown, ht⟩ := id C
  have hl : lv_has ls 2 [(0, .ref a0), (1, .int p1)] := hl
  refine lv_iload_n hx hb dX2_keyAt_0 rfl (lv_at hl 1 rfl) ?_
  refine lv_if_lt (tgt := 21) hx hb dX2_keyAt_1 (by decide) (fun c3 => ?_) (fun c3 => ?_)
  · have hf := it_p hf c3
    refine lv_iconst (v := (-1)) hx hb dX2_keyAt_21 (by decide) ?_
    exact rt_i C hr hlk dX2_keyAt_22 (congrArg (fun o => o.map Value.int) hf)
  · have hf := it_n hf c3
    refine lv_iload_n hx hb dX2_keyAt_4 rfl (lv_at hl 1 rfl) ?_
    refine lv_aload_n hx hb dX2_keyAt_5 rfl (lv_at hl 0 rfl) ?_
    refine gf_X2 (v := .int k_size) C hE hP 0 1 rfl (by decide) qF_X2_21 rfl dX2_keyAt_6 ?_
    refine lv_icmp_ge (tgt := 21) hx hb dX2_keyAt_9 (by decide) (fun c2 => ?_) (fun c2 => ?_)
    · have hf := it_p hf c2
      refine lv_iconst (v := (-1)) hx hb dX2_keyAt_21 (by decide) ?_
      exact rt_i C hr hlk dX2_keyAt_22 (congrArg (fun o => o.map Value.int) hf)
    · have hf := it_n hf c2
      refine lv_aload_n hx hb dX2_keyAt_12 rfl (lv_at hl 0 rfl) ?_
      refine gf_X2 (v := .ref a1) C hE hP 0 0 rfl (by decide) qF_X2_9 rfl dX2_keyAt_13 ?_
      refine lv_iload_n hx hb dX2_keyAt_16 rfl (lv_at hl 1 rfl) ?_
      obtain ⟨g1, hf⟩ := it_g hf
      refine va_iald hx hb hE.1 hP 1 0 rfl rfl g1 dX2_keyAt_17 ?_
      refine lv_goto (tgt := 22) hx hb dX2_keyAt_18 (by decide) ?_
      exact rt_i C hr hlk dX2_keyAt_22 (congrArg (fun o => o.map Value.int) hf)
def X7_open (F : Nat) (k_size : Int32) (k_lost : Int32) (k_depth : Int32) : Option (Int32 × Int32 × Int32) := some (0, 0, 0)
abbrev rm_X7_open : Room := { frames := 0, cells := 0, slots := 0, locals := 0 }
theorem ok_X7_open : OKV RX7 yX7_open cX7_open 1 none 0 := ⟨by decide +kernel, qV_X7_open, qL_X7_open, qI_X7, qD_X7_open⟩
set_option maxHeartbeats 4000000 in
set_option maxRecDepth 100000 in
theorem c_X7_open (l : Launch) (D : va_G) (cI cZ cL cW : ClassId) (F : Nat) (a0 : Nat) (a1 : Nat) (a2 : Nat) (a3 : Nat) (a4 : Nat) (a5 : Nat) (k_kinds : (Nat → Int32)) (k_keys : (Nat → Int32)) (k_values : (Nat → Int32)) (k_weights : (Nat → Int32)) (k_depths : (Nat → Int32)) (k_size : Int32) (k_lost : Int32) (k_depth : Int32) (k_size' : Int32) (k_lost' : Int32) (k_depth' : Int32) (hf : X7_open F k_size k_lost k_depth = some (k_size', k_lost', k_depth')) : CtrW l D (tyL cI cZ cL cW) nestW yX7_open cX7_open 1 none rm_X7_open [.ref a0] (MX7 cI cZ cL cW a0 a1 a2 a3 a4 a5 k_kinds k_keys k_values k_weights k_depths k_size k_lost k_depth) (MX7 cI cZ cL cW a0 a1 a2 a3 a4 a5 k_kinds k_keys k_values k_weights k_depths (k_size') (k_lost') (k_depth')) none := by
  refine ofA RX7 (by decide) rfl (Nat.le_of_ble_eq_true rfl) ?_
  intro p e s m below meth c ls A C hr hlk hE hA hP hD hS hl
  generalize (List.toArray ([.ref a0] : List Value)) = args at C ⊢
  obtain ⟨hx, hb, hml, hown, ht⟩ := id C
  have hl : lv_has ls 1 [(0, .ref a0)] := hl
  refine lv_aload_n hx hb dX7_open_0 rfl (lv_at hl 0 rfl) ?_
  refine lv_iconst (v := 0) hx hb dX7_open_1 (by decide) ?_
  refine pf_X7 (v := .int 0) C hE hP hD hS 0 5 rfl (by decide) qF_X7_27 rfl rfl rfl (Nat.le_of_ble_eq_true rfl) dX7_open_2 (fun H locs (hP : va_P D vwCl (MX7 cI cZ cL cW a0 a1 a2 a3 a4 a5 k_kinds k_keys k_values k_weights k_depths 0 k_lost k_depth) H) (hD : va_D A (MX7 cI cZ cL cW a0 a1 a2 a3 a4 a5 k_kinds k_keys k_values k_weights k_depths 0 k_lost k_depth)) hS => ?_)
  refine lv_aload_n hx hb dX7_open_5 rfl (lv_at hl 0 rfl) ?_
  refine lv_iconst (v := 0) hx hb dX7_open_6 (by decide) ?_
  refine pf_X7 (v := .int 0) C hE hP hD hS 0 6 rfl (by decide) qF_X7_31 rfl rfl rfl (Nat.le_of_ble_eq_true rfl) dX7_open_7 (fun H locs (hP : va_P D vwCl (MX7 cI cZ cL cW a0 a1 a2 a3 a4 a5 k_kinds k_keys k_values k_weights k_depths 0 0 k_depth) H) (hD : va_D A (MX7 cI cZ cL cW a0 a1 a2 a3 a4 a5 k_kinds k_keys k_values k_weights k_depths 0 0 k_depth)) hS => ?_)
  refine lv_aload_n hx hb dX7_open_10 rfl (lv_at hl 0 rfl) ?_
  refine lv_iconst (v := 0) hx hb dX7_open_11 (by decide) ?_
  refine pf_X7 (v := .int 0) C hE hP hD hS 0 7 rfl (by decide) qF_X7_34 rfl rfl rfl (Nat.le_of_ble_eq_true rfl) dX7_open_12 (fun H locs (hP : va_P D vwCl (MX7 cI cZ cL cW a0 a1 a2 a3 a4 a5 k_kinds k_keys k_values k_weights k_depths 0 0 0) H) (hD : va_D A (MX7 cI cZ cL cW a0 a1 a2 a3 a4 a5 k_kinds k_keys k_values k_weights k_depths 0 0 0)) hS => ?_)
  cases hf
  exact rw_v C hr hlk hP hD hS dX7_open_15
def X7_add (F : Nat) (p1 : Int32) (p2 : Int32) (p3 : Int32) (p4 : Int32) (k_kinds : (Nat → Int32)) (k_keys : (Nat → Int32)) (k_values : (Nat → Int32)) (k_weights : (Nat → Int32)) (k_depths : (Nat → Int32)) (k_size : Int32) (k_lost : Int32) (k_depth : Int32) : Option ((Nat → Int32) × (Nat → Int32) × (Nat → Int32) × (Nat → Int32) × (Nat → Int32) × Int32 × Int32) := if (k_size : Int32) < 100 then (if (k_size : Int32) < 0 ∨ 100 ≤ (Int32.toNatClampNeg k_size) then none else (if (k_size : Int32) < 0 ∨ 100 ≤ (Int32.toNatClampNeg k_size) then none else (if (k_size : Int32) < 0 ∨ 100 ≤ (Int32.toNatClampNeg k_size) then none else (if (k_size : Int32) < 0 ∨ 100 ≤ (Int32.toNatClampNeg k_size) then none else (if (k_size : Int32) < 0 ∨ 100 ≤ (Int32.toNatClampNeg k_size) then none else (some ((upd k_kinds (Int32.toNatClampNeg k_size) p1), (upd k_keys (Int32.toNatClampNeg k_size) p2), (upd k_values (Int32.toNatClampNeg k_size) p3), (upd k_weights (Int32.toNatClampNeg k_size) p4), (upd k_depths (Int32.toNatClampNeg k_size) k_depth), (k_size + 1), k_lost))))))) else (some (k_kinds, k_keys, k_values, k_weights, k_depths, k_size, (k_lost + 1)))
abbrev rm_X7_add : Room := { frames := 0, cells := 0, slots := 0, locals := 0 }
theorem ok_X7_add : OKV RX7 yX7_add cX7_add 5 none 4 := ⟨by decide +kernel, qV_X7_add, qL_X7_add, qI_X7, qD_X7_add⟩
set_option maxHeartbeats 4000000 in
set_option maxRecDepth 100000 in
theorem c_X7_add (l : Launch) (D : va_G) (cI cZ cL cW : ClassId) (F : Nat) (a0 : Nat) (a1 : Nat) (a2 : Nat) (a3 : Nat) (a4 : Nat) (a5 : Nat) (k_kinds : (Nat → Int32)) (k_keys : (Nat → Int32)) (k_values : (Nat → Int32)) (k_weights : (Nat → Int32)) (k_depths : (Nat → Int32)) (k_size : Int32) (k_lost : Int32) (k_depth : Int32) (p1 : Int32) (p2 : Int32) (p3 : Int32) (p4 : Int32) (k_kinds' : (Nat → Int32)) (k_keys' : (Nat → Int32)) (k_values' : (Nat → Int32)) (k_weights' : (Nat → Int32)) (k_depths' : (Nat → Int32)) (k_size' : Int32) (k_lost' : Int32) (hf : X7_add F p1 p2 p3 p4 k_kinds k_keys k_values k_weights k_depths k_size k_lost k_depth = some (k_kinds', k_keys', k_values', k_weights', k_depths', k_size', k_lost')) : CtrW l D (tyL cI cZ cL cW) nestW yX7_add cX7_add 5 none rm_X7_add [.ref a0, .int p1, .int p2, .int p3, .int p4] (MX7 cI cZ cL cW a0 a1 a2 a3 a4 a5 k_kinds k_keys k_values k_weights k_depths k_size k_lost k_depth) (MX7 cI cZ cL cW a0 a1 a2 a3 a4 a5 (k_kinds') (k_keys') (k_values') (k_weights') (k_depths') (k_size') (k_lost') k_depth) none := by
  refine ofA RX7 (by decide) rfl (Nat.le_of_ble_eq_true rfl) ?_
  intro p e s m below meth c ls A C hr hlk hE hA hP hD hS hl
  generalize (List.toArray ([.ref a0, .int p1, .int p2, .int p3, .int p4] : List Value)) = args at C ⊢
  obtain ⟨hx, hb, hml, hown, ht⟩ := id C
  have hl : lv_has ls 5 [(0, .ref a0), (1, .int p1), (2, .int p2), (3, .int p3), (4, .int p4)] := hl
  refine lv_aload_n hx hb dX7_add_0 rfl (lv_at hl 0 rfl) ?_
  refine gf_X7 (v := .int k_size) C hE hP 0 5 rfl (by decide) qF_X7_27 rfl dX7_add_1 ?_
  refine lv_bipush (v := 100) hx hb dX7_add_4 (by decide) ?_
  refine lv_icmp_lt (tgt := 20) hx hb dX7_add_6 (by decide) (fun c6 => ?_) (fun c6 => ?_)
  · have hf := it_p hf c6
    refine lv_aload_n hx hb dX7_add_20 rfl (lv_at hl 0 rfl) ?_
    refine gf_X7 (v := .ref a1) C hE hP 0 0 rfl (by decide) qF_X7_9 rfl dX7_add_21 ?_
    refine lv_aload_n hx hb dX7_add_24 rfl (lv_at hl 0 rfl) ?_
    refine gf_X7 (v := .int k_size) C hE hP 0 5 rfl (by decide) qF_X7_27 rfl dX7_add_25 ?_
    refine lv_iload_n hx hb dX7_add_28 rfl (lv_at hl 1 rfl) ?_
    obtain ⟨g5, hf⟩ := it_g hf
    refine va_iast hx hb hE.1 hP hD hS 1 0 rfl rfl g5 dX7_add_29 (fun H locs (hP : va_P D vwCl (MX7 cI cZ cL cW a0 a1 a2 a3 a4 a5 (upd k_kinds (Int32.toNatClampNeg k_size) p1) k_keys k_values k_weights k_depths k_size k_lost k_depth) H) (hD : va_D A (MX7 cI cZ cL cW a0 a1 a2 a3 a4 a5 (upd k_kinds (Int32.toNatClampNeg k_size) p1) k_keys k_values k_weights k_depths k_size k_lost k_depth)) hS => ?_)
    refine lv_aload_n hx hb dX7_add_30 rfl (lv_at hl 0 rfl) ?_
    refine gf_X7 (v := .ref a2) C hE hP 0 1 rfl (by decide) qF_X7_15 rfl dX7_add_31 ?_
    refine lv_aload_n hx hb dX7_add_34 rfl (lv_at hl 0 rfl) ?_
    refine gf_X7 (v := .int k_size) C hE hP 0 5 rfl (by decide) qF_X7_27 rfl dX7_add_35 ?_
    refine lv_iload_n hx hb dX7_add_38 rfl (lv_at hl 2 rfl) ?_
    obtain ⟨g4, hf⟩ := it_g hf
    refine va_iast hx hb hE.1 hP hD hS 2 0 rfl rfl g4 dX7_add_39 (fun H locs (hP : va_P D vwCl (MX7 cI cZ cL cW a0 a1 a2 a3 a4 a5 (upd k_kinds (Int32.toNatClampNeg k_size) p1) (upd k_keys (Int32.toNatClampNeg k_size) p2) k_values k_weights k_depths k_size k_lost k_depth) H) (hD : va_D A (MX7 cI cZ cL cW a0 a1 a2 a3 a4 a5 (upd k_kinds (Int32.toNatClampNeg k_size) p1) (upd k_keys (Int32.toNatClampNeg k_size) p2) k_values k_weights k_depths k_size k_lost k_depth)) hS => ?_)
    refine lv_aload_n hx hb dX7_add_40 rfl (lv_at hl 0 rfl) ?_
    refine gf_X7 (v := .ref a3) C hE hP 0 2 rfl (by decide) qF_X7_18 rfl dX7_add_41 ?_
    refine lv_aload_n hx hb dX7_add_44 rfl (lv_at hl 0 rfl) ?_
    refine gf_X7 (v := .int k_size) C hE hP 0 5 rfl (by decide) qF_X7_27 rfl dX7_add_45 ?_
    refine lv_iload_n hx hb dX7_add_48 rfl (lv_at hl 3 rfl) ?_
    obtain ⟨g3, hf⟩ := it_g hf
    refine va_iast hx hb hE.1 hP hD hS 3 0 rfl rfl g3 dX7_add_49 (fun H locs (hP : va_P D vwCl (MX7 cI cZ cL cW a0 a1 a2 a3 a4 a5 (upd k_kinds (Int32.toNatClampNeg k_size) p1) (upd k_keys (Int32.toNatClampNeg k_size) p2) (upd k_values (Int32.toNatClampNeg k_size) p3) k_weights k_depths k_size k_lost k_depth) H) (hD : va_D A (MX7 cI cZ cL cW a0 a1 a2 a3 a4 a5 (upd k_kinds (Int32.toNatClampNeg k_size) p1) (upd k_keys (Int32.toNatClampNeg k_size) p2) (upd k_values (Int32.toNatClampNeg k_size) p3) k_weights k_depths k_size k_lost k_depth)) hS => ?_)
    refine lv_aload_n hx hb dX7_add_50 rfl (lv_at hl 0 rfl) ?_
    refine gf_X7 (v := .ref a4) C hE hP 0 3 rfl (by decide) qF_X7_21 rfl dX7_add_51 ?_
    refine lv_aload_n hx hb dX7_add_54 rfl (lv_at hl 0 rfl) ?_
    refine gf_X7 (v := .int k_size) C hE hP 0 5 rfl (by decide) qF_X7_27 rfl dX7_add_55 ?_
    refine lv_iload hx hb dX7_add_58 (lv_at hl 4 rfl) ?_
    obtain ⟨g2, hf⟩ := it_g hf
    refine va_iast hx hb hE.1 hP hD hS 4 0 rfl rfl g2 dX7_add_60 (fun H locs (hP : va_P D vwCl (MX7 cI cZ cL cW a0 a1 a2 a3 a4 a5 (upd k_kinds (Int32.toNatClampNeg k_size) p1) (upd k_keys (Int32.toNatClampNeg k_size) p2) (upd k_values (Int32.toNatClampNeg k_size) p3) (upd k_weights (Int32.toNatClampNeg k_size) p4) k_depths k_size k_lost k_depth) H) (hD : va_D A (MX7 cI cZ cL cW a0 a1 a2 a3 a4 a5 (upd k_kinds (Int32.toNatClampNeg k_size) p1) (upd k_keys (Int32.toNatClampNeg k_size) p2) (upd k_values (Int32.toNatClampNeg k_size) p3) (upd k_weights (Int32.toNatClampNeg k_size) p4) k_depths k_size k_lost k_depth)) hS => ?_)
    refine lv_aload_n hx hb dX7_add_61 rfl (lv_at hl 0 rfl) ?_
    refine gf_X7 (v := .ref a5) C hE hP 0 4 rfl (by decide) qF_X7_24 rfl dX7_add_62 ?_
    refine lv_aload_n hx hb dX7_add_65 rfl (lv_at hl 0 rfl) ?_
    refine gf_X7 (v := .int k_size) C hE hP 0 5 rfl (by decide) qF_X7_27 rfl dX7_add_66 ?_
    refine lv_aload_n hx hb dX7_add_69 rfl (lv_at hl 0 rfl) ?_
    refine gf_X7 (v := .int k_depth) C hE hP 0 7 rfl (by decide) qF_X7_34 rfl dX7_add_70 ?_
    obtain ⟨g1, hf⟩ := it_g hf
    refine va_iast hx hb hE.1 hP hD hS 5 0 rfl rfl g1 dX7_add_73 (fun H locs (hP : va_P D vwCl (MX7 cI cZ cL cW a0 a1 a2 a3 a4 a5 (upd k_kinds (Int32.toNatClampNeg k_size) p1) (upd k_keys (Int32.toNatClampNeg k_size) p2) (upd k_values (Int32.toNatClampNeg k_size) p3) (upd k_weights (Int32.toNatClampNeg k_size) p4) (upd k_depths (Int32.toNatClampNeg k_size) k_depth) k_size k_lost k_depth) H) (hD : va_D A (MX7 cI cZ cL cW a0 a1 a2 a3 a4 a5 (upd k_kinds (Int32.toNatClampNeg k_size) p1) (upd k_keys (Int32.toNatClampNeg k_size) p2) (upd k_values (Int32.toNatClampNeg k_size) p3) (upd k_weights (Int32.toNatClampNeg k_size) p4) (upd k_depths (Int32.toNatClampNeg k_size) k_depth) k_size k_lost k_depth)) hS => ?_)
    refine lv_aload_n hx hb dX7_add_74 rfl (lv_at hl 0 rfl) ?_
    refine lv_dup hx hb dX7_add_75 rfl ?_
    refine gf_X7 (v := .int k_size) C hE hP 0 5 rfl (by decide) qF_X7_27 rfl dX7_add_76 ?_
    refine lv_iconst (v := 1) hx hb dX7_add_79 (by decide) ?_
    refine lv_iadd hx hb dX7_add_80 ?_
    refine pf_X7 (v := .int (k_size + 1)) C hE hP hD hS 0 5 rfl (by decide) qF_X7_27 rfl rfl rfl (Nat.le_of_ble_eq_true rfl) dX7_add_81 (fun H locs (hP : va_P D vwCl (MX7 cI cZ cL cW a0 a1 a2 a3 a4 a5 (upd k_kinds (Int32.toNatClampNeg k_size) p1) (upd k_keys (Int32.toNatClampNeg k_size) p2) (upd k_values (Int32.toNatClampNeg k_size) p3) (upd k_weights (Int32.toNatClampNeg k_size) p4) (upd k_depths (Int32.toNatClampNeg k_size) k_depth) (k_size + 1) k_lost k_depth) H) (hD : va_D A (MX7 cI cZ cL cW a0 a1 a2 a3 a4 a5 (upd k_kinds (Int32.toNatClampNeg k_size) p1) (upd k_keys (Int32.toNatClampNeg k_size) p2) (upd k_values (Int32.toNatClampNeg k_size) p3) (upd k_weights (Int32.toNatClampNeg k_size) p4) (upd k_depths (Int32.toNatClampNeg k_size) k_depth) (k_size + 1) k_lost k_depth)) hS => ?_)
    cases hf
    exact rw_v C hr hlk hP hD hS dX7_add_84
  · have hf := it_n hf c6
    refine lv_aload_n hx hb dX7_add_9 rfl (lv_at hl 0 rfl) ?_
    refine lv_dup hx hb dX7_add_10 rfl ?_
    refine gf_X7 (v := .int k_lost) C hE hP 0 6 rfl (by decide) qF_X7_31 rfl dX7_add_11 ?_
    refine lv_iconst (v := 1) hx hb dX7_add_14 (by decide) ?_
    refine lv_iadd hx hb dX7_add_15 ?_
    refine pf_X7 (v := .int (k_lost + 1)) C hE hP hD hS 0 6 rfl (by decide) qF_X7_31 rfl rfl rfl (Nat.le_of_ble_eq_true rfl) dX7_add_16 (fun H locs (hP : va_P D vwCl (MX7 cI cZ cL cW a0 a1 a2 a3 a4 a5 k_kinds k_keys k_values k_weights k_depths k_size (k_lost + 1) k_depth) H) (hD : va_D A (MX7 cI cZ cL cW a0 a1 a2 a3 a4 a5 k_kinds k_keys k_values k_weights k_depths k_size (k_lost + 1) k_depth)) hS => ?_)
    cases hf
    exact rw_v C hr hlk hP hD hS dX7_add_19
def X4_copyFrom (F : Nat) (k_kinds : (Nat → Int32)) (k_keys : (Nat → Int32)) (k_depths : (Nat → Int32)) (k_weights : (Nat → Int32)) (k_hearers : (Nat → Int32)) (k_size : Int32) (k_next : Int32) (k_o1_kinds : (Nat → Int32)) (k_o1_keys : (Nat → Int32)) (k_o1_depths : (Nat → Int32)) (k_o1_weights : (Nat → Int32)) (k_o1_hearers : (Nat → Int32)) (k_o1_size : Int32) (k_o1_next : Int32) : Option ((Nat → Int32) × (Nat → Int32) × (Nat → Int32) × (Nat → Int32) × (Nat → Int32) × Int32 × Int32) := some ((va_cpy k_o1_kinds k_kinds (Int32.toNatClampNeg 0) (Int32.toNatClampNeg 0) (Int32.toNatClampNeg 40)), (va_cpy k_o1_keys k_keys (Int32.toNatClampNeg 0) (Int32.toNatClampNeg 0) (Int32.toNatClampNeg 40)), (va_cpy k_o1_depths k_depths (Int32.toNatClampNeg 0) (Int32.toNatClampNeg 0) (Int32.toNatClampNeg 40)), (va_cpy k_o1_weights k_weights (Int32.toNatClampNeg 0) (Int32.toNatClampNeg 0) (Int32.toNatClampNeg 40)), (va_cpy k_o1_hearers k_hearers (Int32.toNatClampNeg 0) (Int32.toNatClampNeg 0) (Int32.toNatClampNeg 40)), k_o1_size, k_o1_next)
abbrev rm_X4_copyFrom : Room := { frames := 1, cells := 0, slots := 0, locals := 48 }
theorem ok_X4_copyFrom : OKV RX4 yX4_copyFrom cX4_copyFrom 2 none 1 := ⟨by decide +kernel, qV_X4_copyFrom, qL_X4_copyFrom, qI_X4, qD_X4_copyFrom⟩
set_option maxHeartbeats 4000000 in
set_option maxRecDepth 100000 in
theorem c_X4_copyFrom (l : Launch) (D : va_G) (cI cZ cL cW : ClassId) (F : Nat) (a0 : Nat) (a1 : Nat) (a2 : Nat) (a3 : Nat) (a4 : Nat) (a5 : Nat) (a6 : Nat) (a7 : Nat) (a8 : Nat) (a9 : Nat) (a10 : Nat) (a11 : Nat) (k_kinds : (Nat → Int32)) (k_keys : (Nat → Int32)) (k_depths : (Nat → Int32)) (k_weights : (Nat → Int32)) (k_hearers : (Nat → Int32)) (k_size : Int32) (k_next : Int32) (k_o1_kinds : (Nat → Int32)) (k_o1_keys : (Nat → Int32)) (k_o1_depths : (Nat → Int32)) (k_o1_weights : (Nat → Int32)) (k_o1_hearers : (Nat → Int32)) (k_o1_size : Int32) (k_o1_next : Int32) (k_kinds' : (Nat → Int32)) (k_keys' : (Nat → Int32)) (k_depths' : (Nat → Int32)) (k_weights' : (Nat → Int32)) (k_hearers' : (Nat → Int32)) (k_size' : Int32) (k_next' : Int32) (hf : X4_copyFrom F k_kinds k_keys k_depths k_weights k_hearers k_size k_next k_o1_kinds k_o1_keys k_o1_depths k_o1_weights k_o1_hearers k_o1_size k_o1_next = some (k_kinds', k_keys', k_depths', k_weights', k_hearers', k_size', k_next')) : CtrW l D (tyL cI cZ cL cW) nestW yX4_copyFrom cX4_copyFrom 2 none rm_X4_copyFrom [.ref a0, .ref a6] (MX4 cI cZ cL cW a0 a1 a2 a3 a4 a5 k_kinds k_keys k_depths k_weights k_hearers k_size k_next ++ MX4 cI cZ cL cW a6 a7 a8 a9 a10 a11 k_o1_kinds k_o1_keys k_o1_depths k_o1_weights k_o1_hearers k_o1_size k_o1_next) (MX4 cI cZ cL cW a0 a1 a2 a3 a4 a5 (k_kinds') (k_keys') (k_depths') (k_weights') (k_hearers') (k_size') (k_next') ++ MX4 cI cZ cL cW a6 a7 a8 a9 a10 a11 k_o1_kinds k_o1_keys k_o1_depths k_o1_weights k_o1_hearers k_o1_size k_o1_next) none := by
  refine ofA RX4 (by decide) rfl (Nat.le_of_ble_eq_true rfl) ?_
  intro p e s m below meth c ls A C hr hlk hE hA hP hD hS hl
  generalize (List.toArray ([.ref a0, .ref a6] : List Value)) = args at C ⊢
  obtain ⟨hx, hb, hml, hown, ht⟩ := id C
  have hl : lv_has ls 2 [(0, .ref a0), (1, .ref a6)] := hl
  refine lv_aload_n hx hb dX4_copyFrom_0 rfl (lv_at hl 1 rfl) ?_
  refine gf_X4 (v := .ref a7) C hE hP 6 0 rfl (by decide) qF_X4_9 rfl dX4_copyFrom_1 ?_
  refine lv_iconst (v := 0) hx hb dX4_copyFrom_4 (by decide) ?_
  refine lv_aload_n hx hb dX4_copyFrom_5 rfl (lv_at hl 0 rfl) ?_
  refine gf_X4 (v := .ref a1) C hE hP 0 0 rfl (by decide) qF_X4_9 rfl dX4_copyFrom_6 ?_
  refine lv_iconst (v := 0) hx hb dX4_copyFrom_9 (by decide) ?_
  refine lv_bipush (v := 40) hx hb dX4_copyFrom_10 (by decide) ?_
  refine va_copyi hx hb (hml.trans hl.1.symm) hown (ht _ qM_X4_27) (ht _ qX_arraycopy) (ht _ qS_arraycopy) (ht _ qI_J10) hE.1 hP hD hS 7 1 0 0 rfl rfl rfl rfl rfl (by decide) (by decide) (by decide) (by decide) (by decide) (fun _ _ => rfl) (Nat.le_of_ble_eq_true rfl) (by decide) dX4_copyFrom_12 (fun H locs (hP : va_P D vwCl (MX4 cI cZ cL cW a0 a1 a2 a3 a4 a5 (va_cpy k_o1_kinds k_kinds (Int32.toNatClampNeg 0) (Int32.toNatClampNeg 0) (Int32.toNatClampNeg 40)) k_keys k_depths k_weights k_hearers k_size k_next ++ MX4 cI cZ cL cW a6 a7 a8 a9 a10 a11 k_o1_kinds k_o1_keys k_o1_depths k_o1_weights k_o1_hearers k_o1_size k_o1_next) H) (hD : va_D A (MX4 cI cZ cL cW a0 a1 a2 a3 a4 a5 (va_cpy k_o1_kinds k_kinds (Int32.toNatClampNeg 0) (Int32.toNatClampNeg 0) (Int32.toNatClampNeg 40)) k_keys k_depths k_weights k_hearers k_size k_next ++ MX4 cI cZ cL cW a6 a7 a8 a9 a10 a11 k_o1_kinds k_o1_keys k_o1_depths k_o1_weights k_o1_hearers k_o1_size k_o1_next)) hS => ?_)
  refine lv_aload_n hx hb dX4_copyFrom_15 rfl (lv_at hl 1 rfl) ?_
  refine gf_X4 (v := .ref a8) C hE hP 6 1 rfl (by decide) qF_X4_15 rfl dX4_copyFrom_16 ?_
  refine lv_iconst (v := 0) hx hb dX4_copyFrom_19 (by decide) ?_
  refine lv_aload_n hx hb dX4_copyFrom_20 rfl (lv_at hl 0 rfl) ?_
  refine gf_X4 (v := .ref a2) C hE hP 0 1 rfl (by decide) qF_X4_15 rfl dX4_copyFrom_21 ?_
  refine lv_iconst (v := 0) hx hb dX4_copyFrom_24 (by decide) ?_
  refine lv_bipush (v := 40) hx hb dX4_copyFrom_25 (by decide) ?_
  refine va_copyi hx hb (hml.trans hl.1.symm) hown (ht _ qM_X4_27) (ht _ qX_arraycopy) (ht _ qS_arraycopy) (ht _ qI_J10) hE.1 hP hD hS 8 2 0 0 rfl rfl rfl rfl rfl (by decide) (by decide) (by decide) (by decide) (by decide) (fun _ _ => rfl) (Nat.le_of_ble_eq_true rfl) (by decide) dX4_copyFrom_27 (fun H locs (hP : va_P D vwCl (MX4 cI cZ cL cW a0 a1 a2 a3 a4 a5 (va_cpy k_o1_kinds k_kinds (Int32.toNatClampNeg 0) (Int32.toNatClampNeg 0) (Int32.toNatClampNeg 40)) (va_cpy k_o1_keys k_keys (Int32.toNatClampNeg 0) (Int32.toNatClampNeg 0) (Int32.toNatClampNeg 40)) k_depths k_weights k_hearers k_size k_next ++ MX4 cI cZ cL cW a6 a7 a8 a9 a10 a11 k_o1_kinds k_o1_keys k_o1_depths k_o1_weights k_o1_hearers k_o1_size k_o1_next) H) (hD : va_D A (MX4 cI cZ cL cW a0 a1 a2 a3 a4 a5 (va_cpy k_o1_kinds k_kinds (Int32.toNatClampNeg 0) (Int32.toNatClampNeg 0) (Int32.toNatClampNeg 40)) (va_cpy k_o1_keys k_keys (Int32.toNatClampNeg 0) (Int32.toNatClampNeg 0) (Int32.toNatClampNeg 40)) k_depths k_weights k_hearers k_size k_next ++ MX4 cI cZ cL cW a6 a7 a8 a9 a10 a11 k_o1_kinds k_o1_keys k_o1_depths k_o1_weights k_o1_hearers k_o1_size k_o1_next)) hS => ?_)
  refine lv_aload_n hx hb dX4_copyFrom_30 rfl (lv_at hl 1 rfl) ?_
  refine gf_X4 (v := .ref a9) C hE hP 6 2 rfl (by decide) qF_X4_18 rfl dX4_copyFrom_31 ?_
  refine lv_iconst (v := 0) hx hb dX4_copyFrom_34 (by decide) ?_
  refine lv_aload_n hx hb dX4_copyFrom_35 rfl (lv_at hl 0 rfl) ?_
  refine gf_X4 (v := .ref a3) C hE hP 0 2 rfl (by decide) qF_X4_18 rfl dX4_copyFrom_36 ?_
  refine lv_iconst (v := 0) hx hb dX4_copyFrom_39 (by decide) ?_
  refine lv_bipush (v := 40) hx hb dX4_copyFrom_40 (by decide) ?_
  refine va_copyi hx hb (hml.trans hl.1.symm) hown (ht _ qM_X4_27) (ht _ qX_arraycopy) (ht _ qS_arraycopy) (ht _ qI_J10) hE.1 hP hD hS 9 3 0 0 rfl rfl rfl rfl rfl (by decide) (by decide) (by decide) (by decide) (by decide) (fun _ _ => rfl) (Nat.le_of_ble_eq_true rfl) (by decide) dX4_copyFrom_42 (fun H locs (hP : va_P D vwCl (MX4 cI cZ cL cW a0 a1 a2 a3 a4 a5 (va_cpy k_o1_kinds k_kinds (Int32.toNatClampNeg 0) (Int32.toNatClampNeg 0) (Int32.toNatClampNeg 40)) (va_cpy k_o1_keys k_keys (Int32.toNatClampNeg 0) (Int32.toNatClampNeg 0) (Int32.toNatClampNeg 40)) (va_cpy k_o1_depths k_depths (Int32.toNatClampNeg 0) (Int32.toNatClampNeg 0) (Int32.toNatClampNeg 40)) k_weights k_hearers k_size k_next ++ MX4 cI cZ cL cW a6 a7 a8 a9 a10 a11 k_o1_kinds k_o1_keys k_o1_depths k_o1_weights k_o1_hearers k_o1_size k_o1_next) H) (hD : va_D A (MX4 cI cZ cL cW a0 a1 a2 a3 a4 a5 (va_cpy k_o1_kinds k_kinds (Int32.toNatClampNeg 0) (Int32.toNatClampNeg 0) (Int32.toNatClampNeg 40)) (va_cpy k_o1_keys k_keys (Int32.toNatClampNeg 0) (Int32.toNatClampNeg 0) (Int32.toNatClampNeg 40)) (va_cpy k_o1_depths k_depths (Int32.toNatClampNeg 0) (Int32.toNatClampNeg 0) (Int32.toNatClampNeg 40)) k_weights k_hearers k_size k_next ++ MX4 cI cZ cL cW a6 a7 a8 a9 a10 a11 k_o1_kinds k_o1_keys k_o1_depths k_o1_weights k_o1_hearers k_o1_size k_o1_next)) hS => ?_)
  refine lv_aload_n hx hb dX4_copyFrom_45 rfl (lv_at hl 1 rfl) ?_
  refine gf_X4 (v := .ref a10) C hE hP 6 3 rfl (by decide) qF_X4_21 rfl dX4_copyFrom_46 ?_
  refine lv_iconst (v := 0) hx hb dX4_copyFrom_49 (by decide) ?_
  refine lv_aload_n hx hb dX4_copyFrom_50 rfl (lv_at hl 0 rfl) ?_
  refine gf_X4 (v := .ref a4) C hE hP 0 3 rfl (by decide) qF_X4_21 rfl dX4_copyFrom_51 ?_
  refine lv_iconst (v := 0) hx hb dX4_copyFrom_54 (by decide) ?_
  refine lv_bipush (v := 40) hx hb dX4_copyFrom_55 (by decide) ?_
  refine va_copyi hx hb (hml.trans hl.1.symm) hown (ht _ qM_X4_27) (ht _ qX_arraycopy) (ht _ qS_arraycopy) (ht _ qI_J10) hE.1 hP hD hS 10 4 0 0 rfl rfl rfl rfl rfl (by decide) (by decide) (by decide) (by decide) (by decide) (fun _ _ => rfl) (Nat.le_of_ble_eq_true rfl) (by decide) dX4_copyFrom_57 (fun H locs (hP : va_P D vwCl (MX4 cI cZ cL cW a0 a1 a2 a3 a4 a5 (va_cpy k_o1_kinds k_kinds (Int32.toNatClampNeg 0) (Int32.toNatClampNeg 0) (Int32.toNatClampNeg 40)) (va_cpy k_o1_keys k_keys (Int32.toNatClampNeg 0) (Int32.toNatClampNeg 0) (Int32.toNatClampNeg 40)) (va_cpy k_o1_depths k_depths (Int32.toNatClampNeg 0) (Int32.toNatClampNeg 0) (Int32.toNatClampNeg 40)) (va_cpy k_o1_weights k_weights (Int32.toNatClampNeg 0) (Int32.toNatClampNeg 0) (Int32.toNatClampNeg 40)) k_hearers k_size k_next ++ MX4 cI cZ cL cW a6 a7 a8 a9 a10 a11 k_o1_kinds k_o1_keys k_o1_depths k_o1_weights k_o1_hearers k_o1_size k_o1_next) H) (hD : va_D A (MX4 cI cZ cL cW a0 a1 a2 a3 a4 a5 (va_cpy k_o1_kinds k_kinds (Int32.toNatClampNeg 0) (Int32.toNatClampNeg 0) (Int32.toNatClampNeg 40)) (va_cpy k_o1_keys k_keys (Int32.toNatClampNeg 0) (Int32.toNatClampNeg 0) (Int32.toNatClampNeg 40)) (va_cpy k_o1_depths k_depths (Int32.toNatClampNeg 0) (Int32.toNatClampNeg 0) (Int32.toNatClampNeg 40)) (va_cpy k_o1_weights k_weights (Int32.toNatClampNeg 0) (Int32.toNatClampNeg 0) (Int32.toNatClampNeg 40)) k_hearers k_size k_next ++ MX4 cI cZ cL cW a6 a7 a8 a9 a10 a11 k_o1_kinds k_o1_keys k_o1_depths k_o1_weights k_o1_hearers k_o1_size k_o1_next)) hS => ?_)
  refine lv_aload_n hx hb dX4_copyFrom_60 rfl (lv_at hl 1 rfl) ?_
  refine gf_X4 (v := .ref a11) C hE hP 6 4 rfl (by decide) qF_X4_24 rfl dX4_copyFrom_61 ?_
  refine lv_iconst (v := 0) hx hb dX4_copyFrom_64 (by decide) ?_
  refine lv_aload_n hx hb dX4_copyFrom_65 rfl (lv_at hl 0 rfl) ?_
  refine gf_X4 (v := .ref a5) C hE hP 0 4 rfl (by decide) qF_X4_24 rfl dX4_copyFrom_66 ?_
  refine lv_iconst (v := 0) hx hb dX4_copyFrom_69 (by decide) ?_
  refine lv_bipush (v := 40) hx hb dX4_copyFrom_70 (by decide) ?_
  refine va_copyi hx hb (hml.trans hl.1.symm) hown (ht _ qM_X4_27) (ht _ qX_arraycopy) (ht _ qS_arraycopy) (ht _ qI_J10) hE.1 hP hD hS 11 5 0 0 rfl rfl rfl rfl rfl (by decide) (by decide) (by decide) (by decide) (by decide) (fun _ _ => rfl) (Nat.le_of_ble_eq_true rfl) (by decide) dX4_copyFrom_72 (fun H locs (hP : va_P D vwCl (MX4 cI cZ cL cW a0 a1 a2 a3 a4 a5 (va_cpy k_o1_kinds k_kinds (Int32.toNatClampNeg 0) (Int32.toNatClampNeg 0) (Int32.toNatClampNeg 40)) (va_cpy k_o1_keys k_keys (Int32.toNatClampNeg 0) (Int32.toNatClampNeg 0) (Int32.toNatClampNeg 40)) (va_cpy k_o1_depths k_depths (Int32.toNatClampNeg 0) (Int32.toNatClampNeg 0) (Int32.toNatClampNeg 40)) (va_cpy k_o1_weights k_weights (Int32.toNatClampNeg 0) (Int32.toNatClampNeg 0) (Int32.toNatClampNeg 40)) (va_cpy k_o1_hearers k_hearers (Int32.toNatClampNeg 0) (Int32.toNatClampNeg 0) (Int32.toNatClampNeg 40)) k_size k_next ++ MX4 cI cZ cL cW a6 a7 a8 a9 a10 a11 k_o1_kinds k_o1_keys k_o1_depths k_o1_weights k_o1_hearers k_o1_size k_o1_next) H) (hD : va_D A (MX4 cI cZ cL cW a0 a1 a2 a3 a4 a5 (va_cpy k_o1_kinds k_kinds (Int32.toNatClampNeg 0) (Int32.toNatClampNeg 0) (Int32.toNatClampNeg 40)) (va_cpy k_o1_keys k_keys (Int32.toNatClampNeg 0) (Int32.toNatClampNeg 0) (Int32.toNatClampNeg 40)) (va_cpy k_o1_depths k_depths (Int32.toNatClampNeg 0) (Int32.toNatClampNeg 0) (Int32.toNatClampNeg 40)) (va_cpy k_o1_weights k_weights (Int32.toNatClampNeg 0) (Int32.toNatClampNeg 0) (Int32.toNatClampNeg 40)) (va_cpy k_o1_hearers k_hearers (Int32.toNatClampNeg 0) (Int32.toNatClampNeg 0) (Int32.toNatClampNeg 40)) k_size k_next ++ MX4 cI cZ cL cW a6 a7 a8 a9 a10 a11 k_o1_kinds k_o1_keys k_o1_depths k_o1_weights k_o1_hearers k_o1_size k_o1_next)) hS => ?_)
  refine lv_aload_n hx hb dX4_copyFrom_75 rfl (lv_at hl 0 rfl) ?_
  refine lv_aload_n hx hb dX4_copyFrom_76 rfl (lv_at hl 1 rfl) ?_
  refine gf_X4 (v := .int k_o1_size) C hE hP 6 5 rfl (by decide) qF_X4_33 rfl dX4_copyFrom_77 ?_
  refine pf_X4 (v := .int k_o1_size) C hE hP hD hS 0 5 rfl (by decide) qF_X4_33 rfl rfl rfl (Nat.le_of_ble_eq_true rfl) dX4_copyFrom_80 (fun H locs (hP : va_P D vwCl (MX4 cI cZ cL cW a0 a1 a2 a3 a4 a5 (va_cpy k_o1_kinds k_kinds (Int32.toNatClampNeg 0) (Int32.toNatClampNeg 0) (Int32.toNatClampNeg 40)) (va_cpy k_o1_keys k_keys (Int32.toNatClampNeg 0) (Int32.toNatClampNeg 0) (Int32.toNatClampNeg 40)) (va_cpy k_o1_depths k_depths (Int32.toNatClampNeg 0) (Int32.toNatClampNeg 0) (Int32.toNatClampNeg 40)) (va_cpy k_o1_weights k_weights (Int32.toNatClampNeg 0) (Int32.toNatClampNeg 0) (Int32.toNatClampNeg 40)) (va_cpy k_o1_hearers k_hearers (Int32.toNatClampNeg 0) (Int32.toNatClampNeg 0) (Int32.toNatClampNeg 40)) k_o1_size k_next ++ MX4 cI cZ cL cW a6 a7 a8 a9 a10 a11 k_o1_kinds k_o1_keys k_o1_depths k_o1_weights k_o1_hearers k_o1_size k_o1_next) H) (hD : va_D A (MX4 cI cZ cL cW a0 a1 a2 a3 a4 a5 (va_cpy k_o1_kinds k_kinds (Int32.toNatClampNeg 0) (Int32.toNatClampNeg 0) (Int32.toNatClampNeg 40)) (va_cpy k_o1_keys k_keys (Int32.toNatClampNeg 0) (Int32.toNatClampNeg 0) (Int32.toNatClampNeg 40)) (va_cpy k_o1_depths k_depths (Int32.toNatClampNeg 0) (Int32.toNatClampNeg 0) (Int32.toNatClampNeg 40)) (va_cpy k_o1_weights k_weights (Int32.toNatClampNeg 0) (Int32.toNatClampNeg 0) (Int32.toNatClampNeg 40)) (va_cpy k_o1_hearers k_hearers (Int32.toNatClampNeg 0) (Int32.toNatClampNeg 0) (Int32.toNatClampNeg 40)) k_o1_size k_next ++ MX4 cI cZ cL cW a6 a7 a8 a9 a10 a11 k_o1_kinds k_o1_keys k_o1_depths k_o1_weights k_o1_hearers k_o1_size k_o1_next)) hS => ?_)
  refine lv_aload_n hx hb dX4_copyFrom_83 rfl (lv_at hl 0 rfl) ?_
  refine lv_aload_n hx hb dX4_copyFrom_84 rfl (lv_at hl 1 rfl) ?_
  refine gf_X4 (v := .int k_o1_next) C hE hP 6 6 rfl (by decide) qF_X4_37 rfl dX4_copyFrom_85 ?_
  refine pf_X4 (v := .int k_o1_next) C hE hP hD hS 0 6 rfl (by decide) qF_X4_37 rfl rfl rfl (Nat.le_of_ble_eq_true rfl) dX4_copyFrom_88 (fun H locs (hP : va_P D vwCl (MX4 cI cZ cL cW a0 a1 a2 a3 a4 a5 (va_cpy k_o1_kinds k_kinds (Int32.toNatClampNeg 0) (Int32.toNatClampNeg 0) (Int32.toNatClampNeg 40)) (va_cpy k_o1_keys k_keys (Int32.toNatClampNeg 0) (Int32.toNatClampNeg 0) (Int32.toNatClampNeg 40)) (va_cpy k_o1_depths k_depths (Int32.toNatClampNeg 0) (Int32.toNatClampNeg 0) (Int32.toNatClampNeg 40)) (va_cpy k_o1_weights k_weights (Int32.toNatClampNeg 0) (Int32.toNatClampNeg 0) (Int32.toNatClampNeg 40)) (va_cpy k_o1_hearers k_hearers (Int32.toNatClampNeg 0) (Int32.toNatClampNeg 0) (Int32.toNatClampNeg 40)) k_o1_size k_o1_next ++ MX4 cI cZ cL cW a6 a7 a8 a9 a10 a11 k_o1_kinds k_o1_keys k_o1_depths k_o1_weights k_o1_hearers k_o1_size k_o1_next) H) (hD : va_D A (MX4 cI cZ cL cW a0 a1 a2 a3 a4 a5 (va_cpy k_o1_kinds k_kinds (Int32.toNatClampNeg 0) (Int32.toNatClampNeg 0) (Int32.toNatClampNeg 40)) (va_cpy k_o1_keys k_keys (Int32.toNatClampNeg 0) (Int32.toNatClampNeg 0) (Int32.toNatClampNeg 40)) (va_cpy k_o1_depths k_depths (Int32.toNatClampNeg 0) (Int32.toNatClampNeg 0) (Int32.toNatClampNeg 40)) (va_cpy k_o1_weights k_weights (Int32.toNatClampNeg 0) (Int32.toNatClampNeg 0) (Int32.toNatClampNeg 40)) (va_cpy k_o1_hearers k_hearers (Int32.toNatClampNeg 0) (Int32.toNatClampNeg 0) (Int32.toNatClampNeg 40)) k_o1_size k_o1_next ++ MX4 cI cZ cL cW a6 a7 a8 a9 a10 a11 k_o1_kinds k_o1_keys k_o1_depths k_o1_weights k_o1_hearers k_o1_size k_o1_next)) hS => ?_)
  cases hf
  exact rw_v C hr hlk hP hD hS dX4_copyFrom_91
def X4_add (F : Nat) (p1 : Int32) (p2 : Int32) (p3 : Int32) (p4 : Int32) (p5 : Int32) (k_kinds : (Nat → Int32)) (k_keys : (Nat → Int32)) (k_depths : (Nat → Int32)) (k_weights : (Nat → Int32)) (k_hearers : (Nat → Int32)) (k_size : Int32) (k_next : Int32) : Option ((Nat → Int32) × (Nat → Int32) × (Nat → Int32) × (Nat → Int32) × (Nat → Int32) × Int32 × Int32) := if (k_next : Int32) < 0 ∨ 40 ≤ (Int32.toNatClampNeg k_next) then none else (if (k_next : Int32) < 0 ∨ 40 ≤ (Int32.toNatClampNeg k_next) then none else (if (k_next : Int32) < 0 ∨ 40 ≤ (Int32.toNatClampNeg k_next) then none else (if (k_next : Int32) < 0 ∨ 40 ≤ (Int32.toNatClampNeg k_next) then none else (if (k_next : Int32) < 0 ∨ 40 ≤ (Int32.toNatClampNeg k_next) then none else (some ((upd k_kinds (Int32.toNatClampNeg k_next) p1), (upd k_keys (Int32.toNatClampNeg k_next) p2), (upd k_depths (Int32.toNatClampNeg k_next) p3), (upd k_weights (Int32.toNatClampNeg k_next) p4), (upd k_hearers (Int32.toNatClampNeg k_next) p5), (if 40 < (k_size + 1) then 40 else (k_size + 1)), ((k_next + 1) - (k_next + 1) / 40 * 40)))))))
abbrev rm_X4_add : Room := { frames := 1, cells := 0, slots := 0, locals := 48 }
theorem ok_X4_add : OKV RX4 yX4_add cX4_add 6 none 5 := ⟨by decide +kernel, qV_X4_add, qL_X4_add, qI_X4, qD_X4_add⟩
set_option maxHeartbeats 4000000 in
set_option maxRecDepth 100000 in
theorem c_X4_add (l : Launch) (D : va_G) (cI cZ cL cW : ClassId) (F : Nat) (a0 : Nat) (a1 : Nat) (a2 : Nat) (a3 : Nat) (a4 : Nat) (a5 : Nat) (k_kinds : (Nat → Int32)) (k_keys : (Nat → Int32)) (k_depths : (Nat → Int32)) (k_weights : (Nat → Int32)) (k_hearers : (Nat → Int32)) (k_size : Int32) (k_next : Int32) (p1 : Int32) (p2 : Int32) (p3 : Int32) (p4 : Int32) (p5 : Int32) (k_kinds' : (Nat → Int32)) (k_keys' : (Nat → Int32)) (k_depths' : (Nat → Int32)) (k_weights' : (Nat → Int32)) (k_hearers' : (Nat → Int32)) (k_size' : Int32) (k_next' : Int32) (hf : X4_add F p1 p2 p3 p4 p5 k_kinds k_keys k_depths k_weights k_hearers k_size k_next = some (k_kinds', k_keys', k_depths', k_weights', k_hearers', k_size', k_next')) : CtrW l D (tyL cI cZ cL cW) nestW yX4_add cX4_add 6 none rm_X4_add [.ref a0, .int p1, .int p2, .int p3, .int p4, .int p5] (MX4 cI cZ cL cW a0 a1 a2 a3 a4 a5 k_kinds k_keys k_depths k_weights k_hearers k_size k_next) (MX4 cI cZ cL cW a0 a1 a2 a3 a4 a5 (k_kinds') (k_keys') (k_depths') (k_weights') (k_hearers') (k_size') (k_next')) none := by
  refine ofA RX4 (by decide) rfl (Nat.le_of_ble_eq_true rfl) ?_
  intro p e s m below meth c ls A C hr hlk hE hA hP hD hS hl
  generalize (List.toArray ([.ref a0, .int p1, .int p2, .int p3, .int p4, .int p5] : List Value)) = args at C ⊢
  obtain ⟨hx, hb, hml, hown, ht⟩ := id C
  have hl : lv_has ls 6 [(0, .ref a0), (1, .int p1), (2, .int p2), (3, .int p3), (4, .int p4), (5, .int p5)] := hl
  refine lv_aload_n hx hb dX4_add_0 rfl (lv_at hl 0 rfl) ?_
  refine gf_X4 (v := .ref a1) C hE hP 0 0 rfl (by decide) qF_X4_9 rfl dX4_add_1 ?_
  refine lv_aload_n hx hb dX4_add_4 rfl (lv_at hl 0 rfl) ?_
  refine gf_X4 (v := .int k_next) C hE hP 0 6 rfl (by decide) qF_X4_37 rfl dX4_add_5 ?_
  refine lv_iload_n hx hb dX4_add_8 rfl (lv_at hl 1 rfl) ?_
  obtain ⟨g5, hf⟩ := it_g hf
  refine va_iast hx hb hE.1 hP hD hS 1 0 rfl rfl g5 dX4_add_9 (fun H locs (hP : va_P D vwCl (MX4 cI cZ cL cW a0 a1 a2 a3 a4 a5 (upd k_kinds (Int32.toNatClampNeg k_next) p1) k_keys k_depths k_weights k_hearers k_size k_next) H) (hD : va_D A (MX4 cI cZ cL cW a0 a1 a2 a3 a4 a5 (upd k_kinds (Int32.toNatClampNeg k_next) p1) k_keys k_depths k_weights k_hearers k_size k_next)) hS => ?_)
  refine lv_aload_n hx hb dX4_add_10 rfl (lv_at hl 0 rfl) ?_
  refine gf_X4 (v := .ref a2) C hE hP 0 1 rfl (by decide) qF_X4_15 rfl dX4_add_11 ?_
  refine lv_aload_n hx hb dX4_add_14 rfl (lv_at hl 0 rfl) ?_
  refine gf_X4 (v := .int k_next) C hE hP 0 6 rfl (by decide) qF_X4_37 rfl dX4_add_15 ?_
  refine lv_iload_n hx hb dX4_add_18 rfl (lv_at hl 2 rfl) ?_
  obtain ⟨g4, hf⟩ := it_g hf
  refine va_iast hx hb hE.1 hP hD hS 2 0 rfl rfl g4 dX4_add_19 (fun H locs (hP : va_P D vwCl (MX4 cI cZ cL cW a0 a1 a2 a3 a4 a5 (upd k_kinds (Int32.toNatClampNeg k_next) p1) (upd k_keys (Int32.toNatClampNeg k_next) p2) k_depths k_weights k_hearers k_size k_next) H) (hD : va_D A (MX4 cI cZ cL cW a0 a1 a2 a3 a4 a5 (upd k_kinds (Int32.toNatClampNeg k_next) p1) (upd k_keys (Int32.toNatClampNeg k_next) p2) k_depths k_weights k_hearers k_size k_next)) hS => ?_)
  refine lv_aload_n hx hb dX4_add_20 rfl (lv_at hl 0 rfl) ?_
  refine gf_X4 (v := .ref a3) C hE hP 0 2 rfl (by decide) qF_X4_18 rfl dX4_add_21 ?_
  refine lv_aload_n hx hb dX4_add_24 rfl (lv_at hl 0 rfl) ?_
  refine gf_X4 (v := .int k_next) C hE hP 0 6 rfl (by decide) qF_X4_37 rfl dX4_add_25 ?_
  refine lv_iload_n hx hb dX4_add_28 rfl (lv_at hl 3 rfl) ?_
  obtain ⟨g3, hf⟩ := it_g hf
  refine va_iast hx hb hE.1 hP hD hS 3 0 rfl rfl g3 dX4_add_29 (fun H locs (hP : va_P D vwCl (MX4 cI cZ cL cW a0 a1 a2 a3 a4 a5 (upd k_kinds (Int32.toNatClampNeg k_next) p1) (upd k_keys (Int32.toNatClampNeg k_next) p2) (upd k_depths (Int32.toNatClampNeg k_next) p3) k_weights k_hearers k_size k_next) H) (hD : va_D A (MX4 cI cZ cL cW a0 a1 a2 a3 a4 a5 (upd k_kinds (Int32.toNatClampNeg k_next) p1) (upd k_keys (Int32.toNatClampNeg k_next) p2) (upd k_depths (Int32.toNatClampNeg k_next) p3) k_weights k_hearers k_size k_next)) hS => ?_)
  refine lv_aload_n hx hb dX4_add_30 rfl (lv_at hl 0 rfl) ?_
  refine gf_X4 (v := .ref a4) C hE hP 0 3 rfl (by decide) qF_X4_21 rfl dX4_add_31 ?_
  refine lv_aload_n hx hb dX4_add_34 rfl (lv_at hl 0 rfl) ?_
  refine gf_X4 (v := .int k_next) C hE hP 0 6 rfl (by decide) qF_X4_37 rfl dX4_add_35 ?_
  refine lv_iload hx hb dX4_add_38 (lv_at hl 4 rfl) ?_
  obtain ⟨g2, hf⟩ := it_g hf
  refine va_iast hx hb hE.1 hP hD hS 4 0 rfl rfl g2 dX4_add_40 (fun H locs (hP : va_P D vwCl (MX4 cI cZ cL cW a0 a1 a2 a3 a4 a5 (upd k_kinds (Int32.toNatClampNeg k_next) p1) (upd k_keys (Int32.toNatClampNeg k_next) p2) (upd k_depths (Int32.toNatClampNeg k_next) p3) (upd k_weights (Int32.toNatClampNeg k_next) p4) k_hearers k_size k_next) H) (hD : va_D A (MX4 cI cZ cL cW a0 a1 a2 a3 a4 a5 (upd k_kinds (Int32.toNatClampNeg k_next) p1) (upd k_keys (Int32.toNatClampNeg k_next) p2) (upd k_depths (Int32.toNatClampNeg k_next) p3) (upd k_weights (Int32.toNatClampNeg k_next) p4) k_hearers k_size k_next)) hS => ?_)
  refine lv_aload_n hx hb dX4_add_41 rfl (lv_at hl 0 rfl) ?_
  refine gf_X4 (v := .ref a5) C hE hP 0 4 rfl (by decide) qF_X4_24 rfl dX4_add_42 ?_
  refine lv_aload_n hx hb dX4_add_45 rfl (lv_at hl 0 rfl) ?_
  refine gf_X4 (v := .int k_next) C hE hP 0 6 rfl (by decide) qF_X4_37 rfl dX4_add_46 ?_
  refine lv_iload hx hb dX4_add_49 (lv_at hl 5 rfl) ?_
  obtain ⟨g1, hf⟩ := it_g hf
  refine va_iast hx hb hE.1 hP hD hS 5 0 rfl rfl g1 dX4_add_51 (fun H locs (hP : va_P D vwCl (MX4 cI cZ cL cW a0 a1 a2 a3 a4 a5 (upd k_kinds (Int32.toNatClampNeg k_next) p1) (upd k_keys (Int32.toNatClampNeg k_next) p2) (upd k_depths (Int32.toNatClampNeg k_next) p3) (upd k_weights (Int32.toNatClampNeg k_next) p4) (upd k_hearers (Int32.toNatClampNeg k_next) p5) k_size k_next) H) (hD : va_D A (MX4 cI cZ cL cW a0 a1 a2 a3 a4 a5 (upd k_kinds (Int32.toNatClampNeg k_next) p1) (upd k_keys (Int32.toNatClampNeg k_next) p2) (upd k_depths (Int32.toNatClampNeg k_next) p3) (upd k_weights (Int32.toNatClampNeg k_next) p4) (upd k_hearers (Int32.toNatClampNeg k_next) p5) k_size k_next)) hS => ?_)
  refine lv_aload_n hx hb dX4_add_52 rfl (lv_at hl 0 rfl) ?_
  refine lv_aload_n hx hb dX4_add_53 rfl (lv_at hl 0 rfl) ?_
  refine gf_X4 (v := .int k_next) C hE hP 0 6 rfl (by decide) qF_X4_37 rfl dX4_add_54 ?_
  refine lv_iconst (v := 1) hx hb dX4_add_57 (by decide) ?_
  refine lv_iadd hx hb dX4_add_58 ?_
  refine lv_bipush (v := 40) hx hb dX4_add_59 (by decide) ?_
  refine lv_irem hx hb dX4_add_61 (by decide) ?_
  refine pf_X4 (v := .int ((k_next + 1) - (k_next + 1) / 40 * 40)) C hE hP hD hS 0 6 rfl (by decide) qF_X4_37 rfl rfl rfl (Nat.le_of_ble_eq_true rfl) dX4_add_62 (fun H locs (hP : va_P D vwCl (MX4 cI cZ cL cW a0 a1 a2 a3 a4 a5 (upd k_kinds (Int32.toNatClampNeg k_next) p1) (upd k_keys (Int32.toNatClampNeg k_next) p2) (upd k_depths (Int32.toNatClampNeg k_next) p3) (upd k_weights (Int32.toNatClampNeg k_next) p4) (upd k_hearers (Int32.toNatClampNeg k_next) p5) k_size ((k_next + 1) - (k_next + 1) / 40 * 40)) H) (hD : va_D A (MX4 cI cZ cL cW a0 a1 a2 a3 a4 a5 (upd k_kinds (Int32.toNatClampNeg k_next) p1) (upd k_keys (Int32.toNatClampNeg k_next) p2) (upd k_depths (Int32.toNatClampNeg k_next) p3) (upd k_weights (Int32.toNatClampNeg k_next) p4) (upd k_hearers (Int32.toNatClampNeg k_next) p5) k_size ((k_next + 1) - (k_next + 1) / 40 * 40))) hS => ?_)
  refine lv_aload_n hx hb dX4_add_65 rfl (lv_at hl 0 rfl) ?_
  refine lv_aload_n hx hb dX4_add_66 rfl (lv_at hl 0 rfl) ?_
  refine gf_X4 (v := .int k_size) C hE hP 0 5 rfl (by decide) qF_X4_33 rfl dX4_add_67 ?_
  refine lv_iconst (v := 1) hx hb dX4_add_70 (by decide) ?_
  refine lv_iadd hx hb dX4_add_71 ?_
  refine lv_bipush (v := 40) hx hb dX4_add_72 (by decide) ?_
  refine va_mmin hx hb (hml.trans hl.1.symm) hown (ht _ qM_X4_40) (ht _ qS_J9_min_7cf53) (ht _ qI_J9) (ht _ qD_J9_min_7cf53) (Nat.le_of_ble_eq_true rfl) (Nat.le_of_ble_eq_true rfl) (Nat.zero_le _) (Nat.zero_le _) dX4_add_74 ?_
  refine pf_X4 (v := .int (if 40 < (k_size + 1) then 40 else (k_size + 1))) C hE hP hD hS 0 5 rfl (by decide) qF_X4_33 rfl rfl rfl (Nat.le_of_ble_eq_true rfl) dX4_add_77 (fun H locs (hP : va_P D vwCl (MX4 cI cZ cL cW a0 a1 a2 a3 a4 a5 (upd k_kinds (Int32.toNatClampNeg k_next) p1) (upd k_keys (Int32.toNatClampNeg k_next) p2) (upd k_depths (Int32.toNatClampNeg k_next) p3) (upd k_weights (Int32.toNatClampNeg k_next) p4) (upd k_hearers (Int32.toNatClampNeg k_next) p5) (if 40 < (k_size + 1) then 40 else (k_size + 1)) ((k_next + 1) - (k_next + 1) / 40 * 40)) H) (hD : va_D A (MX4 cI cZ cL cW a0 a1 a2 a3 a4 a5 (upd k_kinds (Int32.toNatClampNeg k_next) p1) (upd k_keys (Int32.toNatClampNeg k_next) p2) (upd k_depths (Int32.toNatClampNeg k_next) p3) (upd k_weights (Int32.toNatClampNeg k_next) p4) (upd k_hearers (Int32.toNatClampNeg k_next) p5) (if 40 < (k_size + 1) then 40 else (k_size + 1)) ((k_next + 1) - (k_next + 1) / 40 * 40))) hS => ?_)
  cases hf
  exact rw_v C hr hlk hP hD hS dX4_add_80
def X4_latest (F : Nat) (p1 : Int32) (k_size : Int32) (k_next : Int32) : Option (Int32) := if (p1 : Int32) < 0 then (some (-1)) else (if (p1 : Int32) < k_size then (some (fmod ((k_next - 1) - p1) 40)) else (some (-1)))
abbrev rm_X4_latest : Room := { frames := 1, cells := 0, slots := 0, locals := 48 }
theorem ok_X4_latest : OKV RX4 yX4_latest cX4_latest 2 (some .int) 1 := ⟨by decide +kernel, qV_X4_latest, qL_X4_latest, qI_X4, qD_X4_latest⟩
set_option maxHeartbeats 4000000 in
set_option maxRecDepth 100000 in
theorem c_X4_latest (l : Launch) (D : va_G) (cI cZ cL cW : ClassId) (F : Nat) (a0 : Nat) (a1 : Nat) (a2 : Nat) (a3 : Nat) (a4 : Nat) (a5 : Nat) (k_kinds : (Nat → Int32)) (k_keys : (Nat → Int32)) (k_depths : (Nat → Int32)) (k_weights : (Nat → Int32)) (k_hearers : (Nat → Int32)) (k_size : Int32) (k_next : Int32) (p1 : Int32) (r : Int32) (hf : X4_latest F p1 k_size k_next = some r) : CtrR l D (tyL cI cZ cL cW) nestW yX4_latest cX4_latest 2 (some .int) rm_X4_latest [.ref a0, .int p1] (MX4 cI cZ cL cW a0 a1 a2 a3 a4 a5 k_kinds k_keys k_depths k_weights k_hearers k_size k_next) (some (.int r)) := by
  refine ofR RX4 (by decide) rfl (Nat.le_of_ble_eq_true rfl) ?_
  intro p e s m below meth c ls C hr hlk hE hP hl
  generalize (List.toArray ([.ref a0, .int p1] : List Value)) = args at C ⊢
  obtain ⟨hx, hb, hml, hown, ht⟩ := id C
  have hl : lv_has ls 2 [(0, .ref a0), (1, .int p1)] := hl
  refine lv_iload_n hx hb dX4_latest_0 rfl (lv_at hl 1 rfl) ?_
  refine lv_if_lt (tgt := 12) hx hb dX4_latest_1 (by decide) (fun c2 => ?_) (fun c2 => ?_)
  · have hf := it_p hf c2
    refine lv_iconst (v := (-1)) hx hb dX4_latest_12 (by decide) ?_
    exact rt_i C hr hlk dX4_latest_13 (congrArg (fun o => o.map Value.int) hf)
  · have hf := it_n hf c2
    refine lv_iload_n hx hb dX4_latest_4 rfl (lv_at hl 1 rfl) ?_
    refine lv_aload_n hx hb dX4_latest_5 rfl (lv_at hl 0 rfl) ?_
    refine gf_X4 (v := .int k_size) C hE hP 0 5 rfl (by decide) qF_X4_33 rfl dX4_latest_6 ?_
    refine lv_icmp_lt (tgt := 14) hx hb dX4_latest_9 (by decide) (fun c1 => ?_) (fun c1 => ?_)
    · have hf := it_p hf c1
      refine lv_aload_n hx hb dX4_latest_14 rfl (lv_at hl 0 rfl) ?_
      refine gf_X4 (v := .int k_next) C hE hP 0 6 rfl (by decide) qF_X4_37 rfl dX4_latest_15 ?_
      refine lv_iconst (v := 1) hx hb dX4_latest_18 (by decide) ?_
      refine lv_isub hx hb dX4_latest_19 ?_
      refine lv_iload_n hx hb dX4_latest_20 rfl (lv_at hl 1 rfl) ?_
      refine lv_isub hx hb dX4_latest_21 ?_
      refine lv_bipush (v := 40) hx hb dX4_latest_22 (by decide) ?_
      refine va_fmod hx hb (hml.trans hl.1.symm) hown (ht _ qM_X4_46) (ht _ qS_J9_floorMod_7cf53) (ht _ qI_J9) (ht _ qD_J9_floorMod_7cf53) (Nat.le_of_ble_eq_true rfl) (Nat.le_of_ble_eq_true rfl) (Nat.zero_le _) (Nat.zero_le _) (by decide) dX4_latest_24 ?_
      exact rt_i C hr hlk dX4_latest_27 (congrArg (fun o => o.map Value.int) hf)
    · have hf := it_n hf c1
      refine lv_iconst (v := (-1)) hx hb dX4_latest_12 (by decide) ?_
      exact rt_i C hr hlk dX4_latest_13 (congrArg (fun o => o.map Value.int) hf)
def X4_howMany_L4 (F : Nat) : Nat → Int32 → Int32 → Int32 → (Nat → Int32) → Int32 → Option (Int32)
  | 0, _, _, _, _, _ => none
  | n + 1, v1, v2, v3, k_kinds, k_size => if (k_size : Int32) ≤ v3 then (some v2) else (if (v3 : Int32) < 0 ∨ 40 ≤ (Int32.toNatClampNeg v3) then none else (if ((k_kinds (Int32.toNatClampNeg v3)) : Int32) = v1 then (X4_howMany_L4 F n v1 (v2 + 1) (v3 + 1) k_kinds k_size) else (X4_howMany_L4 F n v1 v2 (v3 + 1) k_kinds k_size)))
def X4_howMany (F : Nat) (p1 : Int32) (k_kinds : (Nat → Int32)) (k_size : Int32) : Option (Int32) := (X4_howMany_L4 F F p1 0 0 k_kinds k_size).bind fun x4 => (some x4)
abbrev rm_X4_howMany : Room := { frames := 0, cells := 0, slots := 0, locals := 0 }
theorem ok_X4_howMany : OKV RX4 yX4_howMany cX4_howMany 4 (some .int) 1 := ⟨by decide +kernel, qV_X4_howMany, qL_X4_howMany, qI_X4, qD_X4_howMany⟩
set_option maxHeartbeats 4000000 in
set_option maxRecDepth 100000 in
theorem c_X4_howMany (l : Launch) (D : va_G) (cI cZ cL cW : ClassId) (F : Nat) (a0 : Nat) (a1 : Nat) (a2 : Nat) (a3 : Nat) (a4 : Nat) (a5 : Nat) (k_kinds : (Nat → Int32)) (k_keys : (Nat → Int32)) (k_depths : (Nat → Int32)) (k_weights : (Nat → Int32)) (k_hearers : (Nat → Int32)) (k_size : Int32) (k_next : Int32) (p1 : Int32) (r : Int32) (hf : X4_howMany F p1 k_kinds k_size = some r) : CtrR l D (tyL cI cZ cL cW) nestW yX4_howMany cX4_howMany 4 (some .int) rm_X4_howMany [.ref a0, .int p1] (MX4 cI cZ cL cW a0 a1 a2 a3 a4 a5 k_kinds k_keys k_depths k_weights k_hearers k_size k_next) (some (.int r)) := by
  refine ofR RX4 (by decide) rfl (Nat.le_of_ble_eq_true rfl) ?_
  intro p e s m below meth c ls C hr hlk hE hP hl
  generalize (List.toArray ([.ref a0, .int p1] : List Value)) = args at C ⊢
  obtain ⟨hx, hb, hml, hown, ht⟩ := id C
  have hl : lv_has ls 4 [(0, .ref a0), (1, .int p1)] := hl
  have L4 : ∀ (Q : State → Prop) (n : Nat) (v1 : Int32) (v2 : Int32) (v3 : Int32) (x2 : Int32) (ls : Array Slot), X4_howMany_L4 F n v1 v2 v3 k_kinds k_size = some x2 → lv_has ls 4 [(0, .ref a0), (1, .int v1), (2, .int v2), (3, .int v3)] → (∀ ls : Array Slot, lv_has ls 4 [(2, .int x2)] → W p l e rm_X4_howMany s m args below meth c s.heap [] 0 0 Q (F0 m 31 ls [])) → W p l e rm_X4_howMany s m args below meth c s.heap [] 0 0 Q (F0 m 4 ls []) := by
    intro Q n
    induction n with
    | zero => intro v1 v2 v3 x2 ls hf hl hk; exact nn_s hf
    | succ n ih =>
      intro v1 v2 v3 x2 ls hf hl hk
      refine lv_iload_n hx hb dX4_howMany_4 rfl (lv_at hl 3 rfl) ?_
      refine lv_aload_n hx hb dX4_howMany_5 rfl (lv_at hl 0 rfl) ?_
      refine gf_X4 (v := .int k_size) C hE hP 0 5 rfl (by decide) qF_X4_33 rfl dX4_howMany_6 ?_
      refine lv_icmp_ge (tgt := 31) hx hb dX4_howMany_9 (by decide) (fun c3 => ?_) (fun c3 => ?_)
      · have hf := it_p hf c3
        cases hf
        exact hk ls (lv_sub hl [2] rfl)
      · have hf := it_n hf c3
        refine lv_aload_n hx hb dX4_howMany_12 rfl (lv_at hl 0 rfl) ?_
        refine gf_X4 (v := .ref a1) C hE hP 0 0 rfl (by decide) qF_X4_9 rfl dX4_howMany_13 ?_
        refine lv_iload_n hx hb dX4_howMany_16 rfl (lv_at hl 3 rfl) ?_
        obtain ⟨g2, hf⟩ := it_g hf
        refine va_iald hx hb hE.1 hP 1 0 rfl rfl g2 dX4_howMany_17 ?_
        refine lv_iload_n hx hb dX4_howMany_18 rfl (lv_at hl 1 rfl) ?_
        refine lv_icmp_ne (tgt := 25) hx hb dX4_howMany_19 (by decide) (fun c1 => ?_) (fun c1 => ?_)
        · have hf := it_n hf c1
          refine lv_iinc (v := (v3 + 1)) (lv' := [(3, .int (v3 + 1)), (0, .ref a0), (1, .int v1), (2, .int v2)]) hx hb dX4_howMany_25 hl (k := 3) rfl rfl (by decide) rfl (fun ls hl => ?_)
          refine lv_goto (tgt := 4) hx hb dX4_howMany_28 (by decide) ?_
          exact ih v1 v2 (v3 + 1) _ ls hf (lv_sub hl [1, 2, 3, 0] rfl) hk
        · have hf := it_p hf c1
          refine lv_iinc (v := (v2 + 1)) (lv' := [(2, .int (v2 + 1)), (0, .ref a0), (1, .int v1), (3, .int v3)]) hx hb dX4_howMany_22 hl (k := 2) rfl rfl (by decide) rfl (fun ls hl => ?_)
          refine lv_iinc (v := (v3 + 1)) (lv' := [(3, .int (v3 + 1)), (2, .int (v2 + 1)), (0, .ref a0), (1, .int v1)]) hx hb dX4_howMany_25 hl (k := 3) rfl rfl (by decide) rfl (fun ls hl => ?_)
          refine lv_goto (tgt := 4) hx hb dX4_howMany_28 (by decide) ?_
          exact ih v1 (v2 + 1) (v3 + 1) _ ls hf (lv_sub hl [2, 3, 1, 0] rfl) hk
  refine lv_iconst (v := 0) hx hb dX4_howMany_0 (by decide) ?_
  refine lv_istore_n (lv' := [(2, .int 0), (0, .ref a0), (1, .int p1)]) hx hb dX4_howMany_1 rfl hl (by decide) rfl (fun ls hl => ?_)
  refine lv_iconst (v := 0) hx hb dX4_howMany_2 (by decide) ?_
  refine lv_istore_n (lv' := [(3, .int 0), (2, .int 0), (0, .ref a0), (1, .int p1)]) hx hb dX4_howMany_3 rfl hl (by decide) rfl (fun ls hl => ?_)
  obtain ⟨x4, h5, hf⟩ := bd_s hf
  refine L4 _ F p1 0 0 x4 ls h5 (lv_sub hl [2, 3, 1, 0] rfl) (fun ls hl => ?_)
  refine lv_iload_n hx hb dX4_howMany_31 rfl (lv_at hl 0 rfl) ?_
  exact rt_i C hr hlk dX4_howMany_32 (congrArg (fun o => o.map Value.int) hf)
def X4_deepest_L4 (F : Nat) : Nat → Int32 → Int32 → Int32 → (Nat → Int32) → (Nat → Int32) → Int32 → Option (Int32)
  | 0, _, _, _, _, _, _ => none
  | n + 1, v1, v2, v3, k_kinds, k_depths, k_size => if (k_size : Int32) ≤ v3 then (some v2) else (if (v3 : Int32) < 0 ∨ 40 ≤ (Int32.toNatClampNeg v3) then none else (if ((k_kinds (Int32.toNatClampNeg v3)) : Int32) = v1 then (if (v3 : Int32) < 0 ∨ 40 ≤ (Int32.toNatClampNeg v3) then none else (X4_deepest_L4 F n v1 (if v2 < (k_depths (Int32.toNatClampNeg v3)) then (k_depths (Int32.toNatClampNeg v3)) else v2) (v3 + 1) k_kinds k_depths k_size)) else (X4_deepest_L4 F n v1 v2 (v3 + 1) k_kinds k_depths k_size)))
def X4_deepest (F : Nat) (p1 : Int32) (k_kinds : (Nat → Int32)) (k_depths : (Nat → Int32)) (k_size : Int32) : Option (Int32) := (X4_deepest_L4 F F p1 (-1) 0 k_kinds k_depths k_size).bind fun x5 => (some x5)
abbrev rm_X4_deepest : Room := { frames := 1, cells := 0, slots := 0, locals := 48 }
theorem ok_X4_deepest : OKV RX4 yX4_deepest cX4_deepest 4 (some .int) 1 := ⟨by decide +kernel, qV_X4_deepest, qL_X4_deepest, qI_X4, qD_X4_deepest⟩
set_option maxHeartbeats 4000000 in
set_option maxRecDepth 100000 in
theorem c_X4_deepest (l : Launch) (D : va_G) (cI cZ cL cW : ClassId) (F : Nat) (a0 : Nat) (a1 : Nat) (a2 : Nat) (a3 : Nat) (a4 : Nat) (a5 : Nat) (k_kinds : (Nat → Int32)) (k_keys : (Nat → Int32)) (k_depths : (Nat → Int32)) (k_weights : (Nat → Int32)) (k_hearers : (Nat → Int32)) (k_size : Int32) (k_next : Int32) (p1 : Int32) (r : Int32) (hf : X4_deepest F p1 k_kinds k_depths k_size = some r) : CtrR l D (tyL cI cZ cL cW) nestW yX4_deepest cX4_deepest 4 (some .int) rm_X4_deepest [.ref a0, .int p1] (MX4 cI cZ cL cW a0 a1 a2 a3 a4 a5 k_kinds k_keys k_depths k_weights k_hearers k_size k_next) (some (.int r)) := by
  refine ofR RX4 (by decide) rfl (Nat.le_of_ble_eq_true rfl) ?_
  intro p e s m below meth c ls C hr hlk hE hP hl
  generalize (List.toArray ([.ref a0, .int p1] : List Value)) = args at C ⊢
  obtain ⟨hx, hb, hml, hown, ht⟩ := id C
  have hl : lv_has ls 4 [(0, .ref a0), (1, .int p1)] := hl
  have L4 : ∀ (Q : State → Prop) (n : Nat) (v1 : Int32) (v2 : Int32) (v3 : Int32) (x2 : Int32) (ls : Array Slot), X4_deepest_L4 F n v1 v2 v3 k_kinds k_depths k_size = some x2 → lv_has ls 4 [(0, .ref a0), (1, .int v1), (2, .int v2), (3, .int v3)] → (∀ ls : Array Slot, lv_has ls 4 [(2, .int x2)] → W p l e rm_X4_deepest s m args below meth c s.heap [] 0 0 Q (F0 m 39 ls [])) → W p l e rm_X4_deepest s m args below meth c s.heap [] 0 0 Q (F0 m 4 ls []) := by
    intro Q n
    induction n with
    | zero => intro v1 v2 v3 x2 ls hf hl hk; exact nn_s hf
    | succ n ih =>
      intro v1 v2 v3 x2 ls hf hl hk
      refine lv_iload_n hx hb dX4_deepest_4 rfl (lv_at hl 3 rfl) ?_
      refine lv_aload_n hx hb dX4_deepest_5 rfl (lv_at hl 0 rfl) ?_
      refine gf_X4 (v := .int k_size) C hE hP 0 5 rfl (by decide) qF_X4_33 rfl dX4_deepest_6 ?_
      refine lv_icmp_ge (tgt := 39) hx hb dX4_deepest_9 (by decide) (fun c4 => ?_) (fun c4 => ?_)
      · have hf := it_p hf c4
        cases hf
        exact hk ls (lv_sub hl [2] rfl)
      · have hf := it_n hf c4
        refine lv_aload_n hx hb dX4_deepest_12 rfl (lv_at hl 0 rfl) ?_
        refine gf_X4 (v := .ref a1) C hE hP 0 0 rfl (by decide) qF_X4_9 rfl dX4_deepest_13 ?_
        refine lv_iload_n hx hb dX4_deepest_16 rfl (lv_at hl 3 rfl) ?_
        obtain ⟨g3, hf⟩ := it_g hf
        refine va_iald hx hb hE.1 hP 1 0 rfl rfl g3 dX4_deepest_17 ?_
        refine lv_iload_n hx hb dX4_deepest_18 rfl (lv_at hl 1 rfl) ?_
        refine lv_icmp_ne (tgt := 33) hx hb dX4_deepest_19 (by decide) (fun c2 => ?_) (fun c2 => ?_)
        · have hf := it_n hf c2
          refine lv_iinc (v := (v3 + 1)) (lv' := [(3, .int (v3 + 1)), (0, .ref a0), (1, .int v1), (2, .int v2)]) hx hb dX4_deepest_33 hl (k := 3) rfl rfl (by decide) rfl (fun ls hl => ?_)
          refine lv_goto (tgt := 4) hx hb dX4_deepest_36 (by decide) ?_
          exact ih v1 v2 (v3 + 1) _ ls hf (lv_sub hl [1, 2, 3, 0] rfl) hk
        · have hf := it_p hf c2
          refine lv_iload_n hx hb dX4_deepest_22 rfl (lv_at hl 2 rfl) ?_
          refine lv_aload_n hx hb dX4_deepest_23 rfl (lv_at hl 0 rfl) ?_
          refine gf_X4 (v := .ref a3) C hE hP 0 2 rfl (by decide) qF_X4_18 rfl dX4_deepest_24 ?_
          refine lv_iload_n hx hb dX4_deepest_27 rfl (lv_at hl 3 rfl) ?_
          obtain ⟨g1, hf⟩ := it_g hf
          refine va_iald hx hb hE.1 hP 3 0 rfl rfl g1 dX4_deepest_28 ?_
          refine va_mmax hx hb (hml.trans hl.1.symm) hown (ht _ qM_X4_49) (ht _ qS_J9_max_7cf53) (ht _ qI_J9) (ht _ qD_J9_max_7cf53) (Nat.le_of_ble_eq_true rfl) (Nat.le_of_ble_eq_true rfl) (Nat.zero_le _) (Nat.zero_le _) dX4_deepest_29 ?_
          refine lv_istore_n (lv' := [(2, .int (if v2 < (k_depths (Int32.toNatClampNeg v3)) then (k_depths (Int32.toNatClampNeg v3)) else v2)), (0, .ref a0), (1, .int v1), (3, .int v3)]) hx hb dX4_deepest_32 rfl hl (by decide) rfl (fun ls hl => ?_)
          refine lv_iinc (v := (v3 + 1)) (lv' := [(3, .int (v3 + 1)), (2, .int (if v2 < (k_depths (Int32.toNatClampNeg v3)) then (k_depths (Int32.toNatClampNeg v3)) else v2)), (0, .ref a0), (1, .int v1)]) hx hb dX4_deepest_33 hl (k := 3) rfl rfl (by decide) rfl (fun ls hl => ?_)
          refine lv_goto (tgt := 4) hx hb dX4_deepest_36 (by decide) ?_
          exact ih v1 (if v2 < (k_depths (Int32.toNatClampNeg v3)) then (k_depths (Int32.toNatClampNeg v3)) else v2) (v3 + 1) _ ls hf (lv_sub hl [2, 3, 1, 0] rfl) hk
  refine lv_iconst (v := (-1)) hx hb dX4_deepest_0 (by decide) ?_
  refine lv_istore_n (lv' := [(2, .int (-1)), (0, .ref a0), (1, .int p1)]) hx hb dX4_deepest_1 rfl hl (by decide) rfl (fun ls hl => ?_)
  refine lv_iconst (v := 0) hx hb dX4_deepest_2 (by decide) ?_
  refine lv_istore_n (lv' := [(3, .int 0), (2, .int (-1)), (0, .ref a0), (1, .int p1)]) hx hb dX4_deepest_3 rfl hl (by decide) rfl (fun ls hl => ?_)
  obtain ⟨x5, h6, hf⟩ := bd_s hf
  refine L4 _ F p1 (-1) 0 x5 ls h6 (lv_sub hl [2, 3, 1, 0] rfl) (fun ls hl => ?_)
  refine lv_iload_n hx hb dX4_deepest_39 rfl (lv_at hl 0 rfl) ?_
  exact rt_i C hr hlk dX4_deepest_40 (congrArg (fun o => o.map Value.int) hf)
def X4_unheard_L4 (F : Nat) : Nat → Int32 → Int32 → Int32 → (Nat → Int32) → (Nat → Int32) → Int32 → Option (Int32)
  | 0, _, _, _, _, _, _ => none
  | n + 1, v1, v2, v3, k_kinds, k_hearers, k_size => if (k_size : Int32) ≤ v3 then (some v2) else (if (v3 : Int32) < 0 ∨ 40 ≤ (Int32.toNatClampNeg v3) then none else (if ((k_kinds (Int32.toNatClampNeg v3)) : Int32) = v1 then (if (v3 : Int32) < 0 ∨ 40 ≤ (Int32.toNatClampNeg v3) then none else (if ((k_hearers (Int32.toNatClampNeg v3)) : Int32) = 0 then (X4_unheard_L4 F n v1 (v2 + 1) (v3 + 1) k_kinds k_hearers k_size) else (X4_unheard_L4 F n v1 v2 (v3 + 1) k_kinds k_hearers k_size))) else (X4_unheard_L4 F n v1 v2 (v3 + 1) k_kinds k_hearers k_size)))
def X4_unheard (F : Nat) (p1 : Int32) (k_kinds : (Nat → Int32)) (k_hearers : (Nat → Int32)) (k_size : Int32) : Option (Int32) := (X4_unheard_L4 F F p1 0 0 k_kinds k_hearers k_size).bind fun x6 => (some x6)
abbrev rm_X4_unheard : Room := { frames := 0, cells := 0, slots := 0, locals := 0 }
theorem ok_X4_unheard : OKV RX4 yX4_unheard cX4_unheard 4 (some .int) 1 := ⟨by decide +kernel, qV_X4_unheard, qL_X4_unheard, qI_X4, qD_X4_unheard⟩
set_option maxHeartbeats 4000000 in
set_option maxRecDepth 100000 in
theorem c_X4_unheard (l : Launch) (D : va_G) (cI cZ cL cW : ClassId) (F : Nat) (a0 : Nat) (a1 : Nat) (a2 : Nat) (a3 : Nat) (a4 : Nat) (a5 : Nat) (k_kinds : (Nat → Int32)) (k_keys : (Nat → Int32)) (k_depths : (Nat → Int32)) (k_weights : (Nat → Int32)) (k_hearers : (Nat → Int32)) (k_size : Int32) (k_next : Int32) (p1 : Int32) (r : Int32) (hf : X4_unheard F p1 k_kinds k_hearers k_size = some r) : CtrR l D (tyL cI cZ cL cW) nestW yX4_unheard cX4_unheard 4 (some .int) rm_X4_unheard [.ref a0, .int p1] (MX4 cI cZ cL cW a0 a1 a2 a3 a4 a5 k_kinds k_keys k_depths k_weights k_hearers k_size k_next) (some (.int r)) := by
  refine ofR RX4 (by decide) rfl (Nat.le_of_ble_eq_true rfl) ?_
  intro p e s m below meth c ls C hr hlk hE hP hl
  generalize (List.toArray ([.ref a0, .int p1] : List Value)) = args at C ⊢
  obtain ⟨hx, hb, hml, hown, ht⟩ := id C
  have hl : lv_has ls 4 [(0, .ref a0), (1, .int p1)] := hl
  have L4 : ∀ (Q : State → Prop) (n : Nat) (v1 : Int32) (v2 : Int32) (v3 : Int32) (x2 : Int32) (ls : Array Slot), X4_unheard_L4 F n v1 v2 v3 k_kinds k_hearers k_size = some x2 → lv_has ls 4 [(0, .ref a0), (1, .int v1), (2, .int v2), (3, .int v3)] → (∀ ls : Array Slot, lv_has ls 4 [(2, .int x2)] → W p l e rm_X4_unheard s m args below meth c s.heap [] 0 0 Q (F0 m 40 ls [])) → W p l e rm_X4_unheard s m args below meth c s.heap [] 0 0 Q (F0 m 4 ls []) := by
    intro Q n
    induction n with
    | zero => intro v1 v2 v3 x2 ls hf hl hk; exact nn_s hf
    | succ n ih =>
      intro v1 v2 v3 x2 ls hf hl hk
      refine lv_iload_n hx hb dX4_unheard_4 rfl (lv_at hl 3 rfl) ?_
      refine lv_aload_n hx hb dX4_unheard_5 rfl (lv_at hl 0 rfl) ?_
      refine gf_X4 (v := .int k_size) C hE hP 0 5 rfl (by decide) qF_X4_33 rfl dX4_unheard_6 ?_
      refine lv_icmp_ge (tgt := 40) hx hb dX4_unheard_9 (by decide) (fun c5 => ?_) (fun c5 => ?_)
      · have hf := it_p hf c5
        cases hf
        exact hk ls (lv_sub hl [2] rfl)
      · have hf := it_n hf c5
        refine lv_aload_n hx hb dX4_unheard_12 rfl (lv_at hl 0 rfl) ?_
        refine gf_X4 (v := .ref a1) C hE hP 0 0 rfl (by decide) qF_X4_9 rfl dX4_unheard_13 ?_
        refine lv_iload_n hx hb dX4_unheard_16 rfl (lv_at hl 3 rfl) ?_
        obtain ⟨g4, hf⟩ := it_g hf
        refine va_iald hx hb hE.1 hP 1 0 rfl rfl g4 dX4_unheard_17 ?_
        refine lv_iload_n hx hb dX4_unheard_18 rfl (lv_at hl 1 rfl) ?_
        refine lv_icmp_ne (tgt := 34) hx hb dX4_unheard_19 (by decide) (fun c3 => ?_) (fun c3 => ?_)
        · have hf := it_n hf c3
          refine lv_iinc (v := (v3 + 1)) (lv' := [(3, .int (v3 + 1)), (0, .ref a0), (1, .int v1), (2, .int v2)]) hx hb dX4_unheard_34 hl (k := 3) rfl rfl (by decide) rfl (fun ls hl => ?_)
          refine lv_goto (tgt := 4) hx hb dX4_unheard_37 (by decide) ?_
          exact ih v1 v2 (v3 + 1) _ ls hf (lv_sub hl [1, 2, 3, 0] rfl) hk
        · have hf := it_p hf c3
          refine lv_aload_n hx hb dX4_unheard_22 rfl (lv_at hl 0 rfl) ?_
          refine gf_X4 (v := .ref a5) C hE hP 0 4 rfl (by decide) qF_X4_24 rfl dX4_unheard_23 ?_
          refine lv_iload_n hx hb dX4_unheard_26 rfl (lv_at hl 3 rfl) ?_
          obtain ⟨g2, hf⟩ := it_g hf
          refine va_iald hx hb hE.1 hP 5 0 rfl rfl g2 dX4_unheard_27 ?_
          refine lv_if_ne (tgt := 34) hx hb dX4_unheard_28 (by decide) (fun c1 => ?_) (fun c1 => ?_)
          · have hf := it_n hf c1
            refine lv_iinc (v := (v3 + 1)) (lv' := [(3, .int (v3 + 1)), (0, .ref a0), (1, .int v1), (2, .int v2)]) hx hb dX4_unheard_34 hl (k := 3) rfl rfl (by decide) rfl (fun ls hl => ?_)
            refine lv_goto (tgt := 4) hx hb dX4_unheard_37 (by decide) ?_
            exact ih v1 v2 (v3 + 1) _ ls hf (lv_sub hl [1, 2, 3, 0] rfl) hk
          · have hf := it_p hf c1
            refine lv_iinc (v := (v2 + 1)) (lv' := [(2, .int (v2 + 1)), (0, .ref a0), (1, .int v1), (3, .int v3)]) hx hb dX4_unheard_31 hl (k := 2) rfl rfl (by decide) rfl (fun ls hl => ?_)
            refine lv_iinc (v := (v3 + 1)) (lv' := [(3, .int (v3 + 1)), (2, .int (v2 + 1)), (0, .ref a0), (1, .int v1)]) hx hb dX4_unheard_34 hl (k := 3) rfl rfl (by decide) rfl (fun ls hl => ?_)
            refine lv_goto (tgt := 4) hx hb dX4_unheard_37 (by decide) ?_
            exact ih v1 (v2 + 1) (v3 + 1) _ ls hf (lv_sub hl [2, 3, 1, 0] rfl) hk
  refine lv_iconst (v := 0) hx hb dX4_unheard_0 (by decide) ?_
  refine lv_istore_n (lv' := [(2, .int 0), (0, .ref a0), (1, .int p1)]) hx hb dX4_unheard_1 rfl hl (by decide) rfl (fun ls hl => ?_)
  refine lv_iconst (v := 0) hx hb dX4_unheard_2 (by decide) ?_
  refine lv_istore_n (lv' := [(3, .int 0), (2, .int 0), (0, .ref a0), (1, .int p1)]) hx hb dX4_unheard_3 rfl hl (by decide) rfl (fun ls hl => ?_)
  obtain ⟨x6, h7, hf⟩ := bd_s hf
  refine L4 _ F p1 0 0 x6 ls h7 (lv_sub hl [2, 3, 1, 0] rfl) (fun ls hl => ?_)
  refine lv_iload_n hx hb dX4_unheard_40 rfl (lv_at hl 0 rfl) ?_
  exact rt_i C hr hlk dX4_unheard_41 (congrArg (fun o => o.map Value.int) hf)
def X5_copyFrom (F : Nat) (k_keys : (Nat → Int32)) (k_size : Int32) (k_o1_keys : (Nat → Int32)) (k_o1_size : Int32) : Option ((Nat → Int32) × Int32) := some ((va_cpy k_o1_keys k_keys (Int32.toNatClampNeg 0) (Int32.toNatClampNeg 0) (Int32.toNatClampNeg 100)), k_o1_size)
abbrev rm_X5_copyFrom : Room := { frames := 1, cells := 0, slots := 0, locals := 48 }
theorem ok_X5_copyFrom : OKV RX5 yX5_copyFrom cX5_copyFrom 2 none 1 := ⟨by decide +kernel, qV_X5_copyFrom, qL_X5_copyFrom, qI_X5, qD_X5_copyFrom⟩
set_option maxHeartbeats 4000000 in
set_option maxRecDepth 100000 in
theorem c_X5_copyFrom (l : Launch) (D : va_G) (cI cZ cL cW : ClassId) (F : Nat) (a0 : Nat) (a1 : Nat) (a2 : Nat) (a3 : Nat) (k_keys : (Nat → Int32)) (k_size : Int32) (k_o1_keys : (Nat → Int32)) (k_o1_size : Int32) (k_keys' : (Nat → Int32)) (k_size' : Int32) (hf : X5_copyFrom F k_keys k_size k_o1_keys k_o1_size = some (k_keys', k_size')) : CtrW l D (tyL cI cZ cL cW) nestW yX5_copyFrom cX5_copyFrom 2 none rm_X5_copyFrom [.ref a0, .ref a2] (MX5 cI cZ cL cW a0 a1 k_keys k_size ++ MX5 cI cZ cL cW a2 a3 k_o1_keys k_o1_size) (MX5 cI cZ cL cW a0 a1 (k_keys') (k_size') ++ MX5 cI cZ cL cW a2 a3 k_o1_keys k_o1_size) none := by
  refine ofA RX5 (by decide) rfl (Nat.le_of_ble_eq_true rfl) ?_
  intro p e s m below meth c ls A C hr hlk hE hA hP hD hS hl
  generalize (List.toArray ([.ref a0, .ref a2] : List Value)) = args at C ⊢
  obtain ⟨hx, hb, hml, hown, ht⟩ := id C
  have hl : lv_has ls 2 [(0, .ref a0), (1, .ref a2)] := hl
  refine lv_aload_n hx hb dX5_copyFrom_0 rfl (lv_at hl 1 rfl) ?_
  refine gf_X5 (v := .ref a3) C hE hP 2 0 rfl (by decide) qF_X5_9 rfl dX5_copyFrom_1 ?_
  refine lv_iconst (v := 0) hx hb dX5_copyFrom_4 (by decide) ?_
  refine lv_aload_n hx hb dX5_copyFrom_5 rfl (lv_at hl 0 rfl) ?_
  refine gf_X5 (v := .ref a1) C hE hP 0 0 rfl (by decide) qF_X5_9 rfl dX5_copyFrom_6 ?_
  refine lv_iconst (v := 0) hx hb dX5_copyFrom_9 (by decide) ?_
  refine lv_bipush (v := 100) hx hb dX5_copyFrom_10 (by decide) ?_
  refine va_copyi hx hb (hml.trans hl.1.symm) hown (ht _ qM_X5_15) (ht _ qX_arraycopy) (ht _ qS_arraycopy) (ht _ qI_J10) hE.1 hP hD hS 3 1 0 0 rfl rfl rfl rfl rfl (by decide) (by decide) (by decide) (by decide) (by decide) (fun _ _ => rfl) (Nat.le_of_ble_eq_true rfl) (by decide) dX5_copyFrom_12 (fun H locs (hP : va_P D vwCl (MX5 cI cZ cL cW a0 a1 (va_cpy k_o1_keys k_keys (Int32.toNatClampNeg 0) (Int32.toNatClampNeg 0) (Int32.toNatClampNeg 100)) k_size ++ MX5 cI cZ cL cW a2 a3 k_o1_keys k_o1_size) H) (hD : va_D A (MX5 cI cZ cL cW a0 a1 (va_cpy k_o1_keys k_keys (Int32.toNatClampNeg 0) (Int32.toNatClampNeg 0) (Int32.toNatClampNeg 100)) k_size ++ MX5 cI cZ cL cW a2 a3 k_o1_keys k_o1_size)) hS => ?_)
  refine lv_aload_n hx hb dX5_copyFrom_15 rfl (lv_at hl 0 rfl) ?_
  refine lv_aload_n hx hb dX5_copyFrom_16 rfl (lv_at hl 1 rfl) ?_
  refine gf_X5 (v := .int k_o1_size) C hE hP 2 1 rfl (by decide) qF_X5_21 rfl dX5_copyFrom_17 ?_
  refine pf_X5 (v := .int k_o1_size) C hE hP hD hS 0 1 rfl (by decide) qF_X5_21 rfl rfl rfl (Nat.le_of_ble_eq_true rfl) dX5_copyFrom_20 (fun H locs (hP : va_P D vwCl (MX5 cI cZ cL cW a0 a1 (va_cpy k_o1_keys k_keys (Int32.toNatClampNeg 0) (Int32.toNatClampNeg 0) (Int32.toNatClampNeg 100)) k_o1_size ++ MX5 cI cZ cL cW a2 a3 k_o1_keys k_o1_size) H) (hD : va_D A (MX5 cI cZ cL cW a0 a1 (va_cpy k_o1_keys k_keys (Int32.toNatClampNeg 0) (Int32.toNatClampNeg 0) (Int32.toNatClampNeg 100)) k_o1_size ++ MX5 cI cZ cL cW a2 a3 k_o1_keys k_o1_size)) hS => ?_)
  cases hf
  exact rw_v C hr hlk hP hD hS dX5_copyFrom_23
def X5_add_L11 (F : Nat) : Nat → Int32 → Int32 → (Nat → Int32) → Option ((Nat → Int32))
  | 0, _, _, _ => none
  | n + 1, v1, v2, k_keys => if (100 : Int32) ≤ v2 then (some k_keys) else (if (v2 : Int32) < 0 ∨ 100 ≤ (Int32.toNatClampNeg v2) then none else (if ((v2 - 1) : Int32) < 0 ∨ 100 ≤ (Int32.toNatClampNeg (v2 - 1)) then none else (X5_add_L11 F n v1 (v2 + 1) (upd k_keys (Int32.toNatClampNeg (v2 - 1)) (k_keys (Int32.toNatClampNeg v2))))))
def X5_add (F : Nat) (p1 : Int32) (k_keys : (Nat → Int32)) (k_size : Int32) : Option ((Nat → Int32) × Int32) := if (k_size : Int32) < 100 then (if (k_size : Int32) < 0 ∨ 100 ≤ (Int32.toNatClampNeg k_size) then none else (some ((upd k_keys (Int32.toNatClampNeg k_size) p1), (k_size + 1)))) else ((X5_add_L11 F F p1 1 k_keys).bind fun k5 => (some ((upd k5 (Int32.toNatClampNeg 99) p1), (99 + 1))))
abbrev rm_X5_add : Room := { frames := 0, cells := 0, slots := 0, locals := 0 }
theorem ok_X5_add : OKV RX5 yX5_add cX5_add 3 none 1 := ⟨by decide +kernel, qV_X5_add, qL_X5_add, qI_X5, qD_X5_add⟩
set_option maxHeartbeats 4000000 in
set_option maxRecDepth 100000 in
theorem c_X5_add (l : Launch) (D : va_G) (cI cZ cL cW : ClassId) (F : Nat) (a0 : Nat) (a1 : Nat) (k_keys : (Nat → Int32)) (k_size : Int32) (p1 : Int32) (k_keys' : (Nat → Int32)) (k_size' : Int32) (hf : X5_add F p1 k_keys k_size = some (k_keys', k_size')) : CtrW l D (tyL cI cZ cL cW) nestW yX5_add cX5_add 3 none rm_X5_add [.ref a0, .int p1] (MX5 cI cZ cL cW a0 a1 k_keys k_size) (MX5 cI cZ cL cW a0 a1 (k_keys') (k_size')) none := by
  refine ofA RX5 (by decide) rfl (Nat.le_of_ble_eq_true rfl) ?_
  intro p e s m below meth c ls A C hr hlk hE hA hP hD hS hl
  generalize (List.toArray ([.ref a0, .int p1] : List Value)) = args at C ⊢
  obtain ⟨hx, hb, hml, hown, ht⟩ := id C
  have hl : lv_has ls 3 [(0, .ref a0), (1, .int p1)] := hl
  have L11 : ∀ (Q : State → Prop) (n : Nat) (v1 : Int32) (v2 : Int32) (k_keys : (Nat → Int32)) (k_size : Int32) (k_keys' : (Nat → Int32)) (H : Heap) (locs : List Loc) (ls : Array Slot), X5_add_L11 F n v1 v2 k_keys = some (k_keys') → va_P D vwCl (MX5 cI cZ cL cW a0 a1 k_keys k_size) H → va_D A (MX5 cI cZ cL cW a0 a1 k_keys k_size) → va_S A s.heap H locs → lv_has ls 3 [(0, .ref a0), (1, .int v1), (2, .int v2)] → (∀ (H : Heap) (locs : List Loc) (ls : Array Slot), va_P D vwCl (MX5 cI cZ cL cW a0 a1 (k_keys') k_size) H → va_D A (MX5 cI cZ cL cW a0 a1 (k_keys') k_size) → va_S A s.heap H locs → lv_has ls 3 [(0, .ref a0), (1, .int v1)] → W p l e rm_X5_add s m args below meth c H locs 0 0 Q (F0 m 37 ls [])) → W p l e rm_X5_add s m args below meth c H locs 0 0 Q (F0 m 11 ls []) := by
    intro Q n
    induction n with
    | zero => intro v1 v2 k_keys k_size k_keys' H locs ls hf hP hD hS hl hk; exact nn_s hf
    | succ n ih =>
      intro v1 v2 k_keys k_size k_keys' H locs ls hf hP hD hS hl hk
      refine lv_iload_n hx hb dX5_add_11 rfl (lv_at hl 2 rfl) ?_
      refine lv_bipush (v := 100) hx hb dX5_add_12 (by decide) ?_
      refine lv_icmp_ge (tgt := 37) hx hb dX5_add_14 (by decide) (fun c4 => ?_) (fun c4 => ?_)
      · have hf := it_p hf c4
        cases hf
        exact hk _ _ ls hP hD hS (lv_sub hl [0, 1] rfl)
      · have hf := it_n hf c4
        refine lv_aload_n hx hb dX5_add_17 rfl (lv_at hl 0 rfl) ?_
        refine gf_X5 (v := .ref a1) C hE hP 0 0 rfl (by decide) qF_X5_9 rfl dX5_add_18 ?_
        refine lv_iload_n hx hb dX5_add_21 rfl (lv_at hl 2 rfl) ?_
        refine lv_iconst (v := 1) hx hb dX5_add_22 (by decide) ?_
        refine lv_isub hx hb dX5_add_23 ?_
        refine lv_aload_n hx hb dX5_add_24 rfl (lv_at hl 0 rfl) ?_
        refine gf_X5 (v := .ref a1) C hE hP 0 0 rfl (by decide) qF_X5_9 rfl dX5_add_25 ?_
        refine lv_iload_n hx hb dX5_add_28 rfl (lv_at hl 2 rfl) ?_
        obtain ⟨g3, hf⟩ := it_g hf
        refine va_iald hx hb hE.1 hP 1 0 rfl rfl g3 dX5_add_29 ?_
        obtain ⟨g2, hf⟩ := it_g hf
        refine va_iast hx hb hE.1 hP hD hS 1 0 rfl rfl g2 dX5_add_30 (fun H locs (hP : va_P D vwCl (MX5 cI cZ cL cW a0 a1 (upd k_keys (Int32.toNatClampNeg (v2 - 1)) (k_keys (Int32.toNatClampNeg v2))) k_size) H) (hD : va_D A (MX5 cI cZ cL cW a0 a1 (upd k_keys (Int32.toNatClampNeg (v2 - 1)) (k_keys (Int32.toNatClampNeg v2))) k_size)) hS => ?_)
        refine lv_iinc (v := (v2 + 1)) (lv' := [(2, .int (v2 + 1)), (0, .ref a0), (1, .int v1)]) hx hb dX5_add_31 hl (k := 2) rfl rfl (by decide) rfl (fun ls hl => ?_)
        refine lv_goto (tgt := 11) hx hb dX5_add_34 (by decide) ?_
        exact ih v1 (v2 + 1) (upd k_keys (Int32.toNatClampNeg (v2 - 1)) (k_keys (Int32.toNatClampNeg v2))) k_size _ _ _ ls hf hP hD hS (lv_sub hl [1, 2, 0] rfl) hk
  refine lv_aload_n hx hb dX5_add_0 rfl (lv_at hl 0 rfl) ?_
  refine gf_X5 (v := .int k_size) C hE hP 0 1 rfl (by decide) qF_X5_21 rfl dX5_add_1 ?_
  refine lv_bipush (v := 100) hx hb dX5_add_4 (by decide) ?_
  refine lv_icmp_lt (tgt := 43) hx hb dX5_add_6 (by decide) (fun c7 => ?_) (fun c7 => ?_)
  · have hf := it_p hf c7
    refine lv_aload_n hx hb dX5_add_43 rfl (lv_at hl 0 rfl) ?_
    refine gf_X5 (v := .ref a1) C hE hP 0 0 rfl (by decide) qF_X5_9 rfl dX5_add_44 ?_
    refine lv_aload_n hx hb dX5_add_47 rfl (lv_at hl 0 rfl) ?_
    refine gf_X5 (v := .int k_size) C hE hP 0 1 rfl (by decide) qF_X5_21 rfl dX5_add_48 ?_
    refine lv_iload_n hx hb dX5_add_51 rfl (lv_at hl 1 rfl) ?_
    obtain ⟨g1, hf⟩ := it_g hf
    refine va_iast hx hb hE.1 hP hD hS 1 0 rfl rfl g1 dX5_add_52 (fun H locs (hP : va_P D vwCl (MX5 cI cZ cL cW a0 a1 (upd k_keys (Int32.toNatClampNeg k_size) p1) k_size) H) (hD : va_D A (MX5 cI cZ cL cW a0 a1 (upd k_keys (Int32.toNatClampNeg k_size) p1) k_size)) hS => ?_)
    refine lv_aload_n hx hb dX5_add_53 rfl (lv_at hl 0 rfl) ?_
    refine lv_dup hx hb dX5_add_54 rfl ?_
    refine gf_X5 (v := .int k_size) C hE hP 0 1 rfl (by decide) qF_X5_21 rfl dX5_add_55 ?_
    refine lv_iconst (v := 1) hx hb dX5_add_58 (by decide) ?_
    refine lv_iadd hx hb dX5_add_59 ?_
    refine pf_X5 (v := .int (k_size + 1)) C hE hP hD hS 0 1 rfl (by decide) qF_X5_21 rfl rfl rfl (Nat.le_of_ble_eq_true rfl) dX5_add_60 (fun H locs (hP : va_P D vwCl (MX5 cI cZ cL cW a0 a1 (upd k_keys (Int32.toNatClampNeg k_size) p1) (k_size + 1)) H) (hD : va_D A (MX5 cI cZ cL cW a0 a1 (upd k_keys (Int32.toNatClampNeg k_size) p1) (k_size + 1))) hS => ?_)
    cases hf
    exact rw_v C hr hlk hP hD hS dX5_add_63
  · have hf := it_n hf c7
    refine lv_iconst (v := 1) hx hb dX5_add_9 (by decide) ?_
    refine lv_istore_n (lv' := [(2, .int 1), (0, .ref a0), (1, .int p1)]) hx hb dX5_add_10 rfl hl (by decide) rfl (fun ls hl => ?_)
    obtain ⟨k5, h6, hf⟩ := bd_s hf
    refine L11 _ F p1 1 k_keys k_size k5 _ _ ls h6 hP hD hS (lv_sub hl [1, 2, 0] rfl) (fun H locs ls hP hD hS hl => ?_)
    refine lv_aload_n hx hb dX5_add_37 rfl (lv_at hl 0 rfl) ?_
    refine lv_bipush (v := 99) hx hb dX5_add_38 (by decide) ?_
    refine pf_X5 (v := .int 99) C hE hP hD hS 0 1 rfl (by decide) qF_X5_21 rfl rfl rfl (Nat.le_of_ble_eq_true rfl) dX5_add_40 (fun H locs (hP : va_P D vwCl (MX5 cI cZ cL cW a0 a1 k5 99) H) (hD : va_D A (MX5 cI cZ cL cW a0 a1 k5 99)) hS => ?_)
    refine lv_aload_n hx hb dX5_add_43 rfl (lv_at hl 0 rfl) ?_
    refine gf_X5 (v := .ref a1) C hE hP 0 0 rfl (by decide) qF_X5_9 rfl dX5_add_44 ?_
    refine lv_aload_n hx hb dX5_add_47 rfl (lv_at hl 0 rfl) ?_
    refine gf_X5 (v := .int 99) C hE hP 0 1 rfl (by decide) qF_X5_21 rfl dX5_add_48 ?_
    refine lv_iload_n hx hb dX5_add_51 rfl (lv_at hl 1 rfl) ?_
    refine va_iast hx hb hE.1 hP hD hS 1 0 rfl rfl (vp_l (by decide)) dX5_add_52 (fun H locs (hP : va_P D vwCl (MX5 cI cZ cL cW a0 a1 (upd k5 (Int32.toNatClampNeg 99) p1) 99) H) (hD : va_D A (MX5 cI cZ cL cW a0 a1 (upd k5 (Int32.toNatClampNeg 99) p1) 99)) hS => ?_)
    refine lv_aload_n hx hb dX5_add_53 rfl (lv_at hl 0 rfl) ?_
    refine lv_dup hx hb dX5_add_54 rfl ?_
    refine gf_X5 (v := .int 99) C hE hP 0 1 rfl (by decide) qF_X5_21 rfl dX5_add_55 ?_
    refine lv_iconst (v := 1) hx hb dX5_add_58 (by decide) ?_
    refine lv_iadd hx hb dX5_add_59 ?_
    refine pf_X5 (v := .int (99 + 1)) C hE hP hD hS 0 1 rfl (by decide) qF_X5_21 rfl rfl rfl (Nat.le_of_ble_eq_true rfl) dX5_add_60 (fun H locs (hP : va_P D vwCl (MX5 cI cZ cL cW a0 a1 (upd k5 (Int32.toNatClampNeg 99) p1) (99 + 1)) H) (hD : va_D A (MX5 cI cZ cL cW a0 a1 (upd k5 (Int32.toNatClampNeg 99) p1) (99 + 1))) hS => ?_)
    cases hf
    exact rw_v C hr hlk hP hD hS dX5_add_63
def X3_copyFrom (F : Nat) (k_kind : Int32) (k_divisor : Int32) (k_rest : Int32) (k_act : Int32) (k_shift : Int32) (k_weight : Int32) (k_on : Int32) (k_heardSoFar : Int32) (k_didSoFar : Int32) (k_o1_kind : Int32) (k_o1_divisor : Int32) (k_o1_rest : Int32) (k_o1_act : Int32) (k_o1_shift : Int32) (k_o1_weight : Int32) (k_o1_on : Int32) (k_o1_heardSoFar : Int32) (k_o1_didSoFar : Int32) : Option (Int32 × Int32 × Int32 × Int32 × Int32 × Int32 × Int32 × Int32 × Int32) := if ¬ (k_o1_on = 0 ∨ k_o1_on = 1) then none else (some (k_o1_kind, k_o1_divisor, k_o1_rest, k_o1_act, k_o1_shift, k_o1_weight, k_o1_on, k_o1_heardSoFar, k_o1_didSoFar))
abbrev rm_X3_copyFrom : Room := { frames := 0, cells := 0, slots := 0, locals := 0 }
theorem ok_X3_copyFrom : OKV RX3 yX3_copyFrom cX3_copyFrom 2 none 1 := ⟨by decide +kernel, qV_X3_copyFrom, qL_X3_copyFrom, qI_X3, qD_X3_copyFrom⟩
set_option maxHeartbeats 4000000 in
set_option maxRecDepth 100000 in
theorem c_X3_copyFrom (l : Launch) (D : va_G) (cI cZ cL cW : ClassId) (F : Nat) (a0 : Nat) (a1 : Nat) (k_kind : Int32) (k_divisor : Int32) (k_rest : Int32) (k_act : Int32) (k_shift : Int32) (k_weight : Int32) (k_on : Int32) (k_heardSoFar : Int32) (k_didSoFar : Int32) (k_o1_kind : Int32) (k_o1_divisor : Int32) (k_o1_rest : Int32) (k_o1_act : Int32) (k_o1_shift : Int32) (k_o1_weight : Int32) (k_o1_on : Int32) (k_o1_heardSoFar : Int32) (k_o1_didSoFar : Int32) (k_kind' : Int32) (k_divisor' : Int32) (k_rest' : Int32) (k_act' : Int32) (k_shift' : Int32) (k_weight' : Int32) (k_on' : Int32) (k_heardSoFar' : Int32) (k_didSoFar' : Int32) (hf : X3_copyFrom F k_kind k_divisor k_rest k_act k_shift k_weight k_on k_heardSoFar k_didSoFar k_o1_kind k_o1_divisor k_o1_rest k_o1_act k_o1_shift k_o1_weight k_o1_on k_o1_heardSoFar k_o1_didSoFar = some (k_kind', k_divisor', k_rest', k_act', k_shift', k_weight', k_on', k_heardSoFar', k_didSoFar')) : CtrW l D (tyL cI cZ cL cW) nestW yX3_copyFrom cX3_copyFrom 2 none rm_X3_copyFrom [.ref a0, .ref a1] (MX3 cI cZ cL cW a0 k_kind k_divisor k_rest k_act k_shift k_weight k_on k_heardSoFar k_didSoFar ++ MX3 cI cZ cL cW a1 k_o1_kind k_o1_divisor k_o1_rest k_o1_act k_o1_shift k_o1_weight k_o1_on k_o1_heardSoFar k_o1_didSoFar) (MX3 cI cZ cL cW a0 (k_kind') (k_divisor') (k_rest') (k_act') (k_shift') (k_weight') (k_on') (k_heardSoFar') (k_didSoFar') ++ MX3 cI cZ cL cW a1 k_o1_kind k_o1_divisor k_o1_rest k_o1_act k_o1_shift k_o1_weight k_o1_on k_o1_heardSoFar k_o1_didSoFar) none := by
  refine ofA RX3 (by decide) rfl (Nat.le_of_ble_eq_true rfl) ?_
  intro p e s m below meth c ls A C hr hlk hE hA hP hD hS hl
  generalize (List.toArray ([.ref a0, .ref a1] : List Value)) = args at C ⊢
  obtain ⟨hx, hb, hml, hown, ht⟩ := id C
  have hl : lv_has ls 2 [(0, .ref a0), (1, .ref a1)] := hl
  refine lv_aload_n hx hb dX3_copyFrom_0 rfl (lv_at hl 0 rfl) ?_
  refine lv_aload_n hx hb dX3_copyFrom_1 rfl (lv_at hl 1 rfl) ?_
  refine gf_X3 (v := .int k_o1_kind) C hE hP 1 0 rfl (by decide) qF_X3_15 rfl dX3_copyFrom_2 ?_
  refine pf_X3 (v := .int k_o1_kind) C hE hP hD hS 0 0 rfl (by decide) qF_X3_15 rfl rfl rfl (Nat.le_of_ble_eq_true rfl) dX3_copyFrom_5 (fun H locs (hP : va_P D vwCl (MX3 cI cZ cL cW a0 k_o1_kind k_divisor k_rest k_act k_shift k_weight k_on k_heardSoFar k_didSoFar ++ MX3 cI cZ cL cW a1 k_o1_kind k_o1_divisor k_o1_rest k_o1_act k_o1_shift k_o1_weight k_o1_on k_o1_heardSoFar k_o1_didSoFar) H) (hD : va_D A (MX3 cI cZ cL cW a0 k_o1_kind k_divisor k_rest k_act k_shift k_weight k_on k_heardSoFar k_didSoFar ++ MX3 cI cZ cL cW a1 k_o1_kind k_o1_divisor k_o1_rest k_o1_act k_o1_shift k_o1_weight k_o1_on k_o1_heardSoFar k_o1_didSoFar)) hS => ?_)
  refine lv_aload_n hx hb dX3_copyFrom_8 rfl (lv_at hl 0 rfl) ?_
  refine lv_aload_n hx hb dX3_copyFrom_9 rfl (lv_at hl 1 rfl) ?_
  refine gf_X3 (v := .int k_o1_divisor) C hE hP 1 1 rfl (by decide) qF_X3_9 rfl dX3_copyFrom_10 ?_
  refine pf_X3 (v := .int k_o1_divisor) C hE hP hD hS 0 1 rfl (by decide) qF_X3_9 rfl rfl rfl (Nat.le_of_ble_eq_true rfl) dX3_copyFrom_13 (fun H locs (hP : va_P D vwCl (MX3 cI cZ cL cW a0 k_o1_kind k_o1_divisor k_rest k_act k_shift k_weight k_on k_heardSoFar k_didSoFar ++ MX3 cI cZ cL cW a1 k_o1_kind k_o1_divisor k_o1_rest k_o1_act k_o1_shift k_o1_weight k_o1_on k_o1_heardSoFar k_o1_didSoFar) H) (hD : va_D A (MX3 cI cZ cL cW a0 k_o1_kind k_o1_divisor k_rest k_act k_shift k_weight k_on k_heardSoFar k_didSoFar ++ MX3 cI cZ cL cW a1 k_o1_kind k_o1_divisor k_o1_rest k_o1_act k_o1_shift k_o1_weight k_o1_on k_o1_heardSoFar k_o1_didSoFar)) hS => ?_)
  refine lv_aload_n hx hb dX3_copyFrom_16 rfl (lv_at hl 0 rfl) ?_
  refine lv_aload_n hx hb dX3_copyFrom_17 rfl (lv_at hl 1 rfl) ?_
  refine gf_X3 (v := .int k_o1_rest) C hE hP 1 2 rfl (by decide) qF_X3_18 rfl dX3_copyFrom_18 ?_
  refine pf_X3 (v := .int k_o1_rest) C hE hP hD hS 0 2 rfl (by decide) qF_X3_18 rfl rfl rfl (Nat.le_of_ble_eq_true rfl) dX3_copyFrom_21 (fun H locs (hP : va_P D vwCl (MX3 cI cZ cL cW a0 k_o1_kind k_o1_divisor k_o1_rest k_act k_shift k_weight k_on k_heardSoFar k_didSoFar ++ MX3 cI cZ cL cW a1 k_o1_kind k_o1_divisor k_o1_rest k_o1_act k_o1_shift k_o1_weight k_o1_on k_o1_heardSoFar k_o1_didSoFar) H) (hD : va_D A (MX3 cI cZ cL cW a0 k_o1_kind k_o1_divisor k_o1_rest k_act k_shift k_weight k_on k_heardSoFar k_didSoFar ++ MX3 cI cZ cL cW a1 k_o1_kind k_o1_divisor k_o1_rest k_o1_act k_o1_shift k_o1_weight k_o1_on k_o1_heardSoFar k_o1_didSoFar)) hS => ?_)
  refine lv_aload_n hx hb dX3_copyFrom_24 rfl (lv_at hl 0 rfl) ?_
  refine lv_aload_n hx hb dX3_copyFrom_25 rfl (lv_at hl 1 rfl) ?_
  refine gf_X3 (v := .int k_o1_act) C hE hP 1 3 rfl (by decide) qF_X3_21 rfl dX3_copyFrom_26 ?_
  refine pf_X3 (v := .int k_o1_act) C hE hP hD hS 0 3 rfl (by decide) qF_X3_21 rfl rfl rfl (Nat.le_of_ble_eq_true rfl) dX3_copyFrom_29 (fun H locs (hP : va_P D vwCl (MX3 cI cZ cL cW a0 k_o1_kind k_o1_divisor k_o1_rest k_o1_act k_shift k_weight k_on k_heardSoFar k_didSoFar ++ MX3 cI cZ cL cW a1 k_o1_kind k_o1_divisor k_o1_rest k_o1_act k_o1_shift k_o1_weight k_o1_on k_o1_heardSoFar k_o1_didSoFar) H) (hD : va_D A (MX3 cI cZ cL cW a0 k_o1_kind k_o1_divisor k_o1_rest k_o1_act k_shift k_weight k_on k_heardSoFar k_didSoFar ++ MX3 cI cZ cL cW a1 k_o1_kind k_o1_divisor k_o1_rest k_o1_act k_o1_shift k_o1_weight k_o1_on k_o1_heardSoFar k_o1_didSoFar)) hS => ?_)
  refine lv_aload_n hx hb dX3_copyFrom_32 rfl (lv_at hl 0 rfl) ?_
  refine lv_aload_n hx hb dX3_copyFrom_33 rfl (lv_at hl 1 rfl) ?_
  refine gf_X3 (v := .int k_o1_shift) C hE hP 1 4 rfl (by decide) qF_X3_24 rfl dX3_copyFrom_34 ?_
  refine pf_X3 (v := .int k_o1_shift) C hE hP hD hS 0 4 rfl (by decide) qF_X3_24 rfl rfl rfl (Nat.le_of_ble_eq_true rfl) dX3_copyFrom_37 (fun H locs (hP : va_P D vwCl (MX3 cI cZ cL cW a0 k_o1_kind k_o1_divisor k_o1_rest k_o1_act k_o1_shift k_weight k_on k_heardSoFar k_didSoFar ++ MX3 cI cZ cL cW a1 k_o1_kind k_o1_divisor k_o1_rest k_o1_act k_o1_shift k_o1_weight k_o1_on k_o1_heardSoFar k_o1_didSoFar) H) (hD : va_D A (MX3 cI cZ cL cW a0 k_o1_kind k_o1_divisor k_o1_rest k_o1_act k_o1_shift k_weight k_on k_heardSoFar k_didSoFar ++ MX3 cI cZ cL cW a1 k_o1_kind k_o1_divisor k_o1_rest k_o1_act k_o1_shift k_o1_weight k_o1_on k_o1_heardSoFar k_o1_didSoFar)) hS => ?_)
  refine lv_aload_n hx hb dX3_copyFrom_40 rfl (lv_at hl 0 rfl) ?_
  refine lv_aload_n hx hb dX3_copyFrom_41 rfl (lv_at hl 1 rfl) ?_
  refine gf_X3 (v := .int k_o1_weight) C hE hP 1 5 rfl (by decide) qF_X3_27 rfl dX3_copyFrom_42 ?_
  refine pf_X3 (v := .int k_o1_weight) C hE hP hD hS 0 5 rfl (by decide) qF_X3_27 rfl rfl rfl (Nat.le_of_ble_eq_true rfl) dX3_copyFrom_45 (fun H locs (hP : va_P D vwCl (MX3 cI cZ cL cW a0 k_o1_kind k_o1_divisor k_o1_rest k_o1_act k_o1_shift k_o1_weight k_on k_heardSoFar k_didSoFar ++ MX3 cI cZ cL cW a1 k_o1_kind k_o1_divisor k_o1_rest k_o1_act k_o1_shift k_o1_weight k_o1_on k_o1_heardSoFar k_o1_didSoFar) H) (hD : va_D A (MX3 cI cZ cL cW a0 k_o1_kind k_o1_divisor k_o1_rest k_o1_act k_o1_shift k_o1_weight k_on k_heardSoFar k_didSoFar ++ MX3 cI cZ cL cW a1 k_o1_kind k_o1_divisor k_o1_rest k_o1_act k_o1_shift k_o1_weight k_o1_on k_o1_heardSoFar k_o1_didSoFar)) hS => ?_)
  refine lv_aload_n hx hb dX3_copyFrom_48 rfl (lv_at hl 0 rfl) ?_
  refine lv_aload_n hx hb dX3_copyFrom_49 rfl (lv_at hl 1 rfl) ?_
  refine gf_X3 (v := .int k_o1_on) C hE hP 1 6 rfl (by decide) qF_X3_30 rfl dX3_copyFrom_50 ?_
  obtain ⟨g1, hf⟩ := it_g hf
  refine pf_X3 (v := .int k_o1_on) C hE hP hD hS 0 6 rfl (by decide) qF_X3_30 rfl (zb_n g1) (zb_f g1) (Nat.le_of_ble_eq_true rfl) dX3_copyFrom_53 (fun H locs (hP : va_P D vwCl (MX3 cI cZ cL cW a0 k_o1_kind k_o1_divisor k_o1_rest k_o1_act k_o1_shift k_o1_weight k_o1_on k_heardSoFar k_didSoFar ++ MX3 cI cZ cL cW a1 k_o1_kind k_o1_divisor k_o1_rest k_o1_act k_o1_shift k_o1_weight k_o1_on k_o1_heardSoFar k_o1_didSoFar) H) (hD : va_D A (MX3 cI cZ cL cW a0 k_o1_kind k_o1_divisor k_o1_rest k_o1_act k_o1_shift k_o1_weight k_o1_on k_heardSoFar k_didSoFar ++ MX3 cI cZ cL cW a1 k_o1_kind k_o1_divisor k_o1_rest k_o1_act k_o1_shift k_o1_weight k_o1_on k_o1_heardSoFar k_o1_didSoFar)) hS => ?_)
  refine lv_aload_n hx hb dX3_copyFrom_56 rfl (lv_at hl 0 rfl) ?_
  refine lv_aload_n hx hb dX3_copyFrom_57 rfl (lv_at hl 1 rfl) ?_
  refine gf_X3 (v := .int k_o1_heardSoFar) C hE hP 1 7 rfl (by decide) qF_X3_34 rfl dX3_copyFrom_58 ?_
  refine pf_X3 (v := .int k_o1_heardSoFar) C hE hP hD hS 0 7 rfl (by decide) qF_X3_34 rfl rfl rfl (Nat.le_of_ble_eq_true rfl) dX3_copyFrom_61 (fun H locs (hP : va_P D vwCl (MX3 cI cZ cL cW a0 k_o1_kind k_o1_divisor k_o1_rest k_o1_act k_o1_shift k_o1_weight k_o1_on k_o1_heardSoFar k_didSoFar ++ MX3 cI cZ cL cW a1 k_o1_kind k_o1_divisor k_o1_rest k_o1_act k_o1_shift k_o1_weight k_o1_on k_o1_heardSoFar k_o1_didSoFar) H) (hD : va_D A (MX3 cI cZ cL cW a0 k_o1_kind k_o1_divisor k_o1_rest k_o1_act k_o1_shift k_o1_weight k_o1_on k_o1_heardSoFar k_didSoFar ++ MX3 cI cZ cL cW a1 k_o1_kind k_o1_divisor k_o1_rest k_o1_act k_o1_shift k_o1_weight k_o1_on k_o1_heardSoFar k_o1_didSoFar)) hS => ?_)
  refine lv_aload_n hx hb dX3_copyFrom_64 rfl (lv_at hl 0 rfl) ?_
  refine lv_aload_n hx hb dX3_copyFrom_65 rfl (lv_at hl 1 rfl) ?_
  refine gf_X3 (v := .int k_o1_didSoFar) C hE hP 1 8 rfl (by decide) qF_X3_37 rfl dX3_copyFrom_66 ?_
  refine pf_X3 (v := .int k_o1_didSoFar) C hE hP hD hS 0 8 rfl (by decide) qF_X3_37 rfl rfl rfl (Nat.le_of_ble_eq_true rfl) dX3_copyFrom_69 (fun H locs (hP : va_P D vwCl (MX3 cI cZ cL cW a0 k_o1_kind k_o1_divisor k_o1_rest k_o1_act k_o1_shift k_o1_weight k_o1_on k_o1_heardSoFar k_o1_didSoFar ++ MX3 cI cZ cL cW a1 k_o1_kind k_o1_divisor k_o1_rest k_o1_act k_o1_shift k_o1_weight k_o1_on k_o1_heardSoFar k_o1_didSoFar) H) (hD : va_D A (MX3 cI cZ cL cW a0 k_o1_kind k_o1_divisor k_o1_rest k_o1_act k_o1_shift k_o1_weight k_o1_on k_o1_heardSoFar k_o1_didSoFar ++ MX3 cI cZ cL cW a1 k_o1_kind k_o1_divisor k_o1_rest k_o1_act k_o1_shift k_o1_weight k_o1_on k_o1_heardSoFar k_o1_didSoFar)) hS => ?_)
  cases hf
  exact rw_v C hr hlk hP hD hS dX3_copyFrom_72
def X3_begin (F : Nat) (p1 : Int32) (p2 : Int32) (p3 : Int32) (p4 : Int32) (p5 : Int32) (p6 : Int32) (k_kind : Int32) (k_divisor : Int32) (k_rest : Int32) (k_act : Int32) (k_shift : Int32) (k_weight : Int32) (k_on : Int32) (k_heardSoFar : Int32) (k_didSoFar : Int32) : Option (Int32 × Int32 × Int32 × Int32 × Int32 × Int32 × Int32 × Int32 × Int32) := some (p1, p2, p3, p4, p5, p6, 1, 0, 0)
abbrev rm_X3_begin : Room := { frames := 0, cells := 0, slots := 0, locals := 0 }
theorem ok_X3_begin : OKV RX3 yX3_begin cX3_begin 7 none 6 := ⟨by decide +kernel, qV_X3_begin, qL_X3_begin, qI_X3, qD_X3_begin⟩
set_option maxHeartbeats 4000000 in
set_option maxRecDepth 100000 in
theorem c_X3_begin (l : Launch) (D : va_G) (cI cZ cL cW : ClassId) (F : Nat) (a0 : Nat) (k_kind : Int32) (k_divisor : Int32) (k_rest : Int32) (k_act : Int32) (k_shift : Int32) (k_weight : Int32) (k_on : Int32) (k_heardSoFar : Int32) (k_didSoFar : Int32) (p1 : Int32) (p2 : Int32) (p3 : Int32) (p4 : Int32) (p5 : Int32) (p6 : Int32) (k_kind' : Int32) (k_divisor' : Int32) (k_rest' : Int32) (k_act' : Int32) (k_shift' : Int32) (k_weight' : Int32) (k_on' : Int32) (k_heardSoFar' : Int32) (k_didSoFar' : Int32) (hf : X3_begin F p1 p2 p3 p4 p5 p6 k_kind k_divisor k_rest k_act k_shift k_weight k_on k_heardSoFar k_didSoFar = some (k_kind', k_divisor', k_rest', k_act', k_shift', k_weight', k_on', k_heardSoFar', k_didSoFar')) : CtrW l D (tyL cI cZ cL cW) nestW yX3_begin cX3_begin 7 none rm_X3_begin [.ref a0, .int p1, .int p2, .int p3, .int p4, .int p5, .int p6] (MX3 cI cZ cL cW a0 k_kind k_divisor k_rest k_act k_shift k_weight k_on k_heardSoFar k_didSoFar) (MX3 cI cZ cL cW a0 (k_kind') (k_divisor') (k_rest') (k_act') (k_shift') (k_weight') (k_on') (k_heardSoFar') (k_didSoFar')) none := by
  refine ofA RX3 (by decide) rfl (Nat.le_of_ble_eq_true rfl) ?_
  intro p e s m below meth c ls A C hr hlk hE hA hP hD hS hl
  generalize (List.toArray ([.ref a0, .int p1, .int p2, .int p3, .int p4, .int p5, .int p6] : List Value)) = args at C ⊢
  obtain ⟨hx, hb, hml, hown, ht⟩ := id C
  have hl : lv_has ls 7 [(0, .ref a0), (1, .int p1), (2, .int p2), (3, .int p3), (4, .int p4), (5, .int p5), (6, .int p6)] := hl
  refine lv_aload_n hx hb dX3_begin_0 rfl (lv_at hl 0 rfl) ?_
  refine lv_iload_n hx hb dX3_begin_1 rfl (lv_at hl 1 rfl) ?_
  refine pf_X3 (v := .int p1) C hE hP hD hS 0 0 rfl (by decide) qF_X3_15 rfl rfl rfl (Nat.le_of_ble_eq_true rfl) dX3_begin_2 (fun H locs (hP : va_P D vwCl (MX3 cI cZ cL cW a0 p1 k_divisor k_rest k_act k_shift k_weight k_on k_heardSoFar k_didSoFar) H) (hD : va_D A (MX3 cI cZ cL cW a0 p1 k_divisor k_rest k_act k_shift k_weight k_on k_heardSoFar k_didSoFar)) hS => ?_)
  refine lv_aload_n hx hb dX3_begin_5 rfl (lv_at hl 0 rfl) ?_
  refine lv_iload_n hx hb dX3_begin_6 rfl (lv_at hl 2 rfl) ?_
  refine pf_X3 (v := .int p2) C hE hP hD hS 0 1 rfl (by decide) qF_X3_9 rfl rfl rfl (Nat.le_of_ble_eq_true rfl) dX3_begin_7 (fun H locs (hP : va_P D vwCl (MX3 cI cZ cL cW a0 p1 p2 k_rest k_act k_shift k_weight k_on k_heardSoFar k_didSoFar) H) (hD : va_D A (MX3 cI cZ cL cW a0 p1 p2 k_rest k_act k_shift k_weight k_on k_heardSoFar k_didSoFar)) hS => ?_)
  refine lv_aload_n hx hb dX3_begin_10 rfl (lv_at hl 0 rfl) ?_
  refine lv_iload_n hx hb dX3_begin_11 rfl (lv_at hl 3 rfl) ?_
  refine pf_X3 (v := .int p3) C hE hP hD hS 0 2 rfl (by decide) qF_X3_18 rfl rfl rfl (Nat.le_of_ble_eq_true rfl) dX3_begin_12 (fun H locs (hP : va_P D vwCl (MX3 cI cZ cL cW a0 p1 p2 p3 k_act k_shift k_weight k_on k_heardSoFar k_didSoFar) H) (hD : va_D A (MX3 cI cZ cL cW a0 p1 p2 p3 k_act k_shift k_weight k_on k_heardSoFar k_didSoFar)) hS => ?_)
  refine lv_aload_n hx hb dX3_begin_15 rfl (lv_at hl 0 rfl) ?_
  refine lv_iload hx hb dX3_begin_16 (lv_at hl 4 rfl) ?_
  refine pf_X3 (v := .int p4) C hE hP hD hS 0 3 rfl (by decide) qF_X3_21 rfl rfl rfl (Nat.le_of_ble_eq_true rfl) dX3_begin_18 (fun H locs (hP : va_P D vwCl (MX3 cI cZ cL cW a0 p1 p2 p3 p4 k_shift k_weight k_on k_heardSoFar k_didSoFar) H) (hD : va_D A (MX3 cI cZ cL cW a0 p1 p2 p3 p4 k_shift k_weight k_on k_heardSoFar k_didSoFar)) hS => ?_)
  refine lv_aload_n hx hb dX3_begin_21 rfl (lv_at hl 0 rfl) ?_
  refine lv_iload hx hb dX3_begin_22 (lv_at hl 5 rfl) ?_
  refine pf_X3 (v := .int p5) C hE hP hD hS 0 4 rfl (by decide) qF_X3_24 rfl rfl rfl (Nat.le_of_ble_eq_true rfl) dX3_begin_24 (fun H locs (hP : va_P D vwCl (MX3 cI cZ cL cW a0 p1 p2 p3 p4 p5 k_weight k_on k_heardSoFar k_didSoFar) H) (hD : va_D A (MX3 cI cZ cL cW a0 p1 p2 p3 p4 p5 k_weight k_on k_heardSoFar k_didSoFar)) hS => ?_)
  refine lv_aload_n hx hb dX3_begin_27 rfl (lv_at hl 0 rfl) ?_
  refine lv_iload hx hb dX3_begin_28 (lv_at hl 6 rfl) ?_
  refine pf_X3 (v := .int p6) C hE hP hD hS 0 5 rfl (by decide) qF_X3_27 rfl rfl rfl (Nat.le_of_ble_eq_true rfl) dX3_begin_30 (fun H locs (hP : va_P D vwCl (MX3 cI cZ cL cW a0 p1 p2 p3 p4 p5 p6 k_on k_heardSoFar k_didSoFar) H) (hD : va_D A (MX3 cI cZ cL cW a0 p1 p2 p3 p4 p5 p6 k_on k_heardSoFar k_didSoFar)) hS => ?_)
  refine lv_aload_n hx hb dX3_begin_33 rfl (lv_at hl 0 rfl) ?_
  refine lv_iconst (v := 1) hx hb dX3_begin_34 (by decide) ?_
  refine pf_X3 (v := .int 1) C hE hP hD hS 0 6 rfl (by decide) qF_X3_30 rfl (by decide) (by decide) (Nat.le_of_ble_eq_true rfl) dX3_begin_35 (fun H locs (hP : va_P D vwCl (MX3 cI cZ cL cW a0 p1 p2 p3 p4 p5 p6 1 k_heardSoFar k_didSoFar) H) (hD : va_D A (MX3 cI cZ cL cW a0 p1 p2 p3 p4 p5 p6 1 k_heardSoFar k_didSoFar)) hS => ?_)
  refine lv_aload_n hx hb dX3_begin_38 rfl (lv_at hl 0 rfl) ?_
  refine lv_iconst (v := 0) hx hb dX3_begin_39 (by decide) ?_
  refine pf_X3 (v := .int 0) C hE hP hD hS 0 7 rfl (by decide) qF_X3_34 rfl rfl rfl (Nat.le_of_ble_eq_true rfl) dX3_begin_40 (fun H locs (hP : va_P D vwCl (MX3 cI cZ cL cW a0 p1 p2 p3 p4 p5 p6 1 0 k_didSoFar) H) (hD : va_D A (MX3 cI cZ cL cW a0 p1 p2 p3 p4 p5 p6 1 0 k_didSoFar)) hS => ?_)
  refine lv_aload_n hx hb dX3_begin_43 rfl (lv_at hl 0 rfl) ?_
  refine lv_iconst (v := 0) hx hb dX3_begin_44 (by decide) ?_
  refine pf_X3 (v := .int 0) C hE hP hD hS 0 8 rfl (by decide) qF_X3_37 rfl rfl rfl (Nat.le_of_ble_eq_true rfl) dX3_begin_45 (fun H locs (hP : va_P D vwCl (MX3 cI cZ cL cW a0 p1 p2 p3 p4 p5 p6 1 0 0) H) (hD : va_D A (MX3 cI cZ cL cW a0 p1 p2 p3 p4 p5 p6 1 0 0)) hS => ?_)
  cases hf
  exact rw_v C hr hlk hP hD hS dX3_begin_48
def X3_hearsKind (F : Nat) (p1 : Int32) (k_kind : Int32) : Option (Int32) := if (k_kind : Int32) = (-1) then (some 1) else (if (k_kind : Int32) = p1 then (some 1) else (some 0))
abbrev rm_X3_hearsKind : Room := { frames := 0, cells := 0, slots := 0, locals := 0 }
theorem ok_X3_hearsKind : OKV RX3 yX3_hearsKind cX3_hearsKind 2 (some .boolean) 1 := ⟨by decide +kernel, qV_X3_hearsKind, qL_X3_hearsKind, qI_X3, qD_X3_hearsKind⟩
set_option maxHeartbeats 4000000 in
set_option maxRecDepth 100000 in
theorem c_X3_hearsKind (l : Launch) (D : va_G) (cI cZ cL cW : ClassId) (F : Nat) (a0 : Nat) (k_kind : Int32) (k_divisor : Int32) (k_rest : Int32) (k_act : Int32) (k_shift : Int32) (k_weight : Int32) (k_on : Int32) (k_heardSoFar : Int32) (k_didSoFar : Int32) (p1 : Int32) (r : Int32) (hf : X3_hearsKind F p1 k_kind = some r) : CtrR l D (tyL cI cZ cL cW) nestW yX3_hearsKind cX3_hearsKind 2 (some .boolean) rm_X3_hearsKind [.ref a0, .int p1] (MX3 cI cZ cL cW a0 k_kind k_divisor k_rest k_act k_shift k_weight k_on k_heardSoFar k_didSoFar) (some (.int r)) := by
  refine ofR RX3 (by decide) rfl (Nat.le_of_ble_eq_true rfl) ?_
  intro p e s m below meth c ls C hr hlk hE hP hl
  generalize (List.toArray ([.ref a0, .int p1] : List Value)) = args at C ⊢
  obtain ⟨hx, hb, hml, hown, ht⟩ := id C
  have hl : lv_has ls 2 [(0, .ref a0), (1, .int p1)] := hl
  refine lv_aload_n hx hb dX3_hearsKind_0 rfl (lv_at hl 0 rfl) ?_
  refine gf_X3 (v := .int k_kind) C hE hP 0 0 rfl (by decide) qF_X3_15 rfl dX3_hearsKind_1 ?_
  refine lv_iconst (v := (-1)) hx hb dX3_hearsKind_4 (by decide) ?_
  refine lv_icmp_eq (tgt := 16) hx hb dX3_hearsKind_5 (by decide) (fun c2 => ?_) (fun c2 => ?_)
  · have hf := it_p hf c2
    refine lv_iconst (v := 1) hx hb dX3_hearsKind_16 (by decide) ?_
    refine lv_goto (tgt := 21) hx hb dX3_hearsKind_17 (by decide) ?_
    exact rt_z C hr hlk (by decide) dX3_hearsKind_21 (congrArg (fun o => o.map Value.int) hf)
  · have hf := it_n hf c2
    refine lv_aload_n hx hb dX3_hearsKind_8 rfl (lv_at hl 0 rfl) ?_
    refine gf_X3 (v := .int k_kind) C hE hP 0 0 rfl (by decide) qF_X3_15 rfl dX3_hearsKind_9 ?_
    refine lv_iload_n hx hb dX3_hearsKind_12 rfl (lv_at hl 1 rfl) ?_
    refine lv_icmp_ne (tgt := 20) hx hb dX3_hearsKind_13 (by decide) (fun c1 => ?_) (fun c1 => ?_)
    · have hf := it_n hf c1
      refine lv_iconst (v := 0) hx hb dX3_hearsKind_20 (by decide) ?_
      exact rt_z C hr hlk (by decide) dX3_hearsKind_21 (congrArg (fun o => o.map Value.int) hf)
    · have hf := it_p hf c1
      refine lv_iconst (v := 1) hx hb dX3_hearsKind_16 (by decide) ?_
      refine lv_goto (tgt := 21) hx hb dX3_hearsKind_17 (by decide) ?_
      exact rt_z C hr hlk (by decide) dX3_hearsKind_21 (congrArg (fun o => o.map Value.int) hf)
def X3_hearsKey (F : Nat) (p1 : Int32) (k_divisor : Int32) (k_rest : Int32) : Option (Int32) := if (k_divisor : Int32) ≤ 0 then (some 0) else (if k_divisor = 0 then none else (if ((p1 - p1 / k_divisor * k_divisor) : Int32) = k_rest then (some 1) else (some 0)))
abbrev rm_X3_hearsKey : Room := { frames := 0, cells := 0, slots := 0, locals := 0 }
theorem ok_X3_hearsKey : OKV RX3 yX3_hearsKey cX3_hearsKey 2 (some .boolean) 1 := ⟨by decide +kernel, qV_X3_hearsKey, qL_X3_hearsKey, qI_X3, qD_X3_hearsKey⟩
set_option maxHeartbeats 4000000 in
set_option maxRecDepth 100000 in
theorem c_X3_hearsKey (l : Launch) (D : va_G) (cI cZ cL cW : ClassId) (F : Nat) (a0 : Nat) (k_kind : Int32) (k_divisor : Int32) (k_rest : Int32) (k_act : Int32) (k_shift : Int32) (k_weight : Int32) (k_on : Int32) (k_heardSoFar : Int32) (k_didSoFar : Int32) (p1 : Int32) (r : Int32) (hf : X3_hearsKey F p1 k_divisor k_rest = some r) : CtrR l D (tyL cI cZ cL cW) nestW yX3_hearsKey cX3_hearsKey 2 (some .boolean) rm_X3_hearsKey [.ref a0, .int p1] (MX3 cI cZ cL cW a0 k_kind k_divisor k_rest k_act k_shift k_weight k_on k_heardSoFar k_didSoFar) (some (.int r)) := by
  refine ofR RX3 (by decide) rfl (Nat.le_of_ble_eq_true rfl) ?_
  intro p e s m below meth c ls C hr hlk hE hP hl
  generalize (List.toArray ([.ref a0, .int p1] : List Value)) = args at C ⊢
  obtain ⟨hx, hb, hml, hown, ht⟩ := id C
  have hl : lv_has ls 2 [(0, .ref a0), (1, .int p1)] := hl
  refine lv_aload_n hx hb dX3_hearsKey_0 rfl (lv_at hl 0 rfl) ?_
  refine gf_X3 (v := .int k_divisor) C hE hP 0 1 rfl (by decide) qF_X3_9 rfl dX3_hearsKey_1 ?_
  refine lv_if_le (tgt := 24) hx hb dX3_hearsKey_4 (by decide) (fun c3 => ?_) (fun c3 => ?_)
  · have hf := it_p hf c3
    refine lv_iconst (v := 0) hx hb dX3_hearsKey_24 (by decide) ?_
    exact rt_z C hr hlk (by decide) dX3_hearsKey_25 (congrArg (fun o => o.map Value.int) hf)
  · have hf := it_n hf c3
    refine lv_iload_n hx hb dX3_hearsKey_7 rfl (lv_at hl 1 rfl) ?_
    refine lv_aload_n hx hb dX3_hearsKey_8 rfl (lv_at hl 0 rfl) ?_
    refine gf_X3 (v := .int k_divisor) C hE hP 0 1 rfl (by decide) qF_X3_9 rfl dX3_hearsKey_9 ?_
    obtain ⟨g1, hf⟩ := it_g hf
    refine lv_irem hx hb dX3_hearsKey_12 g1 ?_
    refine lv_aload_n hx hb dX3_hearsKey_13 rfl (lv_at hl 0 rfl) ?_
    refine gf_X3 (v := .int k_rest) C hE hP 0 2 rfl (by decide) qF_X3_18 rfl dX3_hearsKey_14 ?_
    refine lv_icmp_ne (tgt := 24) hx hb dX3_hearsKey_17 (by decide) (fun c2 => ?_) (fun c2 => ?_)
    · have hf := it_n hf c2
      refine lv_iconst (v := 0) hx hb dX3_hearsKey_24 (by decide) ?_
      exact rt_z C hr hlk (by decide) dX3_hearsKey_25 (congrArg (fun o => o.map Value.int) hf)
    · have hf := it_p hf c2
      refine lv_iconst (v := 1) hx hb dX3_hearsKey_20 (by decide) ?_
      refine lv_goto (tgt := 25) hx hb dX3_hearsKey_21 (by decide) ?_
      exact rt_z C hr hlk (by decide) dX3_hearsKey_25 (congrArg (fun o => o.map Value.int) hf)
def X3_keyFor (F : Nat) (p1 : Int32) (k_shift : Int32) : Option (Int32) := some (fmod (p1 + k_shift) 1000)
abbrev rm_X3_keyFor : Room := { frames := 1, cells := 0, slots := 0, locals := 48 }
theorem ok_X3_keyFor : OKV RX3 yX3_keyFor cX3_keyFor 2 (some .int) 1 := ⟨by decide +kernel, qV_X3_keyFor, qL_X3_keyFor, qI_X3, qD_X3_keyFor⟩
set_option maxHeartbeats 4000000 in
set_option maxRecDepth 100000 in
theorem c_X3_keyFor (l : Launch) (D : va_G) (cI cZ cL cW : ClassId) (F : Nat) (a0 : Nat) (k_kind : Int32) (k_divisor : Int32) (k_rest : Int32) (k_act : Int32) (k_shift : Int32) (k_weight : Int32) (k_on : Int32) (k_heardSoFar : Int32) (k_didSoFar : Int32) (p1 : Int32) (r : Int32) (hf : X3_keyFor F p1 k_shift = some r) : CtrR l D (tyL cI cZ cL cW) nestW yX3_keyFor cX3_keyFor 2 (some .int) rm_X3_keyFor [.ref a0, .int p1] (MX3 cI cZ cL cW a0 k_kind k_divisor k_rest k_act k_shift k_weight k_on k_heardSoFar k_didSoFar) (some (.int r)) := by
  refine ofR RX3 (by decide) rfl (Nat.le_of_ble_eq_true rfl) ?_
  intro p e s m below meth c ls C hr hlk hE hP hl
  generalize (List.toArray ([.ref a0, .int p1] : List Value)) = args at C ⊢
  obtain ⟨hx, hb, hml, hown, ht⟩ := id C
  have hl : lv_has ls 2 [(0, .ref a0), (1, .int p1)] := hl
  refine lv_iload_n hx hb dX3_keyFor_0 rfl (lv_at hl 1 rfl) ?_
  refine lv_aload_n hx hb dX3_keyFor_1 rfl (lv_at hl 0 rfl) ?_
  refine gf_X3 (v := .int k_shift) C hE hP 0 4 rfl (by decide) qF_X3_24 rfl dX3_keyFor_2 ?_
  refine lv_iadd hx hb dX3_keyFor_5 ?_
  refine lv_sipush (v := 1000) hx hb dX3_keyFor_6 (by decide) ?_
  refine va_fmod hx hb (hml.trans hl.1.symm) hown (ht _ qM_X3_40) (ht _ qS_J9_floorMod_7cf53) (ht _ qI_J9) (ht _ qD_J9_floorMod_7cf53) (Nat.le_of_ble_eq_true rfl) (Nat.le_of_ble_eq_true rfl) (Nat.zero_le _) (Nat.zero_le _) (by decide) dX3_keyFor_9 ?_
  exact rt_i C hr hlk dX3_keyFor_12 (congrArg (fun o => o.map Value.int) hf)
def X3_makesKindFor (F : Nat) (k_act : Int32) (k_o1_kind : Int32) : Option (Int32) := if k_act = 1 then ((X3_hearsKind F 0 k_o1_kind).bind fun r2 => (if (r2 : Int32) = 0 then ((X3_hearsKind F 1 k_o1_kind).bind fun r4 => (if (r4 : Int32) = 0 then ((X3_hearsKind F 6 k_o1_kind).bind fun r6 => (if (r6 : Int32) = 0 then (some 0) else (some 1))) else (some 1))) else (some 1))) else (if k_act = 2 then ((X3_hearsKind F 5 k_o1_kind).bind fun r12 => (if ¬ (r12 = 0 ∨ r12 = 1) then none else (some r12))) else (if k_act = 3 then ((X3_hearsKind F 4 k_o1_kind).bind fun r16 => (if ¬ (r16 = 0 ∨ r16 = 1) then none else (some r16))) else (some 0)))
abbrev rm_X3_makesKindFor : Room := { frames := 1, cells := 0, slots := 0, locals := 21 }
theorem ok_X3_makesKindFor : OKV RX3 yX3_makesKindFor cX3_makesKindFor 2 (some .boolean) 1 := ⟨by decide +kernel, qV_X3_makesKindFor, qL_X3_makesKindFor, qI_X3, qD_X3_makesKindFor⟩
set_option maxHeartbeats 4000000 in
set_option maxRecDepth 100000 in
theorem c_X3_makesKindFor (l : Launch) (D : va_G) (cI cZ cL cW : ClassId) (F : Nat) (a0 : Nat) (a1 : Nat) (k_kind : Int32) (k_divisor : Int32) (k_rest : Int32) (k_act : Int32) (k_shift : Int32) (k_weight : Int32) (k_on : Int32) (k_heardSoFar : Int32) (k_didSoFar : Int32) (k_o1_kind : Int32) (k_o1_divisor : Int32) (k_o1_rest : Int32) (k_o1_act : Int32) (k_o1_shift : Int32) (k_o1_weight : Int32) (k_o1_on : Int32) (k_o1_heardSoFar : Int32) (k_o1_didSoFar : Int32) (r : Int32) (hf : X3_makesKindFor F k_act k_o1_kind = some r) : CtrR l D (tyL cI cZ cL cW) nestW yX3_makesKindFor cX3_makesKindFor 2 (some .boolean) rm_X3_makesKindFor [.ref a0, .ref a1] (MX3 cI cZ cL cW a0 k_kind k_divisor k_rest k_act k_shift k_weight k_on k_heardSoFar k_didSoFar ++ MX3 cI cZ cL cW a1 k_o1_kind k_o1_divisor k_o1_rest k_o1_act k_o1_shift k_o1_weight k_o1_on k_o1_heardSoFar k_o1_didSoFar) (some (.int r)) := by
  refine ofR RX3 (by decide) rfl (Nat.le_of_ble_eq_true rfl) ?_
  intro p e s m below meth c ls C hr hlk hE hP hl
  generalize (List.toArray ([.ref a0, .ref a1] : List Value)) = args at C ⊢
  obtain ⟨hx, hb, hml, hown, ht⟩ := id C
  have hl : lv_has ls 2 [(0, .ref a0), (1, .ref a1)] := hl
  refine lv_aload_n hx hb dX3_makesKindFor_0 rfl (lv_at hl 0 rfl) ?_
  refine gf_X3 (v := .int k_act) C hE hP 0 3 rfl (by decide) qF_X3_21 rfl dX3_makesKindFor_1 ?_
  by_cases e1 : k_act = 1
  · have hf := it_p hf e1
    refine lv_tableIn (off := 28) (tgt := 32) hx hb dX3_makesKindFor_4 (by rw [e1]; decide) (by rw [e1]; decide) (by rw [e1]; decide) (by decide) ?_
    refine lv_aload_n hx hb dX3_makesKindFor_32 rfl (lv_at hl 1 rfl) ?_
    refine lv_iconst (v := 0) hx hb dX3_makesKindFor_33 (by decide) ?_
    obtain ⟨r2, h3, hf⟩ := bd_s hf
    refine iv_R (rest := []) (st1 := [.int r2]) C hE (hP.sub [1] rfl) (c_X3_hearsKind l D cI cZ cL cW F a1 k_o1_kind k_o1_divisor k_o1_rest k_o1_act k_o1_shift k_o1_weight k_o1_on k_o1_heardSoFar k_o1_didSoFar 0 r2  h3) ok_X3_hearsKind qM_X3_46 rfl rfl ⟨(Nat.le_of_ble_eq_true rfl), (Nat.le_of_ble_eq_true rfl)⟩ rfl rfl hl.1 (Nat.le_of_ble_eq_true rfl) ⟨Nat.zero_le _, Nat.zero_le _⟩ dX3_makesKindFor_34 rfl rfl ?_
    refine lv_if_ne (tgt := 57) hx hb dX3_makesKindFor_37 (by decide) (fun c10 => ?_) (fun c10 => ?_)
    · have hf := it_n hf c10
      refine lv_iconst (v := 1) hx hb dX3_makesKindFor_57 (by decide) ?_
      refine lv_goto (tgt := 62) hx hb dX3_makesKindFor_58 (by decide) ?_
      exact rt_z C hr hlk (by decide) dX3_makesKindFor_62 (congrArg (fun o => o.map Value.int) hf)
    · have hf := it_p hf c10
      refine lv_aload_n hx hb dX3_makesKindFor_40 rfl (lv_at hl 1 rfl) ?_
      refine lv_iconst (v := 1) hx hb dX3_makesKindFor_41 (by decide) ?_
      obtain ⟨r4, h5, hf⟩ := bd_s hf
      refine iv_R (rest := []) (st1 := [.int r4]) C hE (hP.sub [1] rfl) (c_X3_hearsKind l D cI cZ cL cW F a1 k_o1_kind k_o1_divisor k_o1_rest k_o1_act k_o1_shift k_o1_weight k_o1_on k_o1_heardSoFar k_o1_didSoFar 1 r4  h5) ok_X3_hearsKind qM_X3_46 rfl rfl ⟨(Nat.le_of_ble_eq_true rfl), (Nat.le_of_ble_eq_true rfl)⟩ rfl rfl hl.1 (Nat.le_of_ble_eq_true rfl) ⟨Nat.zero_le _, Nat.zero_le _⟩ dX3_makesKindFor_42 rfl rfl ?_
      refine lv_if_ne (tgt := 57) hx hb dX3_makesKindFor_45 (by decide) (fun c9 => ?_) (fun c9 => ?_)
      · have hf := it_n hf c9
        refine lv_iconst (v := 1) hx hb dX3_makesKindFor_57 (by decide) ?_
        refine lv_goto (tgt := 62) hx hb dX3_makesKindFor_58 (by decide) ?_
        exact rt_z C hr hlk (by decide) dX3_makesKindFor_62 (congrArg (fun o => o.map Value.int) hf)
      · have hf := it_p hf c9
        refine lv_aload_n hx hb dX3_makesKindFor_48 rfl (lv_at hl 1 rfl) ?_
        refine lv_bipush (v := 6) hx hb dX3_makesKindFor_49 (by decide) ?_
        obtain ⟨r6, h7, hf⟩ := bd_s hf
        refine iv_R (rest := []) (st1 := [.int r6]) C hE (hP.sub [1] rfl) (c_X3_hearsKind l D cI cZ cL cW F a1 k_o1_kind k_o1_divisor k_o1_rest k_o1_act k_o1_shift k_o1_weight k_o1_on k_o1_heardSoFar k_o1_didSoFar 6 r6  h7) ok_X3_hearsKind qM_X3_46 rfl rfl ⟨(Nat.le_of_ble_eq_true rfl), (Nat.le_of_ble_eq_true rfl)⟩ rfl rfl hl.1 (Nat.le_of_ble_eq_true rfl) ⟨Nat.zero_le _, Nat.zero_le _⟩ dX3_makesKindFor_51 rfl rfl ?_
        refine lv_if_eq (tgt := 61) hx hb dX3_makesKindFor_54 (by decide) (fun c8 => ?_) (fun c8 => ?_)
        · have hf := it_p hf c8
          refine lv_iconst (v := 0) hx hb dX3_makesKindFor_61 (by decide) ?_
          exact rt_z C hr hlk (by decide) dX3_makesKindFor_62 (congrArg (fun o => o.map Value.int) hf)
        · have hf := it_n hf c8
          refine lv_iconst (v := 1) hx hb dX3_makesKindFor_57 (by decide) ?_
          refine lv_goto (tgt := 62) hx hb dX3_makesKindFor_58 (by decide) ?_
          exact rt_z C hr hlk (by decide) dX3_makesKindFor_62 (congrArg (fun o => o.map Value.int) hf)
  have hf := it_n hf e1
  by_cases e11 : k_act = 2
  · have hf := it_p hf e11
    refine lv_tableIn (off := 59) (tgt := 63) hx hb dX3_makesKindFor_4 (by rw [e11]; decide) (by rw [e11]; decide) (by rw [e11]; decide) (by decide) ?_
    refine lv_aload_n hx hb dX3_makesKindFor_63 rfl (lv_at hl 1 rfl) ?_
    refine lv_iconst (v := 5) hx hb dX3_makesKindFor_64 (by decide) ?_
    obtain ⟨r12, h13, hf⟩ := bd_s hf
    refine iv_R (rest := []) (st1 := [.int r12]) C hE (hP.sub [1] rfl) (c_X3_hearsKind l D cI cZ cL cW F a1 k_o1_kind k_o1_divisor k_o1_rest k_o1_act k_o1_shift k_o1_weight k_o1_on k_o1_heardSoFar k_o1_didSoFar 5 r12  h13) ok_X3_hearsKind qM_X3_46 rfl rfl ⟨(Nat.le_of_ble_eq_true rfl), (Nat.le_of_ble_eq_true rfl)⟩ rfl rfl hl.1 (Nat.le_of_ble_eq_true rfl) ⟨Nat.zero_le _, Nat.zero_le _⟩ dX3_makesKindFor_65 rfl rfl ?_
    obtain ⟨g14, hf⟩ := it_g hf
    exact rt_z C hr hlk (zb_n g14) dX3_makesKindFor_68 (congrArg (fun o => o.map Value.int) hf)
  have hf := it_n hf e11
  by_cases e15 : k_act = 3
  · have hf := it_p hf e15
    refine lv_tableIn (off := 65) (tgt := 69) hx hb dX3_makesKindFor_4 (by rw [e15]; decide) (by rw [e15]; decide) (by rw [e15]; decide) (by decide) ?_
    refine lv_aload_n hx hb dX3_makesKindFor_69 rfl (lv_at hl 1 rfl) ?_
    refine lv_iconst (v := 4) hx hb dX3_makesKindFor_70 (by decide) ?_
    obtain ⟨r16, h17, hf⟩ := bd_s hf
    refine iv_R (rest := []) (st1 := [.int r16]) C hE (hP.sub [1] rfl) (c_X3_hearsKind l D cI cZ cL cW F a1 k_o1_kind k_o1_divisor k_o1_rest k_o1_act k_o1_shift k_o1_weight k_o1_on k_o1_heardSoFar k_o1_didSoFar 4 r16  h17) ok_X3_hearsKind qM_X3_46 rfl rfl ⟨(Nat.le_of_ble_eq_true rfl), (Nat.le_of_ble_eq_true rfl)⟩ rfl rfl hl.1 (Nat.le_of_ble_eq_true rfl) ⟨Nat.zero_le _, Nat.zero_le _⟩ dX3_makesKindFor_71 rfl rfl ?_
    obtain ⟨g18, hf⟩ := it_g hf
    exact rt_z C hr hlk (zb_n g18) dX3_makesKindFor_74 (congrArg (fun o => o.map Value.int) hf)
  have hf := it_n hf e15
  refine lv_tableOut (tgt := 75) hx hb dX3_makesKindFor_4 (tw_e (tw_s (tw_s (tw_s (tw_0 _ 1) e1) e11) e15)) (by decide) ?_
  refine lv_iconst (v := 0) hx hb dX3_makesKindFor_75 (by decide) ?_
  exact rt_z C hr hlk (by decide) dX3_makesKindFor_76 (congrArg (fun o => o.map Value.int) hf)
def X3_rouses_L56 (F : Nat) : Nat → Int32 → Int32 → Int32 → Int32 → Int32 → Int32 → Option (Int32)
  | 0, _, _, _, _, _, _ => none
  | n + 1, v3, k_divisor, k_rest, k_shift, k_o1_divisor, k_o1_rest => if (1000 : Int32) ≤ v3 then (some 0) else ((X3_hearsKey F v3 k_divisor k_rest).bind fun r5 => (if (r5 : Int32) = 0 then (X3_rouses_L56 F n (v3 + 1) k_divisor k_rest k_shift k_o1_divisor k_o1_rest) else ((X3_keyFor F v3 k_shift).bind fun r7 => ((X3_hearsKey F r7 k_o1_divisor k_o1_rest).bind fun r9 => (if (r9 : Int32) = 0 then (X3_rouses_L56 F n (v3 + 1) k_divisor k_rest k_shift k_o1_divisor k_o1_rest) else (some 1))))))
def X3_rouses (F : Nat) (k_divisor : Int32) (k_rest : Int32) (k_act : Int32) (k_shift : Int32) (k_o1_kind : Int32) (k_o1_divisor : Int32) (k_o1_rest : Int32) : Option (Int32) := if (k_act : Int32) = 1 then ((X3_hearsKind F 2 k_o1_kind).bind fun r1 => (if (r1 : Int32) = 0 then ((X3_makesKindFor F k_act k_o1_kind).bind fun r3 => (if (r3 : Int32) = 0 then (some 0) else (X3_rouses_L56 F F 0 k_divisor k_rest k_shift k_o1_divisor k_o1_rest))) else (some 1))) else (if (k_act : Int32) = 6 then (if (0 : Int32) ≤ k_shift then ((X3_makesKindFor F k_act k_o1_kind).bind fun r19 => (if (r19 : Int32) = 0 then (some 0) else (X3_rouses_L56 F F 0 k_divisor k_rest k_shift k_o1_divisor k_o1_rest))) else ((X3_hearsKind F 2 k_o1_kind).bind fun r22 => (if (r22 : Int32) = 0 then ((X3_makesKindFor F k_act k_o1_kind).bind fun r24 => (if (r24 : Int32) = 0 then (some 0) else (X3_rouses_L56 F F 0 k_divisor k_rest k_shift k_o1_divisor k_o1_rest))) else (some 1)))) else ((X3_makesKindFor F k_act k_o1_kind).bind fun r16 => (if (r16 : Int32) = 0 then (some 0) else (X3_rouses_L56 F F 0 k_divisor k_rest k_shift k_o1_divisor k_o1_rest))))
abbrev rm_X3_rouses : Room := { frames := 2, cells := 0, slots := 0, locals := 69 }
theorem ok_X3_rouses : OKV RX3 yX3_rouses cX3_rouses 4 (some .boolean) 1 := ⟨by decide +kernel, qV_X3_rouses, qL_X3_rouses, qI_X3, qD_X3_rouses⟩
set_option maxHeartbeats 4000000 in
set_option maxRecDepth 100000 in
theorem c_X3_rouses (l : Launch) (D : va_G) (cI cZ cL cW : ClassId) (F : Nat) (a0 : Nat) (a1 : Nat) (k_kind : Int32) (k_divisor : Int32) (k_rest : Int32) (k_act : Int32) (k_shift : Int32) (k_weight : Int32) (k_on : Int32) (k_heardSoFar : Int32) (k_didSoFar : Int32) (k_o1_kind : Int32) (k_o1_divisor : Int32) (k_o1_rest : Int32) (k_o1_act : Int32) (k_o1_shift : Int32) (k_o1_weight : Int32) (k_o1_on : Int32) (k_o1_heardSoFar : Int32) (k_o1_didSoFar : Int32) (r : Int32) (hf : X3_rouses F k_divisor k_rest k_act k_shift k_o1_kind k_o1_divisor k_o1_rest = some r) : CtrR l D (tyL cI cZ cL cW) nestW yX3_rouses cX3_rouses 4 (some .boolean) rm_X3_rouses [.ref a0, .ref a1] (MX3 cI cZ cL cW a0 k_kind k_divisor k_rest k_act k_shift k_weight k_on k_heardSoFar k_didSoFar ++ MX3 cI cZ cL cW a1 k_o1_kind k_o1_divisor k_o1_rest k_o1_act k_o1_shift k_o1_weight k_o1_on k_o1_heardSoFar k_o1_didSoFar) (some (.int r)) := by
  refine ofR RX3 (by decide) rfl (Nat.le_of_ble_eq_true rfl) ?_
  intro p e s m below meth c ls C hr hlk hE hP hl
  generalize (List.toArray ([.ref a0, .ref a1] : List Value)) = args at C ⊢
  obtain ⟨hx, hb, hml, hown, ht⟩ := id C
  have hl : lv_has ls 4 [(0, .ref a0), (1, .ref a1)] := hl
  have L56 : ∀ (n : Nat) (v3 : Int32) (ls : Array Slot), X3_rouses_L56 F n v3 k_divisor k_rest k_shift k_o1_divisor k_o1_rest = some r → lv_has ls 4 [(0, .ref a0), (1, .ref a1), (3, .int v3)] → W p l e rm_X3_rouses s m args below meth c s.heap [] 0 0 (MQ below (QR (some (.int r))) args s 0 0 (fun _ => False)) (F0 m 56 ls []) := by
    intro n
    induction n with
    | zero => intro v3 ls hf hl; exact nn_s hf
    | succ n ih =>
      intro v3 ls hf hl
      refine lv_iload_n hx hb dX3_rouses_56 rfl (lv_at hl 2 rfl) ?_
      refine lv_sipush (v := 1000) hx hb dX3_rouses_57 (by decide) ?_
      refine lv_icmp_ge (tgt := 91) hx hb dX3_rouses_60 (by decide) (fun c13 => ?_) (fun c13 => ?_)
      · have hf := it_p hf c13
        refine lv_iconst (v := 0) hx hb dX3_rouses_91 (by decide) ?_
        exact rt_z C hr hlk (by decide) dX3_rouses_92 (congrArg (fun o => o.map Value.int) hf)
      · have hf := it_n hf c13
        refine lv_aload_n hx hb dX3_rouses_63 rfl (lv_at hl 0 rfl) ?_
        refine lv_iload_n hx hb dX3_rouses_64 rfl (lv_at hl 2 rfl) ?_
        obtain ⟨r5, h6, hf⟩ := bd_s hf
        refine iv_R (rest := []) (st1 := [.int r5]) C hE (hP.sub [0] rfl) (c_X3_hearsKey l D cI cZ cL cW F a0 k_kind k_divisor k_rest k_act k_shift k_weight k_on k_heardSoFar k_didSoFar v3 r5  h6) ok_X3_hearsKey qM_X3_54 rfl rfl ⟨(Nat.le_of_ble_eq_true rfl), (Nat.le_of_ble_eq_true rfl)⟩ rfl rfl hl.1 (Nat.le_of_ble_eq_true rfl) ⟨Nat.zero_le _, Nat.zero_le _⟩ dX3_rouses_65 rfl rfl ?_
        refine lv_if_eq (tgt := 85) hx hb dX3_rouses_68 (by decide) (fun c12 => ?_) (fun c12 => ?_)
        · have hf := it_p hf c12
          refine lv_iinc (v := (v3 + 1)) (lv' := [(3, .int (v3 + 1)), (0, .ref a0), (1, .ref a1)]) hx hb dX3_rouses_85 hl (k := 2) rfl rfl (by decide) rfl (fun ls hl => ?_)
          refine lv_goto (tgt := 56) hx hb dX3_rouses_88 (by decide) ?_
          exact ih (v3 + 1) ls hf (lv_sub hl [1, 2, 0] rfl)
        · have hf := it_n hf c12
          refine lv_aload_n hx hb dX3_rouses_71 rfl (lv_at hl 1 rfl) ?_
          refine lv_aload_n hx hb dX3_rouses_72 rfl (lv_at hl 0 rfl) ?_
          refine lv_iload_n hx hb dX3_rouses_73 rfl (lv_at hl 2 rfl) ?_
          obtain ⟨r7, h8, hf⟩ := bd_s hf
          refine iv_R (rest := [.ref a1]) (st1 := [.int r7, .ref a1]) C hE (hP.sub [0] rfl) (c_X3_keyFor l D cI cZ cL cW F a0 k_kind k_divisor k_rest k_act k_shift k_weight k_on k_heardSoFar k_didSoFar v3 r7  h8) ok_X3_keyFor qM_X3_57 rfl rfl ⟨(Nat.le_of_ble_eq_true rfl), (Nat.le_of_ble_eq_true rfl)⟩ rfl rfl hl.1 (Nat.le_of_ble_eq_true rfl) ⟨Nat.zero_le _, Nat.zero_le _⟩ dX3_rouses_74 rfl rfl ?_
          obtain ⟨r9, h10, hf⟩ := bd_s hf
          refine iv_R (rest := []) (st1 := [.int r9]) C hE (hP.sub [1] rfl) (c_X3_hearsKey l D cI cZ cL cW F a1 k_o1_kind k_o1_divisor k_o1_rest k_o1_act k_o1_shift k_o1_weight k_o1_on k_o1_heardSoFar k_o1_didSoFar r7 r9  h10) ok_X3_hearsKey qM_X3_54 rfl rfl ⟨(Nat.le_of_ble_eq_true rfl), (Nat.le_of_ble_eq_true rfl)⟩ rfl rfl hl.1 (Nat.le_of_ble_eq_true rfl) ⟨Nat.zero_le _, Nat.zero_le _⟩ dX3_rouses_77 rfl rfl ?_
          refine lv_if_eq (tgt := 85) hx hb dX3_rouses_80 (by decide) (fun c11 => ?_) (fun c11 => ?_)
          · have hf := it_p hf c11
            refine lv_iinc (v := (v3 + 1)) (lv' := [(3, .int (v3 + 1)), (0, .ref a0), (1, .ref a1)]) hx hb dX3_rouses_85 hl (k := 2) rfl rfl (by decide) rfl (fun ls hl => ?_)
            refine lv_goto (tgt := 56) hx hb dX3_rouses_88 (by decide) ?_
            exact ih (v3 + 1) ls hf (lv_sub hl [1, 2, 0] rfl)
          · have hf := it_n hf c11
            refine lv_iconst (v := 1) hx hb dX3_rouses_83 (by decide) ?_
            exact rt_z C hr hlk (by decide) dX3_rouses_84 (congrArg (fun o => o.map Value.int) hf)
  refine lv_aload_n hx hb dX3_rouses_0 rfl (lv_at hl 0 rfl) ?_
  refine gf_X3 (v := .int k_act) C hE hP 0 3 rfl (by decide) qF_X3_21 rfl dX3_rouses_1 ?_
  refine lv_iconst (v := 1) hx hb dX3_rouses_4 (by decide) ?_
  refine lv_icmp_eq (tgt := 24) hx hb dX3_rouses_5 (by decide) (fun c30 => ?_) (fun c30 => ?_)
  · have hf := it_p hf c30
    refine lv_iconst (v := 1) hx hb dX3_rouses_24 (by decide) ?_
    refine lv_goto (tgt := 29) hx hb dX3_rouses_25 (by decide) ?_
    refine lv_istore_n (lv' := [(2, .int 1), (0, .ref a0), (1, .ref a1)]) hx hb dX3_rouses_29 rfl hl (by decide) rfl (fun ls hl => ?_)
    refine lv_iload_n hx hb dX3_rouses_30 rfl (lv_at hl 0 rfl) ?_
    refine lv_if_eq (tgt := 44) hx hb dX3_rouses_31 (by decide) (fun c => absurd c (by decide)) (fun c => ?_)
    refine lv_aload_n hx hb dX3_rouses_34 rfl (lv_at hl 2 rfl) ?_
    refine lv_iconst (v := 2) hx hb dX3_rouses_35 (by decide) ?_
    obtain ⟨r1, h2, hf⟩ := bd_s hf
    refine iv_R (rest := []) (st1 := [.int r1]) C hE (hP.sub [1] rfl) (c_X3_hearsKind l D cI cZ cL cW F a1 k_o1_kind k_o1_divisor k_o1_rest k_o1_act k_o1_shift k_o1_weight k_o1_on k_o1_heardSoFar k_o1_didSoFar 2 r1  h2) ok_X3_hearsKind qM_X3_46 rfl rfl ⟨(Nat.le_of_ble_eq_true rfl), (Nat.le_of_ble_eq_true rfl)⟩ rfl rfl hl.1 (Nat.le_of_ble_eq_true rfl) ⟨Nat.zero_le _, Nat.zero_le _⟩ dX3_rouses_36 rfl rfl ?_
    refine lv_if_eq (tgt := 44) hx hb dX3_rouses_39 (by decide) (fun c15 => ?_) (fun c15 => ?_)
    · have hf := it_p hf c15
      refine lv_aload_n hx hb dX3_rouses_44 rfl (lv_at hl 1 rfl) ?_
      refine lv_aload_n hx hb dX3_rouses_45 rfl (lv_at hl 2 rfl) ?_
      obtain ⟨r3, h4, hf⟩ := bd_s hf
      refine iv_R (rest := []) (st1 := [.int r3]) C hE hP (c_X3_makesKindFor l D cI cZ cL cW F a0 a1 k_kind k_divisor k_rest k_act k_shift k_weight k_on k_heardSoFar k_didSoFar k_o1_kind k_o1_divisor k_o1_rest k_o1_act k_o1_shift k_o1_weight k_o1_on k_o1_heardSoFar k_o1_didSoFar  r3  h4) ok_X3_makesKindFor qM_X3_50 rfl rfl ⟨(Nat.le_of_ble_eq_true rfl), (Nat.le_of_ble_eq_true rfl)⟩ rfl rfl hl.1 (Nat.le_of_ble_eq_true rfl) ⟨Nat.zero_le _, Nat.zero_le _⟩ dX3_rouses_46 rfl rfl ?_
      refine lv_if_ne (tgt := 54) hx hb dX3_rouses_49 (by decide) (fun c14 => ?_) (fun c14 => ?_)
      · have hf := it_n hf c14
        refine lv_iconst (v := 0) hx hb dX3_rouses_54 (by decide) ?_
        refine lv_istore_n (lv' := [(3, .int 0), (2, .int 1), (0, .ref a0), (1, .ref a1)]) hx hb dX3_rouses_55 rfl hl (by decide) rfl (fun ls hl => ?_)
        exact L56 F 0 ls hf (lv_sub hl [2, 3, 0] rfl)
      · have hf := it_p hf c14
        refine lv_iconst (v := 0) hx hb dX3_rouses_52 (by decide) ?_
        exact rt_z C hr hlk (by decide) dX3_rouses_53 (congrArg (fun o => o.map Value.int) hf)
    · have hf := it_n hf c15
      refine lv_iconst (v := 1) hx hb dX3_rouses_42 (by decide) ?_
      exact rt_z C hr hlk (by decide) dX3_rouses_43 (congrArg (fun o => o.map Value.int) hf)
  · have hf := it_n hf c30
    refine lv_aload_n hx hb dX3_rouses_8 rfl (lv_at hl 0 rfl) ?_
    refine gf_X3 (v := .int k_act) C hE hP 0 3 rfl (by decide) qF_X3_21 rfl dX3_rouses_9 ?_
    refine lv_bipush (v := 6) hx hb dX3_rouses_12 (by decide) ?_
    refine lv_icmp_ne (tgt := 28) hx hb dX3_rouses_14 (by decide) (fun c29 => ?_) (fun c29 => ?_)
    · have hf := it_n hf c29
      refine lv_iconst (v := 0) hx hb dX3_rouses_28 (by decide) ?_
      refine lv_istore_n (lv' := [(2, .int 0), (0, .ref a0), (1, .ref a1)]) hx hb dX3_rouses_29 rfl hl (by decide) rfl (fun ls hl => ?_)
      refine lv_iload_n hx hb dX3_rouses_30 rfl (lv_at hl 0 rfl) ?_
      refine lv_if_eq (tgt := 44) hx hb dX3_rouses_31 (by decide) (fun c => ?_) (fun c => absurd c (by decide))
      refine lv_aload_n hx hb dX3_rouses_44 rfl (lv_at hl 1 rfl) ?_
      refine lv_aload_n hx hb dX3_rouses_45 rfl (lv_at hl 2 rfl) ?_
      obtain ⟨r16, h17, hf⟩ := bd_s hf
      refine iv_R (rest := []) (st1 := [.int r16]) C hE hP (c_X3_makesKindFor l D cI cZ cL cW F a0 a1 k_kind k_divisor k_rest k_act k_shift k_weight k_on k_heardSoFar k_didSoFar k_o1_kind k_o1_divisor k_o1_rest k_o1_act k_o1_shift k_o1_weight k_o1_on k_o1_heardSoFar k_o1_didSoFar  r16  h17) ok_X3_makesKindFor qM_X3_50 rfl rfl ⟨(Nat.le_of_ble_eq_true rfl), (Nat.le_of_ble_eq_true rfl)⟩ rfl rfl hl.1 (Nat.le_of_ble_eq_true rfl) ⟨Nat.zero_le _, Nat.zero_le _⟩ dX3_rouses_46 rfl rfl ?_
      refine lv_if_ne (tgt := 54) hx hb dX3_rouses_49 (by decide) (fun c18 => ?_) (fun c18 => ?_)
      · have hf := it_n hf c18
        refine lv_iconst (v := 0) hx hb dX3_rouses_54 (by decide) ?_
        refine lv_istore_n (lv' := [(3, .int 0), (2, .int 0), (0, .ref a0), (1, .ref a1)]) hx hb dX3_rouses_55 rfl hl (by decide) rfl (fun ls hl => ?_)
        exact L56 F 0 ls hf (lv_sub hl [2, 3, 0] rfl)
      · have hf := it_p hf c18
        refine lv_iconst (v := 0) hx hb dX3_rouses_52 (by decide) ?_
        exact rt_z C hr hlk (by decide) dX3_rouses_53 (congrArg (fun o => o.map Value.int) hf)
    · have hf := it_p hf c29
      refine lv_aload_n hx hb dX3_rouses_17 rfl (lv_at hl 0 rfl) ?_
      refine gf_X3 (v := .int k_shift) C hE hP 0 4 rfl (by decide) qF_X3_24 rfl dX3_rouses_18 ?_
      refine lv_if_ge (tgt := 28) hx hb dX3_rouses_21 (by decide) (fun c28 => ?_) (fun c28 => ?_)
      · have hf := it_p hf c28
        refine lv_iconst (v := 0) hx hb dX3_rouses_28 (by decide) ?_
        refine lv_istore_n (lv' := [(2, .int 0), (0, .ref a0), (1, .ref a1)]) hx hb dX3_rouses_29 rfl hl (by decide) rfl (fun ls hl => ?_)
        refine lv_iload_n hx hb dX3_rouses_30 rfl (lv_at hl 0 rfl) ?_
        refine lv_if_eq (tgt := 44) hx hb dX3_rouses_31 (by decide) (fun c => ?_) (fun c => absurd c (by decide))
        refine lv_aload_n hx hb dX3_rouses_44 rfl (lv_at hl 1 rfl) ?_
        refine lv_aload_n hx hb dX3_rouses_45 rfl (lv_at hl 2 rfl) ?_
        obtain ⟨r19, h20, hf⟩ := bd_s hf
        refine iv_R (rest := []) (st1 := [.int r19]) C hE hP (c_X3_makesKindFor l D cI cZ cL cW F a0 a1 k_kind k_divisor k_rest k_act k_shift k_weight k_on k_heardSoFar k_didSoFar k_o1_kind k_o1_divisor k_o1_rest k_o1_act k_o1_shift k_o1_weight k_o1_on k_o1_heardSoFar k_o1_didSoFar  r19  h20) ok_X3_makesKindFor qM_X3_50 rfl rfl ⟨(Nat.le_of_ble_eq_true rfl), (Nat.le_of_ble_eq_true rfl)⟩ rfl rfl hl.1 (Nat.le_of_ble_eq_true rfl) ⟨Nat.zero_le _, Nat.zero_le _⟩ dX3_rouses_46 rfl rfl ?_
        refine lv_if_ne (tgt := 54) hx hb dX3_rouses_49 (by decide) (fun c21 => ?_) (fun c21 => ?_)
        · have hf := it_n hf c21
          refine lv_iconst (v := 0) hx hb dX3_rouses_54 (by decide) ?_
          refine lv_istore_n (lv' := [(3, .int 0), (2, .int 0), (0, .ref a0), (1, .ref a1)]) hx hb dX3_rouses_55 rfl hl (by decide) rfl (fun ls hl => ?_)
          exact L56 F 0 ls hf (lv_sub hl [2, 3, 0] rfl)
        · have hf := it_p hf c21
          refine lv_iconst (v := 0) hx hb dX3_rouses_52 (by decide) ?_
          exact rt_z C hr hlk (by decide) dX3_rouses_53 (congrArg (fun o => o.map Value.int) hf)
      · have hf := it_n hf c28
        refine lv_iconst (v := 1) hx hb dX3_rouses_24 (by decide) ?_
        refine lv_goto (tgt := 29) hx hb dX3_rouses_25 (by decide) ?_
        refine lv_istore_n (lv' := [(2, .int 1), (0, .ref a0), (1, .ref a1)]) hx hb dX3_rouses_29 rfl hl (by decide) rfl (fun ls hl => ?_)
        refine lv_iload_n hx hb dX3_rouses_30 rfl (lv_at hl 0 rfl) ?_
        refine lv_if_eq (tgt := 44) hx hb dX3_rouses_31 (by decide) (fun c => absurd c (by decide)) (fun c => ?_)
        refine lv_aload_n hx hb dX3_rouses_34 rfl (lv_at hl 2 rfl) ?_
        refine lv_iconst (v := 2) hx hb dX3_rouses_35 (by decide) ?_
        obtain ⟨r22, h23, hf⟩ := bd_s hf
        refine iv_R (rest := []) (st1 := [.int r22]) C hE (hP.sub [1] rfl) (c_X3_hearsKind l D cI cZ cL cW F a1 k_o1_kind k_o1_divisor k_o1_rest k_o1_act k_o1_shift k_o1_weight k_o1_on k_o1_heardSoFar k_o1_didSoFar 2 r22  h23) ok_X3_hearsKind qM_X3_46 rfl rfl ⟨(Nat.le_of_ble_eq_true rfl), (Nat.le_of_ble_eq_true rfl)⟩ rfl rfl hl.1 (Nat.le_of_ble_eq_true rfl) ⟨Nat.zero_le _, Nat.zero_le _⟩ dX3_rouses_36 rfl rfl ?_
        refine lv_if_eq (tgt := 44) hx hb dX3_rouses_39 (by decide) (fun c27 => ?_) (fun c27 => ?_)
        · have hf := it_p hf c27
          refine lv_aload_n hx hb dX3_rouses_44 rfl (lv_at hl 1 rfl) ?_
          refine lv_aload_n hx hb dX3_rouses_45 rfl (lv_at hl 2 rfl) ?_
          obtain ⟨r24, h25, hf⟩ := bd_s hf
          refine iv_R (rest := []) (st1 := [.int r24]) C hE hP (c_X3_makesKindFor l D cI cZ cL cW F a0 a1 k_kind k_divisor k_rest k_act k_shift k_weight k_on k_heardSoFar k_didSoFar k_o1_kind k_o1_divisor k_o1_rest k_o1_act k_o1_shift k_o1_weight k_o1_on k_o1_heardSoFar k_o1_didSoFar  r24  h25) ok_X3_makesKindFor qM_X3_50 rfl rfl ⟨(Nat.le_of_ble_eq_true rfl), (Nat.le_of_ble_eq_true rfl)⟩ rfl rfl hl.1 (Nat.le_of_ble_eq_true rfl) ⟨Nat.zero_le _, Nat.zero_le _⟩ dX3_rouses_46 rfl rfl ?_
          refine lv_if_ne (tgt := 54) hx hb dX3_rouses_49 (by decide) (fun c26 => ?_) (fun c26 => ?_)
          · have hf := it_n hf c26
            refine lv_iconst (v := 0) hx hb dX3_rouses_54 (by decide) ?_
            refine lv_istore_n (lv' := [(3, .int 0), (2, .int 1), (0, .ref a0), (1, .ref a1)]) hx hb dX3_rouses_55 rfl hl (by decide) rfl (fun ls hl => ?_)
            exact L56 F 0 ls hf (lv_sub hl [2, 3, 0] rfl)
          · have hf := it_p hf c26
            refine lv_iconst (v := 0) hx hb dX3_rouses_52 (by decide) ?_
            exact rt_z C hr hlk (by decide) dX3_rouses_53 (congrArg (fun o => o.map Value.int) hf)
        · have hf := it_n hf c27
          refine lv_iconst (v := 1) hx hb dX3_rouses_42 (by decide) ?_
          exact rt_z C hr hlk (by decide) dX3_rouses_43 (congrArg (fun o => o.map Value.int) hf)
