def J7_rangeCheck_23922 (F : Nat) (p1 : Int32) (p2 : Int32) (p3 : Int32) : Option (Unit) := if (p2 : Int32) ≤ p3 then (if (0 : Int32) ≤ p2 then (if (p3 : Int32) ≤ p1 then (some ()) else (none)) else (none)) else (none)
abbrev rm_J7_rangeCheck_23922 : Room := { frames := 0, cells := 0, slots := 0, locals := 0 }
theorem ok_J7_rangeCheck_23922 : OKS yJ7_rangeCheck_23922 cJ7_rangeCheck_23922 3 none 3 := ⟨by decide +kernel, qS_J7_rangeCheck_23922, qI_J7, qD_J7_rangeCheck_23922⟩
set_option maxHeartbeats 4000000 in
set_option maxRecDepth 100000 in
theorem c_J7_rangeCheck_23922 (l : Launch) (D : va_G) (cI cZ cL cW : ClassId) (F : Nat) (p1 : Int32) (p2 : Int32) (p3 : Int32) (hf : J7_rangeCheck_23922 F p1 p2 p3 = some ()) : CtrR l D (tyL cI cZ cL cW) nestW yJ7_rangeCheck_23922 cJ7_rangeCheck_23922 3 none rm_J7_rangeCheck_23922 [.int p1, .int p2, .int p3] ([] : va_W) none := by
  refine ofR RJ7 (by decide) rfl (Nat.le_of_ble_eq_true rfl) ?_
  intro p e s m below meth c ls C hr hlk hE hP hl
  generalize (List.toArray ([.int p1, .int p2, .int p3] : List Value)) = args at C ⊢
  obtain ⟨hx, hb, hml, hown, ht⟩ := id C
  have hl : lv_has ls 3 [(0, .int p1), (1, .int p2), (2, .int p3)] := hl
  refine lv_iload_n hx hb dJ7_rangeCheck_23922_0 rfl (lv_at hl 1 rfl) ?_
  refine lv_iload_n hx hb dJ7_rangeCheck_23922_1 rfl (lv_at hl 2 rfl) ?_
  refine lv_icmp_le (tgt := 46) hx hb dJ7_rangeCheck_23922_2 (by decide) (fun c3 => ?_) (fun c3 => ?_)
  · have hf := it_p hf c3
    refine lv_iload_n hx hb dJ7_rangeCheck_23922_46 rfl (lv_at hl 1 rfl) ?_
    refine lv_if_ge (tgt := 59) hx hb dJ7_rangeCheck_23922_47 (by decide) (fun c2 => ?_) (fun c2 => ?_)
    · have hf := it_p hf c2
      refine lv_iload_n hx hb dJ7_rangeCheck_23922_59 rfl (lv_at hl 2 rfl) ?_
      refine lv_iload_n hx hb dJ7_rangeCheck_23922_60 rfl (lv_at hl 0 rfl) ?_
      refine lv_icmp_le (tgt := 73) hx hb dJ7_rangeCheck_23922_61 (by decide) (fun c1 => ?_) (fun c1 => ?_)
      · have hf := it_p hf c1
        exact rt_v C hr hlk dJ7_rangeCheck_23922_73
      · have hf := it_n hf c1
        exact nn_s hf
    · have hf := it_n hf c2
      exact nn_s hf
  · have hf := it_n hf c3
    exact nn_s hf
def J7_fill_53178_L5 (F : Nat) : Nat → Int32 → Int32 → Int32 → (Nat → Int32) → Option ((Nat → Int32))
  | 0, _, _, _, _ => none
  | n + 1, v1, v2, v3, k_o1_f => if (v3 : Int32) ≤ v2 then (some k_o1_f) else (if (v2 : Int32) < 0 ∨ 7 ≤ (Int32.toNatClampNeg v2) then none else (J7_fill_53178_L5 F n v1 (v2 + 1) v3 (upd k_o1_f (Int32.toNatClampNeg v2) v1)))
def J7_fill_53178 (F : Nat) (p2 : Int32) (k_o1_f : (Nat → Int32)) : Option ((Nat → Int32)) := (J7_fill_53178_L5 F F p2 0 7 k_o1_f).bind fun k3 => (some k3)
abbrev rm_J7_fill_53178 : Room := { frames := 0, cells := 0, slots := 0, locals := 0 }
theorem ok_J7_fill_53178 : OKS yJ7_fill_53178 cJ7_fill_53178 4 none 2 := ⟨by decide +kernel, qS_J7_fill_53178, qI_J7, qD_J7_fill_53178⟩
set_option maxHeartbeats 4000000 in
set_option maxRecDepth 100000 in
theorem c_J7_fill_53178 (l : Launch) (D : va_G) (cI cZ cL cW : ClassId) (F : Nat) (a0 : Nat) (k_o1_f : (Nat → Int32)) (p2 : Int32) (k_o1_f' : (Nat → Int32)) (hf : J7_fill_53178 F p2 k_o1_f = some (k_o1_f')) : CtrW l D (tyL cI cZ cL cW) nestW yJ7_fill_53178 cJ7_fill_53178 4 none rm_J7_fill_53178 [.ref a0, .int p2] ([(a0, .inl (cI, 7, .inl k_o1_f))]) ([(a0, .inl (cI, 7, .inl (k_o1_f')))]) none := by
  refine ofA RJ7 (by decide) rfl (Nat.le_of_ble_eq_true rfl) ?_
  intro p e s m below meth c ls A C hr hlk hE hA hP hD hS hl
  generalize (List.toArray ([.ref a0, .int p2] : List Value)) = args at C ⊢
  obtain ⟨hx, hb, hml, hown, ht⟩ := id C
  have hl : lv_has ls 4 [(0, .ref a0), (1, .int p2)] := hl
  have L5 : ∀ (Q : State → Prop) (n : Nat) (v1 : Int32) (v2 : Int32) (v3 : Int32) (k_o1_f : (Nat → Int32)) (k_o1_f' : (Nat → Int32)) (H : Heap) (locs : List Loc) (ls : Array Slot), J7_fill_53178_L5 F n v1 v2 v3 k_o1_f = some (k_o1_f') → va_P D vwCl ([(a0, .inl (cI, 7, .inl k_o1_f))]) H → va_D A ([(a0, .inl (cI, 7, .inl k_o1_f))]) → va_S A s.heap H locs → lv_has ls 4 [(0, .ref a0), (1, .int v1), (2, .int v2), (3, .int v3)] → (∀ (H : Heap) (locs : List Loc) (ls : Array Slot), va_P D vwCl ([(a0, .inl (cI, 7, .inl (k_o1_f')))]) H → va_D A ([(a0, .inl (cI, 7, .inl (k_o1_f')))]) → va_S A s.heap H locs → lv_has ls 4 [] → W p l e rm_J7_fill_53178 s m args below meth c H locs 0 0 Q (F0 m 20 ls [])) → W p l e rm_J7_fill_53178 s m args below meth c H locs 0 0 Q (F0 m 5 ls []) := by
    intro Q n
    induction n with
    | zero => intro v1 v2 v3 k_o1_f k_o1_f' H locs ls hf hP hD hS hl hk; exact nn_s hf
    | succ n ih =>
      intro v1 v2 v3 k_o1_f k_o1_f' H locs ls hf hP hD hS hl hk
      refine lv_iload_n hx hb dJ7_fill_53178_5 rfl (lv_at hl 2 rfl) ?_
      refine lv_iload_n hx hb dJ7_fill_53178_6 rfl (lv_at hl 3 rfl) ?_
      refine lv_icmp_ge (tgt := 20) hx hb dJ7_fill_53178_7 (by decide) (fun c2 => ?_) (fun c2 => ?_)
      · have hf := it_p hf c2
        cases hf
        exact hk _ _ ls hP hD hS (lv_sub hl [] rfl)
      · have hf := it_n hf c2
        refine lv_aload_n hx hb dJ7_fill_53178_10 rfl (lv_at hl 0 rfl) ?_
        refine lv_iload_n hx hb dJ7_fill_53178_11 rfl (lv_at hl 2 rfl) ?_
        refine lv_iload_n hx hb dJ7_fill_53178_12 rfl (lv_at hl 1 rfl) ?_
        obtain ⟨g1, hf⟩ := it_g hf
        refine va_iast hx hb hE.1 hP hD hS 0 0 rfl rfl g1 dJ7_fill_53178_13 (fun H locs (hP : va_P D vwCl ([(a0, .inl (cI, 7, .inl (upd k_o1_f (Int32.toNatClampNeg v2) v1)))]) H) (hD : va_D A ([(a0, .inl (cI, 7, .inl (upd k_o1_f (Int32.toNatClampNeg v2) v1)))])) hS => ?_)
        refine lv_iinc (v := (v2 + 1)) (lv' := [(2, .int (v2 + 1)), (0, .ref a0), (1, .int v1), (3, .int v3)]) hx hb dJ7_fill_53178_14 hl (k := 2) rfl rfl (by decide) rfl (fun ls hl => ?_)
        refine lv_goto (tgt := 5) hx hb dJ7_fill_53178_17 (by decide) ?_
        exact ih v1 (v2 + 1) v3 (upd k_o1_f (Int32.toNatClampNeg v2) v1) _ _ _ ls hf hP hD hS (lv_sub hl [1, 2, 0, 3] rfl) hk
  refine lv_iconst (v := 0) hx hb dJ7_fill_53178_0 (by decide) ?_
  refine lv_istore_n (lv' := [(2, .int 0), (0, .ref a0), (1, .int p2)]) hx hb dJ7_fill_53178_1 rfl hl (by decide) rfl (fun ls hl => ?_)
  refine lv_aload_n hx hb dJ7_fill_53178_2 rfl (lv_at hl 1 rfl) ?_
  refine va_alen (v := 7) hx hb hE.1 hP 0 0 rfl rfl rfl dJ7_fill_53178_3 ?_
  refine lv_istore_n (lv' := [(3, .int 7), (2, .int 0), (0, .ref a0), (1, .int p2)]) hx hb dJ7_fill_53178_4 rfl hl (by decide) rfl (fun ls hl => ?_)
  obtain ⟨k3, h4, hf⟩ := bd_s hf
  refine L5 _ F p2 0 7 k_o1_f k3 _ _ ls h4 hP hD hS (lv_sub hl [2, 3, 1, 0] rfl) (fun H locs ls hP hD hS hl => ?_)
  cases hf
  exact rw_v C hr hlk hP hD hS dJ7_fill_53178_20
def J7_fill_fda19_L10 (F : Nat) : Nat → Int32 → Int32 → Int32 → (Nat → Int32) → Option ((Nat → Int32))
  | 0, _, _, _, _ => none
  | n + 1, v2, v3, v4, k_o1_f => if (v2 : Int32) ≤ v4 then (some k_o1_f) else (if (v4 : Int32) < 0 ∨ 5001 ≤ (Int32.toNatClampNeg v4) then none else (J7_fill_fda19_L10 F n v2 v3 (v4 + 1) (upd k_o1_f (Int32.toNatClampNeg v4) v3)))
def J7_fill_fda19 (F : Nat) (p2 : Int32) (p3 : Int32) (p4 : Int32) (k_o1_f : (Nat → Int32)) : Option ((Nat → Int32)) := (J7_rangeCheck_23922 F 5001 p2 p3).bind fun _ => ((J7_fill_fda19_L10 F F p3 p4 p2 k_o1_f).bind fun k4 => (some k4))
abbrev rm_J7_fill_fda19 : Room := { frames := 1, cells := 0, slots := 0, locals := 22 }
theorem ok_J7_fill_fda19 : OKS yJ7_fill_fda19 cJ7_fill_fda19 5 none 4 := ⟨by decide +kernel, qS_J7_fill_fda19, qI_J7, qD_J7_fill_fda19⟩
set_option maxHeartbeats 4000000 in
set_option maxRecDepth 100000 in
theorem c_J7_fill_fda19 (l : Launch) (D : va_G) (cI cZ cL cW : ClassId) (F : Nat) (a0 : Nat) (k_o1_f : (Nat → Int32)) (p2 : Int32) (p3 : Int32) (p4 : Int32) (k_o1_f' : (Nat → Int32)) (hf : J7_fill_fda19 F p2 p3 p4 k_o1_f = some (k_o1_f')) : CtrW l D (tyL cI cZ cL cW) nestW yJ7_fill_fda19 cJ7_fill_fda19 5 none rm_J7_fill_fda19 [.ref a0, .int p2, .int p3, .int p4] ([(a0, .inl (cI, 5001, .inl k_o1_f))]) ([(a0, .inl (cI, 5001, .inl (k_o1_f')))]) none := by
  refine ofA RJ7 (by decide) rfl (Nat.le_of_ble_eq_true rfl) ?_
  intro p e s m below meth c ls A C hr hlk hE hA hP hD hS hl
  generalize (List.toArray ([.ref a0, .int p2, .int p3, .int p4] : List Value)) = args at C ⊢
  obtain ⟨hx, hb, hml, hown, ht⟩ := id C
  have hl : lv_has ls 5 [(0, .ref a0), (1, .int p2), (2, .int p3), (3, .int p4)] := hl
  have L10 : ∀ (Q : State → Prop) (n : Nat) (v2 : Int32) (v3 : Int32) (v4 : Int32) (k_o1_f : (Nat → Int32)) (k_o1_f' : (Nat → Int32)) (H : Heap) (locs : List Loc) (ls : Array Slot), J7_fill_fda19_L10 F n v2 v3 v4 k_o1_f = some (k_o1_f') → va_P D vwCl ([(a0, .inl (cI, 5001, .inl k_o1_f))]) H → va_D A ([(a0, .inl (cI, 5001, .inl k_o1_f))]) → va_S A s.heap H locs → lv_has ls 5 [(0, .ref a0), (2, .int v2), (3, .int v3), (4, .int v4)] → (∀ (H : Heap) (locs : List Loc) (ls : Array Slot), va_P D vwCl ([(a0, .inl (cI, 5001, .inl (k_o1_f')))]) H → va_D A ([(a0, .inl (cI, 5001, .inl (k_o1_f')))]) → va_S A s.heap H locs → lv_has ls 5 [] → W p l e rm_J7_fill_fda19 s m args below meth c H locs 0 0 Q (F0 m 27 ls [])) → W p l e rm_J7_fill_fda19 s m args below meth c H locs 0 0 Q (F0 m 10 ls []) := by
    intro Q n
    induction n with
    | zero => intro v2 v3 v4 k_o1_f k_o1_f' H locs ls hf hP hD hS hl hk; exact nn_s hf
    | succ n ih =>
      intro v2 v3 v4 k_o1_f k_o1_f' H locs ls hf hP hD hS hl hk
      refine lv_iload hx hb dJ7_fill_fda19_10 (lv_at hl 3 rfl) ?_
      refine lv_iload_n hx hb dJ7_fill_fda19_12 rfl (lv_at hl 1 rfl) ?_
      refine lv_icmp_ge (tgt := 27) hx hb dJ7_fill_fda19_13 (by decide) (fun c3 => ?_) (fun c3 => ?_)
      · have hf := it_p hf c3
        cases hf
        exact hk _ _ ls hP hD hS (lv_sub hl [] rfl)
      · have hf := it_n hf c3
        refine lv_aload_n hx hb dJ7_fill_fda19_16 rfl (lv_at hl 0 rfl) ?_
        refine lv_iload hx hb dJ7_fill_fda19_17 (lv_at hl 3 rfl) ?_
        refine lv_iload_n hx hb dJ7_fill_fda19_19 rfl (lv_at hl 2 rfl) ?_
        obtain ⟨g2, hf⟩ := it_g hf
        refine va_iast hx hb hE.1 hP hD hS 0 0 rfl rfl g2 dJ7_fill_fda19_20 (fun H locs (hP : va_P D vwCl ([(a0, .inl (cI, 5001, .inl (upd k_o1_f (Int32.toNatClampNeg v4) v3)))]) H) (hD : va_D A ([(a0, .inl (cI, 5001, .inl (upd k_o1_f (Int32.toNatClampNeg v4) v3)))])) hS => ?_)
        refine lv_iinc (v := (v4 + 1)) (lv' := [(4, .int (v4 + 1)), (0, .ref a0), (2, .int v2), (3, .int v3)]) hx hb dJ7_fill_fda19_21 hl (k := 3) rfl rfl (by decide) rfl (fun ls hl => ?_)
        refine lv_goto (tgt := 10) hx hb dJ7_fill_fda19_24 (by decide) ?_
        exact ih v2 v3 (v4 + 1) (upd k_o1_f (Int32.toNatClampNeg v4) v3) _ _ _ ls hf hP hD hS (lv_sub hl [1, 2, 3, 0] rfl) hk
  refine lv_aload_n hx hb dJ7_fill_fda19_0 rfl (lv_at hl 0 rfl) ?_
  refine va_alen (v := 5001) hx hb hE.1 hP 0 0 rfl rfl rfl dJ7_fill_fda19_1 ?_
  refine lv_iload_n hx hb dJ7_fill_fda19_2 rfl (lv_at hl 1 rfl) ?_
  refine lv_iload_n hx hb dJ7_fill_fda19_3 rfl (lv_at hl 2 rfl) ?_
  obtain ⟨_, h1, hf⟩ := bd_s hf
  refine is_R (rest := []) (st1 := []) C hE va_P_nil (c_J7_rangeCheck_23922 l D cI cZ cL cW F   5001 p2 p3   h1) ok_J7_rangeCheck_23922 qM_J7_13 rfl rfl ⟨(Nat.le_of_ble_eq_true rfl), (Nat.le_of_ble_eq_true rfl)⟩ hl.1 (Nat.le_of_ble_eq_true rfl) ⟨Nat.zero_le _, Nat.zero_le _⟩ dJ7_fill_fda19_4 rfl rfl ?_
  refine lv_iload_n hx hb dJ7_fill_fda19_7 rfl (lv_at hl 1 rfl) ?_
  refine lv_istore (lv' := [(4, .int p2), (0, .ref a0), (1, .int p2), (2, .int p3), (3, .int p4)]) hx hb dJ7_fill_fda19_8 hl (by decide) rfl (fun ls hl => ?_)
  obtain ⟨k4, h5, hf⟩ := bd_s hf
  refine L10 _ F p3 p4 p2 k_o1_f k4 _ _ ls h5 hP hD hS (lv_sub hl [1, 3, 4, 0] rfl) (fun H locs ls hP hD hS hl => ?_)
  cases hf
  exact rw_v C hr hlk hP hD hS dJ7_fill_fda19_27
def X9_within (F : Nat) (p1 : Int32) (p2 : Int32) (p3 : Int32) : Option (Int32) := if (p1 : Int32) < p2 then (some 0) else (if (p3 : Int32) < p1 then (some 0) else (some 1))
abbrev rm_X9_within : Room := { frames := 0, cells := 0, slots := 0, locals := 0 }
theorem ok_X9_within : OKS yX9_within cX9_within 3 (some .boolean) 3 := ⟨by decide +kernel, qS_X9_within, qI_X9, qD_X9_within⟩
set_option maxHeartbeats 4000000 in
set_option maxRecDepth 100000 in
theorem c_X9_within (l : Launch) (D : va_G) (cI cZ cL cW : ClassId) (F : Nat) (p1 : Int32) (p2 : Int32) (p3 : Int32) (r : Int32) (hf : X9_within F p1 p2 p3 = some r) : CtrR l D (tyL cI cZ cL cW) nestW yX9_within cX9_within 3 (some .boolean) rm_X9_within [.int p1, .int p2, .int p3] ([] : va_W) (some (.int r)) := by
  refine ofR RX9 (by decide) rfl (Nat.le_of_ble_eq_true rfl) ?_
  intro p e s m below meth c ls C hr hlk hE hP hl
  generalize (List.toArray ([.int p1, .int p2, .int p3] : List Value)) = args at C ⊢
  obtain ⟨hx, hb, hml, hown, ht⟩ := id C
  have hl : lv_has ls 3 [(0, .int p1), (1, .int p2), (2, .int p3)] := hl
  refine lv_iload_n hx hb dX9_within_0 rfl (lv_at hl 0 rfl) ?_
  refine lv_iload_n hx hb dX9_within_1 rfl (lv_at hl 1 rfl) ?_
  refine lv_icmp_lt (tgt := 14) hx hb dX9_within_2 (by decide) (fun c2 => ?_) (fun c2 => ?_)
  · have hf := it_p hf c2
    refine lv_iconst (v := 0) hx hb dX9_within_14 (by decide) ?_
    exact rt_z C hr hlk (by decide) dX9_within_15 (congrArg (fun o => o.map Value.int) hf)
  · have hf := it_n hf c2
    refine lv_iload_n hx hb dX9_within_5 rfl (lv_at hl 0 rfl) ?_
    refine lv_iload_n hx hb dX9_within_6 rfl (lv_at hl 2 rfl) ?_
    refine lv_icmp_gt (tgt := 14) hx hb dX9_within_7 (by decide) (fun c1 => ?_) (fun c1 => ?_)
    · have hf := it_p hf c1
      refine lv_iconst (v := 0) hx hb dX9_within_14 (by decide) ?_
      exact rt_z C hr hlk (by decide) dX9_within_15 (congrArg (fun o => o.map Value.int) hf)
    · have hf := it_n hf c1
      refine lv_iconst (v := 1) hx hb dX9_within_10 (by decide) ?_
      refine lv_goto (tgt := 15) hx hb dX9_within_11 (by decide) ?_
      exact rt_z C hr hlk (by decide) dX9_within_15 (congrArg (fun o => o.map Value.int) hf)
def X9_isKey (F : Nat) (p1 : Int32) : Option (Int32) := (X9_within F p1 0 999).bind fun r1 => (if ¬ (r1 = 0 ∨ r1 = 1) then none else (some r1))
abbrev rm_X9_isKey : Room := { frames := 1, cells := 0, slots := 0, locals := 22 }
theorem ok_X9_isKey : OKS yX9_isKey cX9_isKey 1 (some .boolean) 1 := ⟨by decide +kernel, qS_X9_isKey, qI_X9, qD_X9_isKey⟩
set_option maxHeartbeats 4000000 in
set_option maxRecDepth 100000 in
theorem c_X9_isKey (l : Launch) (D : va_G) (cI cZ cL cW : ClassId) (F : Nat) (p1 : Int32) (r : Int32) (hf : X9_isKey F p1 = some r) : CtrR l D (tyL cI cZ cL cW) nestW yX9_isKey cX9_isKey 1 (some .boolean) rm_X9_isKey [.int p1] ([] : va_W) (some (.int r)) := by
  refine ofR RX9 (by decide) rfl (Nat.le_of_ble_eq_true rfl) ?_
  intro p e s m below meth c ls C hr hlk hE hP hl
  generalize (List.toArray ([.int p1] : List Value)) = args at C ⊢
  obtain ⟨hx, hb, hml, hown, ht⟩ := id C
  have hl : lv_has ls 1 [(0, .int p1)] := hl
  refine lv_iload_n hx hb dX9_isKey_0 rfl (lv_at hl 0 rfl) ?_
  refine lv_iconst (v := 0) hx hb dX9_isKey_1 (by decide) ?_
  refine lv_sipush (v := 999) hx hb dX9_isKey_2 (by decide) ?_
  obtain ⟨r1, h2, hf⟩ := bd_s hf
  refine is_R (rest := []) (st1 := [.int r1]) C hE va_P_nil (c_X9_within l D cI cZ cL cW F   p1 0 999 r1  h2) ok_X9_within qM_X9_41 rfl rfl ⟨(Nat.le_of_ble_eq_true rfl), (Nat.le_of_ble_eq_true rfl)⟩ hl.1 (Nat.le_of_ble_eq_true rfl) ⟨Nat.zero_le _, Nat.zero_le _⟩ dX9_isKey_5 rfl rfl ?_
  obtain ⟨g3, hf⟩ := it_g hf
  exact rt_z C hr hlk (zb_n g3) dX9_isKey_8 (congrArg (fun o => o.map Value.int) hf)
def X9_isWeight (F : Nat) (p1 : Int32) : Option (Int32) := (X9_within F p1 1 99).bind fun r1 => (if ¬ (r1 = 0 ∨ r1 = 1) then none else (some r1))
abbrev rm_X9_isWeight : Room := { frames := 1, cells := 0, slots := 0, locals := 22 }
theorem ok_X9_isWeight : OKS yX9_isWeight cX9_isWeight 1 (some .boolean) 1 := ⟨by decide +kernel, qS_X9_isWeight, qI_X9, qD_X9_isWeight⟩
set_option maxHeartbeats 4000000 in
set_option maxRecDepth 100000 in
theorem c_X9_isWeight (l : Launch) (D : va_G) (cI cZ cL cW : ClassId) (F : Nat) (p1 : Int32) (r : Int32) (hf : X9_isWeight F p1 = some r) : CtrR l D (tyL cI cZ cL cW) nestW yX9_isWeight cX9_isWeight 1 (some .boolean) rm_X9_isWeight [.int p1] ([] : va_W) (some (.int r)) := by
  refine ofR RX9 (by decide) rfl (Nat.le_of_ble_eq_true rfl) ?_
  intro p e s m below meth c ls C hr hlk hE hP hl
  generalize (List.toArray ([.int p1] : List Value)) = args at C ⊢
  obtain ⟨hx, hb, hml, hown, ht⟩ := id C
  have hl : lv_has ls 1 [(0, .int p1)] := hl
  refine lv_iload_n hx hb dX9_isWeight_0 rfl (lv_at hl 0 rfl) ?_
  refine lv_iconst (v := 1) hx hb dX9_isWeight_1 (by decide) ?_
  refine lv_bipush (v := 99) hx hb dX9_isWeight_2 (by decide) ?_
  obtain ⟨r1, h2, hf⟩ := bd_s hf
  refine is_R (rest := []) (st1 := [.int r1]) C hE va_P_nil (c_X9_within l D cI cZ cL cW F   p1 1 99 r1  h2) ok_X9_within qM_X9_41 rfl rfl ⟨(Nat.le_of_ble_eq_true rfl), (Nat.le_of_ble_eq_true rfl)⟩ hl.1 (Nat.le_of_ble_eq_true rfl) ⟨Nat.zero_le _, Nat.zero_le _⟩ dX9_isWeight_4 rfl rfl ?_
  obtain ⟨g3, hf⟩ := it_g hf
  exact rt_z C hr hlk (zb_n g3) dX9_isWeight_7 (congrArg (fun o => o.map Value.int) hf)
def X9_isCap (F : Nat) (p1 : Int32) : Option (Int32) := (X9_within F p1 0 5000).bind fun r1 => (if ¬ (r1 = 0 ∨ r1 = 1) then none else (some r1))
abbrev rm_X9_isCap : Room := { frames := 1, cells := 0, slots := 0, locals := 22 }
theorem ok_X9_isCap : OKS yX9_isCap cX9_isCap 1 (some .boolean) 1 := ⟨by decide +kernel, qS_X9_isCap, qI_X9, qD_X9_isCap⟩
set_option maxHeartbeats 4000000 in
set_option maxRecDepth 100000 in
theorem c_X9_isCap (l : Launch) (D : va_G) (cI cZ cL cW : ClassId) (F : Nat) (p1 : Int32) (r : Int32) (hf : X9_isCap F p1 = some r) : CtrR l D (tyL cI cZ cL cW) nestW yX9_isCap cX9_isCap 1 (some .boolean) rm_X9_isCap [.int p1] ([] : va_W) (some (.int r)) := by
  refine ofR RX9 (by decide) rfl (Nat.le_of_ble_eq_true rfl) ?_
  intro p e s m below meth c ls C hr hlk hE hP hl
  generalize (List.toArray ([.int p1] : List Value)) = args at C ⊢
  obtain ⟨hx, hb, hml, hown, ht⟩ := id C
  have hl : lv_has ls 1 [(0, .int p1)] := hl
  refine lv_iload_n hx hb dX9_isCap_0 rfl (lv_at hl 0 rfl) ?_
  refine lv_iconst (v := 0) hx hb dX9_isCap_1 (by decide) ?_
  refine lv_sipush (v := 5000) hx hb dX9_isCap_2 (by decide) ?_
  obtain ⟨r1, h2, hf⟩ := bd_s hf
  refine is_R (rest := []) (st1 := [.int r1]) C hE va_P_nil (c_X9_within l D cI cZ cL cW F   p1 0 5000 r1  h2) ok_X9_within qM_X9_41 rfl rfl ⟨(Nat.le_of_ble_eq_true rfl), (Nat.le_of_ble_eq_true rfl)⟩ hl.1 (Nat.le_of_ble_eq_true rfl) ⟨Nat.zero_le _, Nat.zero_le _⟩ dX9_isCap_5 rfl rfl ?_
  obtain ⟨g3, hf⟩ := it_g hf
  exact rt_z C hr hlk (zb_n g3) dX9_isCap_8 (congrArg (fun o => o.map Value.int) hf)
def X9_isPaperCap (F : Nat) (p1 : Int32) : Option (Int32) := (X9_within F p1 0 60).bind fun r1 => (if ¬ (r1 = 0 ∨ r1 = 1) then none else (some r1))
abbrev rm_X9_isPaperCap : Room := { frames := 1, cells := 0, slots := 0, locals := 22 }
theorem ok_X9_isPaperCap : OKS yX9_isPaperCap cX9_isPaperCap 1 (some .boolean) 1 := ⟨by decide +kernel, qS_X9_isPaperCap, qI_X9, qD_X9_isPaperCap⟩
set_option maxHeartbeats 4000000 in
set_option maxRecDepth 100000 in
theorem c_X9_isPaperCap (l : Launch) (D : va_G) (cI cZ cL cW : ClassId) (F : Nat) (p1 : Int32) (r : Int32) (hf : X9_isPaperCap F p1 = some r) : CtrR l D (tyL cI cZ cL cW) nestW yX9_isPaperCap cX9_isPaperCap 1 (some .boolean) rm_X9_isPaperCap [.int p1] ([] : va_W) (some (.int r)) := by
  refine ofR RX9 (by decide) rfl (Nat.le_of_ble_eq_true rfl) ?_
  intro p e s m below meth c ls C hr hlk hE hP hl
  generalize (List.toArray ([.int p1] : List Value)) = args at C ⊢
  obtain ⟨hx, hb, hml, hown, ht⟩ := id C
  have hl : lv_has ls 1 [(0, .int p1)] := hl
  refine lv_iload_n hx hb dX9_isPaperCap_0 rfl (lv_at hl 0 rfl) ?_
  refine lv_iconst (v := 0) hx hb dX9_isPaperCap_1 (by decide) ?_
  refine lv_bipush (v := 60) hx hb dX9_isPaperCap_2 (by decide) ?_
  obtain ⟨r1, h2, hf⟩ := bd_s hf
  refine is_R (rest := []) (st1 := [.int r1]) C hE va_P_nil (c_X9_within l D cI cZ cL cW F   p1 0 60 r1  h2) ok_X9_within qM_X9_41 rfl rfl ⟨(Nat.le_of_ble_eq_true rfl), (Nat.le_of_ble_eq_true rfl)⟩ hl.1 (Nat.le_of_ble_eq_true rfl) ⟨Nat.zero_le _, Nat.zero_le _⟩ dX9_isPaperCap_4 rfl rfl ?_
  obtain ⟨g3, hf⟩ := it_g hf
  exact rt_z C hr hlk (zb_n g3) dX9_isPaperCap_7 (congrArg (fun o => o.map Value.int) hf)
def X9_isPaperWay (F : Nat) (p1 : Int32) : Option (Int32) := (X9_within F p1 0 5).bind fun r1 => (if ¬ (r1 = 0 ∨ r1 = 1) then none else (some r1))
abbrev rm_X9_isPaperWay : Room := { frames := 1, cells := 0, slots := 0, locals := 22 }
theorem ok_X9_isPaperWay : OKS yX9_isPaperWay cX9_isPaperWay 1 (some .boolean) 1 := ⟨by decide +kernel, qS_X9_isPaperWay, qI_X9, qD_X9_isPaperWay⟩
set_option maxHeartbeats 4000000 in
set_option maxRecDepth 100000 in
theorem c_X9_isPaperWay (l : Launch) (D : va_G) (cI cZ cL cW : ClassId) (F : Nat) (p1 : Int32) (r : Int32) (hf : X9_isPaperWay F p1 = some r) : CtrR l D (tyL cI cZ cL cW) nestW yX9_isPaperWay cX9_isPaperWay 1 (some .boolean) rm_X9_isPaperWay [.int p1] ([] : va_W) (some (.int r)) := by
  refine ofR RX9 (by decide) rfl (Nat.le_of_ble_eq_true rfl) ?_
  intro p e s m below meth c ls C hr hlk hE hP hl
  generalize (List.toArray ([.int p1] : List Value)) = args at C ⊢
  obtain ⟨hx, hb, hml, hown, ht⟩ := id C
  have hl : lv_has ls 1 [(0, .int p1)] := hl
  refine lv_iload_n hx hb dX9_isPaperWay_0 rfl (lv_at hl 0 rfl) ?_
  refine lv_iconst (v := 0) hx hb dX9_isPaperWay_1 (by decide) ?_
  refine lv_iconst (v := 5) hx hb dX9_isPaperWay_2 (by decide) ?_
  obtain ⟨r1, h2, hf⟩ := bd_s hf
  refine is_R (rest := []) (st1 := [.int r1]) C hE va_P_nil (c_X9_within l D cI cZ cL cW F   p1 0 5 r1  h2) ok_X9_within qM_X9_41 rfl rfl ⟨(Nat.le_of_ble_eq_true rfl), (Nat.le_of_ble_eq_true rfl)⟩ hl.1 (Nat.le_of_ble_eq_true rfl) ⟨Nat.zero_le _, Nat.zero_le _⟩ dX9_isPaperWay_3 rfl rfl ?_
  obtain ⟨g3, hf⟩ := it_g hf
  exact rt_z C hr hlk (zb_n g3) dX9_isPaperWay_6 (congrArg (fun o => o.map Value.int) hf)
def X9_isOrder (F : Nat) (p1 : Int32) : Option (Int32) := if (p1 : Int32) = 0 then (some 1) else (if (p1 : Int32) = 1 then (some 1) else (some 0))
abbrev rm_X9_isOrder : Room := { frames := 0, cells := 0, slots := 0, locals := 0 }
theorem ok_X9_isOrder : OKS yX9_isOrder cX9_isOrder 1 (some .boolean) 1 := ⟨by decide +kernel, qS_X9_isOrder, qI_X9, qD_X9_isOrder⟩
set_option maxHeartbeats 4000000 in
set_option maxRecDepth 100000 in
theorem c_X9_isOrder (l : Launch) (D : va_G) (cI cZ cL cW : ClassId) (F : Nat) (p1 : Int32) (r : Int32) (hf : X9_isOrder F p1 = some r) : CtrR l D (tyL cI cZ cL cW) nestW yX9_isOrder cX9_isOrder 1 (some .boolean) rm_X9_isOrder [.int p1] ([] : va_W) (some (.int r)) := by
  refine ofR RX9 (by decide) rfl (Nat.le_of_ble_eq_true rfl) ?_
  intro p e s m below meth c ls C hr hlk hE hP hl
  generalize (List.toArray ([.int p1] : List Value)) = args at C ⊢
  obtain ⟨hx, hb, hml, hown, ht⟩ := id C
  have hl : lv_has ls 1 [(0, .int p1)] := hl
  refine lv_iload_n hx hb dX9_isOrder_0 rfl (lv_at hl 0 rfl) ?_
  refine lv_if_eq (tgt := 9) hx hb dX9_isOrder_1 (by decide) (fun c2 => ?_) (fun c2 => ?_)
  · have hf := it_p hf c2
    refine lv_iconst (v := 1) hx hb dX9_isOrder_9 (by decide) ?_
    refine lv_goto (tgt := 14) hx hb dX9_isOrder_10 (by decide) ?_
    exact rt_z C hr hlk (by decide) dX9_isOrder_14 (congrArg (fun o => o.map Value.int) hf)
  · have hf := it_n hf c2
    refine lv_iload_n hx hb dX9_isOrder_4 rfl (lv_at hl 0 rfl) ?_
    refine lv_iconst (v := 1) hx hb dX9_isOrder_5 (by decide) ?_
    refine lv_icmp_ne (tgt := 13) hx hb dX9_isOrder_6 (by decide) (fun c1 => ?_) (fun c1 => ?_)
    · have hf := it_n hf c1
      refine lv_iconst (v := 0) hx hb dX9_isOrder_13 (by decide) ?_
      exact rt_z C hr hlk (by decide) dX9_isOrder_14 (congrArg (fun o => o.map Value.int) hf)
    · have hf := it_p hf c1
      refine lv_iconst (v := 1) hx hb dX9_isOrder_9 (by decide) ?_
      refine lv_goto (tgt := 14) hx hb dX9_isOrder_10 (by decide) ?_
      exact rt_z C hr hlk (by decide) dX9_isOrder_14 (congrArg (fun o => o.map Value.int) hf)
def X9_asInt (F : Nat) (p1 : Int32) : Option (Int32) := if (p1 : Int32) = 0 then (some 0) else (some 1)
abbrev rm_X9_asInt : Room := { frames := 0, cells := 0, slots := 0, locals := 0 }
theorem ok_X9_asInt : OKS yX9_asInt cX9_asInt 1 (some .int) 1 := ⟨by decide +kernel, qS_X9_asInt, qI_X9, qD_X9_asInt⟩
set_option maxHeartbeats 4000000 in
set_option maxRecDepth 100000 in
theorem c_X9_asInt (l : Launch) (D : va_G) (cI cZ cL cW : ClassId) (F : Nat) (p1 : Int32) (r : Int32) (hf : X9_asInt F p1 = some r) : CtrR l D (tyL cI cZ cL cW) nestW yX9_asInt cX9_asInt 1 (some .int) rm_X9_asInt [.int p1] ([] : va_W) (some (.int r)) := by
  refine ofR RX9 (by decide) rfl (Nat.le_of_ble_eq_true rfl) ?_
  intro p e s m below meth c ls C hr hlk hE hP hl
  generalize (List.toArray ([.int p1] : List Value)) = args at C ⊢
  obtain ⟨hx, hb, hml, hown, ht⟩ := id C
  have hl : lv_has ls 1 [(0, .int p1)] := hl
  refine lv_iload_n hx hb dX9_asInt_0 rfl (lv_at hl 0 rfl) ?_
  refine lv_if_eq (tgt := 8) hx hb dX9_asInt_1 (by decide) (fun c1 => ?_) (fun c1 => ?_)
  · have hf := it_p hf c1
    refine lv_iconst (v := 0) hx hb dX9_asInt_8 (by decide) ?_
    exact rt_i C hr hlk dX9_asInt_9 (congrArg (fun o => o.map Value.int) hf)
  · have hf := it_n hf c1
    refine lv_iconst (v := 1) hx hb dX9_asInt_4 (by decide) ?_
    refine lv_goto (tgt := 9) hx hb dX9_asInt_5 (by decide) ?_
    exact rt_i C hr hlk dX9_asInt_9 (congrArg (fun o => o.map Value.int) hf)
def X9_nextDraw (F : Nat) (p1 : Int32) : Option (Int32) := some ((((1103515245 * p1.toInt64) + 12345) &&& 2147483647).toInt32)
abbrev rm_X9_nextDraw : Room := { frames := 0, cells := 0, slots := 0, locals := 0 }
theorem ok_X9_nextDraw : OKS yX9_nextDraw cX9_nextDraw 1 (some .int) 1 := ⟨by decide +kernel, qS_X9_nextDraw, qI_X9, qD_X9_nextDraw⟩
set_option maxHeartbeats 4000000 in
set_option maxRecDepth 100000 in
theorem c_X9_nextDraw (l : Launch) (D : va_G) (cI cZ cL cW : ClassId) (F : Nat) (p1 : Int32) (r : Int32) (hf : X9_nextDraw F p1 = some r) : CtrR l D (tyL cI cZ cL cW) nestW yX9_nextDraw cX9_nextDraw 1 (some .int) rm_X9_nextDraw [.int p1] ([] : va_W) (some (.int r)) := by
  refine ofR RX9 (by decide) rfl (Nat.le_of_ble_eq_true rfl) ?_
  intro p e s m below meth c ls C hr hlk hE hP hl
  generalize (List.toArray ([.int p1] : List Value)) = args at C ⊢
  obtain ⟨hx, hb, hml, hown, ht⟩ := id C
  have hl : lv_has ls 1 [(0, .int p1)] := hl
  refine lv_ldc2 (v := 1103515245) hx hb hown (ht _ qJ_X9_378) dX9_nextDraw_0 ?_
  refine lv_iload_n hx hb dX9_nextDraw_3 rfl (lv_at hl 0 rfl) ?_
  refine lv_i2l hx hb dX9_nextDraw_4 rfl ?_
  refine lv_lmul hx hb dX9_nextDraw_5 ?_
  refine lv_ldc2 (v := 12345) hx hb hown (ht _ qJ_X9_380) dX9_nextDraw_6 ?_
  refine lv_ladd hx hb dX9_nextDraw_9 ?_
  refine lv_ldc2 (v := 2147483647) hx hb hown (ht _ qJ_X9_382) dX9_nextDraw_10 ?_
  refine lv_land hx hb dX9_nextDraw_13 ?_
  refine lv_l2i hx hb dX9_nextDraw_14 rfl ?_
  exact rt_i C hr hlk dX9_nextDraw_15 (congrArg (fun o => o.map Value.int) hf)
def X9_drawn (F : Nat) (p1 : Int32) (p2 : Int32) : Option (Int32) := if (p2 : Int32) ≤ 0 then (some 0) else (if p2 = 0 then none else (some ((p1 / 64) - (p1 / 64) / p2 * p2)))
abbrev rm_X9_drawn : Room := { frames := 0, cells := 0, slots := 0, locals := 0 }
theorem ok_X9_drawn : OKS yX9_drawn cX9_drawn 2 (some .int) 2 := ⟨by decide +kernel, qS_X9_drawn, qI_X9, qD_X9_drawn⟩
set_option maxHeartbeats 4000000 in
set_option maxRecDepth 100000 in
theorem c_X9_drawn (l : Launch) (D : va_G) (cI cZ cL cW : ClassId) (F : Nat) (p1 : Int32) (p2 : Int32) (r : Int32) (hf : X9_drawn F p1 p2 = some r) : CtrR l D (tyL cI cZ cL cW) nestW yX9_drawn cX9_drawn 2 (some .int) rm_X9_drawn [.int p1, .int p2] ([] : va_W) (some (.int r)) := by
  refine ofR RX9 (by decide) rfl (Nat.le_of_ble_eq_true rfl) ?_
  intro p e s m below meth c ls C hr hlk hE hP hl
  generalize (List.toArray ([.int p1, .int p2] : List Value)) = args at C ⊢
  obtain ⟨hx, hb, hml, hown, ht⟩ := id C
  have hl : lv_has ls 2 [(0, .int p1), (1, .int p2)] := hl
  refine lv_iload_n hx hb dX9_drawn_0 rfl (lv_at hl 1 rfl) ?_
  refine lv_if_le (tgt := 13) hx hb dX9_drawn_1 (by decide) (fun c2 => ?_) (fun c2 => ?_)
  · have hf := it_p hf c2
    refine lv_iconst (v := 0) hx hb dX9_drawn_13 (by decide) ?_
    exact rt_i C hr hlk dX9_drawn_14 (congrArg (fun o => o.map Value.int) hf)
  · have hf := it_n hf c2
    refine lv_iload_n hx hb dX9_drawn_4 rfl (lv_at hl 0 rfl) ?_
    refine lv_bipush (v := 64) hx hb dX9_drawn_5 (by decide) ?_
    refine lv_idiv hx hb dX9_drawn_7 (by decide) ?_
    refine lv_iload_n hx hb dX9_drawn_8 rfl (lv_at hl 1 rfl) ?_
    obtain ⟨g1, hf⟩ := it_g hf
    refine lv_irem hx hb dX9_drawn_9 g1 ?_
    refine lv_goto (tgt := 14) hx hb dX9_drawn_10 (by decide) ?_
    exact rt_i C hr hlk dX9_drawn_14 (congrArg (fun o => o.map Value.int) hf)
