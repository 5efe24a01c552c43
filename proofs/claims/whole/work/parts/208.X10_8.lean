def X10_count (F : Nat) (p1 : Int32) (k_thrown : Int32) (k_w : (Nat → Int32)) (k_o : Int32) : Option (Int32 × Int32) := if p1 = 0 then (some ((k_w (Int32.toNatClampNeg 0)), 0)) else (if p1 = 1 then ((X10_load F k_w k_o).bind fun r3 => (some (r3, 0))) else (if p1 = 2 then (some ((k_w (Int32.toNatClampNeg 1)), 0)) else (if p1 = 3 then (some ((k_w (Int32.toNatClampNeg 2)), 0)) else (if p1 = 4 then (some ((k_w (Int32.toNatClampNeg 3)), 0)) else (if p1 = 5 then (some ((k_w (Int32.toNatClampNeg 4)), 0)) else (if p1 = 6 then (some ((k_w (Int32.toNatClampNeg 5)), 0)) else (if p1 = 7 then (some ((k_w (Int32.toNatClampNeg 6)), 0)) else (if p1 = 8 then (some ((k_w (Int32.toNatClampNeg 7)), 0)) else (if p1 = 9 then (some ((k_w (Int32.toNatClampNeg 8)), 0)) else (if p1 = 10 then (some ((k_w (Int32.toNatClampNeg 9)), 0)) else (if p1 = 11 then (some ((k_w (Int32.toNatClampNeg 10)), 0)) else (if p1 = 12 then (some ((k_w (Int32.toNatClampNeg 11)), 0)) else (if p1 = 13 then (some ((k_w (Int32.toNatClampNeg 12)), 0)) else (if p1 = 14 then (some ((k_w (Int32.toNatClampNeg 13)), 0)) else (if p1 = 15 then (some ((k_w (Int32.toNatClampNeg 14)), 0)) else (if p1 = 16 then ((X10_pinned F (-1) k_w k_o).bind fun r20 => (some (r20, 0))) else (if p1 = 17 then (some ((k_w (Int32.toNatClampNeg 15)), 0)) else (if p1 = 18 then (some ((k_w (Int32.toNatClampNeg 16)), 0)) else (if p1 = 19 then (some ((k_w (Int32.toNatClampNeg 17)), 0)) else (some ((-1), 0)))))))))))))))))))))
abbrev rm_X10_count : Room := { frames := 2, cells := 0, slots := 0, locals := 45 }
theorem ok_X10_count : OKV RX10 yX10_count cX10_count 2 (some .int) 1 := ⟨by decide +kernel, qV_X10_count, qL_X10_count, qI_X10, qD_X10_count⟩
set_option maxHeartbeats 4000000 in
set_option maxRecDepth 100000 in
theorem c_X10_count (l : Launch) (D : va_G) (cI cZ cL cW : ClassId) (F : Nat) (a0 : Nat) (a1 : Nat) (a2 : Nat) (a3 : Nat) (a4 : Nat) (a5 : Nat) (a6 : Nat) (k_thrown : Int32) (k_w : (Nat → Int32)) (k_o : Int32) (k_isKept : (Nat → Int32)) (k_went : (Nat → Int32)) (k_wentMany : Int32) (k_waiting : (Nat → Int32)) (k_came : Int32) (k_depth : Int32) (k_isSilent : Int32) (k_x : Int64) (k_packed : (Nat → Int32)) (k_hits : Int32) (k_rues : Int32) (k_soonest : Int32) (k_inAll : (Nat → Int32)) (p1 : Int32) (r : Int32) (k_thrown' : Int32) (hf : X10_count F p1 k_thrown k_w k_o = some (r, k_thrown')) : CtrW l D (tyL cI cZ cL cW) nestW yX10_count cX10_count 2 (some .int) rm_X10_count [.ref a0, .int p1] (MX10 cI cZ cL cW a0 a1 a2 a3 a4 a5 a6 k_thrown k_w k_o k_isKept k_went k_wentMany k_waiting k_came k_depth k_isSilent k_x k_packed k_hits k_rues k_soonest k_inAll) (MX10 cI cZ cL cW a0 a1 a2 a3 a4 a5 a6 (k_thrown') k_w k_o k_isKept k_went k_wentMany k_waiting k_came k_depth k_isSilent k_x k_packed k_hits k_rues k_soonest k_inAll) (some (.int r)) := by
  refine ofA RX10 (by decide) rfl (Nat.le_of_ble_eq_true rfl) ?_
  intro p e s m below meth c ls A C hr hlk hE hA hP hD hS hl
  generalize (List.toArray ([.ref a0, .int p1] : List Value)) = args at C ⊢
  obtain ⟨hx, hb, hml, hown, ht⟩ := id C
  have hl : lv_has ls 2 [(0, .ref a0), (1, .int p1)] := hl
  refine lv_aload_n hx hb dX10_count_0 rfl (lv_at hl 0 rfl) ?_
  refine lv_iconst (v := 0) hx hb dX10_count_1 (by decide) ?_
  refine pf_X10 (v := .int 0) C hE hP hD hS 0 0 rfl (by decide) qF_X10_1 rfl rfl rfl (Nat.le_of_ble_eq_true rfl) dX10_count_2 (fun H locs (hP : va_P D vwCl (MX10 cI cZ cL cW a0 a1 a2 a3 a4 a5 a6 0 k_w k_o k_isKept k_went k_wentMany k_waiting k_came k_depth k_isSilent k_x k_packed k_hits k_rues k_soonest k_inAll) H) (hD : va_D A (MX10 cI cZ cL cW a0 a1 a2 a3 a4 a5 a6 0 k_w k_o k_isKept k_went k_wentMany k_waiting k_came k_depth k_isSilent k_x k_packed k_hits k_rues k_soonest k_inAll)) hS => ?_)
  refine lv_iload_n hx hb dX10_count_5 rfl (lv_at hl 1 rfl) ?_
  by_cases e1 : p1 = 0
  · have hf := it_p hf e1
    refine lv_tableIn (off := 94) (tgt := 100) hx hb dX10_count_6 (by rw [e1]; decide) (by rw [e1]; decide) (by rw [e1]; decide) (by decide) ?_
    refine lv_aload_n hx hb dX10_count_100 rfl (lv_at hl 0 rfl) ?_
    refine gf_X10 (v := .ref a1) C hE hP 0 1 rfl (by decide) qF_X10_17 rfl dX10_count_101 ?_
    refine lv_iconst (v := 0) hx hb dX10_count_104 (by decide) ?_
    refine va_iald hx hb hE.1 hP 1 0 rfl rfl (vp_l (by decide)) dX10_count_105 ?_
    cases hf
    exact rw_i C hr hlk hP hD hS dX10_count_106 rfl
  have hf := it_n hf e1
  by_cases e2 : p1 = 1
  · have hf := it_p hf e2
    refine lv_tableIn (off := 101) (tgt := 107) hx hb dX10_count_6 (by rw [e2]; decide) (by rw [e2]; decide) (by rw [e2]; decide) (by decide) ?_
    refine lv_aload_n hx hb dX10_count_107 rfl (lv_at hl 0 rfl) ?_
    obtain ⟨r3, h4, hf⟩ := bd_s hf
    refine iv_R (rest := []) (st1 := [.int r3]) C hE hP (c_X10_load l D cI cZ cL cW F a0 a1 a2 a3 a4 a5 a6 0 k_w k_o k_isKept k_went k_wentMany k_waiting k_came k_depth k_isSilent k_x k_packed k_hits k_rues k_soonest k_inAll  r3  h4) ok_X10_load qM_X10_179 rfl rfl ⟨(Nat.le_of_ble_eq_true rfl), (Nat.le_of_ble_eq_true rfl)⟩ rfl rfl hl.1 (Nat.le_of_ble_eq_true rfl) ⟨Nat.zero_le _, Nat.zero_le _⟩ dX10_count_108 rfl rfl ?_
    cases hf
    exact rw_i C hr hlk hP hD hS dX10_count_111 rfl
  have hf := it_n hf e2
  by_cases e5 : p1 = 2
  · have hf := it_p hf e5
    refine lv_tableIn (off := 106) (tgt := 112) hx hb dX10_count_6 (by rw [e5]; decide) (by rw [e5]; decide) (by rw [e5]; decide) (by decide) ?_
    refine lv_aload_n hx hb dX10_count_112 rfl (lv_at hl 0 rfl) ?_
    refine gf_X10 (v := .ref a1) C hE hP 0 1 rfl (by decide) qF_X10_17 rfl dX10_count_113 ?_
    refine lv_iconst (v := 1) hx hb dX10_count_116 (by decide) ?_
    refine va_iald hx hb hE.1 hP 1 0 rfl rfl (vp_l (by decide)) dX10_count_117 ?_
    cases hf
    exact rw_i C hr hlk hP hD hS dX10_count_118 rfl
  have hf := it_n hf e5
  by_cases e6 : p1 = 3
  · have hf := it_p hf e6
    refine lv_tableIn (off := 113) (tgt := 119) hx hb dX10_count_6 (by rw [e6]; decide) (by rw [e6]; decide) (by rw [e6]; decide) (by decide) ?_
    refine lv_aload_n hx hb dX10_count_119 rfl (lv_at hl 0 rfl) ?_
    refine gf_X10 (v := .ref a1) C hE hP 0 1 rfl (by decide) qF_X10_17 rfl dX10_count_120 ?_
    refine lv_iconst (v := 2) hx hb dX10_count_123 (by decide) ?_
    refine va_iald hx hb hE.1 hP 1 0 rfl rfl (vp_l (by decide)) dX10_count_124 ?_
    cases hf
    exact rw_i C hr hlk hP hD hS dX10_count_125 rfl
  have hf := it_n hf e6
  by_cases e7 : p1 = 4
  · have hf := it_p hf e7
    refine lv_tableIn (off := 120) (tgt := 126) hx hb dX10_count_6 (by rw [e7]; decide) (by rw [e7]; decide) (by rw [e7]; decide) (by decide) ?_
    refine lv_aload_n hx hb dX10_count_126 rfl (lv_at hl 0 rfl) ?_
    refine gf_X10 (v := .ref a1) C hE hP 0 1 rfl (by decide) qF_X10_17 rfl dX10_count_127 ?_
    refine lv_iconst (v := 3) hx hb dX10_count_130 (by decide) ?_
    refine va_iald hx hb hE.1 hP 1 0 rfl rfl (vp_l (by decide)) dX10_count_131 ?_
    cases hf
    exact rw_i C hr hlk hP hD hS dX10_count_132 rfl
  have hf := it_n hf e7
  by_cases e8 : p1 = 5
  · have hf := it_p hf e8
    refine lv_tableIn (off := 127) (tgt := 133) hx hb dX10_count_6 (by rw [e8]; decide) (by rw [e8]; decide) (by rw [e8]; decide) (by decide) ?_
    refine lv_aload_n hx hb dX10_count_133 rfl (lv_at hl 0 rfl) ?_
    refine gf_X10 (v := .ref a1) C hE hP 0 1 rfl (by decide) qF_X10_17 rfl dX10_count_134 ?_
    refine lv_iconst (v := 4) hx hb dX10_count_137 (by decide) ?_
    refine va_iald hx hb hE.1 hP 1 0 rfl rfl (vp_l (by decide)) dX10_count_138 ?_
    cases hf
    exact rw_i C hr hlk hP hD hS dX10_count_139 rfl
  have hf := it_n hf e8
  by_cases e9 : p1 = 6
  · have hf := it_p hf e9
    refine lv_tableIn (off := 134) (tgt := 140) hx hb dX10_count_6 (by rw [e9]; decide) (by rw [e9]; decide) (by rw [e9]; decide) (by decide) ?_
    refine lv_aload_n hx hb dX10_count_140 rfl (lv_at hl 0 rfl) ?_
    refine gf_X10 (v := .ref a1) C hE hP 0 1 rfl (by decide) qF_X10_17 rfl dX10_count_141 ?_
    refine lv_iconst (v := 5) hx hb dX10_count_144 (by decide) ?_
    refine va_iald hx hb hE.1 hP 1 0 rfl rfl (vp_l (by decide)) dX10_count_145 ?_
    cases hf
    exact rw_i C hr hlk hP hD hS dX10_count_146 rfl
  have hf := it_n hf e9
  by_cases e10 : p1 = 7
  · have hf := it_p hf e10
    refine lv_tableIn (off := 141) (tgt := 147) hx hb dX10_count_6 (by rw [e10]; decide) (by rw [e10]; decide) (by rw [e10]; decide) (by decide) ?_
    refine lv_aload_n hx hb dX10_count_147 rfl (lv_at hl 0 rfl) ?_
    refine gf_X10 (v := .ref a1) C hE hP 0 1 rfl (by decide) qF_X10_17 rfl dX10_count_148 ?_
    refine lv_bipush (v := 6) hx hb dX10_count_151 (by decide) ?_
    refine va_iald hx hb hE.1 hP 1 0 rfl rfl (vp_l (by decide)) dX10_count_153 ?_
    cases hf
    exact rw_i C hr hlk hP hD hS dX10_count_154 rfl
  have hf := it_n hf e10
  by_cases e11 : p1 = 8
  · have hf := it_p hf e11
    refine lv_tableIn (off := 149) (tgt := 155) hx hb dX10_count_6 (by rw [e11]; decide) (by rw [e11]; decide) (by rw [e11]; decide) (by decide) ?_
    refine lv_aload_n hx hb dX10_count_155 rfl (lv_at hl 0 rfl) ?_
    refine gf_X10 (v := .ref a1) C hE hP 0 1 rfl (by decide) qF_X10_17 rfl dX10_count_156 ?_
    refine lv_bipush (v := 7) hx hb dX10_count_159 (by decide) ?_
    refine va_iald hx hb hE.1 hP 1 0 rfl rfl (vp_l (by decide)) dX10_count_161 ?_
    cases hf
    exact rw_i C hr hlk hP hD hS dX10_count_162 rfl
  have hf := it_n hf e11
  by_cases e12 : p1 = 9
  · have hf := it_p hf e12
    refine lv_tableIn (off := 157) (tgt := 163) hx hb dX10_count_6 (by rw [e12]; decide) (by rw [e12]; decide) (by rw [e12]; decide) (by decide) ?_
    refine lv_aload_n hx hb dX10_count_163 rfl (lv_at hl 0 rfl) ?_
    refine gf_X10 (v := .ref a1) C hE hP 0 1 rfl (by decide) qF_X10_17 rfl dX10_count_164 ?_
    refine lv_bipush (v := 8) hx hb dX10_count_167 (by decide) ?_
    refine va_iald hx hb hE.1 hP 1 0 rfl rfl (vp_l (by decide)) dX10_count_169 ?_
    cases hf
    exact rw_i C hr hlk hP hD hS dX10_count_170 rfl
  have hf := it_n hf e12
  by_cases e13 : p1 = 10
  · have hf := it_p hf e13
    refine lv_tableIn (off := 165) (tgt := 171) hx hb dX10_count_6 (by rw [e13]; decide) (by rw [e13]; decide) (by rw [e13]; decide) (by decide) ?_
    refine lv_aload_n hx hb dX10_count_171 rfl (lv_at hl 0 rfl) ?_
    refine gf_X10 (v := .ref a1) C hE hP 0 1 rfl (by decide) qF_X10_17 rfl dX10_count_172 ?_
    refine lv_bipush (v := 9) hx hb dX10_count_175 (by decide) ?_
    refine va_iald hx hb hE.1 hP 1 0 rfl rfl (vp_l (by decide)) dX10_count_177 ?_
    cases hf
    exact rw_i C hr hlk hP hD hS dX10_count_178 rfl
  have hf := it_n hf e13
  by_cases e14 : p1 = 11
  · have hf := it_p hf e14
    refine lv_tableIn (off := 173) (tgt := 179) hx hb dX10_count_6 (by rw [e14]; decide) (by rw [e14]; decide) (by rw [e14]; decide) (by decide) ?_
    refine lv_aload_n hx hb dX10_count_179 rfl (lv_at hl 0 rfl) ?_
    refine gf_X10 (v := .ref a1) C hE hP 0 1 rfl (by decide) qF_X10_17 rfl dX10_count_180 ?_
    refine lv_bipush (v := 10) hx hb dX10_count_183 (by decide) ?_
    refine va_iald hx hb hE.1 hP 1 0 rfl rfl (vp_l (by decide)) dX10_count_185 ?_
    cases hf
    exact rw_i C hr hlk hP hD hS dX10_count_186 rfl
  have hf := it_n hf e14
  by_cases e15 : p1 = 12
  · have hf := it_p hf e15
    refine lv_tableIn (off := 181) (tgt := 187) hx hb dX10_count_6 (by rw [e15]; decide) (by rw [e15]; decide) (by rw [e15]; decide) (by decide) ?_
    refine lv_aload_n hx hb dX10_count_187 rfl (lv_at hl 0 rfl) ?_
    refine gf_X10 (v := .ref a1) C hE hP 0 1 rfl (by decide) qF_X10_17 rfl dX10_count_188 ?_
    refine lv_bipush (v := 11) hx hb dX10_count_191 (by decide) ?_
    refine va_iald hx hb hE.1 hP 1 0 rfl rfl (vp_l (by decide)) dX10_count_193 ?_
    cases hf
    exact rw_i C hr hlk hP hD hS dX10_count_194 rfl
  have hf := it_n hf e15
  by_cases e16 : p1 = 13
  · have hf := it_p hf e16
    refine lv_tableIn (off := 189) (tgt := 195) hx hb dX10_count_6 (by rw [e16]; decide) (by rw [e16]; decide) (by rw [e16]; decide) (by decide) ?_
    refine lv_aload_n hx hb dX10_count_195 rfl (lv_at hl 0 rfl) ?_
    refine gf_X10 (v := .ref a1) C hE hP 0 1 rfl (by decide) qF_X10_17 rfl dX10_count_196 ?_
    refine lv_bipush (v := 12) hx hb dX10_count_199 (by decide) ?_
    refine va_iald hx hb hE.1 hP 1 0 rfl rfl (vp_l (by decide)) dX10_count_201 ?_
    cases hf
    exact rw_i C hr hlk hP hD hS dX10_count_202 rfl
  have hf := it_n hf e16
  by_cases e17 : p1 = 14
  · have hf := it_p hf e17
    refine lv_tableIn (off := 197) (tgt := 203) hx hb dX10_count_6 (by rw [e17]; decide) (by rw [e17]; decide) (by rw [e17]; decide) (by decide) ?_
    refine lv_aload_n hx hb dX10_count_203 rfl (lv_at hl 0 rfl) ?_
    refine gf_X10 (v := .ref a1) C hE hP 0 1 rfl (by decide) qF_X10_17 rfl dX10_count_204 ?_
    refine lv_bipush (v := 13) hx hb dX10_count_207 (by decide) ?_
    refine va_iald hx hb hE.1 hP 1 0 rfl rfl (vp_l (by decide)) dX10_count_209 ?_
    cases hf
    exact rw_i C hr hlk hP hD hS dX10_count_210 rfl
  have hf := it_n hf e17
  by_cases e18 : p1 = 15
  · have hf := it_p hf e18
    refine lv_tableIn (off := 205) (tgt := 211) hx hb dX10_count_6 (by rw [e18]; decide) (by rw [e18]; decide) (by rw [e18]; decide) (by decide) ?_
    refine lv_aload_n hx hb dX10_count_211 rfl (lv_at hl 0 rfl) ?_
    refine gf_X10 (v := .ref a1) C hE hP 0 1 rfl (by decide) qF_X10_17 rfl dX10_count_212 ?_
    refine lv_bipush (v := 14) hx hb dX10_count_215 (by decide) ?_
    refine va_iald hx hb hE.1 hP 1 0 rfl rfl (vp_l (by decide)) dX10_count_217 ?_
    cases hf
    exact rw_i C hr hlk hP hD hS dX10_count_218 rfl
  have hf := it_n hf e18
  by_cases e19 : p1 = 16
  · have hf := it_p hf e19
    refine lv_tableIn (off := 213) (tgt := 219) hx hb dX10_count_6 (by rw [e19]; decide) (by rw [e19]; decide) (by rw [e19]; decide) (by decide) ?_
    refine lv_aload_n hx hb dX10_count_219 rfl (lv_at hl 0 rfl) ?_
    refine lv_iconst (v := (-1)) hx hb dX10_count_220 (by decide) ?_
    obtain ⟨r20, h21, hf⟩ := bd_s hf
    refine iv_R (rest := []) (st1 := [.int r20]) C hE hP (c_X10_pinned l D cI cZ cL cW F a0 a1 a2 a3 a4 a5 a6 0 k_w k_o k_isKept k_went k_wentMany k_waiting k_came k_depth k_isSilent k_x k_packed k_hits k_rues k_soonest k_inAll (-1) r20  h21) ok_X10_pinned qM_X10_127 rfl rfl ⟨(Nat.le_of_ble_eq_true rfl), (Nat.le_of_ble_eq_true rfl)⟩ rfl rfl hl.1 (Nat.le_of_ble_eq_true rfl) ⟨Nat.zero_le _, Nat.zero_le _⟩ dX10_count_221 rfl rfl ?_
    cases hf
    exact rw_i C hr hlk hP hD hS dX10_count_224 rfl
  have hf := it_n hf e19
  by_cases e22 : p1 = 17
  · have hf := it_p hf e22
    refine lv_tableIn (off := 219) (tgt := 225) hx hb dX10_count_6 (by rw [e22]; decide) (by rw [e22]; decide) (by rw [e22]; decide) (by decide) ?_
    refine lv_aload_n hx hb dX10_count_225 rfl (lv_at hl 0 rfl) ?_
    refine gf_X10 (v := .ref a1) C hE hP 0 1 rfl (by decide) qF_X10_17 rfl dX10_count_226 ?_
    refine lv_bipush (v := 15) hx hb dX10_count_229 (by decide) ?_
    refine va_iald hx hb hE.1 hP 1 0 rfl rfl (vp_l (by decide)) dX10_count_231 ?_
    cases hf
    exact rw_i C hr hlk hP hD hS dX10_count_232 rfl
  have hf := it_n hf e22
  by_cases e23 : p1 = 18
  · have hf := it_p hf e23
    refine lv_tableIn (off := 227) (tgt := 233) hx hb dX10_count_6 (by rw [e23]; decide) (by rw [e23]; decide) (by rw [e23]; decide) (by decide) ?_
    refine lv_aload_n hx hb dX10_count_233 rfl (lv_at hl 0 rfl) ?_
    refine gf_X10 (v := .ref a1) C hE hP 0 1 rfl (by decide) qF_X10_17 rfl dX10_count_234 ?_
    refine lv_bipush (v := 16) hx hb dX10_count_237 (by decide) ?_
    refine va_iald hx hb hE.1 hP 1 0 rfl rfl (vp_l (by decide)) dX10_count_239 ?_
    cases hf
    exact rw_i C hr hlk hP hD hS dX10_count_240 rfl
  have hf := it_n hf e23
  by_cases e24 : p1 = 19
  · have hf := it_p hf e24
    refine lv_tableIn (off := 235) (tgt := 241) hx hb dX10_count_6 (by rw [e24]; decide) (by rw [e24]; decide) (by rw [e24]; decide) (by decide) ?_
    refine lv_aload_n hx hb dX10_count_241 rfl (lv_at hl 0 rfl) ?_
    refine gf_X10 (v := .ref a1) C hE hP 0 1 rfl (by decide) qF_X10_17 rfl dX10_count_242 ?_
    refine lv_bipush (v := 17) hx hb dX10_count_245 (by decide) ?_
    refine va_iald hx hb hE.1 hP 1 0 rfl rfl (vp_l (by decide)) dX10_count_247 ?_
    cases hf
    exact rw_i C hr hlk hP hD hS dX10_count_248 rfl
  have hf := it_n hf e24
  refine lv_tableOut (tgt := 249) hx hb dX10_count_6 (tw_e (tw_s (tw_s (tw_s (tw_s (tw_s (tw_s (tw_s (tw_s (tw_s (tw_s (tw_s (tw_s (tw_s (tw_s (tw_s (tw_s (tw_s (tw_s (tw_s (tw_s (tw_0 _ 0) e1) e2) e5) e6) e7) e8) e9) e10) e11) e12) e13) e14) e15) e16) e17) e18) e19) e22) e23) e24)) (by decide) ?_
  refine lv_iconst (v := (-1)) hx hb dX10_count_249 (by decide) ?_
  cases hf
  exact rw_i C hr hlk hP hD hS dX10_count_250 rfl
