section BaseRows2
variable {p : Program} {l : Launch} {e : Env} {R : Room} {s : State} {m : MethodId} {args : Array Value} {below : List Frame} {meth : Method} {c : Code} {H : Heap} {locs : List Loc} {cells slots : Nat} {Q : State → Prop}
variable {cc : ByteArray} {pc nL : Nat} {ls : Array Slot} {rest : List Value} {D : va_G} {tys : List (ClassId × FieldType)} {NW : List Cond} {A : Nat → Prop} {own : String}
theorem va_P.subM {ws ws' : va_W} (h : va_P D vwCl ws H) (is : List Nat) (hs : is.map (fun i => ws[i]?) = ws'.map some) : va_P D vwCl ws' H := by
  intro k q hq
  have h1 : (ws'.map some)[k]? = some (some q) := by rw [List.getElem?_map, hq]; rfl
  rw [← hs, List.getElem?_map] at h1
  cases h2 : is[k]? with
  | none => rw [h2] at h1; cases h1
  | some i => rw [h2] at h1; exact h i q (Option.some.inj h1)
/-- calls: writing, of objects whose cells stand at the places isC -/
theorem iv_G {As : List Value} {y : MethodName} {cy : ByteArray} {ny idx ci N0 b : Nat} {ry : Option FieldType} {rm : Room} {ws wc w1 wr ws' : va_W} {r : Option Value} {C0 : String} {T0 : u_T} {fs : List Value} {H0 : Heap} (C : CallFix p m c cc nL s args TB own) (hE : EK D tys NW s) (hP : va_P D vwCl ws H) (hD : va_D A ws) (hS : va_S A H0 H locs) (hA : ∀ q, H0.size ≤ q → A q) (isC isR ix : List Nat)
    (hM : CtrW l D tys NW y cy ny ry rm (.ref b :: As) wc w1 r) (hC : isC.map (fun i => ws[i]?) = wc.map some) (hRr : isR.map (fun i => ws[i]?) = wr.map some) (hn : va_nd isR = true) (hnC : va_nd isC = true) (hdis : ∀ i ∈ isR, i ∉ isC) (hx : ix.map (fun i => (wr ++ w1)[i]?) = ws'.map some) (hnx : va_nd ix = true)
    (ok : OKV C0 y cy ny ry As.length) (hlink : Cond.methodLink own idx y ∈ TB) (h0 : rm.cells = 0) (h1 : rm.slots = 0) (hR : rm.frames + 1 ≤ R.frames ∧ 8 + (ny + 11) + rm.locals ≤ R.locals)
    (q0 : wc[0]? = some (b, .inr (ci, fs))) (hci : vwCl[ci]? = some (C0, T0, N0)) (hls : ls.size = nL) (hrest : (rest.map fun v => v.category).sum ≤ 8) (hc : cells ≤ R.cells ∧ slots ≤ R.slots) (d : decode cc pc = .ok (.invokevirtual idx, 3))
    {st st1 : List Value} (hst : st = As.reverse ++ .ref b :: rest) (hst1 : st1 = r.toList ++ rest) (kk : ∀ (H1 : Heap) (locs1 : List Loc), va_P D vwCl ws' H1 → va_D A ws' → va_S A H0 H1 locs1 → W p l e R s m args below meth c H1 locs1 cells slots Q (F0 m (pc + 3) ls st1)) : W p l e R s m args below meth c H locs cells slots Q (F0 m pc ls st) := by
  subst hst; subst hst1
  have hPc : va_P D vwCl wc H := hP.subM isC hC
  have hDc : va_D A wc := hD.sub isC hnC hC
  have hF : ∀ q, va_A wc H.size q → A q := va_free hD hS hA isC hC
  refine kk_A (va_runV (As := As) (rest := rest) C (hM H.size) (cwV As.length C.2.2.2.2 (gi_V ok hlink) rfl h0 h1 ok.1 hR) ⟨fun a U g mk q => ⟨q.1, q.2.1, EK.calling q.2.2.1, q.2.2.2⟩, va_recv hE.1 hPc hci q0, fun U hU hW => ⟨rfl, by rw [hU], EK.warm hW hE, by rw [hU]; exact hPc, hDc.weaken (fun _ _ _ _ => trivial)⟩⟩ rfl rfl hls rfl (lv_room hrest) d hc) hS hF
    (fun H1 locs1 hP1 hD1 hk hS1 => ?_)
  obtain ⟨p1, d1⟩ := va_join hP hD isC isR hC hRr hn hdis hk hF hP1 hD1
  exact kk H1 locs1 (p1.subM ix hx) (d1.sub ix hnx hx) hS1
/-- a static call that writes one array -/
theorem is_G {As : List Value} {y : MethodName} {cy : ByteArray} {ny idx : Nat} {ry : Option FieldType} {rm : Room} {ws wc w1 wr ws' : va_W} {r : Option Value} {H0 : Heap} (C : CallFix p m c cc nL s args TB own) (hE : EK D tys NW s) (hP : va_P D vwCl ws H) (hD : va_D A ws) (hS : va_S A H0 H locs) (hA : ∀ q, H0.size ≤ q → A q) (isC isR ix : List Nat)
    (hM : CtrW l D tys NW y cy ny ry rm As wc w1 r) (hC : isC.map (fun i => ws[i]?) = wc.map some) (hRr : isR.map (fun i => ws[i]?) = wr.map some) (hn : va_nd isR = true) (hnC : va_nd isC = true) (hdis : ∀ i ∈ isR, i ∉ isC) (hx : ix.map (fun i => (wr ++ w1)[i]?) = ws'.map some) (hnx : va_nd ix = true)
    (ok : OKS y cy ny ry As.length) (hlink : Cond.methodLink own idx y ∈ TB) (h0 : rm.cells = 0) (h1 : rm.slots = 0) (hR : rm.frames + 1 ≤ R.frames ∧ 8 + (ny + 11) + rm.locals ≤ R.locals)
    (hls : ls.size = nL) (hrest : (rest.map fun v => v.category).sum ≤ 8) (hc : cells ≤ R.cells ∧ slots ≤ R.slots) (d : decode cc pc = .ok (.invokestatic idx, 3))
    {st st1 : List Value} (hst : st = As.reverse ++ rest) (hst1 : st1 = r.toList ++ rest) (kk : ∀ (H1 : Heap) (locs1 : List Loc), va_P D vwCl ws' H1 → va_D A ws' → va_S A H0 H1 locs1 → W p l e R s m args below meth c H1 locs1 cells slots Q (F0 m (pc + 3) ls st1)) : W p l e R s m args below meth c H locs cells slots Q (F0 m pc ls st) := by
  subst hst; subst hst1
  have hPc : va_P D vwCl wc H := hP.subM isC hC
  have hDc : va_D A wc := hD.sub isC hnC hC
  have hF : ∀ q, va_A wc H.size q → A q := va_free hD hS hA isC hC
  refine kk_A (va_runS (As := As) (rest := rest) C (hM H.size) (va_cwS As.length C.2.2.2.2 (gi_S ok hlink) rfl h0 h1 ok.1 hR) ⟨fun a U g mk q => ⟨q.1, q.2.1, EK.calling q.2.2.1, q.2.2.2⟩, fun U hU hW => ⟨rfl, by rw [hU], EK.warm hW hE, by rw [hU]; exact hPc, hDc.weaken (fun _ _ _ _ => trivial)⟩⟩ rfl rfl hls rfl (lv_room hrest) d hc) hS hF
    (fun H1 locs1 hP1 hD1 hk hS1 => ?_)
  obtain ⟨p1, d1⟩ := va_join hP hD isC isR hC hRr hn hdis hk hF hP1 hD1
  exact kk H1 locs1 (p1.subM ix hx) (d1.sub ix hnx hx) hS1
theorem rt_v (C : CallFix p m c cc nL s args TB own) (hr : meth.sig.returnType = none) (hlk : meth.locks = false) (d : decode cc pc = .ok (.return_, 1)) :
    W p l e R s m args below meth c s.heap [] 0 0 (MQ below (QR none) args s 0 0 (fun _ => False)) (F0 m pc ls []) :=
  W.vret C.1 C.2.1 hr (fun t ht _ => ⟨rfl, ht⟩) (fun q h => by cases h) d hlk
theorem rt_a {v : Value} {r : Option Value} {rt : FieldType} (C : CallFix p m c cc nL s args TB own) (hr : meth.sig.returnType = some rt) (hrt : ∃ n, rt = .object n) (hv : v = .null ∨ ∃ a, v = .ref a) (hlk : meth.locks = false) (d : decode cc pc = .ok (.areturn, 1)) (hf : some v = r) :
    W p l e R s m args below meth c s.heap [] 0 0 (MQ below (QR r) args s 0 0 (fun _ => False)) (F0 m pc ls [v]) := by
  subst hf
  exact W.aret C.1 C.2.1 hr (Or.inl hrt) hv (fun t ht _ => ⟨rfl, ht⟩) (fun q h => by cases h) d hlk
theorem rw_a {v : Value} {r : Option Value} {rt : FieldType} {w1 : va_W} (C : CallFix p m c cc nL s args TB own) (hr : meth.sig.returnType = some rt) (hrt : ∃ n, rt = .object n) (hv : v = .null ∨ ∃ a, v = .ref a) (hlk : meth.locks = false) (hP : va_P D vwCl w1 H) (hD : va_D A w1) (hS : va_S A s.heap H locs) (d : decode cc pc = .ok (.areturn, 1)) (hf : some v = r) :
    W p l e R s m args below meth c H locs 0 0 (MQ below (QA D A w1 r) args s 0 0 A) (F0 m pc ls [v]) := by
  subst hf
  exact W.aret C.1 C.2.1 hr (Or.inl hrt) hv (fun t ht _ => ⟨rfl, by rw [ht]; exact hP, hD, hS.F ht⟩) hS.2.2 d hlk
theorem va_P_eq {ws ws' : va_W} (h : ws = ws') (hP : va_P D vwCl ws H) : va_P D vwCl ws' H := h ▸ hP
theorem va_D_eq {ws ws' : va_W} (h : ws = ws') (hD : va_D A ws) : va_D A ws' := h ▸ hD
theorem va_P_one {ws : va_W} (hP : va_P D vwCl ws H) {k : Nat} {q : Nat × va_E} (h : ws[k]? = some q) : va_P D vwCl [q] H := by
  intro i x hx
  match i, hx with
  | 0, hx => cases hx; exact hP k q h
  | i + 1, hx => simp at hx
theorem va_P_two {ws : va_W} (hP : va_P D vwCl ws H) {k k' : Nat} {q q' : Nat × va_E} (h : ws[k]? = some q) (h' : ws[k']? = some q') : va_P D vwCl ([q] ++ [q']) H := va_P.app (va_P_one hP h) (va_P_one hP h')
theorem iv_1 {As : List Value} {y : MethodName} {cy : ByteArray} {ny idx ci N0 b : Nat} {ry : Option FieldType} {rm : Room} {ws : va_W} {x x' : Nat × va_E} {r : Option Value} {C0 : String} {T0 : u_T} {fs : List Value} {H0 : Heap} (C : CallFix p m c cc nL s args TB own) (hE : EK D tys NW s) (hP : va_P D vwCl ws H) (hD : va_D A ws) (hS : va_S A H0 H locs) (hA : ∀ q, H0.size ≤ q → A q) (k : Nat) (he : ws[k]? = some x)
    (hM : CtrW l D tys NW y cy ny ry rm (.ref b :: As) [x] [x'] r) (hx : x'.1 = x.1) (ok : OKV C0 y cy ny ry As.length) (hlink : Cond.methodLink own idx y ∈ TB) (h0 : rm.cells = 0) (h1 : rm.slots = 0) (hR : rm.frames + 1 ≤ R.frames ∧ 8 + (ny + 11) + rm.locals ≤ R.locals)
    (q0 : [x][0]? = some (b, .inr (ci, fs))) (hci : vwCl[ci]? = some (C0, T0, N0)) (hls : ls.size = nL) (hrest : (rest.map fun v => v.category).sum ≤ 8) (hc : cells ≤ R.cells ∧ slots ≤ R.slots) (d : decode cc pc = .ok (.invokevirtual idx, 3))
    {st st1 : List Value} (hst : st = As.reverse ++ .ref b :: rest) (hst1 : st1 = r.toList ++ rest) (kk : ∀ (H1 : Heap) (locs1 : List Loc), va_P D vwCl (ws.set k x') H1 → va_D A (ws.set k x') → va_S A H0 H1 locs1 → W p l e R s m args below meth c H1 locs1 cells slots Q (F0 m (pc + 3) ls st1)) : W p l e R s m args below meth c H locs cells slots Q (F0 m pc ls st) := by
  have hlt : k < ws.length := (List.getElem?_eq_some_iff.mp he).1
  have hx0 : ws[k] = x := (List.getElem?_eq_some_iff.mp he).2
  have e1 : ws.take k ++ ([x] ++ ws.drop (k + 1)) = ws := by
    rw [← hx0]; simp
  have e2 : ws.take k ++ ([x'] ++ ws.drop (k + 1)) = ws.set k x' := by
    rw [List.set_eq_take_append_cons_drop, if_pos hlt]; rfl
  exact iv_B C hE hP hD hS hA k (k + 1) hM e1 ok hlink h0 h1 hR q0 hci hls hrest hc d hst hst1 (fun H1 locs1 p1 d1 s1 => kk H1 locs1 (e2 ▸ p1) (e2 ▸ d1) s1)
theorem iv_2 {As : List Value} {y : MethodName} {cy : ByteArray} {ny idx ci N0 b : Nat} {ry : Option FieldType} {rm : Room} {ws : va_W} {x x' z : Nat × va_E} {r : Option Value} {C0 : String} {T0 : u_T} {fs : List Value} {H0 : Heap} (C : CallFix p m c cc nL s args TB own) (hE : EK D tys NW s) (hP : va_P D vwCl ws H) (hD : va_D A ws) (hS : va_S A H0 H locs) (hA : ∀ q, H0.size ≤ q → A q) (k k2 : Nat) (he : ws[k]? = some x) (he2 : ws[k2]? = some z) (hkk : k ≠ k2)
    (hM : CtrW l D tys NW y cy ny ry rm (.ref b :: As) ([x] ++ [z]) ([x'] ++ [z]) r) (hx : x'.1 = x.1) (ok : OKV C0 y cy ny ry As.length) (hlink : Cond.methodLink own idx y ∈ TB) (h0 : rm.cells = 0) (h1 : rm.slots = 0) (hR : rm.frames + 1 ≤ R.frames ∧ 8 + (ny + 11) + rm.locals ≤ R.locals)
    (q0 : ([x] ++ [z])[0]? = some (b, .inr (ci, fs))) (hci : vwCl[ci]? = some (C0, T0, N0)) (hls : ls.size = nL) (hrest : (rest.map fun v => v.category).sum ≤ 8) (hc : cells ≤ R.cells ∧ slots ≤ R.slots) (d : decode cc pc = .ok (.invokevirtual idx, 3))
    {st st1 : List Value} (hst : st = As.reverse ++ .ref b :: rest) (hst1 : st1 = r.toList ++ rest) (kk : ∀ (H1 : Heap) (locs1 : List Loc), va_P D vwCl (ws.set k x') H1 → va_D A (ws.set k x') → va_S A H0 H1 locs1 → W p l e R s m args below meth c H1 locs1 cells slots Q (F0 m (pc + 3) ls st1)) : W p l e R s m args below meth c H locs cells slots Q (F0 m pc ls st) := by
  subst hst; subst hst1
  have hne : x.1 ≠ z.1 := fun h => hkk (hD.1 k k2 x z he he2 h)
  have hC : [k, k2].map (fun i => ws[i]?) = ([x] ++ [z]).map some := by simp [he, he2]
  have hnd : va_nd [k, k2] = true := by simp [va_nd, hkk]
  have hPc : va_P D vwCl ([x] ++ [z]) H := hP.subM [k, k2] hC
  have hDc : va_D A ([x] ++ [z]) := hD.sub [k, k2] hnd hC
  have hF : ∀ q, va_A ([x] ++ [z]) H.size q → A q := va_free hD hS hA [k, k2] hC
  refine kk_A (va_runV (As := As) (rest := rest) C (hM H.size) (cwV As.length C.2.2.2.2 (gi_V ok hlink) rfl h0 h1 ok.1 hR) ⟨fun a U g mk q => ⟨q.1, q.2.1, EK.calling q.2.2.1, q.2.2.2⟩, va_recv hE.1 hPc hci q0, fun U hU hW => ⟨rfl, by rw [hU], EK.warm hW hE, by rw [hU]; exact hPc, hDc.weaken (fun _ _ _ _ => trivial)⟩⟩ rfl rfl hls rfl (lv_room hrest) d hc) hS hF
    (fun H1 locs1 hP1 hD1 hk hS1 => ?_)
  have hat : ∀ (i : Nat) (q : Nat × va_E), (ws.set k x')[i]? = some q → (i = k ∧ q = x') ∨ (i ≠ k ∧ ws[i]? = some q) := by
    intro i q hq
    rw [List.getElem?_set] at hq
    by_cases e9 : k = i
    · rw [if_pos e9] at hq
      split at hq
      · exact Or.inl ⟨e9.symm, (Option.some.inj hq).symm⟩
      · cases hq
    · rw [if_neg e9] at hq; exact Or.inr ⟨fun h => e9 h.symm, hq⟩
  refine kk H1 locs1 (fun i q hq => ?_) ⟨fun i j a b' ha hb' hab => ?_, fun i q hq => ?_⟩ hS1
  · rcases hat i q hq with ⟨_, rfl⟩ | ⟨hik, hq⟩
    · exact hP1 0 _ rfl
    · by_cases h2 : i = k2
      · subst h2
        rw [he2] at hq; cases hq
        exact hP1 1 _ rfl
      · refine (hP i q hq).kept (hk q.1 (hP i q hq).lt ?_)
        rintro (⟨k3, e3, h3⟩ | h3)
        · match k3, h3 with
          | 0, h3 => cases h3; exact hik (hD.1 i k q _ hq he rfl)
          | 1, h3 => cases h3; exact h2 (hD.1 i k2 q _ hq he2 rfl)
          | k3 + 2, h3 => simp at h3
        · exact absurd (hP i q hq).lt (Nat.not_lt.mpr h3)
  · rcases hat i a ha with ⟨ea, ea2⟩ | ⟨hi, ha2⟩ <;> rcases hat j b' hb' with ⟨eb, eb2⟩ | ⟨hj, hb2⟩
    · rw [ea, eb]
    · exact absurd (hD.1 _ _ x b' he hb2 (by rw [← hx, ← ea2]; exact hab)).symm hj
    · exact absurd (hD.1 _ _ a x ha2 he (by rw [← hx, ← eb2]; exact hab)) hi
    · exact hD.1 _ _ a b' ha2 hb2 hab
  · rcases hat i q hq with ⟨_, rfl⟩ | ⟨_, hq⟩
    · rw [hx]; exact hD.2 k x he
    · exact hD.2 i q hq
end BaseRows2
theorem vp_lt {i : Int32} {n : Nat} (h : ¬ (i < 0 ∨ n ≤ i.toNatClampNeg)) : i.toNatClampNeg < n := Nat.lt_of_not_le (fun z => h (Or.inr z))
theorem at8 {P : Nat → Prop} (h0 : P 0) (h1 : P 1) (h2 : P 2) (h3 : P 3) (h4 : P 4) (h5 : P 5) (h6 : P 6) (h7 : P 7) {j : Nat} (hj : j < 8) : P j := by
  match j, hj with
  | 0, _ => exact h0
  | 1, _ => exact h1
  | 2, _ => exact h2
  | 3, _ => exact h3
  | 4, _ => exact h4
  | 5, _ => exact h5
  | 6, _ => exact h6
  | 7, _ => exact h7
def fmod (x y : Int32) : Int32 := if (x ^^^ y) < 0 ∧ ¬ (x - x / y * y = 0) then (x - x / y * y) + y else (x - x / y * y)
