section LawRows
variable {p : Program} {l : Launch} {e : Env} {R : Room} {s : State} {m : MethodId} {args : Array Value} {below : List Frame} {meth : Method} {c : Code} {H : Heap} {locs : List Loc} {cells slots : Nat} {Q : State → Prop}
variable {cc : ByteArray} {pc nL : Nat} {ls : Array Slot} {rest : List Value} {D : va_G} {tys : List (ClassId × FieldType)} {NW : List Cond} {A : Nat → Prop} {own : String}
theorem va_P_l {ws T : va_W} (h : va_P D vwCl (ws ++ T) H) : va_P D vwCl ws H := fun k q hq => h k q (by rw [List.getElem?_append_left (List.getElem?_eq_some_iff.mp hq).1]; exact hq)
theorem va_P_r {ws T : va_W} (h : va_P D vwCl (ws ++ T) H) : va_P D vwCl T H := fun k q hq => h (ws.length + k) q (by rw [List.getElem?_append_right (Nat.le_add_right _ _), Nat.add_sub_cancel_left]; exact hq)
theorem ap_l {ws T : va_W} {k : Nat} {q : Nat × va_E} (hq : ws[k]? = some q) : (ws ++ T)[k]? = some q := by rw [List.getElem?_append_left (List.getElem?_eq_some_iff.mp hq).1]; exact hq
theorem ap_r {ws T : va_W} {k : Nat} {q : Nat × va_E} (hq : T[k]? = some q) : (ws ++ T)[ws.length + k]? = some q := by rw [List.getElem?_append_right (Nat.le_add_right _ _), Nat.add_sub_cancel_left]; exact hq
theorem va_D_l {ws T : va_W} (h : va_D A (ws ++ T)) : va_D A ws := ⟨fun i j x y hx hy hxy => h.1 i j x y (ap_l hx) (ap_l hy) hxy, fun k q hq => h.2 k q (ap_l hq)⟩
theorem va_D_r {ws T : va_W} (h : va_D A (ws ++ T)) : va_D A T := ⟨fun i j x y hx hy hxy => by have := h.1 _ _ x y (ap_r (ws := ws) hx) (ap_r hy) hxy; omega, fun k q hq => h.2 _ q (ap_r (ws := ws) hq)⟩
theorem va_D_x {ws T : va_W} (h : va_D A (ws ++ T)) {i j : Nat} {x y : Nat × va_E} (hx : ws[i]? = some x) (hy : T[j]? = some y) : x.1 ≠ y.1 := fun hxy => by
  have h1 := h.1 _ _ x y (ap_l hx) (ap_r (ws := ws) hy) hxy
  have := (List.getElem?_eq_some_iff.mp hx).1
  omega
theorem mp_at {ws wc : va_W} {is : List Nat} (hC : is.map (fun i => ws[i]?) = wc.map some) {k : Nat} {q : Nat × va_E} (h : wc[k]? = some q) : ∃ i, is[k]? = some i ∧ ws[i]? = some q := by
  have h1 : (wc.map some)[k]? = some (some q) := by rw [List.getElem?_map, h]; rfl
  rw [← hC, List.getElem?_map] at h1
  cases h2 : is[k]? with
  | none => rw [h2] at h1; cases h1
  | some i => rw [h2] at h1; exact ⟨i, rfl, Option.some.inj h1⟩
/-- a writing call with cells at the places isC of ws; T stands behind and stays -/
theorem iv_T {As : List Value} {y : MethodName} {cy : ByteArray} {ny idx ci N0 b : Nat} {ry : Option FieldType} {rm : Room} {ws wc w1 wr ws' T : va_W} {r : Option Value} {C0 : String} {T0 : u_T} {fs : List Value} {H0 : Heap} (C : CallFix p m c cc nL s args TB own) (hE : EK D tys NW s) (hP : va_P D vwCl (ws ++ T) H) (hD : va_D A (ws ++ T)) (hS : va_S A H0 H locs) (hA : ∀ q, H0.size ≤ q → A q) (isC isR ix : List Nat)
    (hM : CtrW l D tys NW y cy ny ry rm (.ref b :: As) wc w1 r) (hC : isC.map (fun i => ws[i]?) = wc.map some) (hRr : isR.map (fun i => ws[i]?) = wr.map some) (hn : va_nd isR = true) (hnC : va_nd isC = true) (hdis : ∀ i ∈ isR, i ∉ isC) (hx : ix.map (fun i => (wr ++ w1)[i]?) = ws'.map some) (hnx : va_nd ix = true)
    (ok : OKV C0 y cy ny ry As.length) (hlink : Cond.methodLink own idx y ∈ TB) (h0 : rm.cells = 0) (h1 : rm.slots = 0) (hR : rm.frames + 1 ≤ R.frames ∧ 8 + (ny + 11) + rm.locals ≤ R.locals)
    (q0 : wc[0]? = some (b, .inr (ci, fs))) (hci : vwCl[ci]? = some (C0, T0, N0)) (hls : ls.size = nL) (hrest : (rest.map fun v => v.category).sum ≤ 8) (hc : cells ≤ R.cells ∧ slots ≤ R.slots) (d : decode cc pc = .ok (.invokevirtual idx, 3))
    {st st1 : List Value} (hst : st = As.reverse ++ .ref b :: rest) (hst1 : st1 = r.toList ++ rest) (kk : ∀ (H1 : Heap) (locs1 : List Loc), va_P D vwCl (ws' ++ T) H1 → va_D A (ws' ++ T) → va_S A H0 H1 locs1 → W p l e R s m args below meth c H1 locs1 cells slots Q (F0 m (pc + 3) ls st1)) : W p l e R s m args below meth c H locs cells slots Q (F0 m pc ls st) := by
  subst hst; subst hst1
  have hPw := va_P_l hP
  have hDw := va_D_l hD
  have hPc : va_P D vwCl wc H := hPw.subM isC hC
  have hDc : va_D A wc := hDw.sub isC hnC hC
  have hF : ∀ q, va_A wc H.size q → A q := va_free hDw hS hA isC hC
  have hT : ∀ (k : Nat) (q : Nat × va_E), T[k]? = some q → q.1 < H.size ∧ ¬ va_A wc H.size q.1 := fun k q hq => by
    have hlt := (va_P_r hP k q hq).lt
    refine ⟨hlt, ?_⟩
    rintro (⟨k2, e2, h2⟩ | h2)
    · obtain ⟨i, -, hi⟩ := mp_at hC h2
      exact va_D_x hD hi hq rfl
    · omega
  refine kk_A (va_runV (As := As) (rest := rest) C (hM H.size) (cwV As.length C.2.2.2.2 (gi_V ok hlink) rfl h0 h1 ok.1 hR) ⟨fun a U g mk q => ⟨q.1, q.2.1, EK.calling q.2.2.1, q.2.2.2⟩, va_recv hE.1 hPc hci q0, fun U hU hW => ⟨rfl, by rw [hU], EK.warm hW hE, by rw [hU]; exact hPc, hDc.weaken (fun _ _ _ _ => trivial)⟩⟩ rfl rfl hls rfl (lv_room hrest) d hc) hS hF
    (fun H1 locs1 hP1 hD1 hk hS1 => ?_)
  obtain ⟨p1, d1⟩ := va_join hPw hDw isC isR hC hRr hn hdis hk hF hP1 hD1
  refine kk H1 locs1 ((p1.subM ix hx).app (fun k q hq => (va_P_r hP k q hq).kept (hk q.1 (hT k q hq).1 (hT k q hq).2))) (va_D.app (d1.sub ix hnx hx) (va_D_r hD) (fun i j x z hx1 hz hxz => ?_)) hS1
  obtain ⟨i2, -, h2⟩ := mp_at hx hx1
  rcases Nat.lt_or_ge i2 wr.length with h9 | h9
  · rw [List.getElem?_append_left h9] at h2
    obtain ⟨i3, -, h3⟩ := mp_at hRr h2
    exact va_D_x hD h3 hz hxz
  · rw [List.getElem?_append_right h9] at h2
    exact (hT j z hz).2 (by rw [← hxz]; exact hD1.2 _ x h2)
end LawRows
