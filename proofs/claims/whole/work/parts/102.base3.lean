/-! contracts of what is made: new cells, their addresses by name -/
theorem va_RA_inj {U : State} {cA cB : ClassId} {ty : FieldType} (h1 : va_RA U cA ty) (h2 : va_RA U cB ty) : cA = cB := by
  cases ty with
  | object C =>
    obtain ⟨_, _, _, _, _, h⟩ := h1
    obtain ⟨_, _, _, _, _, h'⟩ := h2
    exact Option.some.inj (h.symm.trans h')
  | _ =>
    have h1' : U.vm.findClass _ = some cA := h1
    have h2' : U.vm.findClass _ = some cB := h2
    exact Option.some.inj (h1'.symm.trans h2')
def QN {S : Type} (D : va_G) (A : Nat → Prop) (w1 : S → va_W) (r : Option Value) : Array Value → State → Outcome → State → Prop := fun _ st oc t => oc = .returned r ∧ ∃ u : S, va_P D vwCl (w1 u) t.heap ∧ va_D A (w1 u) ∧ va_F A st t
def CtrN {S : Type} (l : Launch) (D : va_G) (tys : List (ClassId × FieldType)) (NW : List Cond) (y : MethodName) (cc : ByteArray) (nL : Nat) (ret : Option FieldType) (rm : Room) (av : List Value) (ws : va_W) (w1 : S → va_W) (r : Option Value) (mc ms : Nat) : Prop :=
  ∀ sz : Nat, Met l y (.code y cc nL ret :: TB) rm (va_Pc av (fun U => U.heap.size = sz ∧ EK D tys NW U ∧ va_P D vwCl ws U.heap ∧ va_D (fun _ => True) ws)) (QN D (va_A ws sz) w1 r) mc ms (va_A ws sz)
theorem ofN {S : Type} {l : Launch} {D : va_G} {tys : List (ClassId × FieldType)} {NW : List Cond} {y : MethodName} {cc : ByteArray} {nL mc ms : Nat} {ret : Option FieldType} {rm : Room} {av : List Value} {ws : va_W} {w1 : S → va_W} {r : Option Value} (own : String) (hy : plainName y.cls = true) (ho : y.cls = own) (hn : (lg_sl av).length ≤ nL)
    (body : ∀ (p : Program) (e : Env) (s : State) (m : MethodId) (below : List Frame) (meth : Method) (c : Code) (ls : Array Slot) (A : Nat → Prop), CallFix p m c cc nL s av.toArray TB own → meth.sig.returnType = ret → meth.locks = false → meth.name = y.name → EK D tys NW s → (∀ q, s.heap.size ≤ q → A q) → va_P D vwCl ws s.heap → va_D A ws → va_S A s.heap s.heap [] → lv_has ls nL (lv_args 0 av) →
      W p l e rm s m av.toArray below meth c s.heap [] 0 0 (MQ below (QN D A w1 r) av.toArray s mc ms A) (F0 m 0 ls [])) : CtrN l D tys NW y cc nL ret rm av ws w1 r mc ms := by
  intro sz
  refine Met.ofW (cc := cc) (maxL := nL) (ret := ret) hy rfl ?_
  intro p e s m args below meth c s₁ B hml hv
  obtain ⟨rfl, hsz, hE, hP, hD0⟩ := hv
  subst hsz
  have hts := atoms_spec (ws := .code y cc nL ret :: TB) B.pre
  have hown : s.vm.findClass own = some m.cls := by rw [← ho]; exact findClass_of_methodNamed B.named
  rw [lg_entry_eq]
  exact body p e s m below meth c _ _ ⟨B.exec, B.bytes, hml, hown, fun w h => hts w (List.mem_cons_of_mem _ h)⟩ B.returns B.notSynchronized (name_of_methodNamed B.named B.method).1 hE (fun q h => Or.inr h) hP hD0.self va_S.rf (lv_entry av hn)
def OKI (y : MethodName) (cy : ByteArray) (ny n : Nat) : Prop :=
  (y.cls ≠ "java/lang/invoke/MethodHandle" ∧ y.cls ≠ "java/lang/invoke/VarHandle" ∧ (parseMethodDescriptor y.desc).map (fun d => d.parameters.length) = some n) ∧ y.name = "<init>" ∧ Cond.instanceMethod y ∈ TB ∧ Cond.initialized y.cls ∈ TB ∧ Cond.code y cy ny none ∈ TB
section BaseRows3
variable {p : Program} {l : Launch} {e : Env} {R : Room} {s : State} {m : MethodId} {args : Array Value} {below : List Frame} {meth : Method} {c : Code} {H : Heap} {locs : List Loc} {cells slots : Nat} {Q : State → Prop}
variable {cc : ByteArray} {pc nL : Nat} {ls : Array Slot} {rest : List Value} {D : va_G} {tys : List (ClassId × FieldType)} {NW : List Cond} {A : Nat → Prop} {own : String}
theorem rn_v {S : Type} {w1 : S → va_W} {mc ms : Nat} (u : S) (C : CallFix p m c cc nL s args TB own) (hr : meth.sig.returnType = none) (hlk : meth.locks = false) (hP : va_P D vwCl (w1 u) H) (hD : va_D A (w1 u)) (hS : va_S A s.heap H locs) (h1 : cells ≤ mc) (h2 : slots ≤ ms) (d : decode cc pc = .ok (.return_, 1)) :
    W p l e R s m args below meth c H locs cells slots (MQ below (QN D A w1 none) args s mc ms A) (F0 m pc ls []) :=
  W.widen (k := mc) (n := ms) h1 h2 (W.vret C.1 C.2.1 hr (fun t ht _ => ⟨rfl, u, by rw [ht]; exact hP, hD, hS.F ht⟩) hS.2.2 d hlk)
theorem rn_i {S : Type} {w1 : S → va_W} {mc ms : Nat} {v : Int32} {r : Option Value} (u : S) (C : CallFix p m c cc nL s args TB own) (hr : meth.sig.returnType = some .int) (hlk : meth.locks = false) (hP : va_P D vwCl (w1 u) H) (hD : va_D A (w1 u)) (hS : va_S A s.heap H locs) (h1 : cells ≤ mc) (h2 : slots ≤ ms) (d : decode cc pc = .ok (.ireturn, 1)) (hf : some (Value.int v) = r) :
    W p l e R s m args below meth c H locs cells slots (MQ below (QN D A w1 r) args s mc ms A) (F0 m pc ls [.int v]) := by
  subst hf
  exact W.widen (k := mc) (n := ms) h1 h2 (W.iret C.1 C.2.1 hr (fun t ht _ => ⟨rfl, u, by rw [ht]; exact hP, hD, hS.F ht⟩) hS.2.2 d hlk)
theorem kk_N {S : Type} {w1 : S → va_W} {mc ms : Nat} {st0 : List Value} {r : Option Value} {a : Array Value} {A1 : Nat → Prop} {H0 : Heap} (hr : va_Run p l e R s m args below meth c H locs cells slots mc ms (F0 m pc ls st0) rest (QN D A1 w1 r a) A1) (hS : va_S A H0 H locs) (hA : ∀ q, A1 q → A q)
    (kk : ∀ (u : S) (H1 : Heap) (locs1 : List Loc), va_P D vwCl (w1 u) H1 → va_D A1 (w1 u) → (∀ q : Nat, q < H.size → ¬ A1 q → H1[q]? = H[q]?) → va_S A H0 H1 locs1 → W p l e R s m args below meth c H1 locs1 (cells + mc) (slots + ms) Q (F0 m (pc + 3) ls (r.toList ++ rest))) : W p l e R s m args below meth c H locs cells slots Q (F0 m pc ls st0) := by
  intro T hT X
  obtain ⟨v, st₀, t, T', L, h0, X', hL, e1, e2, ⟨hv, u, hP1, hD1, hz, hk⟩, st⟩ := hr T hT X
  cases hv
  rw [h0] at hz hk
  obtain ⟨t2, a1, b1⟩ := kk u T'.heap (locs ++ L) (by rw [e1]; exact hP1) hD1 (fun q h1 h2 => by rw [e1]; exact hk q h1 h2)
    ⟨Nat.le_trans hS.1 (by rw [e1]; exact hz), fun q h1 h2 => by rw [e1, hk q (Nat.lt_of_lt_of_le h1 hS.1) (fun z => h2 (hA q z))]; exact hS.2.1 q h1 h2, fun q hq => by
      rcases List.mem_append.mp hq with h | h
      · exact hS.2.2 q h
      · exact hA _ (hL q h)⟩ T' rfl X'
  exact ⟨t2, st t2 a1, b1⟩
/-- the cells that a maker got are the last one; what comes back stands behind the rest -/
theorem jn_N {w1 : va_W} {u : va_W} {x : Nat × va_E} {H0 H1 : Heap} (hP : va_P D vwCl (u ++ [x]) H) (hD : va_D A (u ++ [x])) (hS : va_S A H0 H locs) (hA : ∀ q, H0.size ≤ q → A q) (hP1 : va_P D vwCl w1 H1) (hD1 : va_D (va_A [x] H.size) w1) (hk : ∀ q : Nat, q < H.size → ¬ va_A [x] H.size q → H1[q]? = H[q]?) : va_P D vwCl (u ++ w1) H1 ∧ va_D A (u ++ w1) := by
  have hPu : va_P D vwCl u H := fun k q h => hP k q (by rw [List.getElem?_append_left (List.getElem?_eq_some_iff.mp h).1]; exact h)
  have gu : ∀ (k : Nat) (q : Nat × va_E), u[k]? = some q → (u ++ [x])[k]? = some q := fun k q h => by rw [List.getElem?_append_left (List.getElem?_eq_some_iff.mp h).1]; exact h
  have gx : (u ++ [x])[u.length]? = some x := by simp
  have hF : ∀ q, va_A [x] H.size q → A q := by
    rintro q (⟨k, e9, h⟩ | h)
    · match k, h with
      | 0, h => cases h; exact hD.2 _ _ gx
      | k + 1, h => simp at h
    · exact hA q (Nat.le_trans hS.1 h)
  have au : ∀ (k : Nat) (q : Nat × va_E), u[k]? = some q → q.1 < H.size ∧ ¬ va_A [x] H.size q.1 := fun k q h => by
    have hlt := (hPu k q h).lt
    refine ⟨hlt, ?_⟩
    rintro (⟨k2, e2, h2⟩ | h2)
    · match k2, h2 with
      | 0, h2 =>
        cases h2
        have h3 := hD.1 _ _ q _ (gu k q h) gx rfl
        have := (List.getElem?_eq_some_iff.mp h).1
        omega
      | k2 + 1, h2 => simp at h2
    · omega
  have hDu : va_D A u := ⟨fun i j a b ha hb hab => hD.1 _ _ a b (gu i a ha) (gu j b hb) hab, fun k q h => hD.2 _ q (gu k q h)⟩
  refine ⟨va_P.app (fun k q h => (hPu k q h).kept (hk q.1 (au k q h).1 (au k q h).2)) hP1, va_D.app hDu (hD1.weaken (fun _ _ _ h => hF _ h)) (fun i j a b ha hb hab => ?_)⟩
  exact (au i a ha).2 (by rw [hab]; exact hD1.2 j b hb)
theorem iv_N {S : Type} {w1 : S → va_W} {y : MethodName} {cy : ByteArray} {ny idx mc ms b : Nat} {rm : Room} {u : va_W} {E9 : va_E} {H0 : Heap} {host : String} (C : CallFix p m c cc nL s args TB own) (hE : EK D tys NW s) (hP : va_P D vwCl (u ++ [(b, E9)]) H) (hD : va_D A (u ++ [(b, E9)])) (hS : va_S A H0 H locs) (hA : ∀ q, H0.size ≤ q → A q)
    (hM : CtrN l D tys NW y cy ny none rm [.ref b] [(b, E9)] w1 none mc ms) (ok : OKI y cy ny 0) (hlink : va_Nw (.methodLinkNest own idx y host) s) (h0 : rm.cells = mc) (h1 : rm.slots = ms) (hR : rm.frames + 1 ≤ R.frames ∧ 8 + (ny + 11) + rm.locals ≤ R.locals)
    (hls : ls.size = nL) (hrest : (rest.map fun v => v.category).sum ≤ 8) (hc : cells + mc ≤ R.cells ∧ slots + ms ≤ R.slots) (d : decode cc pc = .ok (.invokespecial idx, 3))
    (kk : ∀ (z : S) (H1 : Heap) (locs1 : List Loc), va_P D vwCl (u ++ w1 z) H1 → va_D A (u ++ w1 z) → va_S A H0 H1 locs1 → W p l e R s m args below meth c H1 locs1 (cells + mc) (slots + ms) Q (F0 m (pc + 3) ls rest)) : W p l e R s m args below meth c H locs cells slots Q (F0 m pc ls (.ref b :: rest)) := by
  have gx : (u ++ [(b, E9)])[u.length]? = some (b, E9) := by simp
  have hPc : va_P D vwCl [(b, E9)] H := va_P_one hP gx
  have hDc : va_D A [(b, E9)] := ⟨fun i j a b' ha hb' _ => by
    match i, j, ha, hb' with
    | 0, 0, _, _ => rfl
    | i + 1, _, ha, _ => simp at ha
    | _, j + 1, _, hb' => simp at hb', fun k q h => by
    match k, h with
    | 0, h => cases h; exact hD.2 _ _ gx
    | k + 1, h => simp at h⟩
  have hF : ∀ q, va_A [(b, E9)] H.size q → A q := by
    rintro q (⟨k, e9, h⟩ | h)
    · exact hDc.2 k (q, e9) h
    · exact hA q (Nat.le_trans hS.1 h)
  refine kk_N (va_runIN (As := []) (rest := rest) C (hM H.size) ⟨va_cnB 0 C.2.2.2.2 (fun w hw => by
      refine tb_good ?_
      rcases List.mem_cons.mp hw with rfl | h
      · exact ok.2.2.2.2
      · exact h) rfl h0 h1 hlink (C.2.2.2.2 _ ok.2.2.2.1) ok.1 hR, ok.2.1, C.2.2.2.2 _ ok.2.2.1⟩ ⟨fun a U g mk q => ⟨q.1, q.2.1, EK.calling q.2.2.1, q.2.2.2⟩, fun U hU hW => ⟨rfl, by rw [hU], EK.warm hW hE, by rw [hU]; exact hPc, hDc.weaken (fun _ _ _ _ => trivial)⟩⟩ rfl rfl hls rfl (lv_room hrest) d hc) hS hF
    (fun z H1 locs1 hP1 hD1 hk hS1 => ?_)
  obtain ⟨p1, d1⟩ := jn_N hP hD hS hA hP1 hD1 hk
  exact kk z H1 locs1 p1 d1 hS1
theorem iv_NL {S : Type} {w1 : S → va_W} {y : MethodName} {cy : ByteArray} {ny idx mc ms b : Nat} {rm : Room} {u : va_W} {E9 : va_E} {H0 : Heap} (C : CallFix p m c cc nL s args TB own) (hE : EK D tys NW s) (hP : va_P D vwCl (u ++ [(b, E9)]) H) (hD : va_D A (u ++ [(b, E9)])) (hS : va_S A H0 H locs) (hA : ∀ q, H0.size ≤ q → A q)
    (hM : CtrN l D tys NW y cy ny none rm [.ref b] [(b, E9)] w1 none mc ms) (ok : OKI y cy ny 0) (hlink : Cond.methodLink own idx y ∈ TB) (h0 : rm.cells = mc) (h1 : rm.slots = ms) (hR : rm.frames + 1 ≤ R.frames ∧ 8 + (ny + 11) + rm.locals ≤ R.locals)
    (hls : ls.size = nL) (hrest : (rest.map fun v => v.category).sum ≤ 8) (hc : cells + mc ≤ R.cells ∧ slots + ms ≤ R.slots) (d : decode cc pc = .ok (.invokespecial idx, 3))
    (kk : ∀ (z : S) (H1 : Heap) (locs1 : List Loc), va_P D vwCl (u ++ w1 z) H1 → va_D A (u ++ w1 z) → va_S A H0 H1 locs1 → W p l e R s m args below meth c H1 locs1 (cells + mc) (slots + ms) Q (F0 m (pc + 3) ls rest)) : W p l e R s m args below meth c H locs cells slots Q (F0 m pc ls (.ref b :: rest)) := by
  have gx : (u ++ [(b, E9)])[u.length]? = some (b, E9) := by simp
  have hPc : va_P D vwCl [(b, E9)] H := va_P_one hP gx
  have hDc : va_D A [(b, E9)] := ⟨fun i j a b' ha hb' _ => by
    match i, j, ha, hb' with
    | 0, 0, _, _ => rfl
    | i + 1, _, ha, _ => simp at ha
    | _, j + 1, _, hb' => simp at hb', fun k q h => by
    match k, h with
    | 0, h => cases h; exact hD.2 _ _ gx
    | k + 1, h => simp at h⟩
  have hF : ∀ q, va_A [(b, E9)] H.size q → A q := by
    rintro q (⟨k, e9, h⟩ | h)
    · exact hDc.2 k (q, e9) h
    · exact hA q (Nat.le_trans hS.1 h)
  refine kk_N (va_runI (As := []) (rest := rest) C (hM H.size) (cwI 0 C.2.2.2.2 (fun w hw => by
      refine tb_good ?_
      rcases List.mem_cons.mp hw with rfl | h
      · exact ok.2.2.2.2
      · exact h) rfl h0 h1 (C.2.2.2.2 _ ok.2.2.2.1) (C.2.2.2.2 _ hlink) (C.2.2.2.2 _ ok.2.2.1) ok.2.1 ok.1 hR) ⟨fun a U g mk q => ⟨q.1, q.2.1, EK.calling q.2.2.1, q.2.2.2⟩, fun U hU hW => ⟨rfl, by rw [hU], EK.warm hW hE, by rw [hU]; exact hPc, hDc.weaken (fun _ _ _ _ => trivial)⟩⟩ rfl rfl hls rfl (lv_room hrest) d hc) hS hF
    (fun z H1 locs1 hP1 hD1 hk hS1 => ?_)
  obtain ⟨p1, d1⟩ := jn_N hP hD hS hA hP1 hD1 hk
  exact kk z H1 locs1 p1 d1 hS1
theorem nw_a {ws : va_W} {H0 : Heap} {cB : ClassId} {N' : Nat} {atype : ArrayType} {ty : FieldType} {n : Int32} (C : CallFix p m c cc nL s args TB own) (hE : EK D tys NW s) (hP : va_P D vwCl ws H) (hD : va_D A ws) (hS : va_S A H0 H locs) (hA : ∀ q, H0.size ≤ q → A q) (hw : Cond.arrayClass ty ∈ TB) (hty : newarray.typeOf atype = ty) (hd : defaultValue ty = .int 0) (t0 : Nat) (ht : tys[t0]? = some (cB, ty)) (hn : ¬ n < 0) (hN : n.toNatClampNeg = N') (hbytes : N' * componentBytes ty ≤ 536870912) (hcells : cells + 1 ≤ R.cells) (hslots : slots + N' ≤ R.slots) (d : decode cc pc = .ok (.newarray atype, 2))
    (kk : ∀ (q : Nat) (H1 : Heap), va_P D vwCl (ws ++ [(q, .inl (cB, N', .inl (fun _ => 0)))]) H1 → va_D A (ws ++ [(q, .inl (cB, N', .inl (fun _ => 0)))]) → va_S A H0 H1 locs → W p l e R s m args below meth c H1 locs (cells + 1) (slots + N') Q (F0 m (pc + 2) ls (.ref q :: rest))) : W p l e R s m args below meth c H locs cells slots Q (F0 m pc ls (.int n :: rest)) := by
  refine va_newa C.1 C.2.1 (by rw [hty]; exact C.2.2.2.2 _ hw) hty hE.1 hP hD hS hA (a0 := (N', .inl (fun _ => 0))) (fun cA => by rw [hd]; rfl) hn hN hbytes hcells hslots d (fun q cA H1 hK p1 d1 s1 => ?_)
  have e9 : cA = cB := va_RA_inj (hK.2 tys.length (cA, ty) (by simp)).2 (hE.1.2 t0 (cB, ty) ht).2
  subst e9
  exact kk q H1 p1 d1 s1
theorem nw_q {ws : va_W} {H0 : Heap} {cB : ClassId} {N' idx : Nat} {C0 : String} {n : Int32} (C : CallFix p m c cc nL s args TB own) (hE : EK D tys NW s) (hP : va_P D vwCl ws H) (hD : va_D A ws) (hS : va_S A H0 H locs) (hA : ∀ q, H0.size ≤ q → A q) (hcl : Cond.classLink own idx C0 ∈ TB) (hw : Cond.arrayOver (.object C0) ∈ NW) (t0 : Nat) (ht : tys[t0]? = some (cB, .object C0)) (hn : ¬ n < 0) (hN : n.toNatClampNeg = N') (hbytes : N' * 4 ≤ 536870912) (hcells : cells + 1 ≤ R.cells) (hslots : slots + N' ≤ R.slots) (d : decode cc pc = .ok (.anewarray idx, 3))
    (kk : ∀ (q : Nat) (H1 : Heap), va_P D vwCl (ws ++ [(q, .inl (cB, N', .inr (.inr (.inr (.inr (fun _ => none))))))]) H1 → va_D A (ws ++ [(q, .inl (cB, N', .inr (.inr (.inr (.inr (fun _ => none))))))]) → va_S A H0 H1 locs → W p l e R s m args below meth c H1 locs (cells + 1) (slots + N') Q (F0 m (pc + 3) ls (.ref q :: rest))) : W p l e R s m args below meth c H locs cells slots Q (F0 m pc ls (.int n :: rest)) := by
  refine va_newq C.1 C.2.1 C.2.2.2.1 (C.2.2.2.2 _ hcl) (hE.2 _ hw).1 hE.1 hP hD hS hA hn hN hbytes hcells hslots d (fun q cA H1 hK p1 d1 s1 => ?_)
  have e9 : cA = cB := va_RA_inj (hK.2 tys.length (cA, .object C0) (by simp)).2 (hE.1.2 t0 (cB, .object C0) ht).2
  subst e9
  exact kk q H1 p1 d1 s1
/-- an array of references by what its places hold -/
theorem va_P_q {ws : va_W} {k a n : Nat} {cA : ClassId} {f g : Nat → Option Nat} (hP : va_P D vwCl ws H) (h : ws[k]? = some (a, .inl (cA, n, .inr (.inr (.inr (.inr f)))))) (hfg : ∀ i, i < n → f i = g i) : va_P D vwCl (ws.set k (a, .inl (cA, n, .inr (.inr (.inr (.inr g)))))) H := by
  intro i q hq
  rw [List.getElem?_set] at hq
  by_cases e9 : k = i
  · rw [if_pos e9] at hq
    split at hq
    · cases hq
      have h1 := hP k _ h
      refine Eq.trans h1 (congrArg some ?_)
      show arrV cA n (fun j => va_rf (f j)) = arrV cA n (fun j => va_rf (g j))
      unfold arrV
      congr 2
      funext j
      show va_rf (f j.val) = va_rf (g j.val)
      rw [hfg j.val j.isLt]
    · cases hq
  · rw [if_neg e9] at hq
    exact hP i q hq
theorem va_D_q {ws : va_W} {k a : Nat} {E1 E2 : va_E} (hD : va_D A ws) (h : ws[k]? = some (a, E1)) : va_D A (ws.set k (a, E2)) := by
  have hat : ∀ (i : Nat) (q : Nat × va_E), (ws.set k (a, E2))[i]? = some q → ∃ e9, ws[i]? = some (q.1, e9) := by
    intro i q hq
    rw [List.getElem?_set] at hq
    by_cases e9 : k = i
    · rw [if_pos e9] at hq
      split at hq
      · cases hq; exact ⟨E1, by rw [← e9]; exact h⟩
      · cases hq
    · rw [if_neg e9] at hq; exact ⟨q.2, hq⟩
  exact ⟨fun i j x y hx hy hxy => by
    obtain ⟨e1, h1⟩ := hat i x hx
    obtain ⟨e2, h2⟩ := hat j y hy
    exact hD.1 i j _ _ h1 h2 hxy, fun i q hq => by
    obtain ⟨e1, h1⟩ := hat i q hq
    exact hD.2 i (q.1, e1) h1⟩
theorem pF_X0 {ws : va_W} {idx a : Nat} {fs : List Value} {v : Value} {H0 : Heap} (C : CallFix p m c cc nL s args TB RX0) (hE : EK D tys NW s) (hP : va_P D vwCl ws H) (hD : va_D A ws) (hS : va_S A H0 H locs) (hin : meth.name = "<init>") (q0 k : Nat) (he : ws[q0]? = some (a, .inr (0, fs))) (hk : k < 9) (hlink : Cond.fieldLink RX0 idx (TX0 k).1 (TX0 k).2.1 (TX0 k).2.2.1 ∈ TB) (hfin : (TX0 k).2.2.2 = true) (hde : (TX0 k).1 = RX0) (hn : narrow (tyX0 k) v = v) (hfit : fits (tyX0 k) v = true) (hl : k < fs.length) (d : decode cc pc = .ok (.putfield idx, 3))
    (kk : ∀ (H1 : Heap) (locs1 : List Loc), va_P D vwCl (ws.set q0 (a, .inr (0, fs.set k v))) H1 → va_D A (ws.set q0 (a, .inr (0, fs.set k v))) → va_S A H0 H1 locs1 → W p l e R s m args below meth c H1 locs1 cells slots Q (F0 m (pc + 3) ls rest)) : W p l e R s m args below meth c H locs cells slots Q (F0 m pc ls (v :: .ref a :: rest)) :=
  va_putF C.1 C.2.1 C.2.2.2.2 inX0 tyX0 tyX0_ok nmX0 C.2.2.2.1 hE.1 hP hD hS q0 he rfl k hk (C.2.2.2.2 _ hlink) (fun _ h => h) hfin hin hde (tyX0_ok k hk) hn hfit hl d kk
theorem pF_X1 {ws : va_W} {idx a : Nat} {fs : List Value} {v : Value} {H0 : Heap} (C : CallFix p m c cc nL s args TB RX1) (hE : EK D tys NW s) (hP : va_P D vwCl ws H) (hD : va_D A ws) (hS : va_S A H0 H locs) (hin : meth.name = "<init>") (q0 k : Nat) (he : ws[q0]? = some (a, .inr (1, fs))) (hk : k < 13) (hlink : Cond.fieldLink RX1 idx (TX1 k).1 (TX1 k).2.1 (TX1 k).2.2.1 ∈ TB) (hfin : (TX1 k).2.2.2 = true) (hde : (TX1 k).1 = RX1) (hn : narrow (tyX1 k) v = v) (hfit : fits (tyX1 k) v = true) (hl : k < fs.length) (d : decode cc pc = .ok (.putfield idx, 3))
    (kk : ∀ (H1 : Heap) (locs1 : List Loc), va_P D vwCl (ws.set q0 (a, .inr (1, fs.set k v))) H1 → va_D A (ws.set q0 (a, .inr (1, fs.set k v))) → va_S A H0 H1 locs1 → W p l e R s m args below meth c H1 locs1 cells slots Q (F0 m (pc + 3) ls rest)) : W p l e R s m args below meth c H locs cells slots Q (F0 m pc ls (v :: .ref a :: rest)) :=
  va_putF C.1 C.2.1 C.2.2.2.2 inX1 tyX1 tyX1_ok nmX1 C.2.2.2.1 hE.1 hP hD hS q0 he rfl k hk (C.2.2.2.2 _ hlink) (fun _ h => h) hfin hin hde (tyX1_ok k hk) hn hfit hl d kk
theorem pF_X2 {ws : va_W} {idx a : Nat} {fs : List Value} {v : Value} {H0 : Heap} (C : CallFix p m c cc nL s args TB RX2) (hE : EK D tys NW s) (hP : va_P D vwCl ws H) (hD : va_D A ws) (hS : va_S A H0 H locs) (hin : meth.name = "<init>") (q0 k : Nat) (he : ws[q0]? = some (a, .inr (2, fs))) (hk : k < 2) (hlink : Cond.fieldLink RX2 idx (TX2 k).1 (TX2 k).2.1 (TX2 k).2.2.1 ∈ TB) (hfin : (TX2 k).2.2.2 = true) (hde : (TX2 k).1 = RX2) (hn : narrow (tyX2 k) v = v) (hfit : fits (tyX2 k) v = true) (hl : k < fs.length) (d : decode cc pc = .ok (.putfield idx, 3))
    (kk : ∀ (H1 : Heap) (locs1 : List Loc), va_P D vwCl (ws.set q0 (a, .inr (2, fs.set k v))) H1 → va_D A (ws.set q0 (a, .inr (2, fs.set k v))) → va_S A H0 H1 locs1 → W p l e R s m args below meth c H1 locs1 cells slots Q (F0 m (pc + 3) ls rest)) : W p l e R s m args below meth c H locs cells slots Q (F0 m pc ls (v :: .ref a :: rest)) :=
  va_putF C.1 C.2.1 C.2.2.2.2 inX2 tyX2 tyX2_ok nmX2 C.2.2.2.1 hE.1 hP hD hS q0 he rfl k hk (C.2.2.2.2 _ hlink) (fun _ h => h) hfin hin hde (tyX2_ok k hk) hn hfit hl d kk
theorem pF_X3 {ws : va_W} {idx a : Nat} {fs : List Value} {v : Value} {H0 : Heap} (C : CallFix p m c cc nL s args TB RX3) (hE : EK D tys NW s) (hP : va_P D vwCl ws H) (hD : va_D A ws) (hS : va_S A H0 H locs) (hin : meth.name = "<init>") (q0 k : Nat) (he : ws[q0]? = some (a, .inr (3, fs))) (hk : k < 9) (hlink : Cond.fieldLink RX3 idx (TX3 k).1 (TX3 k).2.1 (TX3 k).2.2.1 ∈ TB) (hfin : (TX3 k).2.2.2 = true) (hde : (TX3 k).1 = RX3) (hn : narrow (tyX3 k) v = v) (hfit : fits (tyX3 k) v = true) (hl : k < fs.length) (d : decode cc pc = .ok (.putfield idx, 3))
    (kk : ∀ (H1 : Heap) (locs1 : List Loc), va_P D vwCl (ws.set q0 (a, .inr (3, fs.set k v))) H1 → va_D A (ws.set q0 (a, .inr (3, fs.set k v))) → va_S A H0 H1 locs1 → W p l e R s m args below meth c H1 locs1 cells slots Q (F0 m (pc + 3) ls rest)) : W p l e R s m args below meth c H locs cells slots Q (F0 m pc ls (v :: .ref a :: rest)) :=
  va_putF C.1 C.2.1 C.2.2.2.2 inX3 tyX3 tyX3_ok nmX3 C.2.2.2.1 hE.1 hP hD hS q0 he rfl k hk (C.2.2.2.2 _ hlink) (fun _ h => h) hfin hin hde (tyX3_ok k hk) hn hfit hl d kk
theorem pF_X4 {ws : va_W} {idx a : Nat} {fs : List Value} {v : Value} {H0 : Heap} (C : CallFix p m c cc nL s args TB RX4) (hE : EK D tys NW s) (hP : va_P D vwCl ws H) (hD : va_D A ws) (hS : va_S A H0 H locs) (hin : meth.name = "<init>") (q0 k : Nat) (he : ws[q0]? = some (a, .inr (4, fs))) (hk : k < 7) (hlink : Cond.fieldLink RX4 idx (TX4 k).1 (TX4 k).2.1 (TX4 k).2.2.1 ∈ TB) (hfin : (TX4 k).2.2.2 = true) (hde : (TX4 k).1 = RX4) (hn : narrow (tyX4 k) v = v) (hfit : fits (tyX4 k) v = true) (hl : k < fs.length) (d : decode cc pc = .ok (.putfield idx, 3))
    (kk : ∀ (H1 : Heap) (locs1 : List Loc), va_P D vwCl (ws.set q0 (a, .inr (4, fs.set k v))) H1 → va_D A (ws.set q0 (a, .inr (4, fs.set k v))) → va_S A H0 H1 locs1 → W p l e R s m args below meth c H1 locs1 cells slots Q (F0 m (pc + 3) ls rest)) : W p l e R s m args below meth c H locs cells slots Q (F0 m pc ls (v :: .ref a :: rest)) :=
  va_putF C.1 C.2.1 C.2.2.2.2 inX4 tyX4 tyX4_ok nmX4 C.2.2.2.1 hE.1 hP hD hS q0 he rfl k hk (C.2.2.2.2 _ hlink) (fun _ h => h) hfin hin hde (tyX4_ok k hk) hn hfit hl d kk
theorem pF_X5 {ws : va_W} {idx a : Nat} {fs : List Value} {v : Value} {H0 : Heap} (C : CallFix p m c cc nL s args TB RX5) (hE : EK D tys NW s) (hP : va_P D vwCl ws H) (hD : va_D A ws) (hS : va_S A H0 H locs) (hin : meth.name = "<init>") (q0 k : Nat) (he : ws[q0]? = some (a, .inr (5, fs))) (hk : k < 2) (hlink : Cond.fieldLink RX5 idx (TX5 k).1 (TX5 k).2.1 (TX5 k).2.2.1 ∈ TB) (hfin : (TX5 k).2.2.2 = true) (hde : (TX5 k).1 = RX5) (hn : narrow (tyX5 k) v = v) (hfit : fits (tyX5 k) v = true) (hl : k < fs.length) (d : decode cc pc = .ok (.putfield idx, 3))
    (kk : ∀ (H1 : Heap) (locs1 : List Loc), va_P D vwCl (ws.set q0 (a, .inr (5, fs.set k v))) H1 → va_D A (ws.set q0 (a, .inr (5, fs.set k v))) → va_S A H0 H1 locs1 → W p l e R s m args below meth c H1 locs1 cells slots Q (F0 m (pc + 3) ls rest)) : W p l e R s m args below meth c H locs cells slots Q (F0 m pc ls (v :: .ref a :: rest)) :=
  va_putF C.1 C.2.1 C.2.2.2.2 inX5 tyX5 tyX5_ok nmX5 C.2.2.2.1 hE.1 hP hD hS q0 he rfl k hk (C.2.2.2.2 _ hlink) (fun _ h => h) hfin hin hde (tyX5_ok k hk) hn hfit hl d kk
theorem pF_X6 {ws : va_W} {idx a : Nat} {fs : List Value} {v : Value} {H0 : Heap} (C : CallFix p m c cc nL s args TB RX6) (hE : EK D tys NW s) (hP : va_P D vwCl ws H) (hD : va_D A ws) (hS : va_S A H0 H locs) (hin : meth.name = "<init>") (q0 k : Nat) (he : ws[q0]? = some (a, .inr (6, fs))) (hk : k < 10) (hlink : Cond.fieldLink RX6 idx (TX6 k).1 (TX6 k).2.1 (TX6 k).2.2.1 ∈ TB) (hfin : (TX6 k).2.2.2 = true) (hde : (TX6 k).1 = RX6) (hn : narrow (tyX6 k) v = v) (hfit : fits (tyX6 k) v = true) (hl : k < fs.length) (d : decode cc pc = .ok (.putfield idx, 3))
    (kk : ∀ (H1 : Heap) (locs1 : List Loc), va_P D vwCl (ws.set q0 (a, .inr (6, fs.set k v))) H1 → va_D A (ws.set q0 (a, .inr (6, fs.set k v))) → va_S A H0 H1 locs1 → W p l e R s m args below meth c H1 locs1 cells slots Q (F0 m (pc + 3) ls rest)) : W p l e R s m args below meth c H locs cells slots Q (F0 m pc ls (v :: .ref a :: rest)) :=
  va_putF C.1 C.2.1 C.2.2.2.2 inX6 tyX6 tyX6_ok nmX6 C.2.2.2.1 hE.1 hP hD hS q0 he rfl k hk (C.2.2.2.2 _ hlink) (fun _ h => h) hfin hin hde (tyX6_ok k hk) hn hfit hl d kk
theorem pF_X7 {ws : va_W} {idx a : Nat} {fs : List Value} {v : Value} {H0 : Heap} (C : CallFix p m c cc nL s args TB RX7) (hE : EK D tys NW s) (hP : va_P D vwCl ws H) (hD : va_D A ws) (hS : va_S A H0 H locs) (hin : meth.name = "<init>") (q0 k : Nat) (he : ws[q0]? = some (a, .inr (7, fs))) (hk : k < 8) (hlink : Cond.fieldLink RX7 idx (TX7 k).1 (TX7 k).2.1 (TX7 k).2.2.1 ∈ TB) (hfin : (TX7 k).2.2.2 = true) (hde : (TX7 k).1 = RX7) (hn : narrow (tyX7 k) v = v) (hfit : fits (tyX7 k) v = true) (hl : k < fs.length) (d : decode cc pc = .ok (.putfield idx, 3))
    (kk : ∀ (H1 : Heap) (locs1 : List Loc), va_P D vwCl (ws.set q0 (a, .inr (7, fs.set k v))) H1 → va_D A (ws.set q0 (a, .inr (7, fs.set k v))) → va_S A H0 H1 locs1 → W p l e R s m args below meth c H1 locs1 cells slots Q (F0 m (pc + 3) ls rest)) : W p l e R s m args below meth c H locs cells slots Q (F0 m pc ls (v :: .ref a :: rest)) :=
  va_putF C.1 C.2.1 C.2.2.2.2 inX7 tyX7 tyX7_ok nmX7 C.2.2.2.1 hE.1 hP hD hS q0 he rfl k hk (C.2.2.2.2 _ hlink) (fun _ h => h) hfin hin hde (tyX7_ok k hk) hn hfit hl d kk
theorem pF_X8 {ws : va_W} {idx a : Nat} {fs : List Value} {v : Value} {H0 : Heap} (C : CallFix p m c cc nL s args TB RX8) (hE : EK D tys NW s) (hP : va_P D vwCl ws H) (hD : va_D A ws) (hS : va_S A H0 H locs) (hin : meth.name = "<init>") (q0 k : Nat) (he : ws[q0]? = some (a, .inr (8, fs))) (hk : k < 8) (hlink : Cond.fieldLink RX8 idx (TX8 k).1 (TX8 k).2.1 (TX8 k).2.2.1 ∈ TB) (hfin : (TX8 k).2.2.2 = true) (hde : (TX8 k).1 = RX8) (hn : narrow (tyX8 k) v = v) (hfit : fits (tyX8 k) v = true) (hl : k < fs.length) (d : decode cc pc = .ok (.putfield idx, 3))
    (kk : ∀ (H1 : Heap) (locs1 : List Loc), va_P D vwCl (ws.set q0 (a, .inr (8, fs.set k v))) H1 → va_D A (ws.set q0 (a, .inr (8, fs.set k v))) → va_S A H0 H1 locs1 → W p l e R s m args below meth c H1 locs1 cells slots Q (F0 m (pc + 3) ls rest)) : W p l e R s m args below meth c H locs cells slots Q (F0 m pc ls (v :: .ref a :: rest)) :=
  va_putF C.1 C.2.1 C.2.2.2.2 inX8 tyX8 tyX8_ok nmX8 C.2.2.2.1 hE.1 hP hD hS q0 he rfl k hk (C.2.2.2.2 _ hlink) (fun _ h => h) hfin hin hde (tyX8_ok k hk) hn hfit hl d kk
theorem pF_X9 {ws : va_W} {idx a : Nat} {fs : List Value} {v : Value} {H0 : Heap} (C : CallFix p m c cc nL s args TB RX9) (hE : EK D tys NW s) (hP : va_P D vwCl ws H) (hD : va_D A ws) (hS : va_S A H0 H locs) (hin : meth.name = "<init>") (q0 k : Nat) (he : ws[q0]? = some (a, .inr (9, fs))) (hk : k < 5) (hlink : Cond.fieldLink RX9 idx (TX9 k).1 (TX9 k).2.1 (TX9 k).2.2.1 ∈ TB) (hfin : (TX9 k).2.2.2 = true) (hde : (TX9 k).1 = RX9) (hn : narrow (tyX9 k) v = v) (hfit : fits (tyX9 k) v = true) (hl : k < fs.length) (d : decode cc pc = .ok (.putfield idx, 3))
    (kk : ∀ (H1 : Heap) (locs1 : List Loc), va_P D vwCl (ws.set q0 (a, .inr (9, fs.set k v))) H1 → va_D A (ws.set q0 (a, .inr (9, fs.set k v))) → va_S A H0 H1 locs1 → W p l e R s m args below meth c H1 locs1 cells slots Q (F0 m (pc + 3) ls rest)) : W p l e R s m args below meth c H locs cells slots Q (F0 m pc ls (v :: .ref a :: rest)) :=
  va_putF C.1 C.2.1 C.2.2.2.2 inX9 tyX9 tyX9_ok nmX9 C.2.2.2.1 hE.1 hP hD hS q0 he rfl k hk (C.2.2.2.2 _ hlink) (fun _ h => h) hfin hin hde (tyX9_ok k hk) hn hfit hl d kk
theorem pF_X10 {ws : va_W} {idx a : Nat} {fs : List Value} {v : Value} {H0 : Heap} (C : CallFix p m c cc nL s args TB RX10) (hE : EK D tys NW s) (hP : va_P D vwCl ws H) (hD : va_D A ws) (hS : va_S A H0 H locs) (hin : meth.name = "<init>") (q0 k : Nat) (he : ws[q0]? = some (a, .inr (10, fs))) (hk : k < 16) (hlink : Cond.fieldLink RX10 idx (TX10 k).1 (TX10 k).2.1 (TX10 k).2.2.1 ∈ TB) (hfin : (TX10 k).2.2.2 = true) (hde : (TX10 k).1 = RX10) (hn : narrow (tyX10 k) v = v) (hfit : fits (tyX10 k) v = true) (hl : k < fs.length) (d : decode cc pc = .ok (.putfield idx, 3))
    (kk : ∀ (H1 : Heap) (locs1 : List Loc), va_P D vwCl (ws.set q0 (a, .inr (10, fs.set k v))) H1 → va_D A (ws.set q0 (a, .inr (10, fs.set k v))) → va_S A H0 H1 locs1 → W p l e R s m args below meth c H1 locs1 cells slots Q (F0 m (pc + 3) ls rest)) : W p l e R s m args below meth c H locs cells slots Q (F0 m pc ls (v :: .ref a :: rest)) :=
  va_putF C.1 C.2.1 C.2.2.2.2 inX10 tyX10 tyX10_ok nmX10 C.2.2.2.1 hE.1 hP hD hS q0 he rfl k hk (C.2.2.2.2 _ hlink) (fun _ h => h) hfin hin hde (tyX10_ok k hk) hn hfit hl d kk
end BaseRows3
