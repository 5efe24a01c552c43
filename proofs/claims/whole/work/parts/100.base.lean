/-! the layer between the kit's rows and the printed walks: contracts that only read (CtrR), contracts that write (CtrW), calls by one row each -/
abbrev tyL (cI cZ cL cW : ClassId) : List (ClassId × FieldType) := [(cI, .int), (cZ, .boolean), (cL, .object RX3), (cW, .object RX8)]
theorem it_p {c : Prop} [h0 : Decidable c] {α : Type} {x y z : α} (h : (if c then x else y) = z) (hc : c) : x = z := by rw [if_pos hc] at h; exact h
theorem it_n {c : Prop} [h0 : Decidable c] {α : Type} {x y z : α} (h : (if c then x else y) = z) (hc : ¬ c) : y = z := by rw [if_neg hc] at h; exact h
/-- a guard: what fails is none -/
theorem it_g {c : Prop} [h0 : Decidable c] {α : Type} {y : Option α} {z : α} (h : (if c then none else y) = some z) : ¬ c ∧ y = some z := by
  by_cases hc : c
  · rw [if_pos hc] at h; cases h
  · rw [if_neg hc] at h; exact ⟨hc, h⟩
theorem nn_s {α : Type} {x : α} {P : Prop} (h : (none : Option α) = some x) : P := by cases h
theorem vp_l {i : Int32} {n : Nat} (h : ¬ (i < 0 ∨ n ≤ i.toNatClampNeg)) : vp_in i n := h
theorem bd_s {α β : Type} {o : Option α} {f : α → Option β} {z : β} (h : o.bind f = some z) : ∃ a, o = some a ∧ f a = some z := by
  cases o with
  | none => cases h
  | some a => exact ⟨a, rfl, h⟩
theorem zb_n {v : Int32} (h : ¬ ¬ (v = 0 ∨ v = 1)) : narrow .boolean (.int v) = .int v := by
  rcases Classical.not_not.mp h with rfl | rfl <;> decide
theorem zb_f {v : Int32} (h : ¬ ¬ (v = 0 ∨ v = 1)) : fits .boolean (.int v) = true := by
  rcases Classical.not_not.mp h with rfl | rfl <;> decide
def EK (D : va_G) (tys : List (ClassId × FieldType)) (NW : List Cond) (U : State) : Prop := va_K D vwCl tys U ∧ ∀ w ∈ NW, va_Nw w U ∧ ((∃ a i x h, w = .methodLinkNest a i x h) ∨ ∃ C, w = .arrayOver (.object C))
theorem EK.warm {D : va_G} {tys : List (ClassId × FieldType)} {NW : List Cond} {s U : State} (hW : s.WarmedH U.vm) (h : EK D tys NW s) : EK D tys NW U :=
  ⟨va_K.moved hW.alike h.1, fun w hw => by
    obtain ⟨h1, ⟨a, i, x, z, rfl⟩ | ⟨C0, rfl⟩⟩ := h.2 w hw
    · exact ⟨va_Nw.warmM hW h1, Or.inl ⟨a, i, x, z, rfl⟩⟩
    · exact ⟨va_AO.moved hW.alike h1, Or.inr ⟨C0, rfl⟩⟩⟩
theorem EK.calling {D : va_G} {tys : List (ClassId × FieldType)} {NW : List Cond} {U : State} {g : JFrame} {mk : MethodId} {a : Array Value} (h : EK D tys NW U) : EK D tys NW (U.calling g mk a) :=
  ⟨va_K.moved (Vm.Alike.refl U.vm) h.1, fun w hw => by
    obtain ⟨h1, ⟨a', i, x, z, rfl⟩ | ⟨C0, rfl⟩⟩ := h.2 w hw
    · exact ⟨va_Nw.same rfl rfl h1, Or.inl ⟨a', i, x, z, rfl⟩⟩
    · exact ⟨va_AO.moved (u := U) (Vm.Alike.refl U.vm) h1, Or.inr ⟨C0, rfl⟩⟩⟩
/-! contracts -/
def QR (r : Option Value) : Array Value → State → Outcome → State → Prop := fun _ st oc t => oc = .returned r ∧ t.heap = st.heap
def QA (D : va_G) (A : Nat → Prop) (w1 : va_W) (r : Option Value) : Array Value → State → Outcome → State → Prop := fun _ st oc t => oc = .returned r ∧ va_P D vwCl w1 t.heap ∧ va_D A w1 ∧ va_F A st t
def CtrR (l : Launch) (D : va_G) (tys : List (ClassId × FieldType)) (NW : List Cond) (y : MethodName) (cc : ByteArray) (nL : Nat) (ret : Option FieldType) (rm : Room) (av : List Value) (ws : va_W) (r : Option Value) : Prop :=
  Met l y (.code y cc nL ret :: TB) rm (va_Pc av (fun U => EK D tys NW U ∧ va_P D vwCl ws U.heap)) (QR r) 0 0 (fun _ => False)
def CtrW (l : Launch) (D : va_G) (tys : List (ClassId × FieldType)) (NW : List Cond) (y : MethodName) (cc : ByteArray) (nL : Nat) (ret : Option FieldType) (rm : Room) (av : List Value) (ws w1 : va_W) (r : Option Value) : Prop :=
  ∀ sz : Nat, Met l y (.code y cc nL ret :: TB) rm (va_Pc av (fun U => U.heap.size = sz ∧ EK D tys NW U ∧ va_P D vwCl ws U.heap ∧ va_D (fun _ => True) ws)) (QA D (va_A ws sz) w1 r) 0 0 (va_A ws sz)
theorem ofR {l : Launch} {D : va_G} {tys : List (ClassId × FieldType)} {NW : List Cond} {y : MethodName} {cc : ByteArray} {nL : Nat} {ret : Option FieldType} {rm : Room} {av : List Value} {ws : va_W} {r : Option Value} (own : String) (hy : plainName y.cls = true) (ho : y.cls = own) (hn : (lg_sl av).length ≤ nL)
    (body : ∀ (p : Program) (e : Env) (s : State) (m : MethodId) (below : List Frame) (meth : Method) (c : Code) (ls : Array Slot), CallFix p m c cc nL s av.toArray TB own → meth.sig.returnType = ret → meth.locks = false → EK D tys NW s → va_P D vwCl ws s.heap → lv_has ls nL (lv_args 0 av) →
      W p l e rm s m av.toArray below meth c s.heap [] 0 0 (MQ below (QR r) av.toArray s 0 0 (fun _ => False)) (F0 m 0 ls [])) : CtrR l D tys NW y cc nL ret rm av ws r := by
  refine Met.ofW (cc := cc) (maxL := nL) (ret := ret) hy rfl ?_
  intro p e s m args below meth c s₁ B hml hv
  obtain ⟨rfl, hE, hP⟩ := hv
  have hts := atoms_spec (ws := .code y cc nL ret :: TB) B.pre
  have hown : s.vm.findClass own = some m.cls := by rw [← ho]; exact findClass_of_methodNamed B.named
  rw [lg_entry_eq]
  exact body p e s m below meth c _ ⟨B.exec, B.bytes, hml, hown, fun w h => hts w (List.mem_cons_of_mem _ h)⟩ B.returns B.notSynchronized hE hP (lv_entry av hn)
theorem ofA {l : Launch} {D : va_G} {tys : List (ClassId × FieldType)} {NW : List Cond} {y : MethodName} {cc : ByteArray} {nL : Nat} {ret : Option FieldType} {rm : Room} {av : List Value} {ws w1 : va_W} {r : Option Value} (own : String) (hy : plainName y.cls = true) (ho : y.cls = own) (hn : (lg_sl av).length ≤ nL)
    (body : ∀ (p : Program) (e : Env) (s : State) (m : MethodId) (below : List Frame) (meth : Method) (c : Code) (ls : Array Slot) (A : Nat → Prop), CallFix p m c cc nL s av.toArray TB own → meth.sig.returnType = ret → meth.locks = false → EK D tys NW s → (∀ q, s.heap.size ≤ q → A q) → va_P D vwCl ws s.heap → va_D A ws → va_S A s.heap s.heap [] → lv_has ls nL (lv_args 0 av) →
      W p l e rm s m av.toArray below meth c s.heap [] 0 0 (MQ below (QA D A w1 r) av.toArray s 0 0 A) (F0 m 0 ls [])) : CtrW l D tys NW y cc nL ret rm av ws w1 r := by
  intro sz
  refine Met.ofW (cc := cc) (maxL := nL) (ret := ret) hy rfl ?_
  intro p e s m args below meth c s₁ B hml hv
  obtain ⟨rfl, hsz, hE, hP, hD0⟩ := hv
  subst hsz
  have hts := atoms_spec (ws := .code y cc nL ret :: TB) B.pre
  have hown : s.vm.findClass own = some m.cls := by rw [← ho]; exact findClass_of_methodNamed B.named
  rw [lg_entry_eq]
  exact body p e s m below meth c _ _ ⟨B.exec, B.bytes, hml, hown, fun w h => hts w (List.mem_cons_of_mem _ h)⟩ B.returns B.notSynchronized hE (fun q h => Or.inr h) hP hD0.self va_S.rf (lv_entry av hn)
section BaseRows
variable {p : Program} {l : Launch} {e : Env} {R : Room} {s : State} {m : MethodId} {args : Array Value} {below : List Frame} {meth : Method} {c : Code} {H : Heap} {locs : List Loc} {cells slots : Nat} {Q : State → Prop}
variable {cc : ByteArray} {pc nL : Nat} {ls : Array Slot} {rest : List Value} {D : va_G} {tys : List (ClassId × FieldType)} {NW : List Cond} {A : Nat → Prop} {own : String}
/-! returns -/
theorem rt_i {v : Int32} {r : Option Value} (C : CallFix p m c cc nL s args TB own) (hr : meth.sig.returnType = some .int) (hlk : meth.locks = false) (d : decode cc pc = .ok (.ireturn, 1)) (hf : some (Value.int v) = r) :
    W p l e R s m args below meth c s.heap [] 0 0 (MQ below (QR r) args s 0 0 (fun _ => False)) (F0 m pc ls [.int v]) := by
  subst hf
  exact W.iret C.1 C.2.1 hr (fun t ht _ => ⟨rfl, ht⟩) (fun q h => by cases h) d hlk
theorem rt_z {v : Int32} {r : Option Value} (C : CallFix p m c cc nL s args TB own) (hr : meth.sig.returnType = some .boolean) (hlk : meth.locks = false) (hn : narrow .boolean (.int v) = .int v) (d : decode cc pc = .ok (.ireturn, 1)) (hf : some (Value.int v) = r) :
    W p l e R s m args below meth c s.heap [] 0 0 (MQ below (QR r) args s 0 0 (fun _ => False)) (F0 m pc ls [.int v]) := by
  subst hf
  exact W.zret C.1 C.2.1 hr hn (fun t ht _ => ⟨rfl, ht⟩) (fun q h => by cases h) d hlk
theorem rw_i {v : Int32} {r : Option Value} {w1 : va_W} (C : CallFix p m c cc nL s args TB own) (hr : meth.sig.returnType = some .int) (hlk : meth.locks = false) (hP : va_P D vwCl w1 H) (hD : va_D A w1) (hS : va_S A s.heap H locs) (d : decode cc pc = .ok (.ireturn, 1)) (hf : some (Value.int v) = r) :
    W p l e R s m args below meth c H locs 0 0 (MQ below (QA D A w1 r) args s 0 0 A) (F0 m pc ls [.int v]) := by
  subst hf
  exact W.iret C.1 C.2.1 hr (fun t ht _ => ⟨rfl, by rw [ht]; exact hP, hD, hS.F ht⟩) hS.2.2 d hlk
theorem rw_z {v : Int32} {r : Option Value} {w1 : va_W} (C : CallFix p m c cc nL s args TB own) (hr : meth.sig.returnType = some .boolean) (hlk : meth.locks = false) (hn : narrow .boolean (.int v) = .int v) (hP : va_P D vwCl w1 H) (hD : va_D A w1) (hS : va_S A s.heap H locs) (d : decode cc pc = .ok (.ireturn, 1)) (hf : some (Value.int v) = r) :
    W p l e R s m args below meth c H locs 0 0 (MQ below (QA D A w1 r) args s 0 0 A) (F0 m pc ls [.int v]) := by
  subst hf
  exact W.zret C.1 C.2.1 hr hn (fun t ht _ => ⟨rfl, by rw [ht]; exact hP, hD, hS.F ht⟩) hS.2.2 d hlk
theorem rw_v {w1 : va_W} (C : CallFix p m c cc nL s args TB own) (hr : meth.sig.returnType = none) (hlk : meth.locks = false) (hP : va_P D vwCl w1 H) (hD : va_D A w1) (hS : va_S A s.heap H locs) (d : decode cc pc = .ok (.return_, 1)) :
    W p l e R s m args below meth c H locs 0 0 (MQ below (QA D A w1 none) args s 0 0 A) (F0 m pc ls []) :=
  W.vret C.1 C.2.1 hr (fun t ht _ => ⟨rfl, by rw [ht]; exact hP, hD, hS.F ht⟩) hS.2.2 d hlk
/-! the words of a method that is called -/
def OKV (C0 : String) (y : MethodName) (cy : ByteArray) (ny : Nat) (ry : Option FieldType) (n : Nat) : Prop :=
  (y.cls = C0 ∧ y.cls ≠ "java/lang/invoke/MethodHandle" ∧ y.cls ≠ "java/lang/invoke/VarHandle" ∧ (parseMethodDescriptor y.desc).map (fun d => d.parameters.length) = some n) ∧ Cond.instanceMethod y ∈ TB ∧ Cond.selects C0 y y ∈ TB ∧ Cond.initialized C0 ∈ TB ∧ Cond.code y cy ny ry ∈ TB
def OKS (y : MethodName) (cy : ByteArray) (ny : Nat) (ry : Option FieldType) (n : Nat) : Prop :=
  (y.cls ≠ "java/lang/invoke/MethodHandle" ∧ y.cls ≠ "java/lang/invoke/VarHandle" ∧ (parseMethodDescriptor y.desc).map (fun d => d.parameters.length) = some n) ∧ Cond.static y ∈ TB ∧ Cond.initialized y.cls ∈ TB ∧ Cond.code y cy ny ry ∈ TB
theorem tb_good {w : Cond} (h : w ∈ TB) : w ∈ TB ∧ ((w.onTables && w.keeps) = true ∨ ∃ ty, w = .arrayClass ty) := ⟨h, good_of_word (List.mem_filter.mp h).2⟩
theorem gi_V {idx ny n : Nat} {C0 : String} {y : MethodName} {cy : ByteArray} {ry : Option FieldType} (ok : OKV C0 y cy ny ry n) (hl : Cond.methodLink own idx y ∈ TB) : GoodIn TB (wsV own idx C0 y (.code y cy ny ry :: TB)) := by
  intro w hw
  refine tb_good ?_
  rcases List.mem_append.mp hw with h | h
  · simp only [List.mem_cons, List.not_mem_nil, or_false] at h
    rcases h with rfl | rfl | rfl | rfl
    · exact hl
    · exact ok.2.1
    · exact ok.2.2.1
    · exact ok.2.2.2.1
  · rcases List.mem_cons.mp h with rfl | h
    · exact ok.2.2.2.2
    · exact h
theorem gi_S {idx ny n : Nat} {y : MethodName} {cy : ByteArray} {ry : Option FieldType} (ok : OKS y cy ny ry n) (hl : Cond.methodLink own idx y ∈ TB) : GoodIn TB (va_wsS own idx y (.code y cy ny ry :: TB)) := by
  intro w hw
  refine tb_good ?_
  rcases List.mem_append.mp hw with h | h
  · simp only [List.mem_cons, List.not_mem_nil, or_false] at h
    rcases h with rfl | rfl | rfl
    · exact hl
    · exact ok.2.1
    · exact ok.2.2.1
  · rcases List.mem_cons.mp h with rfl | h
    · exact ok.2.2.2
    · exact h
theorem gi_N {ny n : Nat} {y : MethodName} {cy : ByteArray} {ry : Option FieldType} (ok : OKS y cy ny ry n) : GoodIn TB (.code y cy ny ry :: TB) := by
  intro w hw
  refine tb_good ?_
  rcases List.mem_cons.mp hw with rfl | h
  · exact ok.2.2.2
  · exact h
/-! what a run of a reading call gives -/
theorem kk_R {st0 : List Value} {r : Option Value} {a : Array Value} (hr : va_Run p l e R s m args below meth c H locs cells slots 0 0 (F0 m pc ls st0) rest (QR r a) (fun _ => False))
    (kk : W p l e R s m args below meth c H locs cells slots Q (F0 m (pc + 3) ls (r.toList ++ rest))) : W p l e R s m args below meth c H locs cells slots Q (F0 m pc ls st0) := by
  intro T hT X
  obtain ⟨v, st₀, t, T', L, h0, X', hL, e1, e2, ⟨hv, hh⟩, st⟩ := hr T hT X
  cases hv
  obtain ⟨t2, a1, b1⟩ := kk T' (by rw [e1, hh, h0]) (Stand.forget X' (fun q h => (hL q h).elim))
  exact ⟨t2, st t2 a1, b1⟩
theorem kk_A {st0 : List Value} {r : Option Value} {a : Array Value} {A1 : Nat → Prop} {H0 : Heap} {w1 : va_W} (hr : va_Run p l e R s m args below meth c H locs cells slots 0 0 (F0 m pc ls st0) rest (QA D A1 w1 r a) A1) (hS : va_S A H0 H locs) (hA : ∀ q, A1 q → A q)
    (kk : ∀ (H1 : Heap) (locs1 : List Loc), va_P D vwCl w1 H1 → va_D A1 w1 → (∀ q : Nat, q < H.size → ¬ A1 q → H1[q]? = H[q]?) → va_S A H0 H1 locs1 → W p l e R s m args below meth c H1 locs1 cells slots Q (F0 m (pc + 3) ls (r.toList ++ rest))) : W p l e R s m args below meth c H locs cells slots Q (F0 m pc ls st0) := by
  intro T hT X
  obtain ⟨v, st₀, t, T', L, h0, X', hL, e1, e2, ⟨hv, hP1, hD1, hz, hk⟩, st⟩ := hr T hT X
  cases hv
  rw [h0] at hz hk
  obtain ⟨t2, a1, b1⟩ := kk T'.heap (locs ++ L) (by rw [e1]; exact hP1) hD1 (fun q h1 h2 => by rw [e1]; exact hk q h1 h2)
    ⟨Nat.le_trans hS.1 (by rw [e1]; exact hz), fun q h1 h2 => by rw [e1, hk q (Nat.lt_of_lt_of_le h1 hS.1) (fun z => h2 (hA q z))]; exact hS.2.1 q h1 h2, fun q hq => by
      rcases List.mem_append.mp hq with h | h
      · exact hS.2.2 q h
      · exact hA _ (hL q h)⟩ T' rfl X'
  exact ⟨t2, st t2 a1, b1⟩
/-! calls: reading, of an object -/
theorem iv_R {As : List Value} {y : MethodName} {cy : ByteArray} {ny idx ci N0 b : Nat} {ry : Option FieldType} {rm : Room} {wc : va_W} {r : Option Value} {C0 : String} {T0 : u_T} {fs : List Value} (C : CallFix p m c cc nL s args TB own) (hE : EK D tys NW s) (hPc : va_P D vwCl wc H)
    (hM : CtrR l D tys NW y cy ny ry rm (.ref b :: As) wc r) (ok : OKV C0 y cy ny ry As.length) (hlink : Cond.methodLink own idx y ∈ TB) (h0 : rm.cells = 0) (h1 : rm.slots = 0) (hR : rm.frames + 1 ≤ R.frames ∧ 8 + (ny + 11) + rm.locals ≤ R.locals)
    (q0 : wc[0]? = some (b, .inr (ci, fs))) (hci : vwCl[ci]? = some (C0, T0, N0)) (hls : ls.size = nL) (hrest : (rest.map fun v => v.category).sum ≤ 8) (hc : cells ≤ R.cells ∧ slots ≤ R.slots) (d : decode cc pc = .ok (.invokevirtual idx, 3))
    {st st1 : List Value} (hst : st = As.reverse ++ .ref b :: rest) (hst1 : st1 = r.toList ++ rest) (kk : W p l e R s m args below meth c H locs cells slots Q (F0 m (pc + 3) ls st1)) : W p l e R s m args below meth c H locs cells slots Q (F0 m pc ls st) := by
  subst hst; subst hst1
  exact kk_R (va_runV (As := As) (rest := rest) C hM (cwV As.length C.2.2.2.2 (gi_V ok hlink) rfl h0 h1 ok.1 hR) ⟨fun a U g mk q => ⟨q.1, EK.calling q.2.1, q.2.2⟩, va_recv hE.1 hPc hci q0, fun U hU hW => ⟨rfl, EK.warm hW hE, by rw [hU]; exact hPc⟩⟩ rfl rfl hls rfl (lv_room hrest) d hc) kk
theorem is_R {As : List Value} {y : MethodName} {cy : ByteArray} {ny idx : Nat} {ry : Option FieldType} {rm : Room} {r : Option Value} {wc : va_W} (C : CallFix p m c cc nL s args TB own) (hE : EK D tys NW s) (hPc : va_P D vwCl wc H)
    (hM : CtrR l D tys NW y cy ny ry rm As wc r) (ok : OKS y cy ny ry As.length) (hlink : Cond.methodLink own idx y ∈ TB) (h0 : rm.cells = 0) (h1 : rm.slots = 0) (hR : rm.frames + 1 ≤ R.frames ∧ 8 + (ny + 11) + rm.locals ≤ R.locals)
    (hls : ls.size = nL) (hrest : (rest.map fun v => v.category).sum ≤ 8) (hc : cells ≤ R.cells ∧ slots ≤ R.slots) (d : decode cc pc = .ok (.invokestatic idx, 3))
    {st st1 : List Value} (hst : st = As.reverse ++ rest) (hst1 : st1 = r.toList ++ rest) (kk : W p l e R s m args below meth c H locs cells slots Q (F0 m (pc + 3) ls st1)) : W p l e R s m args below meth c H locs cells slots Q (F0 m pc ls st) := by
  subst hst; subst hst1
  exact kk_R (va_runS (As := As) (rest := rest) C hM (va_cwS As.length C.2.2.2.2 (gi_S ok hlink) rfl h0 h1 ok.1 hR) ⟨fun a U g mk q => ⟨q.1, EK.calling q.2.1, q.2.2⟩, fun U hU hW => ⟨rfl, EK.warm hW hE, by rw [hU]; exact hPc⟩⟩ rfl rfl hls rfl (lv_room hrest) d hc) kk
/-! calls: writing, of an object, all cells of the caller handed on -/
theorem iv_A {As : List Value} {y : MethodName} {cy : ByteArray} {ny idx ci N0 b : Nat} {ry : Option FieldType} {rm : Room} {wc w1 : va_W} {r : Option Value} {C0 : String} {T0 : u_T} {fs : List Value} {H0 : Heap} (C : CallFix p m c cc nL s args TB own) (hE : EK D tys NW s) (hPc : va_P D vwCl wc H) (hD : va_D A wc) (hS : va_S A H0 H locs) (hA : ∀ q, H0.size ≤ q → A q)
    (hM : CtrW l D tys NW y cy ny ry rm (.ref b :: As) wc w1 r) (ok : OKV C0 y cy ny ry As.length) (hlink : Cond.methodLink own idx y ∈ TB) (h0 : rm.cells = 0) (h1 : rm.slots = 0) (hR : rm.frames + 1 ≤ R.frames ∧ 8 + (ny + 11) + rm.locals ≤ R.locals)
    (q0 : wc[0]? = some (b, .inr (ci, fs))) (hci : vwCl[ci]? = some (C0, T0, N0)) (hls : ls.size = nL) (hrest : (rest.map fun v => v.category).sum ≤ 8) (hc : cells ≤ R.cells ∧ slots ≤ R.slots) (d : decode cc pc = .ok (.invokevirtual idx, 3))
    {st st1 : List Value} (hst : st = As.reverse ++ .ref b :: rest) (hst1 : st1 = r.toList ++ rest) (kk : ∀ (H1 : Heap) (locs1 : List Loc), va_P D vwCl w1 H1 → va_D A w1 → va_S A H0 H1 locs1 → W p l e R s m args below meth c H1 locs1 cells slots Q (F0 m (pc + 3) ls st1)) : W p l e R s m args below meth c H locs cells slots Q (F0 m pc ls st) := by
  subst hst; subst hst1
  have hF : ∀ q, va_A wc H.size q → A q := by
    intro q h
    rcases h with ⟨k, e9, h⟩ | h
    · exact hD.2 k (q, e9) h
    · exact hA q (Nat.le_trans hS.1 h)
  exact kk_A (va_runV (As := As) (rest := rest) C (hM H.size) (cwV As.length C.2.2.2.2 (gi_V ok hlink) rfl h0 h1 ok.1 hR) ⟨fun a U g mk q => ⟨q.1, q.2.1, EK.calling q.2.2.1, q.2.2.2⟩, va_recv hE.1 hPc hci q0, fun U hU hW => ⟨rfl, by rw [hU], EK.warm hW hE, by rw [hU]; exact hPc, hD.weaken (fun _ _ _ _ => trivial)⟩⟩ rfl rfl hls rfl (lv_room hrest) d hc) hS hF
    (fun H1 locs1 hP1 hD1 _ hS1 => kk H1 locs1 hP1 (hD1.weaken (fun _ _ _ h => hF _ h)) hS1)
/-! calls: writing, of an object that is a part: its cells stand from place i to place j -/
theorem iv_B {As : List Value} {y : MethodName} {cy : ByteArray} {ny idx ci N0 b : Nat} {ry : Option FieldType} {rm : Room} {ws wc w1 : va_W} {r : Option Value} {C0 : String} {T0 : u_T} {fs : List Value} {H0 : Heap} (C : CallFix p m c cc nL s args TB own) (hE : EK D tys NW s) (hP : va_P D vwCl ws H) (hD : va_D A ws) (hS : va_S A H0 H locs) (hA : ∀ q, H0.size ≤ q → A q) (i j : Nat)
    (hM : CtrW l D tys NW y cy ny ry rm (.ref b :: As) wc w1 r) (hw : ws.take i ++ (wc ++ ws.drop j) = ws) (ok : OKV C0 y cy ny ry As.length) (hlink : Cond.methodLink own idx y ∈ TB) (h0 : rm.cells = 0) (h1 : rm.slots = 0) (hR : rm.frames + 1 ≤ R.frames ∧ 8 + (ny + 11) + rm.locals ≤ R.locals)
    (q0 : wc[0]? = some (b, .inr (ci, fs))) (hci : vwCl[ci]? = some (C0, T0, N0)) (hls : ls.size = nL) (hrest : (rest.map fun v => v.category).sum ≤ 8) (hc : cells ≤ R.cells ∧ slots ≤ R.slots) (d : decode cc pc = .ok (.invokevirtual idx, 3))
    {st st1 : List Value} (hst : st = As.reverse ++ .ref b :: rest) (hst1 : st1 = r.toList ++ rest) (kk : ∀ (H1 : Heap) (locs1 : List Loc), va_P D vwCl (ws.take i ++ (w1 ++ ws.drop j)) H1 → va_D A (ws.take i ++ (w1 ++ ws.drop j)) → va_S A H0 H1 locs1 → W p l e R s m args below meth c H1 locs1 cells slots Q (F0 m (pc + 3) ls st1)) : W p l e R s m args below meth c H locs cells slots Q (F0 m pc ls st) := by
  subst hst; subst hst1
  generalize ws.take i = u at hw kk
  generalize ws.drop j = z at hw kk
  subst hw
  have hPu : va_P D vwCl u H := fun k q h => hP k q (by rw [List.getElem?_append_left (List.getElem?_eq_some_iff.mp h).1]; exact h)
  have hPr : va_P D vwCl (wc ++ z) H := fun k q h => hP (u.length + k) q (by rw [List.getElem?_append_right (Nat.le_add_right _ _)]; simpa using h)
  have hPc : va_P D vwCl wc H := fun k q h => hPr k q (by rw [List.getElem?_append_left (List.getElem?_eq_some_iff.mp h).1]; exact h)
  have hPz : va_P D vwCl z H := fun k q h => hPr (wc.length + k) q (by rw [List.getElem?_append_right (Nat.le_add_right _ _)]; simpa using h)
  have gu : ∀ k q, u[k]? = some q → (u ++ (wc ++ z))[k]? = some q := fun k q h => by rw [List.getElem?_append_left (List.getElem?_eq_some_iff.mp h).1]; exact h
  have gc : ∀ k q, wc[k]? = some q → (u ++ (wc ++ z))[u.length + k]? = some q := fun k q h => by
    rw [List.getElem?_append_right (Nat.le_add_right _ _), Nat.add_sub_cancel_left, List.getElem?_append_left (List.getElem?_eq_some_iff.mp h).1]; exact h
  have gz : ∀ k q, z[k]? = some q → (u ++ (wc ++ z))[u.length + (wc.length + k)]? = some q := fun k q h => by
    rw [List.getElem?_append_right (Nat.le_add_right _ _), Nat.add_sub_cancel_left, List.getElem?_append_right (Nat.le_add_right _ _), Nat.add_sub_cancel_left]; exact h
  have hDc : va_D A wc := ⟨fun i j x y hx hy hxy => by have := hD.1 _ _ x y (gc i x hx) (gc j y hy) hxy; omega, fun k q h => hD.2 _ q (gc k q h)⟩
  have hDu : va_D A u := ⟨fun i j x y hx hy hxy => hD.1 _ _ x y (gu i x hx) (gu j y hy) hxy, fun k q h => hD.2 _ q (gu k q h)⟩
  have hDz : va_D A z := ⟨fun i j x y hx hy hxy => by have := hD.1 _ _ x y (gz i x hx) (gz j y hy) hxy; omega, fun k q h => hD.2 _ q (gz k q h)⟩
  have hF : ∀ q, va_A wc H.size q → A q := by
    intro q h
    rcases h with ⟨k, e9, h⟩ | h
    · exact hDc.2 k (q, e9) h
    · exact hA q (Nat.le_trans hS.1 h)
  have au : ∀ (k : Nat) (q : Nat × va_E), u[k]? = some q → q.1 < H.size ∧ ¬ va_A wc H.size q.1 := fun k q h => by
    have hlt := (hPu k q h).lt
    refine ⟨hlt, ?_⟩
    rintro (⟨k2, e2, h2⟩ | h2)
    · have h3 := hD.1 _ _ q (q.1, e2) (gu k q h) (gc k2 _ h2) rfl
      have := (List.getElem?_eq_some_iff.mp h).1
      omega
    · omega
  have az : ∀ (k : Nat) (q : Nat × va_E), z[k]? = some q → q.1 < H.size ∧ ¬ va_A wc H.size q.1 := fun k q h => by
    have hlt := (hPz k q h).lt
    refine ⟨hlt, ?_⟩
    rintro (⟨k2, e2, h2⟩ | h2)
    · have h3 := hD.1 _ _ q (q.1, e2) (gz k q h) (gc k2 _ h2) rfl
      have := (List.getElem?_eq_some_iff.mp h2).1
      omega
    · omega
  refine kk_A (va_runV (As := As) (rest := rest) C (hM H.size) (cwV As.length C.2.2.2.2 (gi_V ok hlink) rfl h0 h1 ok.1 hR) ⟨fun a U g mk q => ⟨q.1, q.2.1, EK.calling q.2.2.1, q.2.2.2⟩, va_recv hE.1 hPc hci q0, fun U hU hW => ⟨rfl, by rw [hU], EK.warm hW hE, by rw [hU]; exact hPc, hDc.weaken (fun _ _ _ _ => trivial)⟩⟩ rfl rfl hls rfl (lv_room hrest) d hc) hS hF
    (fun H1 locs1 hP1 hD1 hk hS1 => ?_)
  have p1 : va_P D vwCl u H1 := fun k q h => (hPu k q h).kept (hk q.1 (au k q h).1 (au k q h).2)
  have p2 : va_P D vwCl z H1 := fun k q h => (hPz k q h).kept (hk q.1 (az k q h).1 (az k q h).2)
  have hD1' : va_D A w1 := hD1.weaken (fun _ _ _ h => hF _ h)
  refine kk H1 locs1 (va_P.app p1 (va_P.app hP1 p2)) (va_D.app hDu (va_D.app hD1' hDz (fun i j x y hx hy hxy => ?_)) (fun i j x y hx hy hxy => ?_)) hS1
  · exact (az j y hy).2 (by rw [← hxy]; exact hD1.2 i x hx)
  · rcases Nat.lt_or_ge j w1.length with h9 | h9
    · rw [List.getElem?_append_left h9] at hy
      exact (au i x hx).2 (by rw [hxy]; exact hD1.2 j y hy)
    · rw [List.getElem?_append_right h9] at hy
      have h3 := hD.1 _ _ x y (gu i x hx) (gz _ y hy) hxy
      have := (List.getElem?_eq_some_iff.mp hx).1
      omega
theorem is_N {As : List Value} {y : MethodName} {cy : ByteArray} {ny idx : Nat} {ry : Option FieldType} {rm : Room} {r : Option Value} {wc : va_W} {host : String} (C : CallFix p m c cc nL s args TB own) (hE : EK D tys NW s) (hPc : va_P D vwCl wc H)
    (hM : CtrR l D tys NW y cy ny ry rm As wc r) (ok : OKS y cy ny ry As.length) (hlink : va_Nw (.methodLinkNest own idx y host) s) (h0 : rm.cells = 0) (h1 : rm.slots = 0) (hR : rm.frames + 1 ≤ R.frames ∧ 8 + (ny + 11) + rm.locals ≤ R.locals)
    (hls : ls.size = nL) (hrest : (rest.map fun v => v.category).sum ≤ 8) (hc : cells ≤ R.cells ∧ slots ≤ R.slots) (d : decode cc pc = .ok (.invokestatic idx, 3))
    {st st1 : List Value} (hst : st = As.reverse ++ rest) (hst1 : st1 = r.toList ++ rest) (kk : W p l e R s m args below meth c H locs cells slots Q (F0 m (pc + 3) ls st1)) : W p l e R s m args below meth c H locs cells slots Q (F0 m pc ls st) := by
  subst hst; subst hst1
  exact kk_R (va_runSN (As := As) (rest := rest) C hM ⟨va_cnB As.length C.2.2.2.2 (gi_N ok) rfl h0 h1 hlink (C.2.2.2.2 _ ok.2.2.1) ok.1 hR, C.2.2.2.2 _ ok.2.1, trivial⟩ ⟨fun a U g mk q => ⟨q.1, EK.calling q.2.1, q.2.2⟩, fun U hU hW => ⟨rfl, EK.warm hW hE, by rw [hU]; exact hPc⟩⟩ rfl rfl hls rfl (lv_room hrest) d hc) kk
theorem va_P_nil : va_P D vwCl [] H := fun k q h => by simp at h
theorem inX0 : ∀ w ∈ u_ws RX0 TX0 9, w ∈ TB := by
  intro w hw
  have h : ∀ w ∈ u_ws RX0 TX0 9, w ∈ tables_1 ∧ goodWord w = true := by decide +kernel
  exact t_a (h w hw).1 (h w hw).2
theorem gf_X0 {ws : va_W} {idx a : Nat} {fs : List Value} {v : Value} (C : CallFix p m c cc nL s args TB own) (hE : EK D tys NW s) (hP : va_P D vwCl ws H) (q0 k : Nat) (he : ws[q0]? = some (a, .inr (0, fs))) (hk : k < 9) (hlink : Cond.fieldLink own idx (TX0 k).1 (TX0 k).2.1 (TX0 k).2.2.1 ∈ TB) (hv : fs[k]? = some v) (d : decode cc pc = .ok (.getfield idx, 3))
    (kk : W p l e R s m args below meth c H locs cells slots Q (F0 m (pc + 3) ls (v :: rest))) : W p l e R s m args below meth c H locs cells slots Q (F0 m pc ls (.ref a :: rest)) :=
  va_get C.1 C.2.1 C.2.2.2.2 inX0 C.2.2.2.1 hE.1 hP q0 he rfl k hk (C.2.2.2.2 _ hlink) (fun _ h => h) hv d kk
theorem pf_X0 {ws : va_W} {idx a : Nat} {fs : List Value} {v : Value} {H0 : Heap} (C : CallFix p m c cc nL s args TB own) (hE : EK D tys NW s) (hP : va_P D vwCl ws H) (hD : va_D A ws) (hS : va_S A H0 H locs) (q0 k : Nat) (he : ws[q0]? = some (a, .inr (0, fs))) (hk : k < 9) (hlink : Cond.fieldLink own idx (TX0 k).1 (TX0 k).2.1 (TX0 k).2.2.1 ∈ TB) (hfin : (TX0 k).2.2.2 = false) (hn : narrow (tyX0 k) v = v) (hfit : fits (tyX0 k) v = true) (hl : k < fs.length) (d : decode cc pc = .ok (.putfield idx, 3))
    (kk : ∀ (H1 : Heap) (locs1 : List Loc), va_P D vwCl (ws.set q0 (a, .inr (0, fs.set k v))) H1 → va_D A (ws.set q0 (a, .inr (0, fs.set k v))) → va_S A H0 H1 locs1 → W p l e R s m args below meth c H1 locs1 cells slots Q (F0 m (pc + 3) ls rest)) : W p l e R s m args below meth c H locs cells slots Q (F0 m pc ls (v :: .ref a :: rest)) :=
  va_put C.1 C.2.1 C.2.2.2.2 inX0 tyX0 tyX0_ok nmX0 C.2.2.2.1 hE.1 hP hD hS q0 he rfl k hk (C.2.2.2.2 _ hlink) (fun _ h => h) hfin (tyX0_ok k hk) hn hfit hl d kk
theorem inX1 : ∀ w ∈ u_ws RX1 TX1 13, w ∈ TB := by
  intro w hw
  have h : ∀ w ∈ u_ws RX1 TX1 13, w ∈ tables_1 ∧ goodWord w = true := by decide +kernel
  exact t_a (h w hw).1 (h w hw).2
theorem gf_X1 {ws : va_W} {idx a : Nat} {fs : List Value} {v : Value} (C : CallFix p m c cc nL s args TB own) (hE : EK D tys NW s) (hP : va_P D vwCl ws H) (q0 k : Nat) (he : ws[q0]? = some (a, .inr (1, fs))) (hk : k < 13) (hlink : Cond.fieldLink own idx (TX1 k).1 (TX1 k).2.1 (TX1 k).2.2.1 ∈ TB) (hv : fs[k]? = some v) (d : decode cc pc = .ok (.getfield idx, 3))
    (kk : W p l e R s m args below meth c H locs cells slots Q (F0 m (pc + 3) ls (v :: rest))) : W p l e R s m args below meth c H locs cells slots Q (F0 m pc ls (.ref a :: rest)) :=
  va_get C.1 C.2.1 C.2.2.2.2 inX1 C.2.2.2.1 hE.1 hP q0 he rfl k hk (C.2.2.2.2 _ hlink) (fun _ h => h) hv d kk
theorem pf_X1 {ws : va_W} {idx a : Nat} {fs : List Value} {v : Value} {H0 : Heap} (C : CallFix p m c cc nL s args TB own) (hE : EK D tys NW s) (hP : va_P D vwCl ws H) (hD : va_D A ws) (hS : va_S A H0 H locs) (q0 k : Nat) (he : ws[q0]? = some (a, .inr (1, fs))) (hk : k < 13) (hlink : Cond.fieldLink own idx (TX1 k).1 (TX1 k).2.1 (TX1 k).2.2.1 ∈ TB) (hfin : (TX1 k).2.2.2 = false) (hn : narrow (tyX1 k) v = v) (hfit : fits (tyX1 k) v = true) (hl : k < fs.length) (d : decode cc pc = .ok (.putfield idx, 3))
    (kk : ∀ (H1 : Heap) (locs1 : List Loc), va_P D vwCl (ws.set q0 (a, .inr (1, fs.set k v))) H1 → va_D A (ws.set q0 (a, .inr (1, fs.set k v))) → va_S A H0 H1 locs1 → W p l e R s m args below meth c H1 locs1 cells slots Q (F0 m (pc + 3) ls rest)) : W p l e R s m args below meth c H locs cells slots Q (F0 m pc ls (v :: .ref a :: rest)) :=
  va_put C.1 C.2.1 C.2.2.2.2 inX1 tyX1 tyX1_ok nmX1 C.2.2.2.1 hE.1 hP hD hS q0 he rfl k hk (C.2.2.2.2 _ hlink) (fun _ h => h) hfin (tyX1_ok k hk) hn hfit hl d kk
theorem inX2 : ∀ w ∈ u_ws RX2 TX2 2, w ∈ TB := by
  intro w hw
  have h : ∀ w ∈ u_ws RX2 TX2 2, w ∈ tables_1 ∧ goodWord w = true := by decide +kernel
  exact t_a (h w hw).1 (h w hw).2
theorem gf_X2 {ws : va_W} {idx a : Nat} {fs : List Value} {v : Value} (C : CallFix p m c cc nL s args TB own) (hE : EK D tys NW s) (hP : va_P D vwCl ws H) (q0 k : Nat) (he : ws[q0]? = some (a, .inr (2, fs))) (hk : k < 2) (hlink : Cond.fieldLink own idx (TX2 k).1 (TX2 k).2.1 (TX2 k).2.2.1 ∈ TB) (hv : fs[k]? = some v) (d : decode cc pc = .ok (.getfield idx, 3))
    (kk : W p l e R s m args below meth c H locs cells slots Q (F0 m (pc + 3) ls (v :: rest))) : W p l e R s m args below meth c H locs cells slots Q (F0 m pc ls (.ref a :: rest)) :=
  va_get C.1 C.2.1 C.2.2.2.2 inX2 C.2.2.2.1 hE.1 hP q0 he rfl k hk (C.2.2.2.2 _ hlink) (fun _ h => h) hv d kk
theorem pf_X2 {ws : va_W} {idx a : Nat} {fs : List Value} {v : Value} {H0 : Heap} (C : CallFix p m c cc nL s args TB own) (hE : EK D tys NW s) (hP : va_P D vwCl ws H) (hD : va_D A ws) (hS : va_S A H0 H locs) (q0 k : Nat) (he : ws[q0]? = some (a, .inr (2, fs))) (hk : k < 2) (hlink : Cond.fieldLink own idx (TX2 k).1 (TX2 k).2.1 (TX2 k).2.2.1 ∈ TB) (hfin : (TX2 k).2.2.2 = false) (hn : narrow (tyX2 k) v = v) (hfit : fits (tyX2 k) v = true) (hl : k < fs.length) (d : decode cc pc = .ok (.putfield idx, 3))
    (kk : ∀ (H1 : Heap) (locs1 : List Loc), va_P D vwCl (ws.set q0 (a, .inr (2, fs.set k v))) H1 → va_D A (ws.set q0 (a, .inr (2, fs.set k v))) → va_S A H0 H1 locs1 → W p l e R s m args below meth c H1 locs1 cells slots Q (F0 m (pc + 3) ls rest)) : W p l e R s m args below meth c H locs cells slots Q (F0 m pc ls (v :: .ref a :: rest)) :=
  va_put C.1 C.2.1 C.2.2.2.2 inX2 tyX2 tyX2_ok nmX2 C.2.2.2.1 hE.1 hP hD hS q0 he rfl k hk (C.2.2.2.2 _ hlink) (fun _ h => h) hfin (tyX2_ok k hk) hn hfit hl d kk
theorem inX3 : ∀ w ∈ u_ws RX3 TX3 9, w ∈ TB := by
  intro w hw
  have h : ∀ w ∈ u_ws RX3 TX3 9, w ∈ tables_1 ∧ goodWord w = true := by decide +kernel
  exact t_a (h w hw).1 (h w hw).2
theorem gf_X3 {ws : va_W} {idx a : Nat} {fs : List Value} {v : Value} (C : CallFix p m c cc nL s args TB own) (hE : EK D tys NW s) (hP : va_P D vwCl ws H) (q0 k : Nat) (he : ws[q0]? = some (a, .inr (3, fs))) (hk : k < 9) (hlink : Cond.fieldLink own idx (TX3 k).1 (TX3 k).2.1 (TX3 k).2.2.1 ∈ TB) (hv : fs[k]? = some v) (d : decode cc pc = .ok (.getfield idx, 3))
    (kk : W p l e R s m args below meth c H locs cells slots Q (F0 m (pc + 3) ls (v :: rest))) : W p l e R s m args below meth c H locs cells slots Q (F0 m pc ls (.ref a :: rest)) :=
  va_get C.1 C.2.1 C.2.2.2.2 inX3 C.2.2.2.1 hE.1 hP q0 he rfl k hk (C.2.2.2.2 _ hlink) (fun _ h => h) hv d kk
theorem pf_X3 {ws : va_W} {idx a : Nat} {fs : List Value} {v : Value} {H0 : Heap} (C : CallFix p m c cc nL s args TB own) (hE : EK D tys NW s) (hP : va_P D vwCl ws H) (hD : va_D A ws) (hS : va_S A H0 H locs) (q0 k : Nat) (he : ws[q0]? = some (a, .inr (3, fs))) (hk : k < 9) (hlink : Cond.fieldLink own idx (TX3 k).1 (TX3 k).2.1 (TX3 k).2.2.1 ∈ TB) (hfin : (TX3 k).2.2.2 = false) (hn : narrow (tyX3 k) v = v) (hfit : fits (tyX3 k) v = true) (hl : k < fs.length) (d : decode cc pc = .ok (.putfield idx, 3))
    (kk : ∀ (H1 : Heap) (locs1 : List Loc), va_P D vwCl (ws.set q0 (a, .inr (3, fs.set k v))) H1 → va_D A (ws.set q0 (a, .inr (3, fs.set k v))) → va_S A H0 H1 locs1 → W p l e R s m args below meth c H1 locs1 cells slots Q (F0 m (pc + 3) ls rest)) : W p l e R s m args below meth c H locs cells slots Q (F0 m pc ls (v :: .ref a :: rest)) :=
  va_put C.1 C.2.1 C.2.2.2.2 inX3 tyX3 tyX3_ok nmX3 C.2.2.2.1 hE.1 hP hD hS q0 he rfl k hk (C.2.2.2.2 _ hlink) (fun _ h => h) hfin (tyX3_ok k hk) hn hfit hl d kk
theorem inX4 : ∀ w ∈ u_ws RX4 TX4 7, w ∈ TB := by
  intro w hw
  have h : ∀ w ∈ u_ws RX4 TX4 7, w ∈ tables_1 ∧ goodWord w = true := by decide +kernel
  exact t_a (h w hw).1 (h w hw).2
theorem gf_X4 {ws : va_W} {idx a : Nat} {fs : List Value} {v : Value} (C : CallFix p m c cc nL s args TB own) (hE : EK D tys NW s) (hP : va_P D vwCl ws H) (q0 k : Nat) (he : ws[q0]? = some (a, .inr (4, fs))) (hk : k < 7) (hlink : Cond.fieldLink own idx (TX4 k).1 (TX4 k).2.1 (TX4 k).2.2.1 ∈ TB) (hv : fs[k]? = some v) (d : decode cc pc = .ok (.getfield idx, 3))
    (kk : W p l e R s m args below meth c H locs cells slots Q (F0 m (pc + 3) ls (v :: rest))) : W p l e R s m args below meth c H locs cells slots Q (F0 m pc ls (.ref a :: rest)) :=
  va_get C.1 C.2.1 C.2.2.2.2 inX4 C.2.2.2.1 hE.1 hP q0 he rfl k hk (C.2.2.2.2 _ hlink) (fun _ h => h) hv d kk
theorem pf_X4 {ws : va_W} {idx a : Nat} {fs : List Value} {v : Value} {H0 : Heap} (C : CallFix p m c cc nL s args TB own) (hE : EK D tys NW s) (hP : va_P D vwCl ws H) (hD : va_D A ws) (hS : va_S A H0 H locs) (q0 k : Nat) (he : ws[q0]? = some (a, .inr (4, fs))) (hk : k < 7) (hlink : Cond.fieldLink own idx (TX4 k).1 (TX4 k).2.1 (TX4 k).2.2.1 ∈ TB) (hfin : (TX4 k).2.2.2 = false) (hn : narrow (tyX4 k) v = v) (hfit : fits (tyX4 k) v = true) (hl : k < fs.length) (d : decode cc pc = .ok (.putfield idx, 3))
    (kk : ∀ (H1 : Heap) (locs1 : List Loc), va_P D vwCl (ws.set q0 (a, .inr (4, fs.set k v))) H1 → va_D A (ws.set q0 (a, .inr (4, fs.set k v))) → va_S A H0 H1 locs1 → W p l e R s m args below meth c H1 locs1 cells slots Q (F0 m (pc + 3) ls rest)) : W p l e R s m args below meth c H locs cells slots Q (F0 m pc ls (v :: .ref a :: rest)) :=
  va_put C.1 C.2.1 C.2.2.2.2 inX4 tyX4 tyX4_ok nmX4 C.2.2.2.1 hE.1 hP hD hS q0 he rfl k hk (C.2.2.2.2 _ hlink) (fun _ h => h) hfin (tyX4_ok k hk) hn hfit hl d kk
theorem inX5 : ∀ w ∈ u_ws RX5 TX5 2, w ∈ TB := by
  intro w hw
  have h : ∀ w ∈ u_ws RX5 TX5 2, w ∈ tables_1 ∧ goodWord w = true := by decide +kernel
  exact t_a (h w hw).1 (h w hw).2
theorem gf_X5 {ws : va_W} {idx a : Nat} {fs : List Value} {v : Value} (C : CallFix p m c cc nL s args TB own) (hE : EK D tys NW s) (hP : va_P D vwCl ws H) (q0 k : Nat) (he : ws[q0]? = some (a, .inr (5, fs))) (hk : k < 2) (hlink : Cond.fieldLink own idx (TX5 k).1 (TX5 k).2.1 (TX5 k).2.2.1 ∈ TB) (hv : fs[k]? = some v) (d : decode cc pc = .ok (.getfield idx, 3))
    (kk : W p l e R s m args below meth c H locs cells slots Q (F0 m (pc + 3) ls (v :: rest))) : W p l e R s m args below meth c H locs cells slots Q (F0 m pc ls (.ref a :: rest)) :=
  va_get C.1 C.2.1 C.2.2.2.2 inX5 C.2.2.2.1 hE.1 hP q0 he rfl k hk (C.2.2.2.2 _ hlink) (fun _ h => h) hv d kk
theorem pf_X5 {ws : va_W} {idx a : Nat} {fs : List Value} {v : Value} {H0 : Heap} (C : CallFix p m c cc nL s args TB own) (hE : EK D tys NW s) (hP : va_P D vwCl ws H) (hD : va_D A ws) (hS : va_S A H0 H locs) (q0 k : Nat) (he : ws[q0]? = some (a, .inr (5, fs))) (hk : k < 2) (hlink : Cond.fieldLink own idx (TX5 k).1 (TX5 k).2.1 (TX5 k).2.2.1 ∈ TB) (hfin : (TX5 k).2.2.2 = false) (hn : narrow (tyX5 k) v = v) (hfit : fits (tyX5 k) v = true) (hl : k < fs.length) (d : decode cc pc = .ok (.putfield idx, 3))
    (kk : ∀ (H1 : Heap) (locs1 : List Loc), va_P D vwCl (ws.set q0 (a, .inr (5, fs.set k v))) H1 → va_D A (ws.set q0 (a, .inr (5, fs.set k v))) → va_S A H0 H1 locs1 → W p l e R s m args below meth c H1 locs1 cells slots Q (F0 m (pc + 3) ls rest)) : W p l e R s m args below meth c H locs cells slots Q (F0 m pc ls (v :: .ref a :: rest)) :=
  va_put C.1 C.2.1 C.2.2.2.2 inX5 tyX5 tyX5_ok nmX5 C.2.2.2.1 hE.1 hP hD hS q0 he rfl k hk (C.2.2.2.2 _ hlink) (fun _ h => h) hfin (tyX5_ok k hk) hn hfit hl d kk
theorem inX6 : ∀ w ∈ u_ws RX6 TX6 10, w ∈ TB := by
  intro w hw
  have h : ∀ w ∈ u_ws RX6 TX6 10, w ∈ tables_1 ∧ goodWord w = true := by decide +kernel
  exact t_a (h w hw).1 (h w hw).2
theorem gf_X6 {ws : va_W} {idx a : Nat} {fs : List Value} {v : Value} (C : CallFix p m c cc nL s args TB own) (hE : EK D tys NW s) (hP : va_P D vwCl ws H) (q0 k : Nat) (he : ws[q0]? = some (a, .inr (6, fs))) (hk : k < 10) (hlink : Cond.fieldLink own idx (TX6 k).1 (TX6 k).2.1 (TX6 k).2.2.1 ∈ TB) (hv : fs[k]? = some v) (d : decode cc pc = .ok (.getfield idx, 3))
    (kk : W p l e R s m args below meth c H locs cells slots Q (F0 m (pc + 3) ls (v :: rest))) : W p l e R s m args below meth c H locs cells slots Q (F0 m pc ls (.ref a :: rest)) :=
  va_get C.1 C.2.1 C.2.2.2.2 inX6 C.2.2.2.1 hE.1 hP q0 he rfl k hk (C.2.2.2.2 _ hlink) (fun _ h => h) hv d kk
theorem pf_X6 {ws : va_W} {idx a : Nat} {fs : List Value} {v : Value} {H0 : Heap} (C : CallFix p m c cc nL s args TB own) (hE : EK D tys NW s) (hP : va_P D vwCl ws H) (hD : va_D A ws) (hS : va_S A H0 H locs) (q0 k : Nat) (he : ws[q0]? = some (a, .inr (6, fs))) (hk : k < 10) (hlink : Cond.fieldLink own idx (TX6 k).1 (TX6 k).2.1 (TX6 k).2.2.1 ∈ TB) (hfin : (TX6 k).2.2.2 = false) (hn : narrow (tyX6 k) v = v) (hfit : fits (tyX6 k) v = true) (hl : k < fs.length) (d : decode cc pc = .ok (.putfield idx, 3))
    (kk : ∀ (H1 : Heap) (locs1 : List Loc), va_P D vwCl (ws.set q0 (a, .inr (6, fs.set k v))) H1 → va_D A (ws.set q0 (a, .inr (6, fs.set k v))) → va_S A H0 H1 locs1 → W p l e R s m args below meth c H1 locs1 cells slots Q (F0 m (pc + 3) ls rest)) : W p l e R s m args below meth c H locs cells slots Q (F0 m pc ls (v :: .ref a :: rest)) :=
  va_put C.1 C.2.1 C.2.2.2.2 inX6 tyX6 tyX6_ok nmX6 C.2.2.2.1 hE.1 hP hD hS q0 he rfl k hk (C.2.2.2.2 _ hlink) (fun _ h => h) hfin (tyX6_ok k hk) hn hfit hl d kk
theorem inX7 : ∀ w ∈ u_ws RX7 TX7 8, w ∈ TB := by
  intro w hw
  have h : ∀ w ∈ u_ws RX7 TX7 8, w ∈ tables_1 ∧ goodWord w = true := by decide +kernel
  exact t_a (h w hw).1 (h w hw).2
theorem gf_X7 {ws : va_W} {idx a : Nat} {fs : List Value} {v : Value} (C : CallFix p m c cc nL s args TB own) (hE : EK D tys NW s) (hP : va_P D vwCl ws H) (q0 k : Nat) (he : ws[q0]? = some (a, .inr (7, fs))) (hk : k < 8) (hlink : Cond.fieldLink own idx (TX7 k).1 (TX7 k).2.1 (TX7 k).2.2.1 ∈ TB) (hv : fs[k]? = some v) (d : decode cc pc = .ok (.getfield idx, 3))
    (kk : W p l e R s m args below meth c H locs cells slots Q (F0 m (pc + 3) ls (v :: rest))) : W p l e R s m args below meth c H locs cells slots Q (F0 m pc ls (.ref a :: rest)) :=
  va_get C.1 C.2.1 C.2.2.2.2 inX7 C.2.2.2.1 hE.1 hP q0 he rfl k hk (C.2.2.2.2 _ hlink) (fun _ h => h) hv d kk
theorem pf_X7 {ws : va_W} {idx a : Nat} {fs : List Value} {v : Value} {H0 : Heap} (C : CallFix p m c cc nL s args TB own) (hE : EK D tys NW s) (hP : va_P D vwCl ws H) (hD : va_D A ws) (hS : va_S A H0 H locs) (q0 k : Nat) (he : ws[q0]? = some (a, .inr (7, fs))) (hk : k < 8) (hlink : Cond.fieldLink own idx (TX7 k).1 (TX7 k).2.1 (TX7 k).2.2.1 ∈ TB) (hfin : (TX7 k).2.2.2 = false) (hn : narrow (tyX7 k) v = v) (hfit : fits (tyX7 k) v = true) (hl : k < fs.length) (d : decode cc pc = .ok (.putfield idx, 3))
    (kk : ∀ (H1 : Heap) (locs1 : List Loc), va_P D vwCl (ws.set q0 (a, .inr (7, fs.set k v))) H1 → va_D A (ws.set q0 (a, .inr (7, fs.set k v))) → va_S A H0 H1 locs1 → W p l e R s m args below meth c H1 locs1 cells slots Q (F0 m (pc + 3) ls rest)) : W p l e R s m args below meth c H locs cells slots Q (F0 m pc ls (v :: .ref a :: rest)) :=
  va_put C.1 C.2.1 C.2.2.2.2 inX7 tyX7 tyX7_ok nmX7 C.2.2.2.1 hE.1 hP hD hS q0 he rfl k hk (C.2.2.2.2 _ hlink) (fun _ h => h) hfin (tyX7_ok k hk) hn hfit hl d kk
theorem inX8 : ∀ w ∈ u_ws RX8 TX8 8, w ∈ TB := by
  intro w hw
  have h : ∀ w ∈ u_ws RX8 TX8 8, w ∈ tables_1 ∧ goodWord w = true := by decide +kernel
  exact t_a (h w hw).1 (h w hw).2
theorem gf_X8 {ws : va_W} {idx a : Nat} {fs : List Value} {v : Value} (C : CallFix p m c cc nL s args TB own) (hE : EK D tys NW s) (hP : va_P D vwCl ws H) (q0 k : Nat) (he : ws[q0]? = some (a, .inr (8, fs))) (hk : k < 8) (hlink : Cond.fieldLink own idx (TX8 k).1 (TX8 k).2.1 (TX8 k).2.2.1 ∈ TB) (hv : fs[k]? = some v) (d : decode cc pc = .ok (.getfield idx, 3))
    (kk : W p l e R s m args below meth c H locs cells slots Q (F0 m (pc + 3) ls (v :: rest))) : W p l e R s m args below meth c H locs cells slots Q (F0 m pc ls (.ref a :: rest)) :=
  va_get C.1 C.2.1 C.2.2.2.2 inX8 C.2.2.2.1 hE.1 hP q0 he rfl k hk (C.2.2.2.2 _ hlink) (fun _ h => h) hv d kk
theorem pf_X8 {ws : va_W} {idx a : Nat} {fs : List Value} {v : Value} {H0 : Heap} (C : CallFix p m c cc nL s args TB own) (hE : EK D tys NW s) (hP : va_P D vwCl ws H) (hD : va_D A ws) (hS : va_S A H0 H locs) (q0 k : Nat) (he : ws[q0]? = some (a, .inr (8, fs))) (hk : k < 8) (hlink : Cond.fieldLink own idx (TX8 k).1 (TX8 k).2.1 (TX8 k).2.2.1 ∈ TB) (hfin : (TX8 k).2.2.2 = false) (hn : narrow (tyX8 k) v = v) (hfit : fits (tyX8 k) v = true) (hl : k < fs.length) (d : decode cc pc = .ok (.putfield idx, 3))
    (kk : ∀ (H1 : Heap) (locs1 : List Loc), va_P D vwCl (ws.set q0 (a, .inr (8, fs.set k v))) H1 → va_D A (ws.set q0 (a, .inr (8, fs.set k v))) → va_S A H0 H1 locs1 → W p l e R s m args below meth c H1 locs1 cells slots Q (F0 m (pc + 3) ls rest)) : W p l e R s m args below meth c H locs cells slots Q (F0 m pc ls (v :: .ref a :: rest)) :=
  va_put C.1 C.2.1 C.2.2.2.2 inX8 tyX8 tyX8_ok nmX8 C.2.2.2.1 hE.1 hP hD hS q0 he rfl k hk (C.2.2.2.2 _ hlink) (fun _ h => h) hfin (tyX8_ok k hk) hn hfit hl d kk
theorem inX9 : ∀ w ∈ u_ws RX9 TX9 5, w ∈ TB := by
  intro w hw
  have h : ∀ w ∈ u_ws RX9 TX9 5, w ∈ tables_1 ∧ goodWord w = true := by decide +kernel
  exact t_a (h w hw).1 (h w hw).2
theorem gf_X9 {ws : va_W} {idx a : Nat} {fs : List Value} {v : Value} (C : CallFix p m c cc nL s args TB own) (hE : EK D tys NW s) (hP : va_P D vwCl ws H) (q0 k : Nat) (he : ws[q0]? = some (a, .inr (9, fs))) (hk : k < 5) (hlink : Cond.fieldLink own idx (TX9 k).1 (TX9 k).2.1 (TX9 k).2.2.1 ∈ TB) (hv : fs[k]? = some v) (d : decode cc pc = .ok (.getfield idx, 3))
    (kk : W p l e R s m args below meth c H locs cells slots Q (F0 m (pc + 3) ls (v :: rest))) : W p l e R s m args below meth c H locs cells slots Q (F0 m pc ls (.ref a :: rest)) :=
  va_get C.1 C.2.1 C.2.2.2.2 inX9 C.2.2.2.1 hE.1 hP q0 he rfl k hk (C.2.2.2.2 _ hlink) (fun _ h => h) hv d kk
theorem pf_X9 {ws : va_W} {idx a : Nat} {fs : List Value} {v : Value} {H0 : Heap} (C : CallFix p m c cc nL s args TB own) (hE : EK D tys NW s) (hP : va_P D vwCl ws H) (hD : va_D A ws) (hS : va_S A H0 H locs) (q0 k : Nat) (he : ws[q0]? = some (a, .inr (9, fs))) (hk : k < 5) (hlink : Cond.fieldLink own idx (TX9 k).1 (TX9 k).2.1 (TX9 k).2.2.1 ∈ TB) (hfin : (TX9 k).2.2.2 = false) (hn : narrow (tyX9 k) v = v) (hfit : fits (tyX9 k) v = true) (hl : k < fs.length) (d : decode cc pc = .ok (.putfield idx, 3))
    (kk : ∀ (H1 : Heap) (locs1 : List Loc), va_P D vwCl (ws.set q0 (a, .inr (9, fs.set k v))) H1 → va_D A (ws.set q0 (a, .inr (9, fs.set k v))) → va_S A H0 H1 locs1 → W p l e R s m args below meth c H1 locs1 cells slots Q (F0 m (pc + 3) ls rest)) : W p l e R s m args below meth c H locs cells slots Q (F0 m pc ls (v :: .ref a :: rest)) :=
  va_put C.1 C.2.1 C.2.2.2.2 inX9 tyX9 tyX9_ok nmX9 C.2.2.2.1 hE.1 hP hD hS q0 he rfl k hk (C.2.2.2.2 _ hlink) (fun _ h => h) hfin (tyX9_ok k hk) hn hfit hl d kk
theorem inX10 : ∀ w ∈ u_ws RX10 TX10 16, w ∈ TB := by
  intro w hw
  have h : ∀ w ∈ u_ws RX10 TX10 16, w ∈ tables_1 ∧ goodWord w = true := by decide +kernel
  exact t_a (h w hw).1 (h w hw).2
theorem gf_X10 {ws : va_W} {idx a : Nat} {fs : List Value} {v : Value} (C : CallFix p m c cc nL s args TB own) (hE : EK D tys NW s) (hP : va_P D vwCl ws H) (q0 k : Nat) (he : ws[q0]? = some (a, .inr (10, fs))) (hk : k < 16) (hlink : Cond.fieldLink own idx (TX10 k).1 (TX10 k).2.1 (TX10 k).2.2.1 ∈ TB) (hv : fs[k]? = some v) (d : decode cc pc = .ok (.getfield idx, 3))
    (kk : W p l e R s m args below meth c H locs cells slots Q (F0 m (pc + 3) ls (v :: rest))) : W p l e R s m args below meth c H locs cells slots Q (F0 m pc ls (.ref a :: rest)) :=
  va_get C.1 C.2.1 C.2.2.2.2 inX10 C.2.2.2.1 hE.1 hP q0 he rfl k hk (C.2.2.2.2 _ hlink) (fun _ h => h) hv d kk
theorem pf_X10 {ws : va_W} {idx a : Nat} {fs : List Value} {v : Value} {H0 : Heap} (C : CallFix p m c cc nL s args TB own) (hE : EK D tys NW s) (hP : va_P D vwCl ws H) (hD : va_D A ws) (hS : va_S A H0 H locs) (q0 k : Nat) (he : ws[q0]? = some (a, .inr (10, fs))) (hk : k < 16) (hlink : Cond.fieldLink own idx (TX10 k).1 (TX10 k).2.1 (TX10 k).2.2.1 ∈ TB) (hfin : (TX10 k).2.2.2 = false) (hn : narrow (tyX10 k) v = v) (hfit : fits (tyX10 k) v = true) (hl : k < fs.length) (d : decode cc pc = .ok (.putfield idx, 3))
    (kk : ∀ (H1 : Heap) (locs1 : List Loc), va_P D vwCl (ws.set q0 (a, .inr (10, fs.set k v))) H1 → va_D A (ws.set q0 (a, .inr (10, fs.set k v))) → va_S A H0 H1 locs1 → W p l e R s m args below meth c H1 locs1 cells slots Q (F0 m (pc + 3) ls rest)) : W p l e R s m args below meth c H locs cells slots Q (F0 m pc ls (v :: .ref a :: rest)) :=
  va_put C.1 C.2.1 C.2.2.2.2 inX10 tyX10 tyX10_ok nmX10 C.2.2.2.1 hE.1 hP hD hS q0 he rfl k hk (C.2.2.2.2 _ hlink) (fun _ h => h) hfin (tyX10_ok k hk) hn hfit hl d kk
end BaseRows
theorem tw_0 (x : Int32) (lo : Int) : x.toInt < lo ∨ lo ≤ x.toInt := by omega
theorem tw_s {x y : Int32} {lo z : Int} (h : x.toInt < lo ∨ z ≤ x.toInt) (hn : ¬ x = y) (hy : y.toInt = z := by decide) : x.toInt < lo ∨ z + 1 ≤ x.toInt := by
  rcases h with h | h
  · exact Or.inl h
  · refine Or.inr ?_
    have : x.toInt ≠ z := fun e => hn (Int32.toInt_inj.mp (e.trans hy.symm))
    omega
theorem tw_e {x : Int32} {lo hi z : Int} (h : x.toInt < lo ∨ z ≤ x.toInt) (hz : hi + 1 = z := by decide) : x.toInt < lo ∨ hi < x.toInt := by omega
theorem lk_2 {x : Int32} {a b d : Int} (h0 : ¬ x = 0) (h1 : ¬ x = 1) : Op.lookupswitch.offset [((0 : Int), a), (1, b)] d x.toInt = d := by
  have e0 : x.toInt ≠ 0 := fun e => h0 (Int32.toInt_inj.mp (e.trans (by decide)))
  have e1 : x.toInt ≠ 1 := fun e => h1 (Int32.toInt_inj.mp (e.trans (by decide)))
  simp [Op.lookupswitch.offset, e0.symm, e1.symm, e0, e1]
