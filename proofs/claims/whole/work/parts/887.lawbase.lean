section LawRows
variable {p : Program} {l : Launch} {e : Env} {R : Room} {s : State} {m : MethodId} {args : Array Value} {below : List Frame} {meth : Method} {c : Code} {H : Heap} {locs : List Loc} {cells slots : Nat} {Q : State → Prop}
variable {cc : ByteArray} {pc nL : Nat} {ls : Array Slot} {rest : List Value} {D : va_G} {tys : List (ClassId × FieldType)} {NW : List Cond} {A : Nat → Prop} {own : String}
theorem va_P_l {ws T : va_W} (h : va_P D vwCl (ws ++ T) H) : va_P D vwCl ws H := fun k q hq => h k q (by rw [List.getElem?_append_left (List.getElem?_eq_some_iff.mp hq).1]; exact hq)
theorem va_P_r {ws T : va_W} (h : va_P D vwCl (ws ++ T) H) : va_P D vwCl T H := fun k q hq => h (ws.length + k) q (by rw [List.getElem?_append_right (Nat.le_add_right _ _), Nat.add_sub_cancel_left]; exact hq)
theorem va_P_mem {ws : va_W} : va_P D vwCl ws H ↔ ∀ q ∈ ws, va_at D vwCl q H := ⟨fun h q hq => by obtain ⟨k, hk⟩ := List.getElem?_of_mem hq; exact h k q hk, fun h k q hk => h q (List.mem_of_getElem? hk)⟩
theorem va_D_nd {ws : va_W} : va_D A ws ↔ (ws.map Prod.fst).Nodup ∧ ∀ q ∈ ws, A q.1 := by
  constructor
  · rintro ⟨h1, h2⟩
    refine ⟨?_, fun q hq => by obtain ⟨k, hk⟩ := List.getElem?_of_mem hq; exact h2 k q hk⟩
    rw [List.Nodup, List.pairwise_map, List.pairwise_iff_getElem]
    intro i j hi hj hij he
    exact absurd (h1 i j _ _ (List.getElem?_eq_getElem hi) (List.getElem?_eq_getElem hj) he) (by omega)
  · rintro ⟨h1, h2⟩
    refine ⟨fun i j p q hp hq he => ?_, fun k q hk => h2 q (List.mem_of_getElem? hk)⟩
    rw [List.Nodup, List.pairwise_map, List.pairwise_iff_getElem] at h1
    obtain ⟨hi, hpi⟩ := List.getElem?_eq_some_iff.mp hp
    obtain ⟨hj, hqj⟩ := List.getElem?_eq_some_iff.mp hq
    rcases Nat.lt_trichotomy i j with h | h | h
    · exact absurd (by rw [hpi, hqj]; exact he) (h1 i j hi hj h)
    · exact h
    · exact absurd (by rw [hpi, hqj]; exact he.symm) (h1 j i hj hi h)
theorem va_P_pm {ws ws' : va_W} (h : ws.Perm ws') (hP : va_P D vwCl ws H) : va_P D vwCl ws' H := va_P_mem.mpr (fun q hq => va_P_mem.mp hP q (h.mem_iff.mpr hq))
theorem va_D_pm {ws ws' : va_W} (h : ws.Perm ws') (hD : va_D A ws) : va_D A ws' := by
  have h1 := va_D_nd.mp hD
  exact va_D_nd.mpr ⟨(h.map Prod.fst).nodup_iff.mp h1.1, fun q hq => h1.2 q (h.mem_iff.mpr hq)⟩
/-- what a run on the cells wc leaves of wc ++ wr -/
theorem jn_H {wc w1 wr : va_W} {H0 H1 : Heap} (hP : va_P D vwCl (wc ++ wr) H) (hD : va_D A (wc ++ wr)) (hS : va_S A H0 H locs) (hA : ∀ q, H0.size ≤ q → A q) (hP1 : va_P D vwCl w1 H1) (hD1 : va_D (va_A wc H.size) w1) (hk : ∀ q : Nat, q < H.size → ¬ va_A wc H.size q → H1[q]? = H[q]?) : (∀ q, va_A wc H.size q → A q) ∧ va_P D vwCl (w1 ++ wr) H1 ∧ va_D A (w1 ++ wr) := by
  have hd := va_D_nd.mp hD
  have hF : ∀ q, va_A wc H.size q → A q := by
    rintro q (⟨k, e9, h⟩ | h)
    · exact hd.2 (q, e9) (List.mem_append_left _ (List.mem_of_getElem? h))
    · exact hA q (Nat.le_trans hS.1 h)
  have hpr := va_P_mem.mp (va_P_r hP)
  rw [List.map_append, List.nodup_append] at hd
  have ar : ∀ q ∈ wr, q.1 < H.size ∧ ¬ va_A wc H.size q.1 := fun q hq => by
    have hlt := (hpr q hq).lt
    refine ⟨hlt, ?_⟩
    rintro (⟨k2, e2, h2⟩ | h2)
    · exact hd.1.2.2 q.1 (List.mem_map.mpr ⟨(q.1, e2), List.mem_of_getElem? h2, rfl⟩) q.1 (List.mem_map.mpr ⟨q, hq, rfl⟩) rfl
    · omega
  have hd1 := va_D_nd.mp hD1
  refine ⟨hF, va_P_mem.mpr (fun q hq => ?_), va_D_nd.mpr ⟨?_, fun q hq => ?_⟩⟩
  · rcases List.mem_append.mp hq with h | h
    · exact va_P_mem.mp hP1 q h
    · exact (hpr q h).kept (hk q.1 (ar q h).1 (ar q h).2)
  · rw [List.map_append, List.nodup_append]
    refine ⟨hd1.1, hd.1.2.1, fun a ha b hb hab => ?_⟩
    obtain ⟨x, hx, rfl⟩ := List.mem_map.mp ha
    obtain ⟨z, hz, rfl⟩ := List.mem_map.mp hb
    exact (ar z hz).2 (by rw [← hab]; exact hd1.2 x hx)
  · rcases List.mem_append.mp hq with h | h
    · exact hF _ (hd1.2 q h)
    · exact hd.2 q (List.mem_append_right _ h)
theorem va_D_w {wc wr : va_W} (hD : va_D A (wc ++ wr)) : va_D (fun _ => True) wc := by
  have hd := va_D_nd.mp hD
  rw [List.map_append, List.nodup_append] at hd
  exact va_D_nd.mpr ⟨hd.1.1, fun _ _ => trivial⟩
/-- a writing call whose cells stand first -/
theorem iv_H {As : List Value} {y : MethodName} {cy : ByteArray} {ny idx ci N0 b : Nat} {ry : Option FieldType} {rm : Room} {wc w1 wr : va_W} {r : Option Value} {C0 : String} {T0 : u_T} {fs : List Value} {H0 : Heap} (C : CallFix p m c cc nL s args TB own) (hE : EK D tys NW s) (hP : va_P D vwCl (wc ++ wr) H) (hD : va_D A (wc ++ wr)) (hS : va_S A H0 H locs) (hA : ∀ q, H0.size ≤ q → A q)
    (hM : CtrW l D tys NW y cy ny ry rm (.ref b :: As) wc w1 r) (ok : OKV C0 y cy ny ry As.length) (hlink : Cond.methodLink own idx y ∈ TB) (h0 : rm.cells = 0) (h1 : rm.slots = 0) (hR : rm.frames + 1 ≤ R.frames ∧ 8 + (ny + 11) + rm.locals ≤ R.locals)
    (q0 : wc[0]? = some (b, .inr (ci, fs))) (hci : vwCl[ci]? = some (C0, T0, N0)) (hls : ls.size = nL) (hrest : (rest.map fun v => v.category).sum ≤ 8) (hc : cells ≤ R.cells ∧ slots ≤ R.slots) (d : decode cc pc = .ok (.invokevirtual idx, 3))
    {st st1 : List Value} (hst : st = As.reverse ++ .ref b :: rest) (hst1 : st1 = r.toList ++ rest) (kk : ∀ (H1 : Heap) (locs1 : List Loc), va_P D vwCl (w1 ++ wr) H1 → va_D A (w1 ++ wr) → va_S A H0 H1 locs1 → W p l e R s m args below meth c H1 locs1 cells slots Q (F0 m (pc + 3) ls st1)) : W p l e R s m args below meth c H locs cells slots Q (F0 m pc ls st) := by
  subst hst; subst hst1
  have hPc := va_P_l hP
  have hF : ∀ q, va_A wc H.size q → A q := by
    rintro q (⟨k, e9, h⟩ | h)
    · exact (va_D_nd.mp hD).2 (q, e9) (List.mem_append_left _ (List.mem_of_getElem? h))
    · exact hA q (Nat.le_trans hS.1 h)
  refine kk_A (va_runV (As := As) (rest := rest) C (hM H.size) (cwV As.length C.2.2.2.2 (gi_V ok hlink) rfl h0 h1 ok.1 hR) ⟨fun a U g mk q => ⟨q.1, q.2.1, EK.calling q.2.2.1, q.2.2.2⟩, va_recv hE.1 hPc hci q0, fun U hU hW => ⟨rfl, by rw [hU], EK.warm hW hE, by rw [hU]; exact hPc, va_D_w hD⟩⟩ rfl rfl hls rfl (lv_room hrest) d hc) hS hF
    (fun H1 locs1 hP1 hD1 hk hS1 => ?_)
  obtain ⟨-, p1, d1⟩ := jn_H hP hD hS hA hP1 hD1 hk
  exact kk H1 locs1 p1 d1 hS1
/-- a call that makes cells, its own cells first -/
theorem iv_HN {S : Type} {As : List Value} {y : MethodName} {cy : ByteArray} {ny idx ci N0 b mc ms : Nat} {ry : Option FieldType} {rm : Room} {wc wr : va_W} {w1 : S → va_W} {r : Option Value} {C0 : String} {T0 : u_T} {fs : List Value} {H0 : Heap} (C : CallFix p m c cc nL s args TB own) (hE : EK D tys NW s) (hP : va_P D vwCl (wc ++ wr) H) (hD : va_D A (wc ++ wr)) (hS : va_S A H0 H locs) (hA : ∀ q, H0.size ≤ q → A q)
    (hM : CtrN l D tys NW y cy ny ry rm (.ref b :: As) wc w1 r mc ms) (ok : OKV C0 y cy ny ry As.length) (hlink : Cond.methodLink own idx y ∈ TB) (h0 : rm.cells = mc) (h1 : rm.slots = ms) (hR : rm.frames + 1 ≤ R.frames ∧ 8 + (ny + 11) + rm.locals ≤ R.locals)
    (q0 : wc[0]? = some (b, .inr (ci, fs))) (hci : vwCl[ci]? = some (C0, T0, N0)) (hls : ls.size = nL) (hrest : (rest.map fun v => v.category).sum ≤ 8) (hc : cells + mc ≤ R.cells ∧ slots + ms ≤ R.slots) (d : decode cc pc = .ok (.invokevirtual idx, 3))
    {st st1 : List Value} (hst : st = As.reverse ++ .ref b :: rest) (hst1 : st1 = r.toList ++ rest) (kk : ∀ (u : S) (H1 : Heap) (locs1 : List Loc), va_P D vwCl (w1 u ++ wr) H1 → va_D A (w1 u ++ wr) → va_S A H0 H1 locs1 → W p l e R s m args below meth c H1 locs1 (cells + mc) (slots + ms) Q (F0 m (pc + 3) ls st1)) : W p l e R s m args below meth c H locs cells slots Q (F0 m pc ls st) := by
  subst hst; subst hst1
  have hPc := va_P_l hP
  have hF : ∀ q, va_A wc H.size q → A q := by
    rintro q (⟨k, e9, h⟩ | h)
    · exact (va_D_nd.mp hD).2 (q, e9) (List.mem_append_left _ (List.mem_of_getElem? h))
    · exact hA q (Nat.le_trans hS.1 h)
  refine kk_N (va_runV (As := As) (rest := rest) C (hM H.size) (cwV As.length C.2.2.2.2 (gi_V ok hlink) rfl h0 h1 ok.1 hR) ⟨fun a U g mk q => ⟨q.1, q.2.1, EK.calling q.2.2.1, q.2.2.2⟩, va_recv hE.1 hPc hci q0, fun U hU hW => ⟨rfl, by rw [hU], EK.warm hW hE, by rw [hU]; exact hPc, va_D_w hD⟩⟩ rfl rfl hls rfl (lv_room hrest) d hc) hS hF
    (fun u H1 locs1 hP1 hD1 hk hS1 => ?_)
  obtain ⟨-, p1, d1⟩ := jn_H hP hD hS hA hP1 hD1 hk
  exact kk u H1 locs1 p1 d1 hS1
end LawRows
/-! the world of the law: this, now, paper, anew, packed, the model, the rest; which parts come first -/
abbrev lwW (s1 s2 s3 s4 s5 s6 T : va_W) : va_W := s1 ++ (s2 ++ (s3 ++ (s4 ++ (s5 ++ (s6 ++ T)))))
theorem pm_n (s1 s2 s3 s4 s5 s6 T : va_W) : (lwW s1 s2 s3 s4 s5 s6 T).Perm ((s1 ++ s2) ++ (s3 ++ (s4 ++ (s5 ++ (s6 ++ T))))) := by
  rw [lwW, List.append_assoc]
theorem pm_np (s1 s2 s3 s4 s5 s6 T : va_W) : (lwW s1 s2 s3 s4 s5 s6 T).Perm ((s1 ++ (s2 ++ s3)) ++ (s4 ++ (s5 ++ (s6 ++ T)))) := by
  rw [lwW, List.append_assoc, List.append_assoc]
theorem sw2 (a b t : va_W) : (a ++ (b ++ t)).Perm (b ++ (a ++ t)) := by
  rw [← List.append_assoc, ← List.append_assoc]
  exact List.Perm.append_right t List.perm_append_comm
theorem pm_na (s1 s2 s3 s4 s5 s6 T : va_W) : (lwW s1 s2 s3 s4 s5 s6 T).Perm ((s1 ++ (s2 ++ s4)) ++ (s3 ++ (s5 ++ (s6 ++ T)))) := by
  rw [lwW, List.append_assoc, List.append_assoc]
  exact List.Perm.append_left s1 (List.Perm.append_left s2 (sw2 s3 s4 _))
theorem pm_nk (s1 s2 s3 s4 s5 s6 T : va_W) : (lwW s1 s2 s3 s4 s5 s6 T).Perm ((s1 ++ (s2 ++ s5)) ++ (s3 ++ (s4 ++ (s6 ++ T)))) := by
  rw [lwW, List.append_assoc, List.append_assoc]
  refine List.Perm.append_left s1 (List.Perm.append_left s2 ?_)
  exact (List.Perm.append_left s3 (sw2 s4 s5 _)).trans (sw2 s3 s5 _)
theorem pm_m (s1 s2 s3 s4 s5 s6 T : va_W) : (lwW s1 s2 s3 s4 s5 s6 T).Perm (s6 ++ (s1 ++ (s2 ++ (s3 ++ (s4 ++ (s5 ++ T)))))) := by
  rw [lwW]
  exact ((List.Perm.append_left s1 (List.Perm.append_left s2 (List.Perm.append_left s3 ((List.Perm.append_left s4 (sw2 s5 s6 T)).trans (sw2 s4 s6 _))))).trans ((List.Perm.append_left s1 (List.Perm.append_left s2 (sw2 s3 s6 _))).trans ((List.Perm.append_left s1 (sw2 s2 s6 _)).trans (sw2 s1 s6 _))))
theorem pm_t (s1 s2 s3 s4 s5 s6 t T : va_W) : (lwW s1 s2 s3 s4 s5 s6 (t ++ T)).Perm ((s1 ++ s2 ++ t) ++ (s3 ++ (s4 ++ (s5 ++ (s6 ++ T))))) := by
  rw [lwW, List.append_assoc, List.append_assoc]
  refine List.Perm.append_left s1 (List.Perm.append_left s2 ?_)
  exact (List.Perm.append_left s3 ((List.Perm.append_left s4 ((List.Perm.append_left s5 (sw2 s6 t T)).trans (sw2 s5 t _))).trans (sw2 s4 t _))).trans (sw2 s3 t _)
