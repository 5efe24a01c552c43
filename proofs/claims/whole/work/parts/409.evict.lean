/-! the state of a store, apart from how it is laid out; one goes -/
abbrev SS : Type := List En × List Int32 × List Int32 × (Nat → Int32)
def pinA (e : En) : Int32 := if eP e = 0 then 0 else eW e
def NC (sc hap : Nat → Int32) (got cap wy bal wbt us ag hv : Int32) : Prop := hap 5 = sc 9 ∧ hap 2 = sc 10 ∧ hap 3 = sc 11 ∧ hap 6 = sc 12 ∧ got = sc 8 ∧ cap = sc 1 ∧ wy = sc 2 ∧ bal = sc 3 ∧ wbt = sc 16 ∧ us = sc 4 ∧ ag = sc 6 ∧ hv = sc 15
def RC (S : SS) : tX6 → tX1 → tX2 → tX2 → Prop
  | (hap, got, cap, wy, bal, wbt), (kK, kV, kW, kC, kL, kT, kP, sz, ld, pl, us, ag, hv), xy, xz =>
    (∃ L, L.Perm S.1 ∧ EC L kK kV kW kC kL kT kP sz) ∧ ld = sumBy eW S.1 ∧ pl = sumBy pinA S.1 ∧ GC S.2.1 xy ∧ GC S.2.2.1 xz ∧ NC S.2.2.2 hap got cap wy bal wbt us ag hv
def RM (S : SS) (w : Nat → Int32) (o : Nat) : Prop := (∃ L, L.Perm S.1 ∧ EM L w o) ∧ GM 0 S.2.1 w o ∧ GM 1 S.2.2.1 w o ∧ ∀ q, 1 ≤ q → q ≤ 18 → w (o + q) = S.2.2.2 q
def FrO (w w' : Nat → Int32) (o : Nat) : Prop := ∀ q, (q < o ∨ o + 476 ≤ q) → w' q = w q
theorem FrO.rfl' {w : Nat → Int32} {o : Nat} : FrO w w o := fun _ _ => rfl
theorem FrO.trans {a b c : Nat → Int32} {o : Nat} (h1 : FrO a b o) (h2 : FrO b c o) : FrO a c o := fun q hq => (h2 q hq).trans (h1 q hq)
/-- a place in the store's rows, in the reference's row -/
def IXC (M : List En) (oe : Option En) (r : Int32) : tX1 → Prop
  | (kK, kV, kW, kC, kL, kT, kP, sz, _, _, _, _, _) => ∃ L, L.Perm M ∧ EC L kK kV kW kC kL kT kP sz ∧ IX L oe r
def IXM (M : List En) (oe : Option En) (r : Int32) (w : Nat → Int32) (o : Nat) : Prop := ∃ L, L.Perm M ∧ EM L w o ∧ IX L oe r
def VOk (v : Int32) : Prop := -9999 ≤ v.toInt ∧ v.toInt ≤ 9999
def OkE (u t : Int32) (e : En) : Prop := 0 ≤ (eK e).toInt ∧ (eK e).toInt < 1000 ∧ 1 ≤ (eW e).toInt ∧ (eW e).toInt ≤ 99 ∧ 1 ≤ (eC e).toInt ∧ (eC e).toInt ≤ 999999 ∧ (eL e).toInt ≤ u.toInt ∧ (eT e = -1 ∨ t.toInt < (eT e).toInt) ∧ (eP e = 0 ∨ eP e = 1) ∧ VOk (eV e)
def OkW (way : Int32) : Prop := way = 0 ∨ way = 1 ∨ way = 2 ∨ way = 3 ∨ way = 4
def OkV (way : Int32) : Prop := OkW way ∨ way = 5
def OkN (b : Nat) (sc : Nat → Int32) : Prop := 0 ≤ (sc 1).toInt ∧ (sc 1).toInt ≤ 5000 ∧ OkV (sc 2) ∧ 0 ≤ (sc 3).toInt ∧ (sc 3).toInt ≤ (sc 1).toInt ∧ 0 ≤ (sc 4).toInt ∧ (sc 4).toInt ≤ b ∧ 0 < sc 6 ∧ 0 ≤ (sc 16).toInt ∧ (sc 16).toInt ≤ b
def OkL (u t : Int32) (L : List En) : Prop := (L.map eK).Nodup ∧ (L.map eL).Nodup ∧ L.length ≤ 60 ∧ ∀ e ∈ L, OkE u t e
def Ok (b : Nat) (S : SS) : Prop := OkL (S.2.2.2 4) (S.2.2.2 5) S.1 ∧ S.2.1.Nodup ∧ S.2.2.1.Nodup ∧ OkN b S.2.2.2
theorem Ok.way {b : Nat} {S : SS} (h : Ok b S) : OkV (S.2.2.2 2) := h.2.2.2.2.2.1
theorem W4.ev {S : SS} {e : En} (h : OkW (S.2.2.2 2)) : OkW ((upd (upd S.2.2.2 10 (S.2.2.2 10 + 1)) 16 (S.2.2.2 16 + bi (decide (S.2.2.2 2 = 2)))) 2) := by rw [upd_n (by decide), upd_n (by decide)]; exact h
theorem Ok.turn {b : Nat} {S : SS} (h : Ok b S) : 0 ≤ (S.2.2.2 16).toInt := h.2.2.2.2.2.2.2.2.2.2.2.1
theorem Ok.age {b : Nat} {S : SS} (h : Ok b S) : 0 < S.2.2.2 6 := h.2.2.2.2.2.2.2.2.2.2.1
theorem OkL.perm {u t : Int32} {L M : List En} (p : L.Perm M) (h : OkL u t M) : OkL u t L :=
  ⟨(p.map eK).nodup_iff.2 h.1, (p.map eL).nodup_iff.2 h.2.1, by rw [p.length_eq]; exact h.2.2.1, fun e he => h.2.2.2 e (p.mem_iff.1 he)⟩
theorem OkL.PB {u t : Int32} {L : List En} (h : OkL u t L) : PB L := fun e he => (h.2.2.2 e he).2.2.2.2.2.2.2.2.1
theorem OkL.V {u t : Int32} {L : List En} (h : OkL u t L) : ∀ e ∈ L, VOk (eV e) := fun e he => (h.2.2.2 e he).2.2.2.2.2.2.2.2.2
theorem OkL.C {u t : Int32} {L : List En} (h : OkL u t L) : ∀ e ∈ L, 1 ≤ eC e := fun e he => by
  rw [i32_le]; exact (h.2.2.2 e he).2.2.2.2.1
theorem OkL.sub {u t : Int32} {L M : List En} (hs : M.Sublist L) (h : OkL u t L) : OkL u t M :=
  ⟨h.1.sublist (hs.map eK), h.2.1.sublist (hs.map eL), Nat.le_trans hs.length_le h.2.2.1, fun e he => h.2.2.2 e (hs.mem he)⟩
theorem OkL.del {u t : Int32} {L : List En} (k : Int32) (h : OkL u t L) : OkL u t (delK k L) := h.sub List.filter_sublist
/-- what is left when one goes, with a ghost -/
def evS (e : En) (S : SS) : SS := (delK (eK e) S.1, (if isYoung e then addG (eK e) (delG (eK e) S.2.1) else delG (eK e) S.2.1), (if isYoung e then delG (eK e) S.2.2.1 else addG (eK e) (delG (eK e) S.2.2.1)), upd (upd S.2.2.2 10 (S.2.2.2 10 + 1)) 16 (S.2.2.2 16 + bi (decide (S.2.2.2 2 = 2))))
theorem sum_del {L : List En} (hn : (L.map eK).Nodup) {e : En} (he : e ∈ L) (f : En → Int32) : sumBy f (delK (eK e) L) = sumBy f L - f e := by
  obtain ⟨i, hi, rfl⟩ := List.getElem_of_mem he
  have p := dropS_perm hi
  have h1 := sumBy_perm f p
  rw [sumBy_cons] at h1
  rw [← sumBy_perm f (delK_of hn p), ← h1, Int32.add_comm, Int32.add_sub_cancel]
theorem nodup_delG {k : Int32} {g : List Int32} (h : g.Nodup) : (delG k g).Nodup := h.sublist List.filter_sublist
theorem nodup_addG {k : Int32} {g : List Int32} (h : g.Nodup) : (addG k (delG k g)).Nodup := by
  refine List.Nodup.sublist (List.take_sublist _ _) ?_
  rw [List.nodup_cons]
  exact ⟨fun hm => (mem_delG.1 hm).2 rfl, nodup_delG h⟩
theorem bi_toInt (b : Bool) : (bi b).toInt = if b then 1 else 0 := by cases b <;> decide
theorem Ok.ev {b : Nat} {S : SS} {e : En} (h : Ok b S) (hb : b + 1 < 2147483648) : Ok (b + 1) (evS e S) := by
  obtain ⟨h1, h2, h3, n1, n2, n3, n4, n5, n6, n7, n8, n9, n10⟩ := h
  have ht : (S.2.2.2 16 + bi (decide (S.2.2.2 2 = 2))).toInt = (S.2.2.2 16).toInt + (bi (decide (S.2.2.2 2 = 2))).toInt := by
    apply i32_add <;> rw [bi_toInt] <;> split <;> omega
  have hbi := bi_toInt (decide (S.2.2.2 2 = 2))
  refine ⟨?_, ?_, ?_, ?_⟩
  · have := h1.del (eK e)
    simpa [evS, upd] using this
  · simp only [evS]; split
    · exact nodup_addG h2
    · exact nodup_delG h2
  · simp only [evS]; split
    · exact nodup_delG h3
    · exact nodup_addG h3
  · simp only [evS, OkN]
    simp only [upd_s, upd_n (show 1 ≠ 16 by decide), upd_n (show 1 ≠ 10 by decide), upd_n (show 2 ≠ 16 by decide), upd_n (show 2 ≠ 10 by decide), upd_n (show 3 ≠ 16 by decide), upd_n (show 3 ≠ 10 by decide), upd_n (show 4 ≠ 16 by decide), upd_n (show 4 ≠ 10 by decide), upd_n (show 6 ≠ 16 by decide), upd_n (show 6 ≠ 10 by decide)]
    refine ⟨n1, n2, n3, n4, n5, n6, by omega, n8, ?_, ?_⟩
    · rw [ht, hbi]; split <;> omega
    · rw [ht, hbi]; split <;> omega
section CEvict
variable {F b : Nat} {S : SS} {x6 : tX6} {x1 : tX1} {xy xz : tX2} {xq : tX7} {E : List Ev} {e : En} {r : Int32}
theorem RC.choose (h : RC S x6 x1 xy xz) (ok : Ok b S) (hF : 100 ≤ F) (way but : Int32) : Tot (X6_choose F way but x6 x1) (fun r => IXC S.1 (chooseS way but (S.2.2.2 3) (S.2.2.2 16) S.1) r x1) := by
  obtain ⟨hap, got, cap, wy, bal, wbt⟩ := x6
  obtain ⟨kK, kV, kW, kC, kL, kT, kP, sz, ld, pl, us, ag, hv⟩ := x1
  obtain ⟨⟨L, p, hE⟩, _, _, _, _, hN⟩ := h
  obtain ⟨_, _, _, _, _, _, _, hb, ht, _⟩ := hN
  refine tot_m (c_choose hE hF way but hap got cap wy bal wbt ld pl us ag hv) (fun r hr => ⟨L, p, hE, ?_⟩)
  rw [hb, ht, chooseS_perm (ok.1.perm p).2.1 p] at hr
  exact hr
theorem RC.find (h : RC S x6 x1 xy xz) (ok : Ok b S) (hF : 100 ≤ F) (k : Int32) : Tot (X1_find F k x1.1 x1.2.2.2.2.2.2.2.1) (fun r => IXC S.1 (fnd k S.1) r x1) := by
  obtain ⟨hap, got, cap, wy, bal, wbt⟩ := x6
  obtain ⟨kK, kV, kW, kC, kL, kT, kP, sz, ld, pl, us, ag, hv⟩ := x1
  obtain ⟨⟨L, p, hE⟩, _⟩ := h
  refine tot_m (c_find hE hF k) (fun r hr => ⟨L, p, hE, ?_⟩)
  rw [fnd_perm (ok.1.perm p).1 p] at hr
  exact hr
theorem c_evict (h : RC S x6 x1 xy xz) (ok : Ok b S) (hF : 100 ≤ F) (hq : QC E xq) (hx : IXC S.1 (some e) r x1) :
    Tot (X6_evict F r x6 x1 xy xz xq) (fun y => RC (evS e S) y.1 y.2.1 y.2.2.1 y.2.2.2.1 ∧ QC (E ++ [(2, eK e, eV e, eW e, dep xq)]) y.2.2.2.2 ∧ dep y.2.2.2.2 = dep xq) := by
  obtain ⟨hap, got, cap, wy, bal, wbt⟩ := x6
  obtain ⟨kK, kV, kW, kC, kL, kT, kP, sz, ld, pl, us, ag, hv⟩ := x1
  obtain ⟨yk, ys⟩ := xy
  obtain ⟨zk, zs⟩ := xz
  obtain ⟨qa, qb, qc, qd, qe, qs, ql, qp⟩ := xq
  obtain ⟨_, hld, hpl, hy, hz, hN⟩ := h
  obtain ⟨L, p, hE, hi⟩ := hx
  rcases hi with ⟨_, hi⟩ | ⟨i, hi, rfl, he⟩
  · cases hi
  simp only [Option.some.injEq] at he
  have okL := ok.1.perm p
  have hlen := hE.2.1
  have heM : e ∈ S.1 := p.mem_iff.1 (he ▸ List.getElem_mem hi)
  obtain ⟨n1, n2, n3, n4, n5, n6, n7, n8, n9, n10, n11, n12⟩ := hN
  have fin : ∀ wb : Int32, wb = S.2.2.2 16 + bi (decide (S.2.2.2 2 = 2)) → ∀ (xy' xz' : tX2), GC (evS e S).2.1 xy' → GC (evS e S).2.2.1 xz' → Tot ((X6_tell F 2 (kK i) (kV i) (kW i) (hap, got, cap, wy, bal, wb) (qa, qb, qc, qd, qe, qs, ql, qp)).bind fun ((h1, h2, h3, h4, h5, h6), (q1, q2, q3, q4, q5, q6, q7, q8)) => ((X1_drop F (nI i) kK kV kW kC kL kT kP sz ld pl).bind fun (d1, d2, d3, d4, d5, d6, d7, d8, d9, d10) => (some ((h1, h2, h3, h4, h5, h6), (d1, d2, d3, d4, d5, d6, d7, d8, d9, d10, us, ag, hv), xy', xz', (q1, q2, q3, q4, q5, q6, q7, q8)))))
      (fun y => RC (evS e S) y.1 y.2.1 y.2.2.1 y.2.2.2.1 ∧ QC (E ++ [(2, eK e, eV e, eW e, qp)]) y.2.2.2.2 ∧ dep y.2.2.2.2 = qp) := by
    intro wb hwb xy' xz' hy' hz'
    refine tot_b (c_tell (x6 := (hap, got, cap, wy, bal, wb)) hq 2 (by omega) (kK i) (kV i) (kW i)) (fun ⟨⟨h1, h2, h3, h4, h5, h6⟩, q1, q2, q3, q4, q5, q6, q7, q8⟩ ⟨t1, t2, t3⟩ => ?_)
    simp only [Prod.mk.injEq] at t1
    obtain ⟨rfl, rfl, rfl, rfl, rfl, rfl⟩ := t1
    refine tot_b (c_drop hE okL.PB hi ld pl) (fun ⟨d1, d2, d3, d4, d5, d6, d7, d8, d9, d10⟩ ⟨u1, u2, u3⟩ => tot_s ⟨⟨⟨dropS L i, ?_, u1⟩, ?_, ?_, hy', hz', ?_⟩, ?_, t3⟩)
    · have hp := delK_of okL.1 (dropS_perm hi)
      rw [← he] at hp
      exact hp.trans (delK_perm p)
    · simp only [evS]; rw [sum_del ok.1.1 heM, ← hld, he]; exact u2
    · have u3' : d10 = if eP L[i] = 0 then pl else pl - eW L[i] := u3
      simp only [evS]; rw [sum_del ok.1.1 heM, ← hpl, u3', he]
      simp only [pinA]; split <;> simp
    · simp only [evS, NC]
      refine ⟨?_, ?_, ?_, ?_, ?_, ?_, ?_, ?_, ?_, ?_, ?_, ?_⟩ <;> simp [upd] <;> assumption
    · rw [he, ← c_K hE hi, ← c_V hE hi, ← c_W hE hi]; exact t2
  have hyg := c_isYoung (F := F) hE hi
  rw [X6_evict, c_has hE hi]
  simp (disch := omega) only [nI_add, pn_add, pn_addl, pn_mul, pn_cl, pn_nlt0, false_or, pn_ge, pn_le, Nat.add_zero, Nat.zero_add, ↓reduceIte, Option.bind_some, nI_leI, nI_ltI, nI_eq, pn_ne1, pn_1ne]
  rw [if_neg (by decide)]
  refine tot_b (c_forget hy hF (kK i)) (fun ⟨r3, y4, y5⟩ ⟨_, g1⟩ => ?_)
  refine tot_b (c_forget hz hF (kK i)) (fun ⟨r7, z4, z5⟩ ⟨_, g2⟩ => ?_)
  have hkK : kK i = eK e := by rw [he]; exact c_K hE hi
  simp only [hyg, Option.bind_some]
  cases hyoung : isYoung L[i] with
  | false =>
    have hye : isYoung e = false := by rw [he]; exact hyoung
    rw [if_pos (show bi false = 0 from rfl)]
    refine tot_b (c_gadd g2 hF (kK i)) (fun ⟨z6, z7⟩ g3 => ?_)
    have a1 : GC (evS e S).2.1 (y4, y5) := by simp only [evS, hye, Bool.false_eq_true, if_false]; rw [← hkK]; exact g1
    have a2 : GC (evS e S).2.2.1 (z6, z7) := by simp only [evS, hye, Bool.false_eq_true, if_false]; rw [← hkK]; exact g3
    by_cases cw : wy = 2
    · rw [if_pos cw]
      exact fin _ (by rw [n9, ← n7, cw]; rfl) _ _ a1 a2
    · rw [if_neg cw]
      exact fin _ (by rw [n9, ← n7]; simp [cw, bi]) _ _ a1 a2
  | true =>
    have hye : isYoung e = true := by rw [he]; exact hyoung
    rw [if_neg (show ¬ bi true = 0 by decide)]
    refine tot_b (c_gadd g1 hF (kK i)) (fun ⟨z6, z7⟩ g3 => ?_)
    have a1 : GC (evS e S).2.1 (z6, z7) := by simp only [evS, hye, if_true]; rw [← hkK]; exact g3
    have a2 : GC (evS e S).2.2.1 (z4, z5) := by simp only [evS, hye, if_true]; rw [← hkK]; exact g2
    by_cases cw : wy = 2
    · rw [if_pos cw]
      exact fin _ (by rw [n9, ← n7, cw]; rfl) _ _ a1 a2
    · rw [if_neg cw]
      exact fin _ (by rw [n9, ← n7]; simp [cw, bi]) _ _ a1 a2
theorem c_evictN {x6 : tX6} {x1 : tX1} {xy xz : tX2} {xq : tX7} : X6_evict F (-1) x6 x1 xy xz xq = some (x6, x1, xy, xz, xq) := by
  obtain ⟨hap, got, cap, wy, bal, wbt⟩ := x6
  obtain ⟨kK, kV, kW, kC, kL, kT, kP, sz, ld, pl, us, ag, hv⟩ := x1
  obtain ⟨yk, ys⟩ := xy
  obtain ⟨zk, zs⟩ := xz
  obtain ⟨qa, qb, qc, qd, qe, qs, ql, qp⟩ := xq
  rw [X6_evict, c_hasN]; rfl
end CEvict
