/-! the store: what it does is what the spec says -/
theorem within_eq {F : Nat} (a b c : Int32) : X9_within F a b c = some (bi (decide (b ≤ a) && decide (a ≤ c))) := by
  rw [X9_within]
  by_cases h1 : a < b
  · rw [if_pos h1]; have : ¬ b ≤ a := by rw [Int32.not_le]; exact h1
    simp [this, bi]
  · rw [if_neg h1]; have h1' : b ≤ a := by rwa [Int32.not_lt] at h1
    by_cases h2 : c < a
    · rw [if_pos h2]; have : ¬ a ≤ c := by rw [Int32.not_le]; exact h2
      simp [this, bi]
    · rw [if_neg h2]; have h2' : a ≤ c := by rwa [Int32.not_lt] at h2
      simp [h1', h2', bi]
theorem bi_01 (b : Bool) : bi b = 0 ∨ bi b = 1 := by cases b <;> simp [bi]
theorem isCap_eq {F : Nat} (c : Int32) : X9_isCap F c = some (bi (isCapB c)) := by
  rw [X9_isCap, within_eq]; simp only [Option.bind_some]; rw [if_neg (Classical.not_not.2 (bi_01 _))]; rfl
section CStore
variable {F b : Nat} {S : SS} {x6 : tX6} {x1 : tX1} {xy xz : tX2} {xq : tX7} {E : List Ev} {r : Int32}
theorem c_rejects (h : RC S x6 x1 xy xz) (ok : Ok b S) (hF : 100 ≤ F) {k wt : Int32} (hx : IXC S.1 (fnd k S.1) r x1) : X6_rejects F r wt x6 x1 = some (bi (rejS k wt S)) := by
  obtain ⟨hap, got, cap, wy, bal, wbt⟩ := x6
  obtain ⟨kK, kV, kW, kC, kL, kT, kP, sz, ld, pl, us, ag, hv⟩ := x1
  obtain ⟨_, hld, hpl, hy, hz, n1, n2, n3, n4, n5, n6, n7, n8, n9, n10, n11, n12⟩ := h
  obtain ⟨L, p, hE, hi⟩ := hx
  have okL := ok.1.perm p
  have hlen := hE.2.1
  have hl2 := p.length_eq
  have hall : S.1.all (fun e => !decide (eP e = 0)) = true ↔ ∀ e ∈ L, mayGo (-1) e = false := by
    rw [List.all_eq_true]
    constructor
    · intro h e he
      have := h e (p.mem_iff.1 he)
      simp only [Bool.not_eq_true', decide_eq_false_iff_not] at this
      simp [mayGo, this]
    · intro h e he
      rcases mayGo_f (h e (p.mem_iff.2 he)) with h2 | h2
      · simpa using h2
      · have := (ok.1.2.2.2 e he).1
        rw [h2] at this; exact absurd this (by decide)
  rcases hi with ⟨rfl, hi⟩ | ⟨i, hi, rfl, he⟩
  · have hnk := fnd_none.1 hi
    have hpin : sumBy (pinW k) S.1 = pl := by rw [hpl]; exact pin_none ok.1.PB hnk
    rw [X6_rejects, c_hasN]
    simp only [Option.bind_some, if_true]
    rw [rejS, hpin, ← n6, hi]
    by_cases c1 : wt + pl ≤ cap
    · rw [if_pos c1]
      by_cases c2 : L.length < 60
      · rw [if_pos (by rw [hE.1]; exact nI_lt (b := 60) c2 (by omega))]
        simp [c1, bi, show ¬ 60 ≤ S.1.length by omega]
      · rw [if_neg (by rw [hE.1]; exact nI_nlt (b := 60) (by omega) (by omega))]
        obtain ⟨r3, e3, h3⟩ := c_first hE hF 0 (-1)
        rw [e3]
        simp only [Option.bind_some]
        rcases h3 with ⟨rfl, h3⟩ | ⟨j, hj, rfl, h3⟩
        · have := hall.2 (best_none.1 h3)
          simp [c1, bi, show 60 ≤ S.1.length by omega, this]
        · have hf : S.1.all (fun e => !decide (eP e = 0)) = false := by
            rw [Bool.eq_false_iff]
            intro ht
            rw [best_none.2 (hall.1 ht)] at h3; cases h3
          have : ¬ nI j = -1 := by simp (disch := omega) only [nI_add, pn_add, pn_addl, pn_mul, pn_cl, pn_nlt0, false_or, pn_ge, pn_le, Nat.add_zero, Nat.zero_add, ↓reduceIte, Option.bind_some, nI_leI, nI_ltI, nI_eq, pn_ne1, pn_1ne]; simp
          rw [if_neg this, hf]
          simp [c1, bi]
    · rw [if_neg c1]; simp [c1, bi]
  · obtain ⟨e, he0, heK⟩ : ∃ e, fnd k S.1 = some e ∧ eK e = k := ⟨L[i], he, (fnd_some he).2⟩
    have hLi : L[i] = e := by rw [he] at he0; simpa using he0
    have heM : e ∈ S.1 := (fnd_some he0).1
    have hpin : sumBy (pinW k) S.1 = pl - pinA e := by rw [hpl, ← heK]; exact pin_some ok.1.1 ok.1.PB heM
    have hne : ¬ nI i = -1 := by simp (disch := omega) only [nI_add, pn_add, pn_addl, pn_mul, pn_cl, pn_nlt0, false_or, pn_ge, pn_le, Nat.add_zero, Nat.zero_add, ↓reduceIte, Option.bind_some, nI_leI, nI_ltI, nI_eq, pn_ne1, pn_1ne]; simp
    rw [X6_rejects, c_has hE hi]
    simp (disch := omega) only [nI_add, pn_add, pn_addl, pn_mul, pn_cl, pn_nlt0, false_or, pn_ge, pn_le, Nat.add_zero, Nat.zero_add, ↓reduceIte, Option.bind_some, nI_leI, nI_ltI, nI_eq, pn_ne1, pn_1ne, c_P hE hi, c_W hE hi, hLi]
    rw [if_neg (by decide), rejS, hpin, ← n6, he0]
    by_cases c0 : eP e = 0
    · rw [if_pos c0]
      have : pinA e = 0 := by simp [pinA, c0]
      rw [this, Int32.sub_zero]
      by_cases c1 : wt + pl ≤ cap <;> simp [c1, bi]
    · rw [if_neg c0]
      have : pinA e = eW e := by simp [pinA, c0]
      rw [this]
      by_cases c1 : wt + (pl - eW e) ≤ cap <;> simp [c1, bi]
theorem c_heed (h : RC S x6 x1 xy xz) (hF : 100 ≤ F) (k wt : Int32) : Tot (X6_heedGhost F k wt x6 xy xz) (fun y => RC (learnS k wt S) y.1 x1 y.2.1 y.2.2) := by
  obtain ⟨hap, got, cap, wy, bal, wbt⟩ := x6
  obtain ⟨kK, kV, kW, kC, kL, kT, kP, sz, ld, pl, us, ag, hv⟩ := x1
  obtain ⟨yk, ys⟩ := xy
  obtain ⟨zk, zs⟩ := xz
  obtain ⟨hL, hld, hpl, hy, hz, n1, n2, n3, n4, n5, n6, n7, n8, n9, n10, n11, n12⟩ := h
  rw [X6_heedGhost]
  refine tot_b (c_forget hy hF k) (fun ⟨r1, y2, y3⟩ ⟨e1, g1⟩ => ?_)
  simp only at e1 g1 ⊢
  by_cases c1 : k ∈ S.2.1
  · have e1' : r1 = 1 := by rw [e1]; simp [c1, bi]
    subst e1'
    rw [if_neg (by decide), learnS, if_pos c1]
    refine tot_s ⟨hL, hld, hpl, g1, hz, ?_⟩
    simp only [NC]
    simp only [upd_n (show 9 ≠ 3 by decide), upd_n (show 10 ≠ 3 by decide), upd_n (show 11 ≠ 3 by decide), upd_n (show 12 ≠ 3 by decide), upd_n (show 8 ≠ 3 by decide), upd_n (show 1 ≠ 3 by decide), upd_n (show 2 ≠ 3 by decide), upd_s, upd_n (show 16 ≠ 3 by decide), upd_n (show 4 ≠ 3 by decide), upd_n (show 6 ≠ 3 by decide), upd_n (show 15 ≠ 3 by decide)]
    exact ⟨n1, n2, n3, n4, n5, n6, n7, by rw [n6, n8], n9, n10, n11, n12⟩
  · have e1' : r1 = 0 := by rw [e1]; simp [c1, bi]
    subst e1'
    rw [if_pos rfl]
    rw [delG_self c1] at g1
    refine tot_b (c_forget hz hF k) (fun ⟨r5, z6, z7⟩ ⟨e5, g5⟩ => ?_)
    simp only at e5 g5 ⊢
    by_cases c2 : k ∈ S.2.2.1
    · have e5' : r5 = 1 := by rw [e5]; simp [c2, bi]
      subst e5'
      rw [if_neg (by decide), learnS, if_neg c1, if_pos c2]
      refine tot_s ⟨hL, hld, hpl, g1, g5, ?_⟩
      simp only [NC]
      simp only [upd_n (show 9 ≠ 3 by decide), upd_n (show 10 ≠ 3 by decide), upd_n (show 11 ≠ 3 by decide), upd_n (show 12 ≠ 3 by decide), upd_n (show 8 ≠ 3 by decide), upd_n (show 1 ≠ 3 by decide), upd_n (show 2 ≠ 3 by decide), upd_s, upd_n (show 16 ≠ 3 by decide), upd_n (show 4 ≠ 3 by decide), upd_n (show 6 ≠ 3 by decide), upd_n (show 15 ≠ 3 by decide)]
      exact ⟨n1, n2, n3, n4, n5, n6, n7, by rw [n8], n9, n10, n11, n12⟩
    · have e5' : r5 = 0 := by rw [e5]; simp [c2, bi]
      subst e5'
      rw [if_pos rfl, learnS, if_neg c1, if_neg c2]
      rw [delG_self c2] at g5
      exact tot_s ⟨hL, hld, hpl, g1, g5, n1, n2, n3, n4, n5, n6, n7, n8, n9, n10, n11, n12⟩
theorem RC.hap {hap : Nat → Int32} {rest : Int32 × Int32 × Int32 × Int32 × Int32} {kd : Nat} {v : Int32} (h : RC S (hap, rest) x1 xy xz) (hk : kd = 0 ∨ kd = 1 ∨ kd = 4) : RC S (upd hap kd v, rest) x1 xy xz := by
  obtain ⟨got, cap, wy, bal, wbt⟩ := rest
  obtain ⟨kK, kV, kW, kC, kL, kT, kP, sz, ld, pl, us, ag, hv⟩ := x1
  obtain ⟨hL, hld, hpl, hy, hz, n1, n2, n3, n4, nr⟩ := h
  exact ⟨hL, hld, hpl, hy, hz, by rw [upd_n (by omega)]; exact n1, by rw [upd_n (by omega)]; exact n2, by rw [upd_n (by omega)]; exact n3, by rw [upd_n (by omega)]; exact n4, nr⟩
theorem RC.num {hap : Nat → Int32} {rest : Int32 × Int32 × Int32 × Int32 × Int32} (h : RC S (hap, rest) x1 xy xz) {kd q : Nat} (hk : (kd = 5 ∧ q = 9) ∨ (kd = 2 ∧ q = 10) ∨ (kd = 3 ∧ q = 11) ∨ (kd = 6 ∧ q = 12)) (v : Int32) : RC (setN q v S) (upd hap kd v, rest) x1 xy xz := by
  obtain ⟨got, cap, wy, bal, wbt⟩ := rest
  obtain ⟨kK, kV, kW, kC, kL, kT, kP, sz, ld, pl, us, ag, hv⟩ := x1
  obtain ⟨hL, hld, hpl, hy, hz, n1, n2, n3, n4, n5, n6, n7, n8, n9, n10, n11, n12⟩ := h
  refine ⟨hL, hld, hpl, hy, hz, ?_⟩
  simp only [setN, NC]
  rcases hk with ⟨rfl, rfl⟩ | ⟨rfl, rfl⟩ | ⟨rfl, rfl⟩ | ⟨rfl, rfl⟩ <;> simp [upd, n1, n2, n3, n4, n5, n6, n7, n8, n9, n10, n11, n12]
theorem c_bring (h : RC S x6 x1 xy xz) (ok : Ok b S) (hF : 100 ≤ F) (hb : b + 200 < 2147483648) (hq : QC E xq) {k v wt t : Int32} (ha : ArgP k v wt t (S.2.2.2 5)) (hroom : rejS k wt S = false → fnd k S.1 = none → (roomS k wt (dep xq) S).1.1.length < 60) :
    Tot (X6_bring F k v wt t x6 x1 xy xz xq) (fun y => y.1 = (bringS k v wt t (dep xq) S).1 ∧ RC (bringS k v wt t (dep xq) S).2.1 y.2.1 y.2.2.1 y.2.2.2.1 y.2.2.2.2.1 ∧ QC (E ++ (bringS k v wt t (dep xq) S).2.2) y.2.2.2.2.2 ∧ dep y.2.2.2.2.2 = dep xq) := by
  have hfind := RC.find h ok hF k
  have hrej := fun r hx => c_rejects (r := r) (wt := wt) h ok hF (k := k) hx
  have hheed := c_heed h hF k wt
  obtain ⟨hap, got, cap, wy, bal, wbt⟩ := x6
  obtain ⟨kK, kV, kW, kC, kL, kT, kP, sz, ld, pl, us, ag, hv⟩ := x1
  obtain ⟨yk, ys⟩ := xy
  obtain ⟨zk, zs⟩ := xz
  obtain ⟨qa, qb, qc, qd, qe, qs, ql, qp⟩ := xq
  rw [X6_bring]
  refine tot_b hfind (fun r hr => ?_)
  rw [hrej r hr]
  simp only [Option.bind_some]
  cases hj : rejS k wt S with
  | true =>
    rw [if_neg (show ¬ bi true = 0 by decide), bringS, hj, if_pos rfl]
    refine tot_b (c_tell (x6 := (hap, got, cap, wy, bal, wbt)) hq 6 (by omega) k 0 wt) (fun ⟨⟨h1, h2, h3, h4, h5, h6⟩, q1, q2, q3, q4, q5, q6, q7, q8⟩ ⟨t1, t2, t3⟩ => ?_)
    simp only [Prod.mk.injEq] at t1
    obtain ⟨rfl, rfl, rfl, rfl, rfl, rfl⟩ := t1
    refine tot_s ⟨rfl, ?_, t2, t3⟩
    have := RC.num (kd := 6) (q := 12) h (by simp) (hap 6 + 1)
    have n4 := h.2.2.2.2.2.2.2.2.1
    rw [n4] at this ⊢
    exact this
  | false =>
    rw [if_pos (show bi false = 0 from rfl), bringS, hj, if_neg (by decide)]
    refine tot_b hheed (fun ⟨⟨h1, h2, h3, h4, h5, h6⟩, ⟨y2, y3⟩, ⟨z2, z3⟩⟩ hR => ?_)
    simp only at hR ⊢
    obtain ⟨L, p, hE, hi⟩ := hr
    have okL := ok.1.perm p
    rcases hi with ⟨rfl, hi⟩ | ⟨i, hi, rfl, he⟩
    · -- it comes
      rw [if_pos rfl, hi, if_pos (show (none : Option En).isNone = true from rfl)]
      have hnk := fnd_none.1 hi
      have okl := learnS_ok (k := k) ok ha.2.2.1 ha.2.2.2.1
      refine tot_b (c_L46 hF k v wt t (-1) F 0 b (learnS k wt S) E _ _ _ _ _ (by omega) (by omega) (by omega) hR okl hq) (fun y hy => ?_)
      obtain ⟨⟨j1, j2, j3, j4, j5, j6⟩, ⟨j7, j8, j9, j10, j11, j12, j13, j14, j15, j16, j17, j18, j19⟩, ⟨j20, j21⟩, ⟨j22, j23⟩, ⟨j24, j25, j26, j27, j28, j29, j30, j31⟩⟩ := y
      obtain ⟨g1, g2, g3⟩ := hy
      rw [show evRun (stopT wt) k (dep (qa, qb, qc, qd, qe, qs, ql, qp)) (60 - 0) (learnS k wt S) = roomS k wt qp S from rfl] at g1 g2
      have hl60 := hroom hj hi
      have hkeys := room_keys (wt := wt) (d := qp) hnk
      have hok := (room_len (k := k) (d := qp) ok (by omega) ha.2.2.1 ha.2.2.2.1).1
      simp only at g1 g2 g3 ⊢
      obtain ⟨⟨M, pm, hEM⟩, m1, m2, m3, m4, m5, m6, m7, m8, m9, m10, m11, m12, m13, m14, m15, m16⟩ := g1
      refine tot_b (c_add hEM (by rw [pm.length_eq]; exact hl60) k v wt t j15) (fun ⟨a1, a2, a3, a4, a5, a6, a7, a8, a9⟩ ⟨u1, u2⟩ => ?_)
      simp only at u1 u2 ⊢
      have pm2 : (M ++ [newE k v wt t]).Perm ((roomS k wt qp S).1.1 ++ [newE k v wt t]) := pm.append_right _
      have hnd := new_nodup (v := v) (wt := wt) (t := t) hok.1.1 hkeys
      have hndM : ((M ++ [newE k v wt t]).map eK).Nodup := (pm2.map eK).nodup_iff.2 hnd
      have hfnd : fnd k (M ++ [newE k v wt t]) = some (newE k v wt t) := fnd_eq hndM (by simp) rfl
      refine tot_b (c_find u1 hF k) (fun r2 hr2 => ?_)
      rw [show ((k, v, wt, 0, 0, t, 0) : En) = newE k v wt t from rfl, hfnd] at hr2
      have hRC2 : RC (withE ((roomS k wt qp S).1.1 ++ [newE k v wt t]) (roomS k wt qp S).1) (j1, j2, j3, j4, j5, j6) (a1, a2, a3, a4, a5, a6, a7, a8, a9, j16, j17, j18, j19) (j20, j21) (j22, j23) := by
        refine ⟨⟨_, pm2, u1⟩, ?_, ?_, m3, m4, m5, m6, m7, m8, m9, m10, m11, m12, m13, m14, m15, m16⟩
        · simp only [withE]; rw [sumBy_snoc, ← m1, u2]; rfl
        · simp only [withE]; rw [sumBy_snoc, ← m2]; simp [pinA, newE]
      have huse := RC.use (F := F) (e := newE k v wt t) (r := r2) hRC2 hnd (by
        have := hok.age; simpa [withE] using this) hF ⟨_, pm2, u1, hr2⟩
      refine tot_b huse (fun ⟨b1, b2, b3, b4⟩ hU => ?_)
      simp only [if_true] at hU ⊢
      refine tot_b (c_tell (x6 := (j1, j2, j3, j4, j5, j6)) g2 0 (by omega) k v wt) (fun ⟨⟨h1, h2, h3, h4, h5, h6⟩, q1, q2, q3, q4, q5, q6, q7, q8⟩ ⟨t1, t2, t3⟩ => ?_)
      simp only [Prod.mk.injEq] at t1
      obtain ⟨rfl, rfl, rfl, rfl, rfl, rfl⟩ := t1
      refine tot_s ⟨rfl, RC.hap hU (Or.inl rfl), ?_, ?_⟩
      · have g3' : j31 = qp := g3
        have t2' := t2
        rw [List.append_assoc] at t2'
        rw [show dep (j24, j25, j26, j27, j28, j29, j30, j31) = qp from g3'] at t2'
        exact t2'
      · exact t3.trans g3
    · -- it changes
      have hne : ¬ nI i = -1 := by have := hE.2.1; simp (disch := omega) only [nI_add, pn_add, pn_addl, pn_mul, pn_cl, pn_nlt0, false_or, pn_ge, pn_le, Nat.add_zero, Nat.zero_add, ↓reduceIte, Option.bind_some, nI_leI, nI_ltI, nI_eq, pn_ne1, pn_1ne]; simp
      obtain ⟨e, he0⟩ : ∃ e, fnd k S.1 = some e := ⟨_, he⟩
      have hLi : L[i] = e := by rw [he] at he0; simpa using he0
      obtain ⟨heM, heK⟩ := fnd_some he0
      rw [if_neg hne, he0, if_neg (by simp)]
      refine tot_b (c_change hE hi v wt t ld pl) (fun ⟨a1, a2, a3, a4, a5⟩ ⟨u1, u2, u3⟩ => ?_)
      simp only at u1 u2 u3 ⊢
      have hset : L.set i (chgE v wt t L[i]) = modK k (chgE v wt t) L := set_modK okL.1 hi (by rw [hLi]; exact heK) _
      rw [hset] at u1
      have okc := chg_ok (v := v) ok ha
      have hp0 := perm_del ok.1.1 heM
      have hsum : ∀ f : En → Int32, sumBy f (modK k (chgE v wt t) S.1) = sumBy f S.1 - f e + f (chgE v wt t e) := by
        intro f
        have hp1 := modK_perm (k := k) (f := chgE v wt t) hp0
        rw [← sumBy_perm f hp1, ← sumBy_perm f hp0]
        rw [show modK k (chgE v wt t) (e :: delK (eK e) S.1) = chgE v wt t e :: delK (eK e) S.1 by
          simp only [modK, List.map_cons, heK, if_true]
          congr 1
          conv => rhs; rw [← List.map_id (delK k S.1)]
          refine List.map_congr_left (fun x hx => ?_)
          rw [if_neg (mem_delK.1 hx).2]; rfl]
        rw [sumBy_cons, sumBy_cons, Int32.add_comm (f e), Int32.add_sub_cancel, Int32.add_comm]
      have hRC1 : RC (withE (modK k (chgE v wt t) S.1) (learnS k wt S)) (h1, h2, h3, h4, h5, h6) (kK, a1, a2, kC, kL, a3, kP, sz, a4, a5, us, ag, hv) (y2, y3) (z2, z3) := by
        obtain ⟨_, o1, o2, o3, o4, o5⟩ := hR
        refine ⟨⟨_, modK_perm p, u1⟩, ?_, ?_, o3, o4, o5⟩
        · simp only [withE]
          rw [hsum eW, u2, hLi, o1, learnS_1]
          show sumBy eW S.1 + (wt - eW e) = sumBy eW S.1 - eW e + wt
          rw [Int32.sub_eq_add_neg, Int32.sub_eq_add_neg, Int32.add_assoc, Int32.add_comm wt]
        · simp only [withE]
          rw [hsum pinA, u3, hLi, o2, learnS_1]
          simp only [pinA, chgE]
          by_cases cp : eP e = 0
          · simp [cp]
          · simp only [cp, if_false]
            rw [Int32.sub_eq_add_neg, Int32.sub_eq_add_neg, Int32.add_assoc, Int32.add_comm wt]
      refine tot_b (c_L111 hF k v wt (nI i) F 0 b _ E _ _ _ _ _ (by omega) (by omega) (by omega) hRC1 okc hq) (fun y hy => ?_)
      obtain ⟨⟨j1, j2, j3, j4, j5, j6⟩, ⟨j7, j8, j9, j10, j11, j12, j13, j14, j15, j16, j17, j18, j19⟩, ⟨j20, j21⟩, ⟨j22, j23⟩, ⟨j24, j25, j26, j27, j28, j29, j30, j31⟩⟩ := y
      obtain ⟨g1, g2, g3⟩ := hy
      rw [show evRun stopL k (dep (qa, qb, qc, qd, qe, qs, ql, qp)) (60 - 0) (withE (modK k (chgE v wt t) S.1) (learnS k wt S)) = chgS k v wt t qp S from rfl] at g1 g2
      have hokc := (evRun_ok (stop := stopL) (but := k) (d := qp) 60 b _ okc (by omega)).1
      have hokc' : Ok (b + 60) (chgS k v wt t qp S).1 := hokc
      simp only at g1 g2 g3 ⊢
      have hmem : chgE v wt t e ∈ (chgS k v wt t qp S).1.1 := by
        refine evRun_keep (e0 := chgE v wt t e) (but := k) heK 60 b _ okc (by omega) ?_
        show chgE v wt t e ∈ modK k (chgE v wt t) S.1
        rw [modK, List.mem_map]
        exact ⟨e, heM, by rw [if_pos heK]⟩
      have hfnd : fnd k (chgS k v wt t qp S).1.1 = some (chgE v wt t e) := fnd_eq hokc'.1.1 hmem heK
      have hfi := RC.find g1 hokc' hF k
      refine tot_b hfi (fun r2 hr2 => ?_)
      rw [hfnd] at hr2
      have huse := RC.use (F := F) (e := chgE v wt t e) (r := r2) g1 hokc'.1.1 hokc'.age hF hr2
      refine tot_b huse (fun ⟨b1, b2, b3, b4⟩ hU => ?_)
      simp only at hU ⊢
      rw [if_neg hne]
      refine tot_b (c_tell (x6 := (j1, j2, j3, j4, j5, j6)) g2 1 (by omega) k v wt) (fun ⟨⟨h1, h2, h3, h4, h5, h6⟩, q1, q2, q3, q4, q5, q6, q7, q8⟩ ⟨t1, t2, t3⟩ => ?_)
      simp only [Prod.mk.injEq] at t1
      obtain ⟨rfl, rfl, rfl, rfl, rfl, rfl⟩ := t1
      rw [if_neg hne]
      refine tot_s ⟨rfl, ?_, ?_, ?_⟩
      · have := RC.hap (kd := 1) (v := h1 1 + 1) hU (Or.inr (Or.inl rfl))
        rw [show eK (chgE v wt t e) = k from heK] at this
        exact this
      · have g3' : j31 = qp := g3
        have t2' := t2
        rw [List.append_assoc] at t2'
        rw [show dep (j24, j25, j26, j27, j28, j29, j30, j31) = qp from g3'] at t2'
        exact t2'
      · exact t3.trans g3
end CStore
