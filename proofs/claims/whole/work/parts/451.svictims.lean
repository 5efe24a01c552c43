/-! victims -/
section MMakes
variable {F b : Nat} {S : SS}
theorem m_makes (hF : 1000 ≤ F) (wt d : Int32) {w went t : Nat → Int32} {came : Int32} (hb : b + 60 < 2147483648) (h : RM S w 2544) (ok : Ok b S) (hw4 : OkW (S.2.2.2 2)) (hJ : JT (-1) wt S) :
    Tot (X10_makesRoom_L4 F F wt w 2544 went 0 t came d 1) (fun x => Tot (X10_makesRoom_L29 F F wt x.1 2544 x.2.1 x.2.2.1 x.2.2.2.1 x.2.2.2.2 d 1) (fun y => FrO w y.1 2544 ∧ WNT went 0 (evRun (stopT wt) (-1) d 60 S).2 y.2.1 ∧ y.2.2.1 = nI (evRun (stopT wt) (-1) d 60 S).2.length)) := by
  have h60 := ok.1.2.2.1
  have run : ∀ (c b m : Nat) (S : SS) (w went t : Nat → Int32) (came : Int32), S.1.length ≤ c → S.1.length < 60 → c ≤ 60 → b + c < 2147483648 → m + c < 2147483647 → RM S w 2544 → Ok b S → OkW (S.2.2.2 2) → JT (-1) wt S →
      Tot (X10_makesRoom_L29 F F wt w 2544 went (nI m) t came d 1) (fun y => FrO w y.1 2544 ∧ WNT went m (evRun (stopT wt) (-1) d c S).2 y.2.1 ∧ y.2.2.1 = nI (m + (evRun (stopT wt) (-1) d c S).2.length)) := by
    intro c b m S w went t came hl hl60 hc hb hm h ok hw4 hJ
    have := m_L29 (F := F) (o := 2544) (sil := 1) hF wt d (fun S => JT (-1) wt S ∧ S.1.length < 60)
      (fun b S ok hw hJ hs => JT_1 b S ok hw hJ.1 (by simp only [stopT, stopW] at hs ⊢; simp [hJ.2, hs]))
      (fun b S e ok hJ hc => ⟨JT_2 b S e ok hJ.1 hc, by have := evS_len ok (chS_mem ok hc).1; omega⟩)
      F c b m S [] w went t came hl hc (by omega) hb hm (by simp; omega) h ok hw4 ⟨hJ, hl60⟩ (Or.inr rfl)
    rw [evRun_lt c b S ok hb hl60] at this
    exact tot_m this (fun y ⟨y1, y2, y3, y4, y5, y6⟩ => ⟨y2, y3, y4⟩)
  obtain ⟨g, hg⟩ : ∃ g, F = g + 2 := ⟨F - 2, by omega⟩
  have hne : S.1.length = 60 → chS (-1) S ≠ none := fun hl => JT_1 b S ok hw4 hJ (by simp [stopT, hl])
  have h4 := m_L4 (F := F) (o := 2544) (g := g) (m := 0) (sil := 1) (went := went) (t := t) (came := came) (E := []) hF wt d h ok hw4 (Or.inr rfl) (by omega) (by simp) hne
  rw [← hg] at h4
  refine tot_m h4 (fun y hy => ?_)
  obtain ⟨y1, y2, y3, y4, y5⟩ := y
  rcases hy with ⟨hl, hy⟩ | ⟨e, hl, hc, g1, g2, g3, g4, g5⟩
  · have : y1 = w ∧ y2 = went ∧ y3 = nI 0 ∧ y4 = t ∧ y5 = came := by simpa using hy
    obtain ⟨rfl, rfl, rfl, rfl, rfl⟩ := this
    refine tot_m (run 60 b 0 S y1 y2 y4 y5 (by omega) (by omega) (by omega) hb (by omega) h ok hw4 hJ) (fun z ⟨z1, z2, z3⟩ => ⟨z1, z2, ?_⟩)
    rw [z3, Nat.zero_add]
  · dsimp only at g1 g2 g3 g4 ⊢
    subst g3; subst g4
    have hlen := evS_len ok (chS_mem ok hc).1
    have hs1 : stopT wt S = false := by simp [stopT, hl]
    have hle := (evRun_ok (stop := stopT wt) (but := -1) (d := d) 59 (b + 1) (evS e S) (ok.ev (by omega)) (by omega)).2
    rw [evRun_some (n := 59) hs1 hc]
    refine tot_m (run 59 (b + 1) 1 (evS e S) y1 _ y4 y5 (by omega) (by omega) (by omega) (by omega) (by omega) g1 (ok.ev (by omega)) (W4.ev (e := e) hw4) (JT_2 b S e ok hJ hc)) (fun z ⟨z1, z2, z3⟩ => ⟨g2.trans z1, WNT.cons (by omega) z2, ?_⟩)
    rw [z3, List.length_cons]; congr 1; omega
end MMakes
section SVictims
variable {F N : Nat} {x8 : tX8} {x6 : tX6} {x1 : tX1} {xy xz : tX2} {l8 : tL8} {x4 : tX4} {x5 : tX5} {i0 i1 : Option tWi} {w ik went t : Nat → Int32} {wm th came dp : Int32} {u6 : tX6} {u1 : tX1} {uy uz : tX2} {uq : tX7}
theorem S_victims (hF : 1000 ≤ F) (hN : N < 512) (hI : Inv N (x8, x6, x1, xy, xz, l8, x4, x5) i0 i1 w ik wm) (p1 p2 : Int32) :
    Tot (X9_victims F p1 p2 x6 x1 xy xz u6 u1 uy uz uq) (fun y => Tot (X10_victims F p1 p2 th w 0 went wm t came dp 0) (fun z => y.1 = z.1 ∧ z.2.2.2.1 = 0 ∧ z.2.2.2.2.2.2.2.2 = 0 ∧ Inv (N + 1) (x8, x6, x1, xy, xz, l8, x4, x5) i0 i1 z.2.2.1 ik z.2.2.2.2.2.1)) := by
  have f100 : 100 ≤ F := by omega
  have f200 : 200 ≤ F := by omega
  have em : (-1 : Int32).toInt = -1 := by decide
  have e0 : (0 : Int32).toInt = 0 := by decide
  obtain ⟨⟨V, hc, hm, ok⟩, _, _, ⟨m, rfl, hmm⟩⟩ := id hI
  have okS := ok.2.1.1
  have b60 : 3100000 * N + 200 < 2147483648 := by omega
  have b61 : 3100000 * N + 60 < 2147483648 := by omega
  have b0 : 3100000 * N + 100 < 2147483648 + 0 := by rw [Nat.add_zero]; omega
  have hlay := c_lay (F := F) (d6 := u6) (d1 := u1) (dy := uy) (dz := uz) (dq := uq) f200 hc.1 okS
  obtain ⟨w2, hp, hm2, hf2⟩ := m_paper (F := F) (o := 0) (wm := nI m) (sil := 0) hF hm
  have hfn : fnd (-1) V.2.2.1.1 = none := fnd_none.2 (fun e he hx => by
    have := (okS.1.2.2.2 e he).1
    rw [hx] at this; exact absurd this (by decide))
  have hix : IXC V.2.2.1.1 (fnd (-1) V.2.2.1.1) (-1) x1 := by
    obtain ⟨⟨L, p, hE⟩, _⟩ := hc.1
    exact ⟨L, p, hE, Or.inl ⟨rfl, hfn⟩⟩
  have hrej := c_rejects (F := F) (wt := p1) hc.1 okS f100 hix
  have hrm := m_isRejected (F := F) hm.1 okS f100 (-1) p1
  obtain ⟨uhap, ugot, ucap, uwy, ubal, uwbt⟩ := u6
  obtain ⟨uK, uV, uW, uC, uL, uT, uP, usz, uld, upl, uus, uag, uhv⟩ := u1
  obtain ⟨uyk, uys⟩ := uy
  obtain ⟨uzk, uzs⟩ := uz
  obtain ⟨ea, eb, ec, ed, ee, es, el, ep⟩ := uq
  obtain ⟨hap, got, cap, wy, bal, wbt⟩ := x6
  obtain ⟨kK, kV, kW, kC, kL, kT, kP, sz, ld, pl, us, ag, hvv⟩ := x1
  obtain ⟨yk, ys⟩ := xy
  obtain ⟨zk, zs⟩ := xz
  rw [X9_victims, isWeightC, Option.bind_some, X10_victims, show X10_isIn F p1.toInt64 1 99 = _ from isIn_eq (F := F) p1 1 99, Option.bind_some]
  cases hw : (decide (1 ≤ p1) && decide (p1 ≤ 99)) with
  | false =>
    rw [if_pos (show bi false = 0 from rfl), if_pos (show bi false = 0 from rfl)]
    exact tot_s (tot_s ⟨rfl, rfl, rfl, hI.same⟩)
  | true =>
    rw [if_neg (show ¬ bi true = 0 by decide), if_neg (show ¬ bi true = 0 by decide), hrej, Option.bind_some, show X10_isRejected F (-1) p1 w 0 = _ from hrm, Option.bind_some]
    cases hr : rejS (-1) p1 V.2.2.1 with
    | true =>
      rw [if_neg (show ¬ bi true = 0 by decide), if_neg (show ¬ bi true = 0 by decide)]
      refine tot_s ?_
      by_cases c : p2 < -1
      · rw [if_pos c]; exact tot_s ⟨rfl, rfl, rfl, hI.same⟩
      · rw [if_neg c]; exact tot_s ⟨rfl, rfl, rfl, hI.same⟩
    | false =>
      rw [if_pos (show bi false = 0 from rfl), if_pos (show bi false = 0 from rfl)]
      refine tot_b hlay (fun y ⟨g0, g1, g2⟩ => ?_)
      obtain ⟨⟨j1, j2, j3, j4, j5, j6⟩, ⟨j7, j8, j9, j10, j11, j12, j13, j14, j15, j16, j17, j18, j19⟩, ⟨j20, j21⟩, ⟨j22, j23⟩, ⟨j24, j25, j26, j27, j28, j29, j30, j31⟩⟩ := y
      have g2' : j31 = 0 := g2
      subst g2'
      dsimp only
      have hrun := c_L32 (F := F) f100 p1 p2 F 0 (3100000 * N) V.2.2.1 [] _ _ _ _ _ (by omega) (by omega) b0 g0 okS g1
      refine tot_b hrun (fun y ⟨r1, r2, _⟩ => ?_)
      obtain ⟨⟨k1, k2, k3, k4, k5, k6⟩, ⟨k7, k8, k9, k10, k11, k12, k13, k14, k15, k16, k17, k18, k19⟩, ⟨k20, k21⟩, ⟨k22, k23⟩, ⟨k24, k25, k26, k27, k28, k29, k30, k31⟩⟩ := y
      dsimp only at r2 ⊢
      rw [List.nil_append, Nat.sub_zero] at r2
      change QC (evRun (stopT p1) (-1) 0 60 V.2.2.1).2 _ at r2
      have hd := evRun_d (stop := stopT p1) (but := -1) (d := dp) (d' := 0) 60 V.2.2.1
      have hGl : (evRun (stopT p1) (-1) dp 60 V.2.2.1).2.length = (evRun (stopT p1) (-1) 0 60 V.2.2.1).2.length := by
        have := congrArg List.length hd.2
        rw [List.length_map, List.length_map] at this; exact this
      have hle := (evRun_ok (stop := stopT p1) (but := -1) (d := dp) 60 (3100000 * N) V.2.2.1 okS b61).2
      have hkeys : ∀ j (h : j < (evRun (stopT p1) (-1) dp 60 V.2.2.1).2.length) (h' : j < (evRun (stopT p1) (-1) 0 60 V.2.2.1).2.length), ((evRun (stopT p1) (-1) dp 60 V.2.2.1).2[j]'h).2.1 = ((evRun (stopT p1) (-1) 0 60 V.2.2.1).2[j]'h').2.1 := by
        intro j h h'
        have := congrArg (fun l => l[j]?) hd.2
        simp only [List.getElem?_map, List.getElem?_eq_getElem h, List.getElem?_eq_getElem h', Option.map_some, Option.some.injEq] at this
        exact this
      obtain ⟨q1, q2, q3⟩ := r2
      have r2' : k29 = nI (evRun (stopT p1) (-1) dp 60 V.2.2.1).2.length := by rw [q1, hGl]; congr 1; exact Nat.min_eq_right (by omega)
      have q3' : ∀ j (h : j < (evRun (stopT p1) (-1) dp 60 V.2.2.1).2.length), ((evRun (stopT p1) (-1) dp 60 V.2.2.1).2[j]).2.1 = k25 j := fun j h => by
        have h' : j < (evRun (stopT p1) (-1) 0 60 V.2.2.1).2.length := by omega
        rw [hkeys j h h']
        have := q3 j h' (by omega)
        exact congrArg (fun e : Ev => e.2.1) this
      by_cases c : p2 < -1
      · have c1 : ¬ p2 = -1 := fun hx => by rw [hx] at c; exact absurd c (by decide)
        rw [if_neg c1, within_eq, Option.bind_some, if_pos c]
        have : ¬ (0 : Int32) ≤ p2 := fun hx => by rw [i32_le] at hx; rw [i32_lt] at c; omega
        rw [decide_eq_false this, Bool.false_and, if_pos (show bi false = 0 from rfl)]
        exact tot_s (tot_s ⟨rfl, rfl, rfl, hI.same⟩)
      · rw [if_neg c]
        have hmk := m_makes (F := F) hF p1 dp (went := went) (t := t) (came := came) (by omega) hm2.1 okS ok.2.1.2.1 (rej_JT hr hfn)
        have hMR : Tot (X10_makesRoom F p1 w 0 went (nI m) t came dp 0) (fun y => FrO w2 y.1 2544 ∧ WNT went 0 (evRun (stopT p1) (-1) dp 60 V.2.2.1).2 y.2.2.1 ∧ y.2.2.2.1 = nI (evRun (stopT p1) (-1) dp 60 V.2.2.1).2.length ∧ y.2.1 = 0 ∧ y.2.2.2.2.2.2 = 0) := by
          rw [X10_makesRoom, hp, Option.bind_some]
          refine tot_b hmk (fun x hx => ?_)
          obtain ⟨n1, n2, n3, n4, n5⟩ := x
          refine tot_b hx (fun x ⟨a1, a2, a3⟩ => ?_)
          obtain ⟨n1, n2, n3, n4, n5⟩ := x
          dsimp only
          rw [X10_comesBack, Option.bind_some]
          exact tot_s ⟨a1, a2, a3, rfl, rfl⟩
        have fin : ∀ (w' : Nat → Int32), FrO w2 w' 2544 → Inv (N + 1) (x8, (hap, got, cap, wy, bal, wbt), (kK, kV, kW, kC, kL, kT, kP, sz, ld, pl, us, ag, hvv), (yk, ys), (zk, zs), l8, x4, x5) i0 i1 w' ik (nI (evRun (stopT p1) (-1) dp 60 V.2.2.1).2.length) := fun w' hw' => hI.paper (fun q hq => by rw [hw' q (by omega), hf2 q hq]) (by omega)
        by_cases c1 : p2 = -1
        · rw [if_pos c1]
          refine tot_s (tot_b hMR (fun z ⟨a1, a2, a3, a4, a5⟩ => ?_))
          obtain ⟨n1, n2, n3, n4, n5, n6, n7⟩ := z
          dsimp only at a1 a2 a3 a4 a5 ⊢
          subst a3; subst a4; subst a5
          rw [if_pos c1]
          exact tot_s ⟨r2', rfl, rfl, fin n1 a1⟩
        · rw [if_neg c1, within_eq, Option.bind_some]
          have hp0 : (0 : Int32) ≤ p2 := by
            rw [i32_le]; rw [i32_lt] at c
            have : p2.toInt ≠ -1 := fun hx => c1 (Int32.toInt_inj.1 (by rw [hx, em]))
            omega
          obtain ⟨j, hj, hj2⟩ : ∃ j : Nat, p2 = nI j ∧ j < 2147483648 := ⟨p2.toInt.toNat, by
            refine ⟨Int32.toInt_inj.1 ?_, ?_⟩
            · have := Int32.toInt_lt p2
              rw [i32_le] at hp0
              rw [nI_toInt (by omega)]; omega
            · have := Int32.toInt_lt p2
              omega⟩
          subst hj
          rw [decide_eq_true hp0, Bool.true_and]
          have hG1 : ((nI j : Int32) ≤ k29 - 1) ↔ j < (evRun (stopT p1) (-1) dp 60 V.2.2.1).2.length := by
            rw [r2', i32_le, nI_toInt (by omega), Int32.toInt_sub, nI_toInt (by omega)]
            have e1 : (1 : Int32).toInt = 1 := by decide
            rw [e1]
            have : Int.bmod ((((evRun (stopT p1) (-1) dp 60 V.2.2.1).2.length : Nat) : Int) - 1) (2 ^ 32) = (((evRun (stopT p1) (-1) dp 60 V.2.2.1).2.length : Nat) : Int) - 1 := by
              apply Int.bmod_eq_of_le <;> omega
            rw [this]; omega
          by_cases c2 : j < (evRun (stopT p1) (-1) dp 60 V.2.2.1).2.length
          · have cl : (nI j : Int32).toNatClampNeg = j := by simp (disch := omega) only [nI_add, pn_add, pn_addl, pn_mul, pn_cl, pn_nlt0, false_or, pn_ge, pn_le, Nat.add_zero, Nat.zero_add, ↓reduceIte, Option.bind_some, nI_leI, nI_ltI, nI_eq, pn_ne1, pn_1ne]
            have c100 : ¬ ((nI j : Int32) < 0 ∨ 100 ≤ j) := by simp (disch := omega) only [nI_add, pn_add, pn_addl, pn_mul, pn_cl, pn_nlt0, false_or, pn_ge, pn_le, Nat.add_zero, Nat.zero_add, ↓reduceIte, Option.bind_some, nI_leI, nI_ltI, nI_eq, pn_ne1, pn_1ne]; simp
            have c128 : ¬ ((nI j : Int32) < 0 ∨ 128 ≤ j) := by simp (disch := omega) only [nI_add, pn_add, pn_addl, pn_mul, pn_cl, pn_nlt0, false_or, pn_ge, pn_le, Nat.add_zero, Nat.zero_add, ↓reduceIte, Option.bind_some, nI_leI, nI_ltI, nI_eq, pn_ne1, pn_1ne]; simp
            rw [decide_eq_true (hG1.2 c2), if_neg (show ¬ bi true = 0 by decide), cl, if_neg c100]
            refine tot_s (tot_b hMR (fun z ⟨a1, a2, a3, a4, a5⟩ => ?_))
            obtain ⟨n1, n2, n3, n4, n5, n6, n7⟩ := z
            dsimp only at a1 a2 a3 a4 a5 ⊢
            subst a3; subst a4; subst a5
            rw [if_neg c1, if_neg (show ¬ nI (evRun (stopT p1) (-1) dp 60 V.2.2.1).2.length ≤ nI j by rw [i32_le, nI_toInt (by omega), nI_toInt (by omega)]; omega), if_neg c128]
            refine tot_s ⟨?_, rfl, rfl, fin n1 a1⟩
            have := a2.1 j c2
            rw [Nat.zero_add, Nat.mod_eq_of_lt (by omega), q3' j c2] at this
            exact this.symm
          · rw [decide_eq_false (fun hx => c2 (hG1.1 hx)), if_pos (show bi false = 0 from rfl)]
            refine tot_s (tot_b hMR (fun z ⟨a1, a2, a3, a4, a5⟩ => ?_))
            obtain ⟨n1, n2, n3, n4, n5, n6, n7⟩ := z
            dsimp only at a1 a2 a3 a4 a5 ⊢
            subst a3; subst a4; subst a5
            rw [if_neg c1, if_pos (show nI (evRun (stopT p1) (-1) dp 60 V.2.2.1).2.length ≤ nI j by rw [i32_le, nI_toInt (by omega), nI_toInt (by omega)]; omega)]
            exact tot_s ⟨rfl, rfl, rfl, fin n1 a1⟩
end SVictims
