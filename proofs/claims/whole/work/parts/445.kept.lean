/-! kept -/
theorem evRun_d {stop : SS → Bool} {but d d' : Int32} : ∀ (n : Nat) (S : SS), (evRun stop but d n S).1 = (evRun stop but d' n S).1 ∧ (evRun stop but d n S).2.map (fun e => e.2.1) = (evRun stop but d' n S).2.map (fun e => e.2.1) := by
  intro n
  induction n with
  | zero => intro S; exact ⟨rfl, rfl⟩
  | succ n ih =>
    intro S
    by_cases c : stop S = true
    · rw [evRun_stop c, evRun_stop c]; exact ⟨rfl, rfl⟩
    · rw [evRun, evRun, if_neg c, if_neg c]
      cases chS but S with
      | none => exact ⟨rfl, rfl⟩
      | some e =>
        obtain ⟨h1, h2⟩ := ih (evS e S)
        refine ⟨h1, ?_⟩
        simp only [List.map_cons, h2, gone]
section SKept
variable {F N : Nat} {x8 : tX8} {x6 : tX6} {x1 : tX1} {xy xz : tX2} {l8 : tL8} {x4 : tX4} {x5 : tX5} {i0 i1 : Option tWi} {w ik went t : Nat → Int32} {wm th came dp : Int32} {u6 : tX6} {u1 : tX1} {uy uz : tX2} {uq : tX7}
/-- after work on paper -/
theorem Inv.paper {d : tWi} {w' : Nat → Int32} {m' : Nat} (h : Inv N d i0 i1 w ik wm) (hw : ∀ q, q < 2544 → w' q = w q) (hm : m' ≤ 3100000 * (N + 1)) : Inv (N + 1) d i0 i1 w' ik (nI m') :=
  h.go ((h.1.up (by omega)).far (fun q q1 q2 => hw q (by omega))) (fun q q1 q2 => hw q (by omega)) ⟨m', rfl, hm⟩
theorem S_kept (hF : 1000 ≤ F) (hN : N < 512) (hI : Inv N (x8, x6, x1, xy, xz, l8, x4, x5) i0 i1 w ik wm) (p1 p2 : Int32) :
    Tot (X9_kept F p1 p2 x6 x1 xy xz u6 u1 uy uz uq) (fun y => Tot (X10_kept F p1 p2 th w 0 went wm t came dp 0) (fun z => y.1 = z.1 ∧ z.2.2.2.1 = 0 ∧ z.2.2.2.2.2.2.2.2 = 0 ∧ Inv (N + 1) (x8, x6, x1, xy, xz, l8, x4, x5) i0 i1 z.2.2.1 ik z.2.2.2.2.2.1)) := by
  have f100 : 100 ≤ F := by omega
  have f200 : 200 ≤ F := by omega
  have b200 : 3100000 * N + 200 < 2147483648 := by omega
  have em : (-1 : Int32).toInt = -1 := by decide
  have e0 : (0 : Int32).toInt = 0 := by decide
  obtain ⟨⟨V, hc, hm, ok⟩, _, _, ⟨m, rfl, hmm⟩⟩ := id hI
  have okS := ok.2.1.1
  have hlay := c_lay (F := F) (d6 := u6) (d1 := u1) (dy := uy) (dz := uz) (dq := uq) f200 hc.1 okS
  obtain ⟨w2, hp, hm2, hf2⟩ := m_paper (F := F) (o := 0) (wm := nI m) (sil := 0) hF hm
  have hro := recap_ok (c := p1) (d := 0) ok.2.1 (by omega)
  obtain ⟨uhap, ugot, ucap, uwy, ubal, uwbt⟩ := u6
  obtain ⟨uK, uV, uW, uC, uL, uT, uP, usz, uld, upl, uus, uag, uhv⟩ := u1
  obtain ⟨uyk, uys⟩ := uy
  obtain ⟨uzk, uzs⟩ := uz
  obtain ⟨ea, eb, ec, ed, ee, es, el, ep⟩ := uq
  obtain ⟨hap, got, cap, wy, bal, wbt⟩ := x6
  obtain ⟨kK, kV, kW, kC, kL, kT, kP, sz, ld, pl, us, ag, hvv⟩ := x1
  obtain ⟨yk, ys⟩ := xy
  obtain ⟨zk, zs⟩ := xz
  rw [X9_kept]
  refine tot_b hlay (fun y ⟨g0, g1, g2⟩ => ?_)
  obtain ⟨⟨j1, j2, j3, j4, j5, j6⟩, ⟨j7, j8, j9, j10, j11, j12, j13, j14, j15, j16, j17, j18, j19⟩, ⟨j20, j21⟩, ⟨j22, j23⟩, ⟨j24, j25, j26, j27, j28, j29, j30, j31⟩⟩ := y
  have g2' : j31 = 0 := g2
  subst g2'
  refine tot_b (c_recap (F := F) g0 okS f100 b200 g1 p1) (fun y ⟨r0, r1, _, _⟩ => ?_)
  obtain ⟨r, ⟨k1, k2, k3, k4, k5, k6⟩, ⟨k7, k8, k9, k10, k11, k12, k13, k14, k15, k16, k17, k18, k19⟩, ⟨k20, k21⟩, ⟨k22, k23⟩, ⟨k24, k25, k26, k27, k28, k29, k30, k31⟩⟩ := y
  have r0' : r = (recapS p1 0 V.2.2.1).1 := r0
  have r1' : RC (recapS p1 0 V.2.2.1).2.1 (k1, k2, k3, k4, k5, k6) (k7, k8, k9, k10, k11, k12, k13, k14, k15, k16, k17, k18, k19) (k20, k21) (k22, k23) := r1
  dsimp only
  rw [X10_kept, show X10_isIn F p1.toInt64 0 5000 = some (bi (isCapB p1)) from isIn_eq (F := F) p1 0 5000, Option.bind_some]
  have bad : ∀ v : Int32, v.toInt < 0 → ¬ (0 : Int32) ≤ v := fun v hv hx => by rw [i32_le] at hx; omega
  cases hcc : isCapB p1 with
  | false =>
    have e : r = -2 := by rw [r0', recapS, if_pos hcc]
    rw [if_pos (show bi false = 0 from rfl), e, if_neg (by decide)]
    exact tot_s (tot_s ⟨rfl, rfl, rfl, hI.same⟩)
  | true =>
    rw [if_neg (show ¬ bi true = 0 by decide), show X10_pinned F (-1) w 0 = _ from hm.1.pinned f100 (-1), Option.bind_some]
    have hpin : sumBy (pinW (-1)) V.2.2.1.1 = sumBy pinA V.2.2.1.1 := pin_none okS.1.PB (fun e he hx => by
      have := (okS.1.2.2.2 e he).1
      rw [hx] at this; exact absurd this (by decide))
    rw [hpin]
    by_cases c1 : sumBy pinA V.2.2.1.1 ≤ p1
    · have eR : recapS p1 0 V.2.2.1 = (nI (capS p1 0 V.2.2.1).2.length, (capS p1 0 V.2.2.1).1, (capS p1 0 V.2.2.1).2) := by
        rw [recapS, if_neg (show ¬ isCapB p1 = false by rw [hcc]; decide), if_neg (fun hx => hx c1)]
      rw [eR] at r0' r1' hro
      dsimp only at r0' r1' hro
      obtain ⟨o1, o2, _⟩ := hro
      rw [if_neg (show ¬ p1 < sumBy pinA V.2.2.1.1 by rw [Int32.not_lt]; exact c1)]
      have hr0 : (0 : Int32) ≤ r := by rw [r0', i32_le, nI_toInt (by omega)]; omega
      rw [if_pos hr0]
      obtain ⟨⟨L, pL, hE⟩, _⟩ := r1'
      have oL := o1.1.1.perm pL
      have hl60 := oL.2.2.1
      by_cases c2 : (-1 : Int32) ≤ p2
      · rw [if_pos c2, hp, Option.bind_some]
        dsimp only
        obtain ⟨z, hz, z0, z1, z2, z3, z4, z5⟩ := m_caps (F := F) (o := 2544) (m := 0) (E := []) (sil := 1) (went := went) (t := t) (came := came) (d := dp) hm2.1 okS ok.2.1.2.1 hF b200 (by omega) (by simp) (Or.inr rfl) hcc
        obtain ⟨n1, n2, n3, n4, n5, n6⟩ := z
        rw [show X10_caps F p1 w2 2544 went 0 t came dp 1 = _ from hz, Option.bind_some]
        dsimp only at z0 z1 z2 z3 z4 ⊢
        have hd := evRun_d (stop := stopL) (but := -1) (d := dp) (d' := 0) 60 (setN 3 (if p1 < V.2.2.1.2.2.2 3 then p1 else V.2.2.1.2.2.2 3) (setN 1 p1 V.2.2.1))
        have hd1 : (capS p1 dp V.2.2.1).1 = (capS p1 0 V.2.2.1).1 := hd.1
        have hd2 : (capS p1 dp V.2.2.1).2.length = (capS p1 0 V.2.2.1).2.length := by
          have := congrArg List.length hd.2
          rw [List.length_map, List.length_map] at this; exact this
        rw [hd1] at z1
        rw [hd2, Nat.zero_add] at z4
        subst z4
        have hfw : ∀ q, q < 2544 → n2 q = w q := fun q hq => by rw [z2 q (by omega), hf2 q hq]
        have hinv : Inv (N + 1) (x8, (hap, got, cap, wy, bal, wbt), (kK, kV, kW, kC, kL, kT, kP, sz, ld, pl, us, ag, hvv), (yk, ys), (zk, zs), l8, x4, x5) i0 i1 n2 ik (nI (capS p1 0 V.2.2.1).2.length) := hI.paper hfw (by omega)
        obtain ⟨⟨M, pM, hEM⟩, _⟩ := z1
        have hsz : k14 = n2 2544 := by rw [hE.1, hEM.1, pL.length_eq, pM.length_eq]
        have cb : X10_comesBack F 2544 1 = some (0, 0) := rfl
        have cc : (2544 + 0 : Int32).toNatClampNeg = 2544 := by decide
        have nn : ¬ ((2544 + 0 : Int32) < 0 ∨ 3392 ≤ (2544 + 0 : Int32).toNatClampNeg) := by decide
        by_cases c3 : p2 = -1
        · rw [if_pos c3, if_pos c3, if_neg nn, cb, cc, Option.bind_some]
          exact tot_s (tot_s ⟨hsz, rfl, rfl, hinv⟩)
        · rw [if_neg c3, if_neg c3, if_neg nn, cc, c_keyAt hE f100, Option.bind_some]
          refine tot_s ?_
          by_cases c4 : n2 2544 ≤ p2
          · rw [if_pos c4, cb, Option.bind_some]
            refine tot_s ⟨?_, rfl, rfl, hinv⟩
            refine keyAt_out (fun i hi hx => ?_)
            rw [hx, ← hsz, hE.1, i32_le, nI_toInt (by omega), nI_toInt (by omega)] at c4
            omega
          · rw [if_neg c4, show X10_keyAt F 0 p2 n2 2544 = _ from m_keyAt hEM f100 0 p2, Option.bind_some, cb, Option.bind_some]
            exact tot_s ⟨keyAt_perm oL.2.1 (by omega) (pL.trans pM.symm), rfl, rfl, hinv⟩
      · rw [if_neg c2]
        have c3 : ¬ p2 = -1 := fun hx => c2 (by rw [hx]; exact Int32.le_refl _)
        rw [if_neg c3, c_keyAt hE f100, Option.bind_some]
        refine tot_s (tot_s ⟨?_, rfl, rfl, hI.same⟩)
        refine keyAt_out (fun i hi hx => c2 ?_)
        rw [hx, i32_le, nI_toInt (by omega)]; omega
    · have e : r = -3 := by rw [r0', recapS, if_neg (show ¬ isCapB p1 = false by rw [hcc]; decide), if_pos c1]
      rw [if_pos (show p1 < sumBy pinA V.2.2.1.1 by rw [← Int32.not_le]; exact c1), e, if_neg (by decide)]
      exact tot_s (tot_s ⟨rfl, rfl, rfl, hI.same⟩)
end SKept
