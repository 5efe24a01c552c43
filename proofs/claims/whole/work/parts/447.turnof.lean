/-! turnOf: the loops -/
section TurnOf
variable {F : Nat} {k dp : Int32}
theorem m_turn0 {b : Nat} {S : SS} {w went t : Nat → Int32} {wm came : Int32} {g : Nat} (hF : 1000 ≤ F) (hR : RM S w 2544) (ok : Ok b S) (hn : fnd k S.1 = none) : X10_turnOf_L33 F (g + 1) k w 2544 went wm t came dp 1 = some (w, went, wm, t, came) := by
  obtain ⟨r, hr, L, p, hE, hi⟩ := hR.find ok (show 100 ≤ F by omega) k
  rcases hi with ⟨rfl, hf⟩ | ⟨i, hi, rfl, hf⟩
  · rw [X10_turnOf_L33, show X10_entryOf F k w 2544 = _ from hr, Option.bind_some, if_pos rfl]
  · rw [hn] at hf; cases hf
theorem m_turn1 {b m : Nat} {S : SS} {w went t : Nat → Int32} {came : Int32} {g : Nat} {e e0 : En} (hF : 1000 ≤ F) (hR : RM S w 2544) (ok : Ok b S) (hw : OkW (S.2.2.2 2)) (hm : m < 2147483647) (hn : fnd k S.1 = some e0) (hch : chooseS (S.2.2.2 2) (-1) (S.2.2.2 3) (S.2.2.2 16) S.1 = some e) : ∃ w' went' t' came', RM (evS e S) w' 2544 ∧ FrO w w' 2544 ∧ X10_turnOf_L33 F (g + 1) k w 2544 went (nI m) t came dp 1 = X10_turnOf_L33 F g k w' 2544 went' (nI (m + 1)) t' came' dp 1 := by
  obtain ⟨r, hr, L, p, hE, hi⟩ := hR.find ok (show 100 ≤ F by omega) k
  have hl := hE.2.1
  rcases hi with ⟨rfl, hf⟩ | ⟨i, hi, rfl, hf⟩
  · rw [hn] at hf; cases hf
  · obtain ⟨y, hy, y0, y1, y2, y3, y4, _⟩ := m_evicts (F := F) (o := 2544) (went := went) (m := m) (t := t) (came := came) (sil := 1) (E := []) hR ok hw hF (Or.inr rfl) (by simp) hm (-1) dp hch
    obtain ⟨n1, n2, n3, n4, n5, n6⟩ := y
    refine ⟨n2, n3, n5, n6, y1, y2, ?_⟩
    rw [X10_turnOf_L33, show X10_entryOf F k w 2544 = _ from hr, Option.bind_some, if_neg (by simp (disch := omega) only [nI_add, pn_add, pn_addl, pn_mul, pn_cl, pn_nlt0, false_or, pn_ge, pn_le, Nat.add_zero, Nat.zero_add, ↓reduceIte, Option.bind_some, nI_leI, nI_ltI, nI_eq, pn_ne1, pn_1ne]; simp), show X10_evicts F (-1) w 2544 went (nI m) t came dp 1 = _ from hy, Option.bind_some]
    dsimp only at y4 ⊢
    rw [y4]
theorem turn_loop (hF : 1000 ≤ F) : ∀ (c i b f g : Nat) (S : SS) (E : List Ev) (x6 : tX6) (x1 : tX1) (xy xz : tX2) (xq : tX7) (w went t : Nat → Int32) (came : Int32) (e0 : En), S.1.length ≤ c → i + c ≤ 60 → c < f → c + 1 < g → b + c < 2147483648 → RC S x6 x1 xy xz → RM S w 2544 → Ok b S → OkW (S.2.2.2 2) → QC E xq → fnd k S.1 = some e0 → eP e0 = 0 →
    Tot (X9_turnOf_L36 F f k (nI i) x6 x1 xy xz xq) (fun y => Tot (X10_turnOf_L33 F g k w 2544 went (nI i) t came dp 1) (fun z => ∃ a, a < 60 ∧ y.1 = nI a ∧ z.2.2.1 = nI (a + 1) ∧ FrO w z.1 2544)) := by
  intro c
  induction c with
  | zero =>
    intro i b f g S E x6 x1 xy xz xq w went t came e0 hl hi hf hg hb hR hM ok hw hq he hp
    have : S.1 = [] := List.eq_nil_of_length_eq_zero (by omega)
    rw [this] at he; cases he
  | succ c ih =>
    intro i b f g S E x6 x1 xy xz xq w went t came e0 hl hi hf hg hb hR hM ok hw hq he hp
    obtain ⟨f, rfl⟩ : ∃ k, f = k + 1 := ⟨f - 1, by omega⟩
    obtain ⟨g, rfl⟩ : ∃ k, g = k + 1 := ⟨g - 1, by omega⟩
    have f100 : 100 ≤ F := by omega
    obtain ⟨hm0, hk0⟩ := fnd_some he
    have hlt : ¬ (60 : Int32) ≤ nI i := by
      have e60 : (60 : Int32).toInt = 60 := by decide
      rw [i32_le, nI_toInt (by omega)]; omega
    have hmay : mayGo (-1) e0 = true := by
      have h1 := (ok.1.2.2.2 e0 hm0).1
      have h2 : ¬ eK e0 = -1 := fun e => by rw [e] at h1; exact absurd h1 (by decide)
      simp [mayGo, hp, h2]
    have hwy : x6.2.2.2.1 = S.2.2.2 2 := by
      obtain ⟨hap, got, cap, wy, bal, wbt⟩ := x6
      obtain ⟨kK, kV, kW, kC, kL, kT, kP, sz, ld, pl, us, ag, hv⟩ := x1
      exact hR.2.2.2.2.2.2.2.2.2.2.2.1
    have hcho := RC.choose (F := F) hR ok f100 (S.2.2.2 2) (-1)
    cases hc : chooseS (S.2.2.2 2) (-1) (S.2.2.2 3) (S.2.2.2 16) S.1 with
    | none =>
      have := (chooseS_none hw).1 hc e0 hm0
      rw [hmay] at this; cases this
    | some e =>
      rw [hc] at hcho
      have hem := chooseS_mem ok.1.2.1 hc
      obtain ⟨w', went', t', came', m1, m2, m3⟩ := m_turn1 (F := F) (k := k) (dp := dp) (m := i) (went := went) (t := t) (came := came) (g := g) hF hM ok hw (by omega) he hc
      have hev := fun (r : Int32) (hx : IXC S.1 (some e) r x1) => c_evict (F := F) hR ok f100 hq hx
      rw [m3]
      obtain ⟨hap, got, cap, wy, bal, wbt⟩ := x6
      obtain ⟨kK, kV, kW, kC, kL, kT, kP, sz, ld, pl, us, ag, hvv⟩ := x1
      obtain ⟨yk, ys⟩ := xy
      obtain ⟨zk, zs⟩ := xz
      obtain ⟨qa, qb, qc, qd, qe, qs, ql, qp⟩ := xq
      have hwy' : wy = S.2.2.2 2 := hwy
      subst hwy'
      rw [X9_turnOf_L36, if_neg hlt]
      refine tot_b hcho (fun r hr => ?_)
      have hr' := hr
      obtain ⟨L, pL, hE, hix⟩ := hr
      rcases hix with ⟨_, hx⟩ | ⟨j, hj, rfl, hx⟩
      · cases hx
      · have hj60 := hE.2.1
        have hkey : X1_keyOf F (nI j) kK sz = some (eK e) := by
          have e1 : e = L[j] := Option.some.inj hx
          have hs : ¬ ((nI j : Int32) < 0 ∨ 60 ≤ (nI j : Int32).toNatClampNeg) := by simp (disch := omega) only [nI_add, pn_add, pn_addl, pn_mul, pn_cl, pn_nlt0, false_or, pn_ge, pn_le, Nat.add_zero, Nat.zero_add, ↓reduceIte, Option.bind_some, nI_leI, nI_ltI, nI_eq, pn_ne1, pn_1ne]; simp
          have hc2 : (nI j : Int32).toNatClampNeg = j := by simp (disch := omega) only [nI_add, pn_add, pn_addl, pn_mul, pn_cl, pn_nlt0, false_or, pn_ge, pn_le, Nat.add_zero, Nat.zero_add, ↓reduceIte, Option.bind_some, nI_leI, nI_ltI, nI_eq, pn_ne1, pn_1ne]
          rw [e1, X1_keyOf, c_has hE hj, Option.bind_some, if_neg (by decide), if_neg hs, hc2, hE.2.2 j hj]; rfl
        rw [hkey, Option.bind_some]
        by_cases ck : eK e = k
        · rw [if_pos ck]
          have hnone : fnd k (evS e S).1 = none := fnd_none.2 (fun x hx2 => by
            have := (mem_delK.1 hx2).2
            rw [ck] at this; exact this)
          obtain ⟨g, rfl⟩ : ∃ k, g = k + 1 := ⟨g - 1, by omega⟩
          rw [m_turn0 hF m1 (ok.ev (by omega)) hnone]
          exact tot_s (tot_s ⟨i, by omega, rfl, rfl, m2⟩)
        · rw [if_neg ck]
          refine tot_b (hev _ hr') (fun y ⟨g1, g2, _⟩ => ?_)
          obtain ⟨⟨j1, j2, j3, j4, j5, j6⟩, ⟨j7, j8, j9, j10, j11, j12, j13, j14, j15, j16, j17, j18, j19⟩, ⟨j20, j21⟩, ⟨j22, j23⟩, ⟨j24, j25, j26, j27, j28, j29, j30, j31⟩⟩ := y
          dsimp only
          rw [nI_1]
          have hlen := evS_len ok hem.1
          have he' : fnd k (evS e S).1 = some e0 := fnd_eq (ok.ev (e := e) (by omega)).1.1 (mem_delK.2 ⟨hm0, by rw [hk0]; exact fun h => ck h.symm⟩) hk0
          refine tot_m (ih (i + 1) (b + 1) f g (evS e S) _ _ _ _ _ _ w' went' t' came' e0 (by omega) (by omega) (by omega) (by omega) (by omega) g1 m1 (ok.ev (by omega)) (W4.ev (e := e) hw) g2 he' hp) (fun y hy => tot_m hy (fun z ⟨a, a1, a2, a3, a4⟩ => ⟨a, a1, a2, a3, m2.trans a4⟩))
end TurnOf
section STurnOf
variable {F N : Nat} {x8 : tX8} {x6 : tX6} {x1 : tX1} {xy xz : tX2} {l8 : tL8} {x4 : tX4} {x5 : tX5} {i0 i1 : Option tWi} {w ik went t : Nat → Int32} {wm th came dp : Int32} {u6 : tX6} {u1 : tX1} {uy uz : tX2} {uq : tX7}
theorem S_turnOf (hF : 1000 ≤ F) (hN : N < 512) (hI : Inv N (x8, x6, x1, xy, xz, l8, x4, x5) i0 i1 w ik wm) (p1 : Int32) :
    Tot (X9_turnOf F p1 x6 x1 xy xz u6 u1 uy uz uq) (fun y => Tot (X10_turnOf F p1 th w 0 went wm t came dp 0) (fun z => y.1 = z.1 ∧ z.2.2.2.1 = 0 ∧ z.2.2.2.2.2.2.2.2 = 0 ∧ Inv (N + 1) (x8, x6, x1, xy, xz, l8, x4, x5) i0 i1 z.2.2.1 ik z.2.2.2.2.2.1)) := by
  have f100 : 100 ≤ F := by omega
  have f200 : 200 ≤ F := by omega
  obtain ⟨⟨V, hc, hm, ok⟩, _, _, ⟨m, rfl, hmm⟩⟩ := id hI
  have okS := ok.2.1.1
  have hlay := c_lay (F := F) (d6 := u6) (d1 := u1) (dy := uy) (dz := uz) (dq := uq) f200 hc.1 okS
  obtain ⟨w2, hp, hm2, hf2⟩ := m_paper (F := F) (o := 0) (wm := nI m) (sil := 0) hF hm
  obtain ⟨uhap, ugot, ucap, uwy, ubal, uwbt⟩ := u6
  obtain ⟨uK, uV, uW, uC, uL, uT, uP, usz, uld, upl, uus, uag, uhv⟩ := u1
  obtain ⟨uyk, uys⟩ := uy
  obtain ⟨uzk, uzs⟩ := uz
  obtain ⟨ea, eb, ec, ed, ee, es, el, ep⟩ := uq
  obtain ⟨hap, got, cap, wy, bal, wbt⟩ := x6
  obtain ⟨kK, kV, kW, kC, kL, kT, kP, sz, ld, pl, us, ag, hvv⟩ := x1
  obtain ⟨yk, ys⟩ := xy
  obtain ⟨zk, zs⟩ := xz
  rw [X9_turnOf]
  refine tot_b hlay (fun y ⟨g0, g1, g2⟩ => ?_)
  obtain ⟨⟨j1, j2, j3, j4, j5, j6⟩, ⟨j7, j8, j9, j10, j11, j12, j13, j14, j15, j16, j17, j18, j19⟩, ⟨j20, j21⟩, ⟨j22, j23⟩, ⟨j24, j25, j26, j27, j28, j29, j30, j31⟩⟩ := y
  dsimp only
  refine tot_b (RC.find (F := F) g0 okS f100 p1) (fun r hr => ?_)
  obtain ⟨L, pL, hE, hix⟩ := hr
  obtain ⟨r2, hr2, M, pM, hEM, hiM⟩ := hm.1.find okS f100 p1
  have l60 := hE.2.1
  have m60 := hEM.2.1
  rw [X10_turnOf, show X10_entryOf F p1 w 0 = _ from hr2, Option.bind_some]
  rcases hix with ⟨rfl, hx⟩ | ⟨j, hj, rfl, hx⟩
  · rcases hiM with ⟨rfl, _⟩ | ⟨j, hj, rfl, hx2⟩
    · rw [if_pos rfl]
      exact tot_s (tot_s ⟨rfl, rfl, rfl, hI.same⟩)
    · rw [hx] at hx2; cases hx2
  · rcases hiM with ⟨_, hx2⟩ | ⟨q, hq, rfl, hx2⟩
    · rw [hx] at hx2; cases hx2
    · have hej : L[j] = M[q] := by rw [hx] at hx2; exact Option.some.inj hx2
      have hs : ¬ ((nI j : Int32) < 0 ∨ 60 ≤ (nI j : Int32).toNatClampNeg) := by simp (disch := omega) only [nI_add, pn_add, pn_addl, pn_mul, pn_cl, pn_nlt0, false_or, pn_ge, pn_le, Nat.add_zero, Nat.zero_add, ↓reduceIte, Option.bind_some, nI_leI, nI_ltI, nI_eq, pn_ne1, pn_1ne]; simp
      have hc2 : (nI j : Int32).toNatClampNeg = j := by simp (disch := omega) only [nI_add, pn_add, pn_addl, pn_mul, pn_cl, pn_nlt0, false_or, pn_ge, pn_le, Nat.add_zero, Nat.zero_add, ↓reduceIte, Option.bind_some, nI_leI, nI_ltI, nI_eq, pn_ne1, pn_1ne]
      have hP := (okS.1.perm pM).PB M[q] (List.getElem_mem hq)
      rw [if_neg (show ¬ nI j = -1 by simp (disch := omega) only [nI_add, pn_add, pn_addl, pn_mul, pn_cl, pn_nlt0, false_or, pn_ge, pn_le, Nat.add_zero, Nat.zero_add, ↓reduceIte, Option.bind_some, nI_leI, nI_ltI, nI_eq, pn_ne1, pn_1ne]; simp), if_neg (show ¬ nI q = -1 by simp (disch := omega) only [nI_add, pn_add, pn_addl, pn_mul, pn_cl, pn_nlt0, false_or, pn_ge, pn_le, Nat.add_zero, Nat.zero_add, ↓reduceIte, Option.bind_some, nI_leI, nI_ltI, nI_eq, pn_ne1, pn_1ne]; simp), if_neg hs, hc2, c_P hE hj, hej, show X10_of F (nI q) 6 w 0 = _ from m_of6 hEM hq, Option.bind_some]
      by_cases cP : eP M[q] = 0
      · rw [if_pos cP, if_neg (by rw [cP]; decide), hp, Option.bind_some]
        dsimp only
        have hfe : fnd p1 V.2.2.1.1 = some M[q] := hx2
        have hl : V.2.2.1.1.length ≤ 60 := okS.1.2.2.1
        refine tot_m (turn_loop (F := F) (k := p1) (dp := dp) hF 60 0 (3100000 * N) F F V.2.2.1 [] _ _ _ _ _ w2 went t came M[q] hl (by omega) (by omega) (by omega) (by omega) g0 hm2.1 okS ok.2.1.2.1 g1 hfe cP) (fun y hy => ?_)
        refine tot_b hy (fun z ⟨a, a1, a2, a3, a4⟩ => ?_)
        obtain ⟨n1, n2, n3, n4, n5⟩ := z
        have n3' : n3 = nI (a + 1) := a3
        subst n3'
        rw [X10_comesBack, Option.bind_some]
        refine tot_s ⟨?_, rfl, rfl, hI.paper (fun q hq => by rw [a4 q (by omega), hf2 q hq]) (by omega)⟩
        rw [a2, nI_pred]
      · have cP1 : eP M[q] = 1 := hP.resolve_left cP
        rw [if_neg cP, if_pos cP1]
        exact tot_s (tot_s ⟨rfl, rfl, rfl, hI.same⟩)
end STurnOf
