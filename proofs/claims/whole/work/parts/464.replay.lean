/-! replay, replayed, regret -/
def wB (p : Int32) : Bool := decide (0 ≤ p) && decide (p ≤ 5)
def cB (p : Int32) : Bool := decide (0 ≤ p) && decide (p ≤ 60)
theorem isPaperWay_eq {F : Nat} (p : Int32) : X9_isPaperWay F p = some (bi (wB p)) := by
  rw [X9_isPaperWay, within_eq, Option.bind_some, if_neg (Classical.not_not.2 (bi_01 _))]; rfl
theorem isPaperCap_eq {F : Nat} (p : Int32) : X9_isPaperCap F p = some (bi (cB p)) := by
  rw [X9_isPaperCap, within_eq, Option.bind_some, if_neg (Classical.not_not.2 (bi_01 _))]; rfl
theorem isWay_eq {F : Nat} (p : Int32) : X10_isWay F p = some (bi (wB p)) := by
  rw [X10_isWay, show X10_isIn F p.toInt64 0 5 = _ from isIn_eq (F := F) p 0 5, Option.bind_some, if_neg (Classical.not_not.2 (bi_01 _))]; rfl
theorem isIn60 {F : Nat} (p : Int32) : X10_isIn F p.toInt64 0 60 = some (bi (cB p)) := isIn_eq (F := F) p 0 60
theorem wB_n {p : Int32} (h : wB p = true) : ∃ n : Nat, n ≤ 5 ∧ p = nI n := by
  have := rng_of (show (decide (0 ≤ p) && decide (p ≤ 5)) = true from h)
  have e0 : (0 : Int32).toInt = 0 := by decide
  have e5 : (5 : Int32).toInt = 5 := by decide
  exact ⟨p.toInt.toNat, by omega, i32_nat (by omega)⟩
theorem cB_n {p : Int32} (h : cB p = true) : ∃ n : Nat, n ≤ 60 ∧ p = nI n := by
  have := rng_of (show (decide (0 ≤ p) && decide (p ≤ 60)) = true from h)
  have e0 : (0 : Int32).toInt = 0 := by decide
  have e5 : (60 : Int32).toInt = 60 := by decide
  exact ⟨p.toInt.toNat, by omega, i32_nat (by omega)⟩
/-- what a run leaves with the class -/
def RunC (Q : List Int32) (way c : Nat) (x0 : tX0) (x6 : tX6) (x1 : tX1) (xy xz : tX2) : Prop := RC (runS true way c Q Q.length).1 x6 x1 xy xz ∧ RA Q x0 ∧ x0.2.2.2.2.2.2.1 = nI (runS true way c Q Q.length).2.1 ∧ ∀ q, q < Q.length → x0.2.2.2.1 q = (runS true way c Q Q.length).2.2 q
section GoT
variable {F : Nat} {Q : List Int32} {x5 : tX5} {x0 : tX0} {x6 : tX6} {x1 : tX1} {xy xz : tX2} {xq : tX7}
theorem c_goThrough (hF : 200 ≤ F) (hc : RQc Q x5) (hK : ∀ x ∈ Q, 0 ≤ x.toInt ∧ x.toInt < 1000) (p1 p2 : Int32) :
    Tot (X9_goThrough F p1 p2 x5 x0 x6 x1 xy xz xq) (fun y => (y.1 = 0 ∧ (wB p1 = false ∨ cB p2 = false)) ∨ (y.1 = 1 ∧ wB p1 = true ∧ cB p2 = true ∧ ∀ way c, way ≤ 5 → c ≤ 60 → p1 = nI way → p2 = nI c → RunC Q way c y.2.1 y.2.2.1 y.2.2.2.1 y.2.2.2.2.1 y.2.2.2.2.2.1)) := by
  have hrd := c_read (F := F) (x0 := x0) hF hc
  have hrun := fun (way c : Nat) (h1 : way ≤ 5) (h2 : c ≤ 60) (y : tX0) (hy : RA Q y) => c_run (F := F) (x6 := x6) (x1 := x1) (xy := xy) (xz := xz) (xq := xq) hF hK h2 h1 hy
  obtain ⟨K, nx, f, g, s, zz, hh, hs⟩ := x0
  obtain ⟨rk, rs⟩ := x5
  obtain ⟨hap, got, cap, wy, bal, wbt⟩ := x6
  obtain ⟨kK, kV, kW, kC, kL, kT, kP, sz, ld, pl, us, ag, hv⟩ := x1
  obtain ⟨yk, ys⟩ := xy
  obtain ⟨zk, zs⟩ := xz
  obtain ⟨qa, qb, qc, qd, qe, qs, ql, qp⟩ := xq
  rw [X9_goThrough, isPaperWay_eq, Option.bind_some]
  cases h1 : wB p1 with
  | false => rw [if_pos (show bi false = 0 from rfl)]; exact tot_s (Or.inl ⟨rfl, Or.inl rfl⟩)
  | true =>
    rw [if_neg (show ¬ bi true = 0 by decide), isPaperCap_eq, Option.bind_some]
    cases h2 : cB p2 with
    | false => rw [if_pos (show bi false = 0 from rfl)]; exact tot_s (Or.inl ⟨rfl, Or.inr rfl⟩)
    | true =>
      rw [if_neg (show ¬ bi true = 0 by decide)]
      obtain ⟨way, hw, rfl⟩ := wB_n h1
      obtain ⟨c, hcc, rfl⟩ := cB_n h2
      refine tot_b hrd (fun y hy => ?_)
      have hr := hrun way c hw hcc y hy
      obtain ⟨K, nx, f, g, s, zz, hh, hs⟩ := y
      dsimp only
      refine tot_b hr (fun z ⟨z1, z2, _, _, z5, z6⟩ => ?_)
      obtain ⟨⟨K, nx, f, g, s, zz, hh, hs⟩, ⟨i1, i2, i3, i4, i5, i6⟩, ⟨i7, i8, i9, i10, i11, i12, i13, i14, i15, i16, i17, i18, i19⟩, ⟨i20, i21⟩, ⟨i22, i23⟩, ⟨i24, i25, i26, i27, i28, i29, i30, i31⟩⟩ := z
      refine tot_s (Or.inr ⟨rfl, rfl, rfl, fun way' c' hw' hc' e1 e2 => ?_⟩)
      rw [nI_eq (by omega) (by omega)] at e1 e2
      subst e1; subst e2
      exact ⟨z1, z2, z5, z6⟩
end GoT
section SRep
variable {F N : Nat} {D : tWi} {i0 i1 : Option tWi} {w ik went t : Nat → Int32} {wm th came dp hi ru so : Int32} {x0 : tX0} {x6 : tX6} {x1 : tX1} {xy xz : tX2} {xq : tX7}
/-- a query by runs on paper: what it leaves -/
def PostR (N : Nat) (D : tWi) (i0 i1 : Option tWi) (ik : Nat → Int32) (a : Int32) (z : Int32 × Int32 × (Nat → Int32) × Int32 × (Nat → Int32) × Int32 × (Nat → Int32) × Int32 × Int32 × Int32 × Int32 × Int32) : Prop := a = z.1 ∧ z.2.2.2.1 = 0 ∧ z.2.2.2.2.2.2.2.2.1 = 0 ∧ Inv (N + 1) D i0 i1 z.2.2.1 ik z.2.2.2.2.2.1
theorem S_replay (hF : 1000 ≤ F) (hI : Inv N D i0 i1 w ik wm) (p1 p2 p3 : Int32) :
    Tot (X9_replay F p1 p2 p3 D.2.2.2.2.2.2.2 x0 x6 x1 xy xz xq) (fun y => Tot (X10_replay F p1 p2 p3 th w 0 went wm t came dp 0 hi ru so) (fun z => PostR N D i0 i1 ik y.1 z)) := by
  obtain ⟨⟨V, hc, hm, ok⟩, _, _, _⟩ := id hI
  have hgo := c_goThrough (F := F) (x0 := x0) (x6 := x6) (x1 := x1) (xy := xy) (xz := xz) (xq := xq) (by omega) hc.2.2.2.1 ok.2.2.2.1 p1 p2
  have hrn := fun (way c : Nat) (h1 : way ≤ 5) (h2 : c ≤ 60) => m_run (F := F) (way := way) (c := c) (dp := dp) (o := 0) (wm := wm) (came := came) (sil := 0) (hi := hi) (ru := ru) (so := so) (went := went) (t := t) hF hm.2.2.2 ok.2.2.2.1 h2 h1
  have hQl := hm.2.2.2.2.1
  generalize D.2.2.2.2.2.2.2 = x5 at *
  obtain ⟨K, nx, f, g, s, zz, hh, hs⟩ := x0
  obtain ⟨rk, rs⟩ := x5
  obtain ⟨hap, got, cap, wy, bal, wbt⟩ := x6
  obtain ⟨kK, kV, kW, kC, kL, kT, kP, sz, ld, pl, us, ag, hv⟩ := x1
  obtain ⟨yk, ys⟩ := xy
  obtain ⟨zk, zs⟩ := xz
  obtain ⟨qa, qb, qc, qd, qe, qs, ql, qp⟩ := xq
  rw [X9_replay, within_eq, Option.bind_some, X10_replay, isWay_eq, isIn60, show X10_isIn F p3.toInt64 0 2 = _ from isIn_eq (F := F) p3 0 2]
  simp only [Option.bind_some]
  have bad : ∀ (X : Option (Int32 × Int32 × (Nat → Int32) × Int32 × (Nat → Int32) × Int32 × (Nat → Int32) × Int32 × Int32 × Int32 × Int32 × Int32)), (wB p1 = false ∨ cB p2 = false ∨ (decide (0 ≤ p3) && decide (p3 ≤ 2)) = false) → Tot (if bi (wB p1) = 0 then some (-1, 0, w, 0, went, wm, t, came, 0, hi, ru, so) else if bi (cB p2) = 0 then some (-1, 0, w, 0, went, wm, t, came, 0, hi, ru, so) else if bi (decide (0 ≤ p3) && decide (p3 ≤ 2)) = 0 then some (-1, 0, w, 0, went, wm, t, came, 0, hi, ru, so) else X) (fun z => PostR N D i0 i1 ik (-1) z) := fun X hb => by
    have fin : Tot (some ((-1 : Int32), (0 : Int32), w, (0 : Int32), went, wm, t, came, (0 : Int32), hi, ru, so)) (fun z => PostR N D i0 i1 ik (-1) z) := tot_s ⟨rfl, rfl, rfl, hI.same⟩
    refine tot_i (fun _ => fin) (fun h1 => tot_i (fun _ => fin) (fun h2 => tot_i (fun _ => fin) (fun h3 => ?_)))
    rcases hb with h | h | h
    · exact absurd (bi_0.2 h) h1
    · exact absurd (bi_0.2 h) h2
    · exact absurd (bi_0.2 h) h3
  cases h3 : (decide (0 ≤ p3) && decide (p3 ≤ 2)) with
  | false => rw [if_pos (show bi false = 0 from rfl)]; rw [← h3]; exact tot_s (bad _ (Or.inr (Or.inr h3)))
  | true =>
    rw [if_neg (show ¬ bi true = 0 by decide), ← h3]
    refine tot_b hgo (fun y hy => ?_)
    obtain ⟨r, ⟨K, nx, f, g, s, zz, hh, hs⟩, ⟨k1, k2, k3, k4, k5, k6⟩, ⟨k7, k8, k9, k10, k11, k12, k13, k14, k15, k16, k17, k18, k19⟩, ⟨k20, k21⟩, ⟨k22, k23⟩, ⟨k24, k25, k26, k27, k28, k29, k30, k31⟩⟩ := y
    dsimp only at hy ⊢
    rcases hy with ⟨rfl, hb⟩ | ⟨rfl, hw1, hc1, hy⟩
    · rw [if_pos rfl]
      exact tot_s (bad _ (hb.elim Or.inl (fun h => Or.inr (Or.inl h))))
    · rw [if_neg (show ¬ (1 : Int32) = 0 by decide), hw1, hc1, h3, if_neg (show ¬ bi true = 0 by decide)]
      obtain ⟨way, hw, rfl⟩ := wB_n hw1
      obtain ⟨c, hcc, rfl⟩ := cB_n hc1
      obtain ⟨y1, y2, y3, y4⟩ := hy way c hw hcc rfl rfl
      obtain ⟨e1, e2, e3⟩ := run_eq (way := way) (c := c) hQl ok.2.2.2.1 hcc hw V.2.2.2.2.length (Nat.le_refl _)
      have hmr := hrn way c hw hcc
      have c2 : Int32.toNatClampNeg 2 = 2 := by decide
      have c10 : (2544 + 10 : Int32).toNatClampNeg = 2554 := by decide
      have g10 : ¬ ((2544 + 10 : Int32) < 0 ∨ 3392 ≤ (2544 + 10 : Int32).toNatClampNeg) := by decide
      have c0 : (2544 + 0 : Int32).toNatClampNeg = 2544 := by decide
      have g0 : ¬ ((2544 + 0 : Int32) < 0 ∨ 3392 ≤ (2544 + 0 : Int32).toNatClampNeg) := by decide
      have cb : X10_comesBack F 2544 1 = some (0, 0) := rfl
      have fin : ∀ a, (∀ (w' : Nat → Int32) (h' : Int32), RM (runS false way c V.2.2.2.2 V.2.2.2.2.length).1 w' 2544 → h' = nI (runS false way c V.2.2.2.2 V.2.2.2.2.length).2.1 → a = if p3 = 0 then h' else if p3 = 1 then w' 2554 else w' 2544) → Tot ((X10_goesThrough F (nI way) (nI c) w 0 went wm t came dp 0 hi ru so).bind fun (w7, o8, e9, m10, t11, c12, s13, h14, r15, q16) => (if (p3 : Int32) = 0 then ((X10_comesBack F o8 s13).bind fun (o27, s28) => (some (h14, (0 : Int32), w7, o27, e9, m10, t11, c12, s28, h14, r15, q16))) else (if (p3 : Int32) = 1 then (if ((o8 + 10) : Int32) < 0 ∨ 3392 ≤ (Int32.toNatClampNeg (o8 + 10)) then none else ((X10_comesBack F o8 s13).bind fun (o22, s23) => (some ((w7 (Int32.toNatClampNeg (o8 + 10))), 0, w7, o22, e9, m10, t11, c12, s23, h14, r15, q16)))) else (if ((o8 + 0) : Int32) < 0 ∨ 3392 ≤ (Int32.toNatClampNeg (o8 + 0)) then none else ((X10_comesBack F o8 s13).bind fun (o18, s19) => (some ((w7 (Int32.toNatClampNeg (o8 + 0))), 0, w7, o18, e9, m10, t11, c12, s19, h14, r15, q16))))))) (fun z => PostR N D i0 i1 ik a z) := fun a ha => by
        refine tot_b hmr (fun z ⟨z1, z2, z3, ⟨m', z4, z5⟩, z6, z7, z8⟩ => ?_)
        obtain ⟨n1, n2, n3, n4, n5, n6, n7, n8, n9, n10⟩ := z
        dsimp only at z1 z2 z3 z4 z6 z7 ⊢
        subst z3; subst z4; subst z6
        have hinv : Inv (N + 1) D i0 i1 n1 ik (nI m') := hI.paper z2 (by omega)
        have hav := ha n1 n8 z1 z7
        rw [cb, Option.bind_some, Option.bind_some, Option.bind_some]
        by_cases q0 : p3 = 0
        · rw [if_pos q0] at hav ⊢; exact tot_s ⟨hav, rfl, rfl, hinv⟩
        · rw [if_neg q0] at hav ⊢
          by_cases q1 : p3 = 1
          · rw [if_pos q1] at hav ⊢; rw [if_neg g10, c10]; exact tot_s ⟨hav, rfl, rfl, hinv⟩
          · rw [if_neg q1] at hav ⊢; rw [if_neg g0, c0]; exact tot_s ⟨hav, rfl, rfl, hinv⟩
      obtain ⟨⟨L, pL, hE⟩, _, _, _, _, _, n10, _⟩ := y1
      have hsz : ∀ (w' : Nat → Int32), RM (runS false way c V.2.2.2.2 V.2.2.2.2.length).1 w' 2544 → k14 = w' 2544 := fun w' hw' => by
        obtain ⟨⟨M, pM, hEM⟩, _⟩ := hw'
        rw [hE.1, hEM.1, pL.length_eq, pM.length_eq, e1]
      have h10 : ∀ (w' : Nat → Int32), RM (runS false way c V.2.2.2.2 V.2.2.2.2.length).1 w' 2544 → k1 2 = w' 2554 := fun w' hw' => by
        rw [n10, e2]; exact (hw'.2.2.2 10 (by omega) (by omega)).symm
      have hhits : hh = nI (runS false way c V.2.2.2.2 V.2.2.2.2.length).2.1 := by rw [← e3]; exact y3
      rw [c2]
      by_cases q0 : p3 = 0
      · rw [if_pos q0]; exact tot_s (fin _ (fun w' h' _ e => by rw [if_pos q0, hhits, e]))
      · rw [if_neg q0]
        by_cases q1 : p3 = 1
        · rw [if_pos q1]; exact tot_s (fin _ (fun w' h' hw' e => by rw [if_neg q0, if_pos q1, h10 w' hw']))
        · rw [if_neg q1]; exact tot_s (fin _ (fun w' h' hw' e => by rw [if_neg q0, if_neg q1, hsz w' hw']))
end SRep
