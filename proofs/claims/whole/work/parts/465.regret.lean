/-! replayed, regret -/
section Rue
variable {F : Nat} {Q : List Int32}
def rueG (Q : List Int32) (G : Nat → Int32) : Nat → Int32 × Int32
  | 0 => (0, -1)
  | k + 1 => rueT Q k (G k) (rueG Q G k).1 (rueG Q G k).2
theorem run_g (cls : Bool) (way c : Nat) (Q : List Int32) {q k : Nat} (hq : q < k) : ∀ n, k ≤ n → (runS cls way c Q n).2.2 q = (runS cls way c Q k).2.2 q := by
  intro n
  induction n with
  | zero => intro h; omega
  | succ n ih =>
    intro h
    by_cases c1 : k = n + 1
    · subst c1; rfl
    · rw [← ih (by omega)]
      simp only [runS]; rw [upd_n (by omega)]
theorem rueR_G (way c : Nat) (Q : List Int32) (n : Nat) : ∀ k, k ≤ n → rueR way c Q k = rueG Q (runS false way c Q n).2.2 k
  | 0, _ => rfl
  | k + 1, h => by rw [rueR, rueG, rueR_G way c Q n k (by omega), run_g false way c Q (q := k) (k := k + 1) (by omega) n h]
theorem c_regrets (hF : 200 ≤ F) {x0 : tX0} (h : RA Q x0) {G : Nat → Int32} (hG : ∀ q, q < Q.length → x0.2.2.2.1 q = G q) : X0_regrets F x0 = some (rueG Q G Q.length).1 := by
  obtain ⟨K, nx, f, g, s, zz, hh, hs⟩ := x0
  obtain ⟨rfl, hl, hK, hN⟩ := h
  dsimp only at hG
  have key : ∀ (n i : Nat), i ≤ Q.length → Q.length - i < n → X0_regrets_L4 F n (rueG Q G i).1 (nI i) (K, nx, f, g, s, nI Q.length, hh, hs) = some (rueG Q G Q.length).1 := by
    intro n
    induction n with
    | zero => intro i _ h; omega
    | succ n ih =>
      intro i hi hn
      rw [X0_regrets_L4]
      by_cases c1 : Q.length ≤ i
      · rw [if_pos ((nI_leI (by omega) (by omega)).2 c1), show i = Q.length by omega]
      · have hiq : i < Q.length := by omega
        have gi : ¬ ((nI i : Int32) < 0 ∨ 100 ≤ i) := by simp (disch := omega) only [nI_add, pn_add, pn_addl, pn_mul, pn_cl, pn_nlt0, false_or, pn_ge, pn_le, Nat.add_zero, Nat.zero_add, ↓reduceIte, Option.bind_some, nI_leI, nI_ltI, nI_eq, pn_ne1, pn_1ne]; simp
        have := ih (i + 1) (by omega) (by omega)
        rw [rueG, rueT] at this
        rw [if_neg (fun hx => c1 ((nI_leI (by omega) (by omega)).1 hx)), kcl (by omega), if_neg gi, hG i hiq, nI_1]
        by_cases cg : G i = -1
        · rw [if_pos cg] at this ⊢; exact this
        · rw [if_neg cg] at this ⊢
          obtain ⟨a1, a2, _⟩ := nxA_spec Q (G i) (i := i + 1) (by omega)
          rw [if_neg gi, c_next hF hl hK _ hiq, Option.bind_some]
          by_cases cn : nxA Q (G i) (i + 1) < Q.length
          · rw [if_pos cn] at this
            rw [if_neg (fun hx => by have := (nI_leI (by omega) (by omega)).1 hx; omega)]; exact this
          · rw [if_neg cn] at this
            rw [if_pos ((nI_leI (by omega) (by omega)).2 (by omega))]; exact this
  rw [X0_regrets, show X0_regrets_L4 F F 0 0 (K, nx, f, g, s, nI Q.length, hh, hs) = _ from key F 0 (by omega) (by omega), Option.bind_some]
theorem c_nearest (hF : 200 ≤ F) {x0 : tX0} (h : RA Q x0) {G : Nat → Int32} (hG : ∀ q, q < Q.length → x0.2.2.2.1 q = G q) : X0_nearestRegret F x0 = some (rueG Q G Q.length).2 := by
  obtain ⟨K, nx, f, g, s, zz, hh, hs⟩ := x0
  obtain ⟨rfl, hl, hK, hN⟩ := h
  dsimp only at hG
  have key : ∀ (n i : Nat), i ≤ Q.length → Q.length - i < n → X0_nearestRegret_L4 F n (rueG Q G i).2 (nI i) (K, nx, f, g, s, nI Q.length, hh, hs) = some (rueG Q G Q.length).2 := by
    intro n
    induction n with
    | zero => intro i _ h; omega
    | succ n ih =>
      intro i hi hn
      rw [X0_nearestRegret_L4]
      by_cases c1 : Q.length ≤ i
      · rw [if_pos ((nI_leI (by omega) (by omega)).2 c1), show i = Q.length by omega]
      · have hiq : i < Q.length := by omega
        have gi : ¬ ((nI i : Int32) < 0 ∨ 100 ≤ i) := by simp (disch := omega) only [nI_add, pn_add, pn_addl, pn_mul, pn_cl, pn_nlt0, false_or, pn_ge, pn_le, Nat.add_zero, Nat.zero_add, ↓reduceIte, Option.bind_some, nI_leI, nI_ltI, nI_eq, pn_ne1, pn_1ne]; simp
        have := ih (i + 1) (by omega) (by omega)
        rw [rueG, rueT] at this
        rw [if_neg (fun hx => c1 ((nI_leI (by omega) (by omega)).1 hx)), kcl (by omega), if_neg gi, hG i hiq, nI_1]
        by_cases cg : G i = -1
        · rw [if_pos cg] at this
          rw [if_pos cg, if_pos (Int32.le_refl _)]; exact this
        · rw [if_neg cg] at this ⊢
          obtain ⟨a1, a2, _⟩ := nxA_spec Q (G i) (i := i + 1) (by omega)
          rw [if_neg gi, c_next hF hl hK _ hiq, Option.bind_some]
          by_cases cn : nxA Q (G i) (i + 1) < Q.length
          · rw [if_pos cn] at this
            dsimp only at this
            rw [if_neg (fun hx => by have := (nI_leI (by omega) (by omega)).1 hx; omega)]
            by_cases cs : (rueG Q G i).2 = -1
            · rw [if_pos cs] at this ⊢; exact this
            · rw [if_neg cs] at this ⊢
              by_cases d1 : nI (nxA Q (G i) (i + 1)) - nI i ≤ (rueG Q G i).2
              · rw [if_pos d1] at this
                by_cases d2 : (rueG Q G i).2 ≤ nI (nxA Q (G i) (i + 1)) - nI i
                · have e : (rueG Q G i).2 = nI (nxA Q (G i) (i + 1)) - nI i := Int32.le_antisymm d2 d1
                  rw [if_pos d2, e]; exact this
                · rw [if_neg d2]; exact this
              · rw [if_neg d1] at this
                rw [if_pos (by rw [i32_le] at *; omega)]; exact this
          · rw [if_neg cn] at this
            rw [if_pos ((nI_leI (by omega) (by omega)).2 (by omega))]; exact this
  rw [X0_nearestRegret, show X0_nearestRegret_L4 F F (-1) 0 (K, nx, f, g, s, nI Q.length, hh, hs) = _ from key F 0 (by omega) (by omega), Option.bind_some]
end Rue
section SReg
variable {F N : Nat} {D : tWi} {i0 i1 : Option tWi} {w ik went t : Nat → Int32} {wm th came dp hi ru so : Int32} {x0 : tX0} {x6 : tX6} {x1 : tX1} {xy xz : tX2} {xq : tX7}
theorem S_replayed (hF : 1000 ≤ F) (hI : Inv N D i0 i1 w ik wm) (p1 p2 p3 : Int32) :
    Tot (X9_replayed F p1 p2 p3 D.2.2.2.2.2.2.2 x0 x6 x1 xy xz xq) (fun y => Tot (X10_replayed F p1 p2 p3 th w 0 went wm t came dp 0 hi ru so) (fun z => PostR N D i0 i1 ik y.1 z)) := by
  obtain ⟨⟨V, hc, hm, ok⟩, _, _, _⟩ := id hI
  have hgo := c_goThrough (F := F) (x0 := x0) (x6 := x6) (x1 := x1) (xy := xy) (xz := xz) (xq := xq) (by omega) hc.2.2.2.1 ok.2.2.2.1 p1 p2
  have hrn := fun (way c : Nat) (h1 : way ≤ 5) (h2 : c ≤ 60) => m_run (F := F) (way := way) (c := c) (dp := dp) (o := 0) (wm := wm) (came := came) (sil := 0) (hi := hi) (ru := ru) (so := so) (went := went) (t := t) hF hm.2.2.2 ok.2.2.2.1 h2 h1
  have hQl := hm.2.2.2.2.1
  generalize D.2.2.2.2.2.2.2 = x5 at *
  obtain ⟨K, nx, f, g, s, zz, hh, hs⟩ := x0
  obtain ⟨rk, rs⟩ := x5
  obtain ⟨hap, got, cap, wy, bal, wbt⟩ := x6
  obtain ⟨kK, kV, kW, kC, kL, kT, kP, sz, ld, pl, us, ag, hv⟩ := x1
  obtain ⟨yk, ys⟩ := xy
  obtain ⟨zk, zs⟩ := xz
  obtain ⟨qa, qb, qc, qd, qe, qs, ql, qp⟩ := xq
  have fin0 : Tot (some ((-1 : Int32), (0 : Int32), w, (0 : Int32), went, wm, t, came, (0 : Int32), hi, ru, so)) (fun z => PostR N D i0 i1 ik (-1) z) := tot_s ⟨rfl, rfl, rfl, hI.same⟩
  rw [X9_replayed, X10_replayed, isWay_eq, isIn60]
  simp only [Option.bind_some]
  refine tot_b hgo (fun y hy => ?_)
  obtain ⟨r, ⟨K, nx, f, g, s, zz, hh, hs⟩, ⟨k1, k2, k3, k4, k5, k6⟩, ⟨k7, k8, k9, k10, k11, k12, k13, k14, k15, k16, k17, k18, k19⟩, ⟨k20, k21⟩, ⟨k22, k23⟩, ⟨k24, k25, k26, k27, k28, k29, k30, k31⟩⟩ := y
  dsimp only at hy ⊢
  rcases hy with ⟨rfl, hb⟩ | ⟨rfl, hw1, hc1, hy⟩
  · rw [if_pos rfl]
    refine tot_s (tot_i (fun _ => fin0) (fun h1 => tot_i (fun _ => fin0) (fun h2 => ?_)))
    rcases hb with h | h
    · exact absurd (bi_0.2 h) h1
    · exact absurd (bi_0.2 h) h2
  · rw [if_neg (show ¬ (1 : Int32) = 0 by decide), hw1, hc1, if_neg (show ¬ bi true = 0 by decide)]
    obtain ⟨way, hw, rfl⟩ := wB_n hw1
    obtain ⟨c, hcc, rfl⟩ := cB_n hc1
    obtain ⟨y1, y2, y3, y4⟩ := hy way c hw hcc rfl rfl
    obtain ⟨e1, e2, e3⟩ := run_eq (way := way) (c := c) hQl ok.2.2.2.1 hcc hw V.2.2.2.2.length (Nat.le_refl _)
    obtain ⟨hJ, _⟩ := JR_run (cls := true) (way := way) (c := c) hQl ok.2.2.2.1 hcc hw V.2.2.2.2.length (Nat.le_refl _)
    obtain ⟨⟨L, pL, hE⟩, _⟩ := y1
    have oL := hJ.ok.1.perm pL
    have hl60 := hE.2.1
    have c0 : (2544 + 0 : Int32).toNatClampNeg = 2544 := by decide
    have g0 : ¬ ((2544 + 0 : Int32) < 0 ∨ 3392 ≤ (2544 + 0 : Int32).toNatClampNeg) := by decide
    have cb : X10_comesBack F 2544 1 = some (0, 0) := rfl
    rw [c_keyAt hE (by omega), Option.bind_some]
    refine tot_s (tot_b (hrn way c hw hcc) (fun z ⟨z1, z2, z3, ⟨m', z4, z5⟩, z6, z7, z8⟩ => ?_))
    obtain ⟨n1, n2, n3, n4, n5, n6, n7, n8, n9, n10⟩ := z
    dsimp only at z1 z2 z3 z4 z6 z7 ⊢
    subst z3; subst z4; subst z6
    have hinv : Inv (N + 1) D i0 i1 n1 ik (nI m') := hI.paper z2 (by omega)
    obtain ⟨⟨M, pM, hEM⟩, _⟩ := z1
    have pLM : L.Perm M := pL.trans (by rw [e1]; exact pM.symm)
    have hsz : n1 2544 = nI L.length := by rw [hEM.1, pLM.length_eq]
    rw [if_neg g0, c0, hsz, show X10_isIn F p3.toInt64 0 ((nI L.length - 1).toInt64) = _ from isIn_eq (F := F) p3 0 _, Option.bind_some, cb]
    rcases rng_n p3 (n := L.length) (by omega) with ⟨i, hi2, rfl, hr⟩ | ⟨hno, hr⟩
    · rw [hr, if_neg (show ¬ bi true = 0 by decide), show X10_keyAt F 0 (nI i) n1 2544 = _ from m_keyAt hEM (by omega) 0 (nI i), Option.bind_some, Option.bind_some]
      exact tot_s ⟨keyAt_perm oL.2.1 (by omega) pLM, rfl, rfl, hinv⟩
    · rw [hr, if_pos (show bi false = 0 from rfl), Option.bind_some]
      exact tot_s ⟨keyAt_out hno, rfl, rfl, hinv⟩
theorem S_regret (hF : 1000 ≤ F) (hI : Inv N D i0 i1 w ik wm) (p1 p2 p3 : Int32) :
    Tot (X9_regret F p1 p2 p3 D.2.2.2.2.2.2.2 x0 x6 x1 xy xz xq) (fun y => Tot (X10_regret F p1 p2 p3 th w 0 went wm t came dp 0 hi ru so) (fun z => PostR N D i0 i1 ik y.1 z)) := by
  obtain ⟨⟨V, hc, hm, ok⟩, _, _, _⟩ := id hI
  have hgo := c_goThrough (F := F) (x0 := x0) (x6 := x6) (x1 := x1) (xy := xy) (xz := xz) (xq := xq) (by omega) hc.2.2.2.1 ok.2.2.2.1 p1 p2
  have hrn := fun (way c : Nat) (h1 : way ≤ 5) (h2 : c ≤ 60) => m_run (F := F) (way := way) (c := c) (dp := dp) (o := 0) (wm := wm) (came := came) (sil := 0) (hi := hi) (ru := ru) (so := so) (went := went) (t := t) hF hm.2.2.2 ok.2.2.2.1 h2 h1
  have hQl := hm.2.2.2.2.1
  generalize D.2.2.2.2.2.2.2 = x5 at *
  obtain ⟨K, nx, f, g, s, zz, hh, hs⟩ := x0
  obtain ⟨rk, rs⟩ := x5
  obtain ⟨hap, got, cap, wy, bal, wbt⟩ := x6
  obtain ⟨kK, kV, kW, kC, kL, kT, kP, sz, ld, pl, us, ag, hv⟩ := x1
  obtain ⟨yk, ys⟩ := xy
  obtain ⟨zk, zs⟩ := xz
  obtain ⟨qa, qb, qc, qd, qe, qs, ql, qp⟩ := xq
  have fin0 : Tot (some ((-1 : Int32), (0 : Int32), w, (0 : Int32), went, wm, t, came, (0 : Int32), hi, ru, so)) (fun z => PostR N D i0 i1 ik (-1) z) := tot_s ⟨rfl, rfl, rfl, hI.same⟩
  rw [X9_regret, within_eq, Option.bind_some, X10_regret, isWay_eq, isIn60, show X10_isIn F p3.toInt64 0 1 = _ from isIn_eq (F := F) p3 0 1]
  simp only [Option.bind_some]
  have bad : ∀ (X : Option (Int32 × Int32 × (Nat → Int32) × Int32 × (Nat → Int32) × Int32 × (Nat → Int32) × Int32 × Int32 × Int32 × Int32 × Int32)), (wB p1 = false ∨ cB p2 = false ∨ (decide (0 ≤ p3) && decide (p3 ≤ 1)) = false) → Tot (if bi (wB p1) = 0 then some (-1, 0, w, 0, went, wm, t, came, 0, hi, ru, so) else if bi (cB p2) = 0 then some (-1, 0, w, 0, went, wm, t, came, 0, hi, ru, so) else if bi (decide (0 ≤ p3) && decide (p3 ≤ 1)) = 0 then some (-1, 0, w, 0, went, wm, t, came, 0, hi, ru, so) else X) (fun z => PostR N D i0 i1 ik (-1) z) := fun X hb => by
    refine tot_i (fun _ => fin0) (fun h1 => tot_i (fun _ => fin0) (fun h2 => tot_i (fun _ => fin0) (fun h3 => ?_)))
    rcases hb with h | h | h
    · exact absurd (bi_0.2 h) h1
    · exact absurd (bi_0.2 h) h2
    · exact absurd (bi_0.2 h) h3
  cases h3 : (decide (0 ≤ p3) && decide (p3 ≤ 1)) with
  | false => rw [if_pos (show bi false = 0 from rfl)]; rw [← h3]; exact tot_s (bad _ (Or.inr (Or.inr h3)))
  | true =>
    rw [if_neg (show ¬ bi true = 0 by decide), ← h3]
    refine tot_b hgo (fun y hy => ?_)
    obtain ⟨r, ⟨K, nx, f, g, s, zz, hh, hs⟩, ⟨k1, k2, k3, k4, k5, k6⟩, ⟨k7, k8, k9, k10, k11, k12, k13, k14, k15, k16, k17, k18, k19⟩, ⟨k20, k21⟩, ⟨k22, k23⟩, ⟨k24, k25, k26, k27, k28, k29, k30, k31⟩⟩ := y
    dsimp only at hy ⊢
    rcases hy with ⟨rfl, hb⟩ | ⟨rfl, hw1, hc1, hy⟩
    · rw [if_pos rfl]
      exact tot_s (bad _ (hb.elim Or.inl (fun h => Or.inr (Or.inl h))))
    · rw [if_neg (show ¬ (1 : Int32) = 0 by decide), hw1, hc1, h3, if_neg (show ¬ bi true = 0 by decide)]
      obtain ⟨way, hw, rfl⟩ := wB_n hw1
      obtain ⟨c, hcc, rfl⟩ := cB_n hc1
      obtain ⟨y1, y2, y3, y4⟩ := hy way c hw hcc rfl rfl
      obtain ⟨e1, e2, e3⟩ := run_eq (way := way) (c := c) hQl ok.2.2.2.1 hcc hw V.2.2.2.2.length (Nat.le_refl _)
      rw [c_regrets (by omega) y2 y4, c_nearest (by omega) y2 y4, Option.bind_some, Option.bind_some, e3]
      have hG := rueR_G way c V.2.2.2.2 V.2.2.2.2.length V.2.2.2.2.length (Nat.le_refl _)
      have cb : X10_comesBack F 2544 1 = some (0, 0) := rfl
      have fin : ∀ a, (a = if p3 = 0 then (rueR way c V.2.2.2.2 V.2.2.2.2.length).1 else (rueR way c V.2.2.2.2 V.2.2.2.2.length).2) → Tot ((X10_goesThrough F (nI way) (nI c) w 0 went wm t came dp 0 hi ru so).bind fun (w7, o8, e9, m10, t11, c12, s13, h14, r15, q16) => ((X10_comesBack F o8 s13).bind fun (o18, s19) => (if (p3 : Int32) = 0 then (some (r15, (0 : Int32), w7, o18, e9, m10, t11, c12, s19, h14, r15, q16)) else (some (q16, 0, w7, o18, e9, m10, t11, c12, s19, h14, r15, q16))))) (fun z => PostR N D i0 i1 ik a z) := fun a ha => by
        refine tot_b (hrn way c hw hcc) (fun z ⟨z1, z2, z3, ⟨m', z4, z5⟩, z6, z7, z8⟩ => ?_)
        obtain ⟨n1, n2, n3, n4, n5, n6, n7, n8, n9, n10⟩ := z
        dsimp only at z1 z2 z3 z4 z6 z7 z8 ⊢
        subst z3; subst z4; subst z6
        have hinv : Inv (N + 1) D i0 i1 n1 ik (nI m') := hI.paper z2 (by omega)
        rw [← z8] at ha
        rw [cb, Option.bind_some]
        dsimp only
        by_cases q0 : p3 = 0
        · rw [if_pos q0] at ha ⊢; exact tot_s ⟨ha, rfl, rfl, hinv⟩
        · rw [if_neg q0] at ha ⊢; exact tot_s ⟨ha, rfl, rfl, hinv⟩
      rw [← hG]
      by_cases q0 : p3 = 0
      · rw [if_pos q0]; exact tot_s (fin _ (by rw [if_pos q0]))
      · rw [if_neg q0]; exact tot_s (fin _ (by rw [if_neg q0]))
end SReg
