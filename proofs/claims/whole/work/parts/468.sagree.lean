/-! agree, the reference's side -/
section AgreeM
variable {F : Nat} {Q : List Int32}
theorem g1000 {i : Nat} (h : i < 1000) : ¬ ((nI i : Int32) < 0 ∨ 1000 ≤ (nI i).toNatClampNeg) := by simp (disch := omega) only [nI_add, pn_add, pn_addl, pn_mul, pn_cl, pn_nlt0, false_or, pn_ge, pn_le, Nat.add_zero, Nat.zero_add, ↓reduceIte, Option.bind_some, nI_leI, nI_ltI, nI_eq, pn_ne1, pn_1ne]; simp
def Bp (v : Int32) (p : Prop) : Prop := (p ∧ v = 1) ∨ (¬ p ∧ v = 0)
theorem m_lay1 {v1 : Int32} : ∀ (n i : Nat) (a : Nat → Int32), i ≤ 1000 → 1000 - i < n → (∀ q, q < i → a q = 1) → Tot (X10_laysAgreed_L2 F n v1 (nI i) a) (fun y => ∀ q, q < 1000 → y q = 1) := by
  intro n
  induction n with
  | zero => intro i a _ h; omega
  | succ n ih =>
    intro i a hi hn h
    rw [X10_laysAgreed_L2]
    by_cases c1 : 1000 ≤ i
    · rw [if_pos (show (1000 : Int32) ≤ nI i from (nI_leI (a := 1000) (by omega) (by omega)).2 c1)]
      exact tot_s (fun q hq => h q (by omega))
    · rw [if_neg (show ¬ (1000 : Int32) ≤ nI i from fun hx => c1 ((nI_leI (a := 1000) (by omega) (by omega)).1 hx)), if_neg (g1000 (by omega)), kcl (by omega), nI_1, nar_b (Or.inr rfl)]
      refine ih (i + 1) _ (by omega) (by omega) (fun q hq => ?_)
      by_cases cq : q = i
      · subst cq; rw [upd_s]
      · rw [upd_n cq]; exact h q (by omega)
theorem m_lay2 {v1 v2 : Int32} {S : SS} {b : Nat} {w : Nat → Int32} (hF : 2000 ≤ F) (hR : RM S w 2544) (ok : Ok b S) {P : Nat → Prop} : ∀ (n i : Nat) (a : Nat → Int32), i ≤ 1000 → 1000 - i < n → (∀ q, q < 1000 → i ≤ q → Bp (a q) (P q)) → (∀ q, q < i → Bp (a q) (P q ∧ ∃ e ∈ S.1, eK e = nI q)) → Tot (X10_laysAgreed_L37 F n v1 v2 (nI i) w 2544 a) (fun y => ∀ q, q < 1000 → Bp (y q) (P q ∧ ∃ e ∈ S.1, eK e = nI q)) := by
  have hfind := fun k => hR.find ok (show 100 ≤ F by omega) k
  intro n
  induction n with
  | zero => intro i a _ h; omega
  | succ n ih =>
    intro i a hi hn h1 h2
    rw [X10_laysAgreed_L37]
    by_cases c1 : 1000 ≤ i
    · rw [if_pos (show (1000 : Int32) ≤ nI i from (nI_leI (a := 1000) (by omega) (by omega)).2 c1)]
      exact tot_s (fun q hq => h2 q (by omega))
    · have gi : ¬ ((nI i : Int32) < 0 ∨ 1000 ≤ i) := by simp (disch := omega) only [nI_add, pn_add, pn_addl, pn_mul, pn_cl, pn_nlt0, false_or, pn_ge, pn_le, Nat.add_zero, Nat.zero_add, ↓reduceIte, Option.bind_some, nI_leI, nI_ltI, nI_eq, pn_ne1, pn_1ne]; simp
      have next : ∀ v, Bp v (P i ∧ ∃ e ∈ S.1, eK e = nI i) → Tot (X10_laysAgreed_L37 F n v1 v2 (nI (i + 1)) w 2544 (upd a i v)) (fun y => ∀ q, q < 1000 → Bp (y q) (P q ∧ ∃ e ∈ S.1, eK e = nI q)) := fun v hv => by
        refine ih (i + 1) _ (by omega) (by omega) (fun q hq hq2 => by rw [upd_n (by omega)]; exact h1 q hq (by omega)) (fun q hq => ?_)
        by_cases cq : q = i
        · subst cq; rw [upd_s]; exact hv
        · rw [upd_n cq]; exact h2 q (by omega)
      rw [if_neg (show ¬ (1000 : Int32) ≤ nI i from fun hx => c1 ((nI_leI (a := 1000) (by omega) (by omega)).1 hx)), kcl (by omega), if_neg gi, nI_1, if_neg gi, nar_b (Or.inl rfl), nar_b (Or.inr rfl), if_neg gi]
      rcases h1 i (by omega) (by omega) with ⟨cP, hv⟩ | ⟨cP, hv⟩
      · rw [hv, if_neg (show ¬ (1 : Int32) = 0 by decide)]
        obtain ⟨r, hr, L, pL, hE, hix⟩ := hfind (nI i)
        have hl60 := hE.2.1
        rw [show X10_entryOf F (nI i) w 2544 = _ from hr, Option.bind_some]
        rcases hix with ⟨rfl, hf⟩ | ⟨j, hj, rfl, hf⟩
        · rw [if_pos rfl]
          exact next 0 (Or.inr ⟨fun ⟨_, e, he, hk⟩ => fnd_none.1 hf e he hk, rfl⟩)
        · rw [if_neg (show ¬ nI j = -1 by simp (disch := omega) only [nI_add, pn_add, pn_addl, pn_mul, pn_cl, pn_nlt0, false_or, pn_ge, pn_le, Nat.add_zero, Nat.zero_add, ↓reduceIte, Option.bind_some, nI_leI, nI_ltI, nI_eq, pn_ne1, pn_1ne]; simp)]
          obtain ⟨a1, a2⟩ := fnd_some hf
          exact next 1 (Or.inl ⟨⟨cP, _, a1, a2⟩, rfl⟩)
      · rw [hv, if_pos rfl]
        exact next 0 (Or.inr ⟨fun h => cP h.1, rfl⟩)
theorem m_lay3 {c : Nat} (hF : 2000 ≤ F) {w0 : Nat → Int32} (hQ0 : RQm Q w0 0) (hK : ∀ x ∈ Q, 0 ≤ x.toInt ∧ x.toInt < 1000) (hc : c ≤ 60) {dp : Int32} : ∀ (n j : Nat) (w went t a : Nat → Int32) (o wm came sil hi ru so : Int32), j ≤ 5 → 5 - j < n → (∀ q, q < 2544 → w q = w0 q) → (0 < j → ∃ m', wm = nI m' ∧ m' ≤ 100) → (∀ q, q < 1000 → Bp (a q) (inW Q c j (nI q))) →
    Tot (X10_laysAgreed_L24 F n (nI c) (nI j) w o went wm t came dp sil hi ru so a) (fun y => (∀ q, q < 2544 → y.1 q = w0 q) ∧ (∃ m', y.2.2.2.1 = nI m' ∧ m' ≤ 100) ∧ ∀ q, q < 1000 → Bp (y.2.2.2.2.2.2.2.2.2.2 q) (inW Q c 5 (nI q))) := by
  have hl := hQ0.2.1
  intro n
  induction n with
  | zero => intro j w went t a o wm came sil hi ru so _ h; omega
  | succ n ih =>
    intro j w went t a o wm came sil hi ru so hj hn hw hwm ha
    rw [X10_laysAgreed_L24]
    by_cases c1 : 5 ≤ j
    · have : j = 5 := by omega
      subst this
      rw [if_pos (by decide)]
      exact tot_s ⟨hw, hwm (by omega), ha⟩
    · rw [if_neg (show ¬ (5 : Int32) ≤ nI j from fun hx => c1 ((nI_leI (a := 5) (by omega) (by omega)).1 hx))]
      obtain ⟨hJ, _⟩ := JR_run (cls := false) (way := j) (c := c) hl hK hc (by omega) Q.length (Nat.le_refl _)
      refine tot_b (m_run (F := F) (way := j) (c := c) (by omega) (RQm.far0 hQ0 hw) hK hc (by omega)) (fun z ⟨z1, z2, z3, z4, z6, z7, z8⟩ => ?_)
      obtain ⟨n1, n2, n3, n4, n5, n6, n7, n8, n9, n10⟩ := z
      dsimp only at z1 z2 z3 z4 z6 z7 ⊢
      subst z3; subst z6
      have hl2 := m_lay2 (F := F) (v1 := nI c) (v2 := nI j) hF z1 hJ.ok (P := fun q => inW Q c j (nI q)) F 0 a (by omega) (by omega) (fun q hq _ => ha q hq) (fun q hq => by omega)
      refine tot_b hl2 (fun a' ha' => ?_)
      rw [nI_1]
      refine ih (j + 1) n1 n3 n5 a' _ n4 n6 _ n8 n9 n10 (by omega) (by omega) (fun q hq => by rw [z2 q hq, hw q hq]) (fun _ => z4) (fun q hq => ?_)
      have hq2 := ha' q hq
      have : (inW Q c j (nI q) ∧ ∃ e ∈ (runS false j c Q Q.length).1.1, eK e = nI q) ↔ inW Q c (j + 1) (nI q) := by
        constructor
        · rintro ⟨h1, h2⟩ way hw2
          by_cases cw : way = j
          · subst cw; exact h2
          · exact h1 way (by omega)
        · intro h; exact ⟨fun way hw2 => h way (by omega), h j (by omega)⟩
      rw [Bp, this] at hq2; exact hq2
abbrev tAg : Type := Int32 × Int32 × (Nat → Int32) × Int32 × (Nat → Int32) × Int32 × (Nat → Int32) × Int32 × Int32 × Int32 × Int32 × Int32 × (Nat → Int32)
def agA (Sh : List Int32) (p : Int32) : Int32 := if p = -1 then nI Sh.length else if (decide (0 ≤ p) && decide (p ≤ nI Sh.length - 1)) = true then Sh[p.toNatClampNeg]?.getD 0 else -1
theorem m_agL {Sh : List Int32} (hs : SrtI Sh) (h60 : Sh.length ≤ 60) (hr : ∀ x ∈ Sh, 0 ≤ x.toInt ∧ x.toInt < 1000) {a w went t : Nat → Int32} (ha : ∀ q, q < 1000 → (a q = 0 ↔ nI q ∉ Sh)) (p o wm came sil hi ru so : Int32) : ∀ (n i m : Nat), i ≤ 1000 → 1000 - i < n → m ≤ Sh.length → (∀ q (h : q < Sh.length), q < m → (Sh[q]).toInt < i) → (∀ q (h : q < Sh.length), m ≤ q → (i : Int) ≤ (Sh[q]).toInt) → (∀ q, q < m → p ≠ nI q) →
    X10_agree_L34 F n p (nI m) (nI i) 0 w o went wm t came sil hi ru so a = some (agA Sh p, 0, w, o, went, wm, t, came, sil, hi, ru, so, a) := by
  intro n
  induction n with
  | zero => intro i m _ h; omega
  | succ n ih =>
    intro i m hi2 hn hm h1 h2 h3
    rw [X10_agree_L34]
    by_cases c1 : 1000 ≤ i
    · have hmm : m = Sh.length := by
        by_cases hx : m < Sh.length
        · have e1 := h2 m hx (Nat.le_refl _)
          have e2 := (hr Sh[m] (List.getElem_mem hx)).2
          omega
        · omega
      rw [if_pos (show (1000 : Int32) ≤ nI i from (nI_leI (a := 1000) (by omega) (by omega)).2 c1), agA, hmm]
      by_cases cp : p = -1
      · rw [if_pos cp, if_pos cp]
      · rw [if_neg cp, if_neg cp]
        rcases rng_n p (n := Sh.length) (by omega) with ⟨j, hj, rfl, hr2⟩ | ⟨hno, hr2⟩
        · exact absurd rfl (h3 j (by omega))
        · rw [hr2, if_neg (by decide)]
    · rw [if_neg (show ¬ (1000 : Int32) ≤ nI i from fun hx => c1 ((nI_leI (a := 1000) (by omega) (by omega)).1 hx)), if_neg (g1000 (by omega)), kcl (by omega), nI_1, nI_1]
      by_cases c2 : a i = 0
      · have hni := (ha i (by omega)).1 c2
        rw [if_pos c2]
        refine ih (i + 1) m (by omega) (by omega) hm (fun q hq hq2 => by have := h1 q hq hq2; omega) (fun q hq hq2 => ?_) h3
        have := h2 q hq hq2
        have hne : (Sh[q]).toInt ≠ (i : Int) := fun e => hni (by
          have : Sh[q] = nI i := i32_eq.2 (by rw [e, nI_toInt (by omega)])
          rw [← this]; exact List.getElem_mem hq)
        omega
      · have hin : nI i ∈ Sh := Classical.byContradiction (fun hx => c2 ((ha i (by omega)).2 hx))
        obtain ⟨j, hj, hje⟩ := List.getElem_of_mem hin
        have hjm : j = m := by
          have hv : (Sh[j]).toInt = (i : Int) := by rw [hje, nI_toInt (by omega)]
          by_cases d1 : j < m
          · have := h1 j hj d1; omega
          · by_cases d2 : j = m
            · exact d2
            · have e1 := hs.lt (show m < Sh.length by omega) hj (by omega)
              have e2 := h2 m (by omega) (Nat.le_refl _)
              omega
        subst hjm
        rw [if_neg c2]
        by_cases c3 : nI j = p
        · rw [if_pos c3, agA]
          subst c3
          have hne : ¬ nI j = -1 := by simp (disch := omega) only [nI_add, pn_add, pn_addl, pn_mul, pn_cl, pn_nlt0, false_or, pn_ge, pn_le, Nat.add_zero, Nat.zero_add, ↓reduceIte, Option.bind_some, nI_leI, nI_ltI, nI_eq, pn_ne1, pn_1ne]; simp
          rcases rng_n (nI j) (n := Sh.length) (by omega) with ⟨q, hq, e, hr2⟩ | ⟨hno, hr2⟩
          · rw [if_neg hne, hr2, if_pos rfl, kcl (by omega), List.getElem?_eq_getElem hj, Option.getD_some, hje]
          · exact absurd rfl (hno j hj)
        · rw [if_neg c3]
          refine ih (i + 1) (j + 1) (by omega) (by omega) (by omega) (fun q hq hq2 => ?_) (fun q hq hq2 => ?_) (fun q hq => ?_)
          · by_cases cq : q = j
            · subst cq; rw [hje, nI_toInt (by omega)]; omega
            · have := h1 q hq (by omega); omega
          · have := hs.lt hj hq (by omega)
            rw [hje, nI_toInt (by omega)] at this; omega
          · by_cases cq : q = j
            · subst cq; exact fun e => c3 e.symm
            · exact h3 q (by omega)
end AgreeM
section SAgree
variable {F N : Nat} {D : tWi} {i0 i1 : Option tWi} {w ik went t : Nat → Int32} {wm th came dp hi ru so : Int32} {x0 : tX0} {x6 : tX6} {x1 : tX1} {xy xz : tX2} {xq : tX7} {ia : Nat → Int32}
theorem S_agree (hF : 2000 ≤ F) (hI : Inv N D i0 i1 w ik wm) (p1 p2 : Int32) :
    Tot (X9_agree F p1 p2 D.2.2.2.2.2.2.2 x0 x6 x1 xy xz xq) (fun y => Tot (X10_agree F p1 p2 th w 0 went wm t came dp 0 hi ru so ia) (fun z => y.1 = z.1 ∧ z.2.2.2.1 = 0 ∧ z.2.2.2.2.2.2.2.2.1 = 0 ∧ Inv (N + 1) D i0 i1 z.2.2.1 ik z.2.2.2.2.2.1)) := by
  obtain ⟨⟨V, hc, hm, ok⟩, _, _, _⟩ := id hI
  have hrd := c_read (F := F) (x0 := x0) (by omega) hc.2.2.2.1
  have hQl := hm.2.2.2.2.1
  have hK := ok.2.2.2.1
  have hmQ := hm.2.2.2
  generalize D.2.2.2.2.2.2.2 = x5 at *
  have em : (-1 : Int32).toInt = -1 := by decide
  have e0 : (0 : Int32).toInt = 0 := by decide
  obtain ⟨K, nx, f, g, s, zz, hh, hs⟩ := x0
  obtain ⟨rk, rs⟩ := x5
  obtain ⟨hap, got, cap, wy, bal, wbt⟩ := x6
  obtain ⟨kK, kV, kW, kC, kL, kT, kP, sz, ld, pl, us, ag, hv⟩ := x1
  obtain ⟨yk, ys⟩ := xy
  obtain ⟨zk, zs⟩ := xz
  obtain ⟨qa, qb, qc, qd, qe, qs, ql, qp⟩ := xq
  rw [X9_agree, isPaperCap_eq, Option.bind_some, X10_agree, isIn60, Option.bind_some]
  cases h1 : cB p1 with
  | false =>
    rw [if_pos (show bi false = 0 from rfl), if_pos (show bi false = 0 from rfl)]
    exact tot_s (tot_s ⟨rfl, rfl, rfl, hI.same⟩)
  | true =>
    rw [if_neg (show ¬ bi true = 0 by decide), if_neg (show ¬ bi true = 0 by decide)]
    obtain ⟨c, hcc, rfl⟩ := cB_n h1
    refine tot_b hrd (fun y hy => ?_)
    have hsh := c_share (F := F) (c := c) (x6 := (hap, got, cap, wy, bal, wbt)) (x1 := (kK, kV, kW, kC, kL, kT, kP, sz, ld, pl, us, ag, hv)) (xy := (yk, ys)) (xz := (zk, zs)) (xq := (qa, qb, qc, qd, qe, qs, ql, qp)) (by omega) hQl hK hcc hy
    obtain ⟨K, nx, f, g, s, zz, hh, hs⟩ := y
    dsimp only
    refine tot_b hsh (fun z ⟨Sh, b1, b2, b3⟩ => ?_)
    obtain ⟨⟨K, nx, f, g, s', zz, hh, ss'⟩, ⟨i1', i2, i3, i4, i5, i6⟩, ⟨i7, i8, i9, i10, i11, i12, i13, i14, i15, i16, i17, i18, i19⟩, ⟨i20, i21⟩, ⟨i22, i23⟩, ⟨i24, i25, i26, i27, i28, i29, i30, i31⟩⟩ := z
    dsimp only at b1 ⊢
    obtain ⟨rfl, h60, h4⟩ := b1
    -- the class's answer
    have hcl : ∀ {α : Type} (R : α), (if p2 = -1 then some (nI Sh.length, R) else (X9_within F p2 0 (nI Sh.length - 1)).bind fun r52 => if r52 = 0 then some (-1, R) else if p2 < 0 ∨ 60 ≤ p2.toNatClampNeg then none else some (s' p2.toNatClampNeg, R)) = some (agA Sh p2, R) := fun {α} R => by
      rw [agA]
      by_cases cp : p2 = -1
      · rw [if_pos cp, if_pos cp]
      · rw [if_neg cp, if_neg cp, within_eq, Option.bind_some]
        rcases rng_n p2 (n := Sh.length) (by omega) with ⟨j, hj, rfl, hr2⟩ | ⟨hno, hr2⟩
        · have gj : ¬ ((nI j : Int32) < 0 ∨ 60 ≤ (nI j).toNatClampNeg) := by simp (disch := omega) only [nI_add, pn_add, pn_addl, pn_mul, pn_cl, pn_nlt0, false_or, pn_ge, pn_le, Nat.add_zero, Nat.zero_add, ↓reduceIte, Option.bind_some, nI_leI, nI_ltI, nI_eq, pn_ne1, pn_1ne]; simp
          rw [hr2, if_neg (show ¬ bi true = 0 by decide), if_pos rfl, if_neg gj, kcl (by omega), List.getElem?_eq_getElem hj, Option.getD_some, h4 j hj]
        · rw [hr2, if_pos (show bi false = 0 from rfl), if_neg (by decide)]
    rw [hcl]
    refine tot_s ?_
    by_cases cp : (-1 : Int32) ≤ p2
    · rw [if_pos cp]
      have hr : ∀ x ∈ Sh, 0 ≤ x.toInt ∧ x.toInt < 1000 := fun x hx => by
        obtain ⟨e, he, hk⟩ := (b3 x).1 hx 0 (by omega)
        obtain ⟨hJ, _⟩ := JR_run (cls := false) (way := 0) (c := c) hQl hK hcc (by omega) V.2.2.2.2.length (Nat.le_refl _)
        have := hJ.ok.1.2.2.2 e he
        rw [← hk]; exact ⟨this.1, this.2.1⟩
      have hla : Tot (X10_laysAgreed F (nI c) w 0 went wm t came dp 0 hi ru so ia) (fun y => (∀ q, q < 2544 → y.1 q = w q) ∧ y.2.1 = 0 ∧ (∃ m', y.2.2.2.1 = nI m' ∧ m' ≤ 100) ∧ y.2.2.2.2.2.2.1 = 0 ∧ ∀ q, q < 1000 → Bp (y.2.2.2.2.2.2.2.2.2.2 q) (inW V.2.2.2.2 c 5 (nI q))) := by
        rw [X10_laysAgreed]
        refine tot_b (m_lay1 (F := F) (v1 := nI c) F 0 ia (by omega) (by omega) (fun q hq => by omega)) (fun a1 ha1 => ?_)
        refine tot_b (m_lay3 (F := F) (c := c) (dp := dp) hF hmQ hK hcc F 0 w went t a1 0 wm came 0 hi ru so (by omega) (by omega) (fun _ _ => rfl) (fun h => by omega) (fun q hq => ?_)) (fun y ⟨y1, y2, y3⟩ => ?_)
        · exact Or.inl ⟨fun way hw => by omega, ha1 q hq⟩
        · obtain ⟨n1, n2, n3, n4, n5, n6, n7, n8, n9, n10, n11⟩ := y
          dsimp only
          rw [show X10_comesBack F n2 n7 = some (0, 0) from rfl, Option.bind_some]
          exact tot_s ⟨y1, rfl, y2, rfl, y3⟩
      refine tot_b hla (fun y ⟨y1, y2, ⟨m', y3, y3'⟩, y4, y5⟩ => ?_)
      obtain ⟨n1, n2, n3, n4, n5, n6, n7, n8, n9, n10, n11⟩ := y
      dsimp only at y1 y2 y3 y4 y5 ⊢
      subst y2; subst y3; subst y4
      have hag := m_agL (F := F) (w := n1) (went := n3) (t := n5) b2 h60 hr (a := n11) (fun q hq => by
        rw [b3 (nI q)]
        rcases y5 q hq with ⟨hx, hv⟩ | ⟨hx, hv⟩
        · rw [hv]; exact ⟨fun h => absurd h (by decide), fun h => absurd hx h⟩
        · rw [hv]; exact ⟨fun _ => hx, fun _ => rfl⟩) p2 0 (nI m') n6 0 n8 n9 n10 F 0 0 (by omega) (by omega) (by omega) (fun q _ hq => by omega) (fun q hq _ => by have := (hr Sh[q] (List.getElem_mem hq)).1; omega) (fun q hq => by omega)
      rw [show X10_agree_L34 F F p2 0 0 0 n1 0 n3 (nI m') n5 n6 0 n8 n9 n10 n11 = _ from hag]
      exact tot_s ⟨rfl, rfl, rfl, hI.paper y1 (by omega)⟩
    · rw [if_neg cp]
      have n1 : ¬ p2 = -1 := fun hx => cp (by rw [hx]; exact Int32.le_refl _)
      have n2 : ¬ (0 : Int32) ≤ p2 := fun hx => by rw [i32_le] at hx cp; omega
      have : agA Sh p2 = -1 := by rw [agA, if_neg n1, decide_eq_false n2, Bool.false_and, if_neg (by decide)]
      rw [this]
      exact tot_s ⟨rfl, rfl, rfl, hI.same⟩
end SAgree
