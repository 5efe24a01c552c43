/-! least, best -/
section Least
variable {F : Nat} {Q : List Int32} {way : Nat}
theorem hits_cF (hQ : Q.length ≤ 100) (hK : ∀ x ∈ Q, 0 ≤ x.toInt ∧ x.toInt < 1000) {c : Nat} (hc : c ≤ 60) (hway : way ≤ 5) {cls : Bool} : ∀ k, k ≤ Q.length → (runS cls way c Q k).2.1 + cF (Q.take k) ≤ k
  | 0, _ => by simp [runS, cF]
  | k + 1, h => by
    have ih := hits_cF hQ hK hc hway (cls := cls) k (by omega)
    obtain ⟨hJ, _⟩ := JR_run (cls := cls) (way := way) hQ hK hc hway k (by omega)
    have hkl : k < Q.length := by omega
    have hky : kyQ Q k = Q[k] := kyQ_at (List.getElem?_eq_getElem hkl)
    have ht : cF (Q.take (k + 1)) = cF (Q.take k) + if Q[k] ∈ Q.take k then 0 else 1 := by
      rw [← List.take_append_getElem hkl, cF_snoc]
    simp only [runS]
    rw [ht, hky]
    cases hf : fnd Q[k] (runS cls way c Q k).1.1 with
    | none =>
      simp only [Option.isSome_none]
      rw [if_neg (by decide)]
      split <;> omega
    | some e =>
      obtain ⟨hm, hke⟩ := fnd_some hf
      obtain ⟨j, j1, j2, j3, j4⟩ := hJ.la e hm
      have : Q[k] ∈ Q.take k := by
        rw [hke] at j3
        exact List.mem_iff_getElem?.2 ⟨j, by rw [List.getElem?_take, if_pos j1]; exact j3⟩
      simp only [Option.isSome_some]
      rw [if_pos trivial, if_pos this]; omega
theorem m_hitsOf (hF : 1000 ≤ F) {w0 w : Nat → Int32} (hQ0 : RQm Q w0 0) (hw : ∀ q, q < 2544 → w q = w0 q) (hK : ∀ x ∈ Q, 0 ≤ x.toInt ∧ x.toInt < 1000) {c : Nat} (hc : c ≤ 60) (hway : way ≤ 5) {dp o wm came sil hi ru so : Int32} {went t : Nat → Int32} :
    Tot (X10_hitsOf F (nI way) (nI c) w o went wm t came dp sil hi ru so) (fun y => y.1 = nI (runS false way c Q Q.length).2.1 ∧ (∀ q, q < 2544 → y.2.1 q = w0 q) ∧ y.2.2.1 = 0 ∧ (∃ m', y.2.2.2.2.1 = nI m' ∧ m' ≤ 100) ∧ y.2.2.2.2.2.2.2.1 = 0) := by
  rw [X10_hitsOf]
  refine tot_b (m_run (F := F) hF (RQm.far0 hQ0 hw) hK hc hway) (fun z ⟨z1, z2, z3, z4, z6, z7, z8⟩ => ?_)
  obtain ⟨n1, n2, n3, n4, n5, n6, n7, n8, n9, n10⟩ := z
  dsimp only at z1 z2 z3 z4 z6 z7 ⊢
  subst z3; subst z6
  rw [show X10_comesBack F 2544 1 = some (0, 0) from rfl, Option.bind_some]
  exact tot_s ⟨z7, fun q hq => (z2 q hq).trans (hw q hq), rfl, z4, rfl⟩
def lsS (way : Nat) (p : Int32) (Q : List Int32) : Nat → Nat → Int32
  | 0, _ => -1
  | f + 1, i => if nI (runS false way i Q Q.length).2.1 < p then lsS way p Q f (i + 1) else nI i
theorem lsS_none {p : Int32} (hQ : Q.length ≤ 100) (hK : ∀ x ∈ Q, 0 ≤ x.toInt ∧ x.toInt < 1000) (hway : way ≤ 5) (hp : ¬ p ≤ nI Q.length - nI (cF Q)) : ∀ (f i : Nat), i + f ≤ 61 → lsS way p Q f i = -1
  | 0, i, _ => rfl
  | f + 1, i, h => by
    have h1 := hits_cF (cls := false) hQ hK (c := i) (by omega) hway Q.length (Nat.le_refl _)
    rw [List.take_length] at h1
    have h2 := cF_le Q
    have hlt : nI (runS false way i Q Q.length).2.1 < p := by
      rw [nI_sub h2 (by omega), i32_le, nI_toInt (by omega)] at hp
      rw [i32_lt, nI_toInt (by omega)]; omega
    rw [lsS, if_pos hlt]; exact lsS_none hQ hK hway hp f (i + 1) (by omega)
theorem c_leastL (hF : 200 ≤ F) (hQ : Q.length ≤ 100) (hK : ∀ x ∈ Q, 0 ≤ x.toInt ∧ x.toInt < 1000) (hway : way ≤ 5) (p : Int32) : ∀ (n i : Nat) (x0 : tX0) (x6 : tX6) (x1 : tX1) (xy xz : tX2) (xq : tX7), i ≤ 61 → 61 - i < n → RA Q x0 → Tot (X0_leastCap_L17 F n (nI way) p (nI i) x0 x6 x1 xy xz xq) (fun y => y.1 = lsS way p Q (61 - i) i) := by
  intro n
  induction n with
  | zero => intro i x0 x6 x1 xy xz xq _ h; omega
  | succ n ih =>
    intro i x0 x6 x1 xy xz xq hi hn hA
    have hrun := fun (h : i ≤ 60) => c_run (F := F) (way := way) (c := i) (x6 := x6) (x1 := x1) (xy := xy) (xz := xz) (xq := xq) hF hK h hway hA
    obtain ⟨K, nx, f, g, s, zz, hh, hs⟩ := x0
    obtain ⟨hap, got, cap, wy, bal, wbt⟩ := x6
    obtain ⟨kK, kV, kW, kC, kL, kT, kP, sz, ld, pl, us, ag, hv⟩ := x1
    obtain ⟨yk, ys⟩ := xy
    obtain ⟨zk, zs⟩ := xz
    obtain ⟨qa, qb, qc, qd, qe, qs, ql, qp⟩ := xq
    rw [X0_leastCap_L17]
    by_cases c1 : 60 < i
    · rw [if_pos (show (60 : Int32) < nI i from (nI_ltI (a := 60) (by omega) (by omega)).2 c1), show 61 - i = 0 by omega]
      exact tot_s rfl
    · have hst : 61 - i = (61 - (i + 1)) + 1 := by omega
      rw [if_neg (show ¬ (60 : Int32) < nI i from fun hx => c1 ((nI_ltI (a := 60) (by omega) (by omega)).1 hx)), hst, lsS]
      obtain ⟨e1, e2, e3⟩ := run_eq (way := way) (c := i) hQ hK (by omega) hway Q.length (Nat.le_refl _)
      refine tot_b (hrun (by omega)) (fun z ⟨z1, z2, _, _, z5, z6⟩ => ?_)
      obtain ⟨⟨K, nx, f, g, s, zz, hh, hs⟩, ⟨i1, i2, i3, i4, i5, i6⟩, ⟨i7, i8, i9, i10, i11, i12, i13, i14, i15, i16, i17, i18, i19⟩, ⟨i20, i21⟩, ⟨i22, i23⟩, ⟨i24, i25, i26, i27, i28, i29, i30, i31⟩⟩ := z
      dsimp only at z2 z5 ⊢
      rw [z5, e3, nI_1]
      by_cases c2 : nI (runS false way i Q Q.length).2.1 < p
      · rw [if_pos c2, if_pos c2]
        exact ih (i + 1) _ _ _ _ _ _ (by omega) (by omega) (by rw [← e3, ← z5]; exact z2)
      · rw [if_neg c2, if_neg c2]; exact tot_s rfl
def bsS (c : Nat) (Q : List Int32) : Nat → Nat → Int32 → Int32 → Int32 × Int32
  | 0, _, a, b => (a, b)
  | f + 1, i, a, b => if nI (runS false i c Q Q.length).2.1 ≤ b then bsS c Q f (i + 1) a b else bsS c Q f (i + 1) (nI i) (nI (runS false i c Q Q.length).2.1)
theorem c_bestL (hF : 200 ≤ F) (hQ : Q.length ≤ 100) (hK : ∀ x ∈ Q, 0 ≤ x.toInt ∧ x.toInt < 1000) {c : Nat} (hc : c ≤ 60) (p2 : Int32) : ∀ (n i : Nat) (a b : Int32) (x0 : tX0) (x6 : tX6) (x1 : tX1) (xy xz : tX2) (xq : tX7), i ≤ 5 → 5 - i < n → RA Q x0 → Tot (X9_best_L40 F n (nI c) p2 a b (nI i) x0 x6 x1 xy xz xq) (fun y => y.1 = (bsS c Q (5 - i) i a b).1 ∧ y.2.1 = (bsS c Q (5 - i) i a b).2 ∧ RA Q y.2.2.1) := by
  intro n
  induction n with
  | zero => intro i a b x0 x6 x1 xy xz xq _ h; omega
  | succ n ih =>
    intro i a b x0 x6 x1 xy xz xq hi hn hA
    have hrun := fun (h : i ≤ 5) => c_run (F := F) (way := i) (c := c) (x6 := x6) (x1 := x1) (xy := xy) (xz := xz) (xq := xq) hF hK hc h hA
    obtain ⟨K, nx, f, g, s, zz, hh, hs⟩ := x0
    obtain ⟨hap, got, cap, wy, bal, wbt⟩ := x6
    obtain ⟨kK, kV, kW, kC, kL, kT, kP, sz, ld, pl, us, ag, hv⟩ := x1
    obtain ⟨yk, ys⟩ := xy
    obtain ⟨zk, zs⟩ := xz
    obtain ⟨qa, qb, qc, qd, qe, qs, ql, qp⟩ := xq
    rw [X9_best_L40]
    by_cases c1 : 4 < i
    · rw [if_pos (show (4 : Int32) < nI i from (nI_ltI (a := 4) (by omega) (by omega)).2 c1), show 5 - i = 0 by omega]
      exact tot_s ⟨rfl, rfl, hA⟩
    · have hst : 5 - i = (5 - (i + 1)) + 1 := by omega
      rw [if_neg (show ¬ (4 : Int32) < nI i from fun hx => c1 ((nI_ltI (a := 4) (by omega) (by omega)).1 hx)), hst, bsS]
      obtain ⟨e1, e2, e3⟩ := run_eq (way := i) (c := c) hQ hK hc (by omega) Q.length (Nat.le_refl _)
      refine tot_b (hrun (by omega)) (fun z ⟨z1, z2, _, _, z5, z6⟩ => ?_)
      obtain ⟨⟨K, nx, f, g, s, zz, hh, hs⟩, ⟨i1, i2, i3, i4, i5, i6⟩, ⟨i7, i8, i9, i10, i11, i12, i13, i14, i15, i16, i17, i18, i19⟩, ⟨i20, i21⟩, ⟨i22, i23⟩, ⟨i24, i25, i26, i27, i28, i29, i30, i31⟩⟩ := z
      dsimp only at z2 z5 ⊢
      rw [e3] at z5
      subst z5
      rw [nI_1]
      by_cases c2 : nI (runS false i c Q Q.length).2.1 ≤ b
      · rw [if_pos c2, if_pos c2]
        exact ih (i + 1) _ _ _ _ _ _ _ _ (by omega) (by omega) z2
      · rw [if_neg c2, if_neg c2]
        exact ih (i + 1) _ _ _ _ _ _ _ _ (by omega) (by omega) z2
end Least
section SLeast
variable {F N : Nat} {D : tWi} {i0 i1 : Option tWi} {w ik went t : Nat → Int32} {wm th came dp hi ru so : Int32} {x0 : tX0} {x6 : tX6} {x1 : tX1} {xy xz : tX2} {xq : tX7}
theorem m_leastL {Q : List Int32} {way : Nat} (hF : 1000 ≤ F) {w : Nat → Int32} (hQ0 : RQm Q w 0) (hK : ∀ x ∈ Q, 0 ≤ x.toInt ∧ x.toInt < 1000) (hway : way ≤ 5) (p : Int32) (hP : ∀ (w' : Nat → Int32) (m' : Nat), (∀ q, q < 2544 → w' q = w q) → m' ≤ 100 → Inv (N + 1) D i0 i1 w' ik (nI m')) : ∀ (n i : Nat) (w' went t : Nat → Int32) (wm came hi ru so : Int32), i ≤ 61 → 61 - i < n → (∀ q, q < 2544 → w' q = w q) → Inv (N + 1) D i0 i1 w' ik wm →
    Tot (X10_least_L20 F n (nI way) p (nI i) 0 w' 0 went wm t came dp 0 hi ru so) (fun z => PostR N D i0 i1 ik (lsS way p Q (61 - i) i) z) := by
  intro n
  induction n with
  | zero => intro i w' went t wm came hi ru so _ h; omega
  | succ n ih =>
    intro i w' went t wm came hi ru so hi2 hn hw hI
    rw [X10_least_L20]
    by_cases c1 : 60 < i
    · rw [if_pos (show (60 : Int32) < nI i from (nI_ltI (a := 60) (by omega) (by omega)).2 c1), show 61 - i = 0 by omega]
      exact tot_s ⟨rfl, rfl, rfl, hI⟩
    · have hst : 61 - i = (61 - (i + 1)) + 1 := by omega
      rw [if_neg (show ¬ (60 : Int32) < nI i from fun hx => c1 ((nI_ltI (a := 60) (by omega) (by omega)).1 hx)), hst, lsS]
      refine tot_b (m_hitsOf (F := F) (way := way) (c := i) hF hQ0 hw hK (by omega) hway) (fun z ⟨z1, z2, z3, ⟨m', z4, z5⟩, z6⟩ => ?_)
      obtain ⟨n1, n2, n3, n4, n5, n6, n7, n8, n9, n10, n11⟩ := z
      dsimp only at z1 z2 z3 z4 z6 ⊢
      subst z1; subst z3; subst z4; subst z6
      have hI' := hP n2 m' z2 z5
      rw [nI_1]
      by_cases c2 : nI (runS false way i Q Q.length).2.1 < p
      · rw [if_pos c2, if_pos c2]
        exact ih (i + 1) n2 n4 n6 _ n7 n9 n10 n11 (by omega) (by omega) z2 hI'
      · rw [if_neg c2, if_neg c2]; exact tot_s ⟨rfl, rfl, rfl, hI'⟩
theorem S_least (hF : 1000 ≤ F) (hI : Inv N D i0 i1 w ik wm) (p1 p2 : Int32) :
    Tot (X9_least F p1 p2 D.2.2.2.2.2.2.2 x0 x6 x1 xy xz xq) (fun y => Tot (X10_least F p1 p2 th w 0 went wm t came dp 0 hi ru so) (fun z => PostR N D i0 i1 ik y.1 z)) := by
  obtain ⟨⟨V, hc, hm, ok⟩, _, _, _⟩ := id hI
  have hrd := c_read (F := F) (x0 := x0) (by omega) hc.2.2.2.1
  have hQl := hm.2.2.2.2.1
  have hK := ok.2.2.2.1
  have hmQ := hm.2.2.2
  generalize D.2.2.2.2.2.2.2 = x5 at *
  obtain ⟨K, nx, f, g, s, zz, hh, hs⟩ := x0
  obtain ⟨rk, rs⟩ := x5
  obtain ⟨hap, got, cap, wy, bal, wbt⟩ := x6
  obtain ⟨kK, kV, kW, kC, kL, kT, kP, sz, ld, pl, us, ag, hv⟩ := x1
  obtain ⟨yk, ys⟩ := xy
  obtain ⟨zk, zs⟩ := xz
  obtain ⟨qa, qb, qc, qd, qe, qs, ql, qp⟩ := xq
  rw [X9_least, isPaperWay_eq, Option.bind_some, X10_least, isWay_eq, Option.bind_some]
  cases h1 : wB p1 with
  | false =>
    rw [if_pos (show bi false = 0 from rfl), if_pos (show bi false = 0 from rfl)]
    exact tot_s (tot_s ⟨rfl, rfl, rfl, hI.same⟩)
  | true =>
    rw [if_neg (show ¬ bi true = 0 by decide), if_neg (show ¬ bi true = 0 by decide)]
    by_cases c0 : (0 : Int32) ≤ p2
    · rw [if_pos c0, if_pos c0]
      obtain ⟨way, hw, rfl⟩ := wB_n h1
      have hml := m_leastL (F := F) (dp := dp) (D := D) (i0 := i0) (i1 := i1) (ik := ik) (N := N) hF hmQ hK hw p2 (fun w' m' h1 h2 => hI.paper h1 (by omega)) F 0 w went t wm came hi ru so (by omega) (by omega) (fun _ _ => rfl) hI.same
      refine tot_b hrd (fun y hy => ?_)
      have hun := c_unlikeA (F := F) (by omega) hy
      have hll := fun (x6 : tX6) (x1 : tX1) (xy xz : tX2) (xq : tX7) => c_leastL (F := F) (by omega) hQl hK hw p2 F 0 y x6 x1 xy xz xq (by omega) (by omega) hy
      have hzz : y.2.2.2.2.2.1 = nI V.2.2.2.2.length := by
        obtain ⟨K, nx, f, g, s, zz, hh, hs⟩ := y
        exact hy.1
      obtain ⟨K, nx, f, g, s, zz, hh, hs⟩ := y
      dsimp only at hzz ⊢
      subst hzz
      rw [X0_leastCap, hun, Option.bind_some]
      by_cases c1 : p2 ≤ nI V.2.2.2.2.length - nI (cF V.2.2.2.2)
      · rw [if_pos c1]
        refine tot_b (hll _ _ _ _ _) (fun z hz => ?_)
        obtain ⟨r, ⟨K, nx, f, g, s, zz, hh, hs⟩, ⟨i1, i2, i3, i4, i5, i6⟩, ⟨i7, i8, i9, i10, i11, i12, i13, i14, i15, i16, i17, i18, i19⟩, ⟨i20, i21⟩, ⟨i22, i23⟩, ⟨i24, i25, i26, i27, i28, i29, i30, i31⟩⟩ := z
        dsimp only at hz ⊢
        refine tot_s ?_
        rw [hz]; exact hml
      · rw [if_neg c1, Option.bind_some]
        refine tot_s ?_
        rw [lsS_none hQl hK hw c1 (61 - 0) 0 (by omega)] at hml
        exact hml
    · rw [if_neg c0, if_neg c0]
      exact tot_s (tot_s ⟨rfl, rfl, rfl, hI.same⟩)
theorem m_bestL {Q : List Int32} {c : Nat} (hF : 1000 ≤ F) {w : Nat → Int32} (hQ0 : RQm Q w 0) (hK : ∀ x ∈ Q, 0 ≤ x.toInt ∧ x.toInt < 1000) (hc : c ≤ 60) (p2 : Int32) (hP : ∀ (w' : Nat → Int32) (m' : Nat), (∀ q, q < 2544 → w' q = w q) → m' ≤ 100 → Inv (N + 1) D i0 i1 w' ik (nI m')) : ∀ (n i : Nat) (a b : Int32) (w' went t : Nat → Int32) (wm came hi ru so : Int32), i ≤ 5 → 5 - i < n → (∀ q, q < 2544 → w' q = w q) → Inv (N + 1) D i0 i1 w' ik wm →
    Tot (X10_best_L37 F n (nI c) p2 a b (nI i) w' 0 went wm t came dp 0 hi ru so) (fun z => z.1 = (bsS c Q (5 - i) i a b).1 ∧ z.2.1 = (bsS c Q (5 - i) i a b).2 ∧ (∀ q, q < 2544 → z.2.2.1 q = w q) ∧ z.2.2.2.1 = 0 ∧ z.2.2.2.2.2.2.2.2.1 = 0 ∧ Inv (N + 1) D i0 i1 z.2.2.1 ik z.2.2.2.2.2.1) := by
  intro n
  induction n with
  | zero => intro i a b w' went t wm came hi ru so _ h; omega
  | succ n ih =>
    intro i a b w' went t wm came hi ru so hi2 hn hw hI
    rw [X10_best_L37]
    by_cases c1 : 5 ≤ i
    · rw [if_pos (show (5 : Int32) ≤ nI i from (nI_leI (a := 5) (by omega) (by omega)).2 c1), show 5 - i = 0 by omega]
      exact tot_s ⟨rfl, rfl, hw, rfl, rfl, hI⟩
    · have hst : 5 - i = (5 - (i + 1)) + 1 := by omega
      rw [if_neg (show ¬ (5 : Int32) ≤ nI i from fun hx => c1 ((nI_leI (a := 5) (by omega) (by omega)).1 hx)), hst, bsS]
      refine tot_b (m_hitsOf (F := F) (way := i) (c := c) hF hQ0 hw hK hc (by omega)) (fun z ⟨z1, z2, z3, ⟨m', z4, z5⟩, z6⟩ => ?_)
      obtain ⟨n1, n2, n3, n4, n5, n6, n7, n8, n9, n10, n11⟩ := z
      dsimp only at z1 z2 z3 z4 z6 ⊢
      subst z1; subst z3; subst z4; subst z6
      have hI' := hP n2 m' z2 z5
      rw [nI_1]
      by_cases c2 : nI (runS false i c Q Q.length).2.1 ≤ b
      · rw [if_neg (show ¬ b < nI (runS false i c Q Q.length).2.1 by rw [Int32.not_lt]; exact c2), if_pos c2]
        exact ih (i + 1) _ _ n2 n4 n6 _ n7 n9 n10 n11 (by omega) (by omega) z2 hI'
      · rw [if_pos (show b < nI (runS false i c Q Q.length).2.1 by rw [← Int32.not_le]; exact c2), if_neg c2]
        exact ih (i + 1) _ _ n2 n4 n6 _ n7 n9 n10 n11 (by omega) (by omega) z2 hI'
theorem S_best (hF : 1000 ≤ F) (hI : Inv N D i0 i1 w ik wm) (p1 p2 : Int32) :
    Tot (X9_best F p1 p2 D.2.2.2.2.2.2.2 x0 x6 x1 xy xz xq) (fun y => Tot (X10_best F p1 p2 th w 0 went wm t came dp 0 hi ru so) (fun z => PostR N D i0 i1 ik y.1 z)) := by
  obtain ⟨⟨V, hc, hm, ok⟩, _, _, _⟩ := id hI
  have hrd := c_read (F := F) (x0 := x0) (by omega) hc.2.2.2.1
  have hQl := hm.2.2.2.2.1
  have hK := ok.2.2.2.1
  have hmQ := hm.2.2.2
  generalize D.2.2.2.2.2.2.2 = x5 at *
  obtain ⟨K, nx, f, g, s, zz, hh, hs⟩ := x0
  obtain ⟨rk, rs⟩ := x5
  obtain ⟨hap, got, cap, wy, bal, wbt⟩ := x6
  obtain ⟨kK, kV, kW, kC, kL, kT, kP, sz, ld, pl, us, ag, hv⟩ := x1
  obtain ⟨yk, ys⟩ := xy
  obtain ⟨zk, zs⟩ := xz
  obtain ⟨qa, qb, qc, qd, qe, qs, ql, qp⟩ := xq
  rw [X9_best, isPaperCap_eq, Option.bind_some, X10_best, isIn60, Option.bind_some]
  cases h1 : cB p1 with
  | false =>
    rw [if_pos (show bi false = 0 from rfl), if_pos (show bi false = 0 from rfl)]
    exact tot_s (tot_s ⟨rfl, rfl, rfl, hI.same⟩)
  | true =>
    rw [if_neg (show ¬ bi true = 0 by decide), if_neg (show ¬ bi true = 0 by decide), within_eq, Option.bind_some, show X10_isIn F p2.toInt64 0 1 = _ from isIn_eq (F := F) p2 0 1, Option.bind_some]
    cases h2 : (decide (0 ≤ p2) && decide (p2 ≤ 1)) with
    | false =>
      rw [if_pos (show bi false = 0 from rfl), if_pos (show bi false = 0 from rfl)]
      exact tot_s (tot_s ⟨rfl, rfl, rfl, hI.same⟩)
    | true =>
      rw [if_neg (show ¬ bi true = 0 by decide), if_neg (show ¬ bi true = 0 by decide)]
      obtain ⟨c, hcc, rfl⟩ := cB_n h1
      have hml := m_bestL (F := F) (dp := dp) (D := D) (i0 := i0) (i1 := i1) (ik := ik) (N := N) hF hmQ hK hcc p2 (fun w' m' h1 h2 => hI.paper h1 (by omega)) F 0 0 (-1) w went t wm came hi ru so (by omega) (by omega) (fun _ _ => rfl) hI.same
      refine tot_b hrd (fun y hy => ?_)
      have hll := fun (x6 : tX6) (x1 : tX1) (xy xz : tX2) (xq : tX7) => c_bestL (F := F) (by omega) hQl hK hcc p2 F 0 0 (-1) y x6 x1 xy xz xq (by omega) (by omega) hy
      obtain ⟨K, nx, f, g, s, zz, hh, hs⟩ := y
      dsimp only
      refine tot_b (hll _ _ _ _ _) (fun z ⟨z1, z2, z3⟩ => ?_)
      obtain ⟨r1, r2, y0, y6, y1, yy, yz, yq⟩ := z
      have hr5 := c_run (F := F) (way := 5) (c := c) (x6 := y6) (x1 := y1) (xy := yy) (xz := yz) (xq := yq) (by omega) hK hcc (by omega) z3
      obtain ⟨K, nx, f, g, s, zz, hh, hs⟩ := y0
      obtain ⟨j1, j2, j3, j4, j5, j6⟩ := y6
      obtain ⟨j7, j8, j9, j10, j11, j12, j13, j14, j15, j16, j17, j18, j19⟩ := y1
      obtain ⟨j20, j21⟩ := yy
      obtain ⟨j22, j23⟩ := yz
      obtain ⟨j24, j25, j26, j27, j28, j29, j30, j31⟩ := yq
      dsimp only at z1 z2 hr5 ⊢
      subst z1; subst z2
      obtain ⟨e1, e2, e3⟩ := run_eq (way := 5) (c := c) hQl hK hcc (by omega) V.2.2.2.2.length (Nat.le_refl _)
      by_cases q0 : p2 = 0
      · rw [if_pos q0]
        refine tot_s (tot_b hml (fun z ⟨m1, m2, m3, m4, m5, m6⟩ => ?_))
        obtain ⟨n1, n2, n3, n4, n5, n6, n7, n8, n9, n10, n11, n12⟩ := z
        dsimp only at m1 m2 m3 m4 m5 m6 ⊢
        rw [if_pos q0]
        exact tot_s ⟨m1.symm, m4, m5, m6⟩
      · rw [if_neg q0]
        refine tot_b (show Tot (X0_run F 5 (nI c) (K, nx, f, g, s, zz, hh, hs) (j1, j2, j3, j4, j5, j6) (j7, j8, j9, j10, j11, j12, j13, j14, j15, j16, j17, j18, j19) (j20, j21) (j22, j23) (j24, j25, j26, j27, j28, j29, j30, j31)) _ from hr5) (fun z ⟨_, _, _, _, z5, _⟩ => ?_)
        obtain ⟨⟨K, nx, f, g, s, zz, hh, hs⟩, ⟨i1, i2, i3, i4, i5, i6⟩, ⟨i7, i8, i9, i10, i11, i12, i13, i14, i15, i16, i17, i18, i19⟩, ⟨i20, i21⟩, ⟨i22, i23⟩, ⟨i24, i25, i26, i27, i28, i29, i30, i31⟩⟩ := z
        dsimp only at z5 ⊢
        refine tot_s (tot_b hml (fun z ⟨m1, m2, m3, m4, m5, m6⟩ => ?_))
        obtain ⟨n1, n2, n3, n4, n5, n6, n7, n8, n9, n10, n11, n12⟩ := z
        dsimp only at m1 m2 m3 m4 m5 m6 ⊢
        rw [if_neg q0]
        refine tot_b (show Tot (X10_hitsOf F 5 (nI c) n3 n4 n5 n6 n7 n8 dp n9 n10 n11 n12) _ from m_hitsOf (F := F) (way := 5) (c := c) hF hmQ m3 hK hcc (by omega)) (fun z ⟨z1, z2, z3, ⟨m', z4, z4'⟩, z6⟩ => ?_)
        obtain ⟨b1, b2, b3, b4, b5', b6, b7, b8, b9, b10, b11⟩ := z
        dsimp only at z1 z2 z3 z4 z6 ⊢
        subst z4
        refine tot_s ⟨?_, z3, z6, hI.paper z2 (by omega)⟩
        show hh - _ = b1 - n2
        rw [z5, z1, m2, e3]
end SLeast
