/-! the class goes through the requests anew -/
section CRun5
variable {F : Nat} {Q : List Int32} {c k way : Nat}
theorem room_lt {b : Nat} {S : SS} {key d : Int32} (ok : Ok b S) (h : One c S) (hw : OkW (S.2.2.2 2) ∨ S.1.length < c ∨ c = 0 ∨ ∃ e, fnd key S.1 = some e) (hr : rejS key 1 S = false) (hf : fnd key S.1 = none) : (roomS key 1 d S).1.1.length < 60 := by
  have h60 := h.c60
  by_cases hc : c = 0
  · subst hc; rw [h.rej0] at hr; cases hr
  · by_cases hl : S.1.length < c
    · rw [(br_new (d := d) h hl hf).2]
      show (learnS key 1 S).1.length < 60
      rw [learnS_1]; omega
    · have hl2 : S.1.length = c := by have := h.l; omega
      have hw' : OkW (S.2.2.2 2) := by
        rcases hw with hw | hw | hw | ⟨e, he⟩
        · exact hw
        · omega
        · omega
        · rw [hf] at he; cases he
      obtain ⟨e, hem, _, hro⟩ := br_full (d := d) h (by omega) ok hw' hl2 hf
      rw [hro]
      have okl : Ok b (learnS key 1 S) := learnS_ok ok (by decide) (by decide)
      have := evS_len okl (show e ∈ (learnS key 1 S).1 by rw [learnS_1]; exact hem)
      rw [learnS_1] at this
      show (evS e (learnS key 1 S)).1.length < 60
      omega
theorem bring_ne {k v wt t d : Int32} {S : SS} : 0 < (bringS k v wt t d S).2.2.length := by
  rw [bringS]
  split
  · simp
  · split <;> simp
theorem c_goneNow {E : List Ev} {xq : tX7} (hq : QC E xq) (hE : 0 < E.length) : X0_goneNow F xq = some (gnow E) := by
  obtain ⟨qa, qb, qc, qd, qe, qs, ql, qp⟩ := xq
  obtain ⟨h0, h1, h2⟩ := hq
  subst h0
  have c0 : Int32.toNatClampNeg 0 = 0 := by decide
  have e0 : (0 : Int32).toInt = 0 := by decide
  rw [X0_goneNow, if_neg (show ¬ nI (min 100 E.length) ≤ 0 by rw [i32_le, nI_toInt (by omega), e0]; omega), c0]
  cases E with
  | nil => simp at hE
  | cons ev E =>
    have := h2 0 (by simp) (by omega)
    rw [List.getElem_cons_zero] at this
    subst this
    simp only [gnow]
    by_cases c : qa 0 = 2
    · rw [if_pos c, if_pos c]
    · rw [if_neg c, if_neg c]
theorem c_tight {S : SS} {x6 : tX6} {x1 : tX1} {xy xz : tX2} (hR : RC S x6 x1 xy xz) (hl : S.1.length ≤ 60) (wt : Int32) : X6_isTight F wt x6 x1 = some (bi (!(stopT wt S))) := by
  obtain ⟨hap, got, cap, wy, bal, wbt⟩ := x6
  obtain ⟨kK, kV, kW, kC, kL, kT, kP, sz, ld, pl, us, ag, hv⟩ := x1
  obtain ⟨⟨L, p, hE⟩, hld, hpl, hy, hz, n1, n2, n3, n4, n5, n6, n7, n8, n9, n10, n11, n12⟩ := hR
  have hlen := hE.2.1
  rw [X6_isTight, hE.1, hld, n6, p.length_eq]
  have hl2 := p.length_eq
  by_cases c1 : S.1.length < 60
  · rw [if_neg (by exact nI_ge (b := 60) c1 (by omega))]
    by_cases c2 : sumBy eW S.1 + wt ≤ S.2.2.2 1 <;> simp [stopT, c1, c2, bi]
  · rw [if_pos (by exact nI_le (a := 60) (by omega) (by omega))]
    simp [stopT, c1, bi]
theorem nxA_skip (x : Int32) : ∀ (m a : Nat), a + m ≤ Q.length → (∀ i, a ≤ i → i < a + m → Q[i]? ≠ some x) → nxA Q x a = nxA Q x (a + m)
  | 0, a, _, _ => rfl
  | m + 1, a, h, hn => by
    have ha : a < Q.length := by omega
    have h1 := hn a (by omega) (by omega)
    rw [List.getElem?_eq_getElem ha] at h1
    rw [nxA_step Q x ha, if_neg (fun e => h1 (by rw [e])), nxA_skip x m (a + 1) (by omega) (fun i i1 i2 => hn i (by omega) (by omega)), show a + 1 + m = a + (m + 1) by omega]
theorem c_nreq {S : SS} {x0 : tX0} {L : List En} {kK kV kW kC kL kT kP : Nat → Int32} {sz ld pl us ag hv : Int32} (hA : RA Q x0) (hk : k < Q.length) (hE : EC L kK kV kW kC kL kT kP sz) (hla : ∀ e ∈ L, lastOk Q k e) (hno : ∀ e ∈ L, eK e ≠ Q[k]) {i : Nat} (hi : i < L.length) : X0_nextRequest F (nI i) x0 (kK, kV, kW, kC, kL, kT, kP, sz, ld, pl, us, ag, hv) = some (nI (nxE Q k L[i])) := by
  obtain ⟨K, nx, f, g, s, zz, hh, hs⟩ := x0
  obtain ⟨rfl, hl, hK, hN⟩ := hA
  have hl60 := hE.2.1
  obtain ⟨j, j1, j2, j3, j4⟩ := hla L[i] (List.getElem_mem hi)
  have g60 : ¬ ((nI i : Int32) < 0 ∨ 60 ≤ (nI i).toNatClampNeg) := by simp (disch := omega) only [nI_add, pn_add, pn_addl, pn_mul, pn_cl, pn_nlt0, false_or, pn_ge, pn_le, Nat.add_zero, Nat.zero_add, ↓reduceIte, Option.bind_some, nI_leI, nI_ltI, nI_eq, pn_ne1, pn_1ne]; simp
  have hjq : j < Q.length := by omega
  have hkj : Q[j] = eK L[i] := by rw [List.getElem?_eq_getElem hjq] at j3; exact Option.some.inj j3
  rw [X0_nextRequest, if_neg g60, kcl (by omega), c_L hE hi, j2, nI_pred, if_neg (show ¬ (nI j : Int32) < 0 by simp (disch := omega) only [nI_add, pn_add, pn_addl, pn_mul, pn_cl, pn_nlt0, false_or, pn_ge, pn_le, Nat.add_zero, Nat.zero_add, ↓reduceIte, Option.bind_some, nI_leI, nI_ltI, nI_eq, pn_ne1, pn_1ne]; simp), if_neg (fun hx => by have := (nI_leI (by omega) (by omega)).1 hx; omega), if_neg (k100 (by omega)), kcl (by omega), hN j hjq, hkj, nxE]
  have := nxA_skip (Q := Q) (eK L[i]) (k - j) (j + 1) (by omega) (fun q q1 q2 => ?_)
  · rw [this, show j + 1 + (k - j) = k + 1 by omega]
  · by_cases cq : q = k
    · subst cq; rw [List.getElem?_eq_getElem hk]; intro e; exact hno L[i] (List.getElem_mem hi) (Option.some.inj e).symm
    · exact j4 q (by omega) (by omega)
theorem c_far {S : SS} {x0 : tX0} {x6 : tX6} {x1 : tX1} {xy xz : tX2} (hF : 200 ≤ F) (hA : RA Q x0) (hk : k < Q.length) (hR : RC S x6 x1 xy xz) (hJ : JR Q c k S) (hno : ∀ e ∈ S.1, eK e ≠ Q[k]) (hne : S.1 ≠ []) : Tot (X0_farthest F x0 x1) (fun r => ∃ e, IsFar Q k S.1 e ∧ IXC S.1 (some e) r x1) := by
  obtain ⟨hap, got, cap, wy, bal, wbt⟩ := x6
  obtain ⟨kK, kV, kW, kC, kL, kT, kP, sz, ld, pl, us, ag, hv⟩ := x1
  obtain ⟨⟨L, p, hE⟩, _⟩ := hR
  have hla : ∀ e ∈ L, lastOk Q k e := fun e he => hJ.la e (p.mem_iff.1 he)
  have hnoL : ∀ e ∈ L, eK e ≠ Q[k] := fun e he => hno e (p.mem_iff.1 he)
  have hl60 := hE.2.1
  have hsz := hE.1
  have ndL := (hJ.ok.1.perm p).1
  have hlQ : Q.length ≤ 100 := by
    obtain ⟨K, nx, f, g, s, zz, hh, hs⟩ := x0
    exact hA.2.1
  have hnq := fun (i : Nat) (hi : i < L.length) => c_nreq (F := F) (S := S) (ld := ld) (pl := pl) (us := us) (ag := ag) (hv := hv) hA hk hE hla hnoL hi
  have hnb : ∀ e : En, nxE Q k e ≤ 100 := fun e => by
    have := (nxA_spec Q (eK e) (i := k + 1) (by omega)).2.1
    rw [nxE]; omega
  have em : (-1 : Int32).toInt = -1 := by decide
  have key : ∀ (n i : Nat) (v2 v3 : Int32), i ≤ L.length → L.length - i < n → ((i = 0 ∧ v2 = -1 ∧ v3 = -1) ∨ ∃ a, ∃ ha : a < L.length, a < i ∧ v2 = nI a ∧ v3 = nI (nxE Q k L[a]) ∧ ∀ j (hj : j < L.length), j < i → L[j] = L[a] ∨ farB Q k L[a] L[j] = true) →
      Tot (X0_farthest_L15 F n v2 v3 (nI i) x0 (kK, kV, kW, kC, kL, kT, kP, sz, ld, pl, us, ag, hv)) (fun r => (L.length = 0 ∧ r = -1) ∨ ∃ a, ∃ ha : a < L.length, r = nI a ∧ IsFar Q k L L[a]) := by
    obtain ⟨K, nx, f, g, s, zz, hh, hs⟩ := x0
    intro n
    induction n with
    | zero => intro i v2 v3 _ h; omega
    | succ n ih =>
      intro i v2 v3 hi hn hinv
      rw [X0_farthest_L15, hsz]
      by_cases c1 : L.length ≤ i
      · rw [if_pos ((nI_leI (by omega) (by omega)).2 c1)]
        refine tot_s ?_
        rcases hinv with ⟨h0, h2, _⟩ | ⟨a, ha, h1, h2, h3, h4⟩
        · exact Or.inl ⟨by omega, h2⟩
        · refine Or.inr ⟨a, ha, h2, List.getElem_mem ha, fun f hf => ?_⟩
          obtain ⟨j, hj, rfl⟩ := List.getElem_of_mem hf
          exact h4 j hj (by omega)
      · have hiL : i < L.length := by omega
        have b1 := hnb L[i]
        rw [if_neg (fun hx => c1 ((nI_leI (by omega) (by omega)).1 hx)), ← hsz, hnq i hiL, Option.bind_some, nI_1]
        have take : (∀ j (hj : j < L.length), j < i → farB Q k L[i] L[j] = true) → Tot (X0_farthest_L15 F n (nI i) (nI (nxE Q k L[i])) (nI (i + 1)) (K, nx, f, g, s, zz, hh, hs) (kK, kV, kW, kC, kL, kT, kP, sz, ld, pl, us, ag, hv)) (fun r => (L.length = 0 ∧ r = -1) ∨ ∃ a, ∃ ha : a < L.length, r = nI a ∧ IsFar Q k L L[a]) := fun hb => by
          refine ih (i + 1) _ _ (by omega) (by omega) (Or.inr ⟨i, hiL, by omega, rfl, rfl, fun j hj hj2 => ?_⟩)
          by_cases cj : j = i
          · subst cj; exact Or.inl rfl
          · exact Or.inr (hb j hj (by omega))
        rcases hinv with ⟨h0, h2, h3⟩ | ⟨a, ha, h1, h2, h3, h4⟩
        · rw [if_pos (show v3 < nI (nxE Q k L[i]) by rw [h3, i32_lt, nI_toInt (by omega), em]; omega)]
          exact take (fun j _ hj => by omega)
        · have b2 := hnb L[a]
          have hne2 : (eK L[a]).toInt ≠ (eK L[i]).toInt := fun e => by
            have := nodup_ix ndL ha hiL (i32_eq.2 e); omega
          have stay : ¬ farB Q k L[i] L[a] = true → Tot (X0_farthest_L15 F n v2 v3 (nI (i + 1)) (K, nx, f, g, s, zz, hh, hs) (kK, kV, kW, kC, kL, kT, kP, sz, ld, pl, us, ag, hv)) (fun r => (L.length = 0 ∧ r = -1) ∨ ∃ a, ∃ ha : a < L.length, r = nI a ∧ IsFar Q k L L[a]) := fun hb => by
            refine ih (i + 1) _ _ (by omega) (by omega) (Or.inr ⟨a, ha, by omega, h2, h3, fun j hj hj2 => ?_⟩)
            by_cases cj : j = i
            · subst cj; right; rw [farB_iff] at *; omega
            · exact h4 j hj (by omega)
          have tk : farB Q k L[i] L[a] = true → ∀ j (hj : j < L.length), j < i → farB Q k L[i] L[j] = true := fun hb j hj hj2 => by
            rcases h4 j hj hj2 with e | h5
            · rw [e]; exact hb
            · rw [farB_iff] at *; omega
          rw [h3]
          by_cases d1 : nxE Q k L[a] < nxE Q k L[i]
          · rw [if_pos ((nI_ltI (by omega) (by omega)).2 d1)]
            exact take (tk (farB_iff.2 (Or.inl d1)))
          · rw [if_neg (fun hx => d1 ((nI_ltI (by omega) (by omega)).1 hx))]
            by_cases d2 : nxE Q k L[i] = nxE Q k L[a]
            · have g60 : ¬ ((nI i : Int32) < 0 ∨ 60 ≤ (nI i).toNatClampNeg) := by simp (disch := omega) only [nI_add, pn_add, pn_addl, pn_mul, pn_cl, pn_nlt0, false_or, pn_ge, pn_le, Nat.add_zero, Nat.zero_add, ↓reduceIte, Option.bind_some, nI_leI, nI_ltI, nI_eq, pn_ne1, pn_1ne]; simp
              have hs2 : ¬ ((nI a : Int32) < 0 ∨ 60 ≤ (nI a : Int32).toNatClampNeg) := by simp (disch := omega) only [nI_add, pn_add, pn_addl, pn_mul, pn_cl, pn_nlt0, false_or, pn_ge, pn_le, Nat.add_zero, Nat.zero_add, ↓reduceIte, Option.bind_some, nI_leI, nI_ltI, nI_eq, pn_ne1, pn_1ne]; simp
              have hkey : X1_keyOf F v2 kK sz = some (eK L[a]) := by
                rw [h2, X1_keyOf, c_has hE ha, Option.bind_some, if_neg (by decide), if_neg hs2, kcl (by omega), c_K hE ha]
              rw [if_pos (by rw [d2]), if_neg g60, hkey, Option.bind_some, kcl (by omega), c_K hE hiL, ← h3]
              by_cases d3 : eK L[a] ≤ eK L[i]
              · rw [if_pos d3]
                exact stay (fun hx => by rw [farB_iff] at hx; rw [i32_le] at d3; omega)
              · rw [if_neg d3]
                exact take (tk (farB_iff.2 (Or.inr ⟨d2, by rw [i32_le] at d3; omega⟩)))
            · rw [if_neg (fun hx => d2 (by rw [nI_eq (by omega) (by omega)] at hx; exact hx)), ← h3]
              exact stay (fun hx => by rw [farB_iff] at hx; omega)
  have hfin := key F 0 (-1) (-1) (by omega) (by omega) (Or.inl ⟨rfl, rfl, rfl⟩)
  obtain ⟨K, nx, f, g, s, zz, hh, hs⟩ := x0
  rw [X0_farthest]
  refine tot_b hfin (fun r hr => tot_s ?_)
  rcases hr with ⟨h0, _⟩ | ⟨a, ha, h1, h2⟩
  · exfalso
    have := p.length_eq
    exact hne (List.eq_nil_of_length_eq_zero (by omega))
  · exact ⟨L[a], h2.perm p, L, p, hE, Or.inr ⟨a, ha, h1, rfl⟩⟩
theorem c_farN {x0 : tX0} {x6 : tX6} {x1 : tX1} {xy xz : tX2} {S : SS} (hF : 200 ≤ F) (hR : RC S x6 x1 xy xz) (he : S.1 = []) : X0_farthest F x0 x1 = some (-1) := by
  obtain ⟨hap, got, cap, wy, bal, wbt⟩ := x6
  obtain ⟨kK, kV, kW, kC, kL, kT, kP, sz, ld, pl, us, ag, hv⟩ := x1
  obtain ⟨K, nx, f, g, s, zz, hh, hs⟩ := x0
  obtain ⟨⟨L, p, hE⟩, _⟩ := hR
  have hl0 : L.length = 0 := by rw [p.length_eq, he]; rfl
  have hsz : sz = 0 := by rw [hE.1, hl0]; rfl
  obtain ⟨F', hF'⟩ : ∃ F', F = F' + 1 := ⟨F - 1, by omega⟩
  have : X0_farthest_L15 F F (-1) (-1) 0 (K, nx, f, g, s, zz, hh, hs) (kK, kV, kW, kC, kL, kT, kP, sz, ld, pl, us, ag, hv) = some (-1) := by
    conv => lhs; rw [show X0_farthest_L15 F F = X0_farthest_L15 F (F' + 1) by rw [← hF']]
    rw [X0_farthest_L15, hsz, if_pos (by decide)]
  rw [X0_farthest, this, Option.bind_some]
theorem c_runL (hF : 200 ≤ F) (hl : Q.length ≤ 100) (hK : ∀ x ∈ Q, 0 ≤ x.toInt ∧ x.toInt < 1000) (hc : c ≤ 60) (hway : way ≤ 5) {K nx f s : Nat → Int32} {hs : Int32} (hKK : ∀ i (h : i < Q.length), K i = Q[i]) (hN : ∀ i (h : i < Q.length), nx i = nI (nxA Q Q[i] (i + 1))) :
    ∀ (n k : Nat) (g : Nat → Int32) (hh : Int32) (x6 : tX6) (x1 : tX1) (xy xz : tX2) (xq : tX7), True → k ≤ Q.length → Q.length - k < n → RC (runS true way c Q k).1 x6 x1 xy xz → hh = nI (runS true way c Q k).2.1 → (∀ q, q < k → g q = (runS true way c Q k).2.2 q) →
    Tot (X0_run_L16 F n (nI way) (nI k) (K, nx, f, g, s, nI Q.length, hh, hs) x6 x1 xy xz xq) (fun y => RC (runS true way c Q Q.length).1 y.2.1 y.2.2.1 y.2.2.2.1 y.2.2.2.2.1 ∧ ∃ g', y.1 = (K, nx, f, g', s, nI Q.length, nI (runS true way c Q Q.length).2.1, hs) ∧ ∀ q, q < Q.length → g' q = (runS true way c Q Q.length).2.2 q) := by
  have f100 : 100 ≤ F := by omega
  intro n
  induction n with
  | zero => intro k g hh x6 x1 xy xz xq _ _ h; omega
  | succ n ih0 =>
    have ih := fun (k : Nat) (g : Nat → Int32) (hh : Int32) (x6 : tX6) (x1 : tX1) (xy xz : tX2) (xq : tX7) => ih0 k g hh x6 x1 xy xz xq trivial
    intro k g hh x6 x1 xy xz xq _ hk hn hR hhv hg
    obtain ⟨hJ, hw2⟩ := JR_run (cls := true) (way := way) hl hK hc hway k hk
    have hfind := RC.find (F := F) hR hJ.ok f100
    have htight := c_tight (F := F) hR hJ.ok.1.2.2.1 1
    have hfar := fun (hkl : k < Q.length) (hno : ∀ e ∈ (runS true way c Q k).1.1, eK e ≠ Q[k]) (hne : (runS true way c Q k).1.1 ≠ []) => c_far (F := F) (x0 := (K, nx, f, g, s, nI Q.length, hh, hs)) (k := k) hF ⟨rfl, hl, hKK, hN⟩ hkl hR hJ hno hne
    have hfarN := fun (he : (runS true way c Q k).1.1 = []) => c_farN (F := F) (x0 := (K, nx, f, g, s, nI Q.length, hh, hs)) hF hR he
    obtain ⟨hap, got, cap, wy, bal, wbt⟩ := x6
    obtain ⟨kK, kV, kW, kC, kL, kT, kP, sz, ld, pl, us, ag, hv⟩ := x1
    obtain ⟨yk, ys⟩ := xy
    obtain ⟨zk, zs⟩ := xz
    obtain ⟨qa, qb, qc, qd, qe, qs, ql, qp⟩ := xq
    rw [X0_run_L16]
    by_cases c0 : Q.length ≤ k
    · have : k = Q.length := by omega
      subst this
      rw [if_pos ((nI_leI (by omega) (by omega)).2 c0)]
      exact tot_s ⟨hR, g, by rw [hhv], hg⟩
    · have hkl : k < Q.length := by omega
      have hkey := hK Q[k] (List.getElem_mem hkl)
      have hky : kyQ Q k = Q[k] := kyQ_at (List.getElem?_eq_getElem hkl)
      have gk : ¬ ((nI k : Int32) < 0 ∨ 100 ≤ k) := by simp (disch := omega) only [nI_add, pn_add, pn_addl, pn_mul, pn_cl, pn_nlt0, false_or, pn_ge, pn_le, Nat.add_zero, Nat.zero_add, ↓reduceIte, Option.bind_some, nI_leI, nI_ltI, nI_eq, pn_ne1, pn_1ne]; simp
      have harg : ∀ A : SS, ArgP Q[k] 0 1 (-1) (A.2.2.2 5) := fun A => ⟨hkey.1, hkey.2, by decide, by decide, Or.inl rfl, by constructor <;> decide⟩
      have ok1 : Ok (2 * k + 1) (runS true way c Q k).1 := hJ.ok.up (by omega)
      have w5 : nI way = 5 ↔ way = 5 := by
        have : (5 : Int32) = nI 5 := rfl
        rw [this, nI_eq (by omega) (by omega)]
      rw [if_neg (fun hx => c0 ((nI_leI (by omega) (by omega)).1 hx)), X7_open, Option.bind_some, kcl (by omega)]
      dsimp only
      rw [if_neg gk, hKK k hkl]
      refine tot_b (hfind Q[k]) (fun r hr => ?_)
      obtain ⟨L, pL, hE, hix⟩ := hr
      have hl60 := hE.2.1
      rcases hix with ⟨rfl, hfn⟩ | ⟨i, hi, rfl, hfs⟩
      · rw [if_pos rfl]
        by_cases c5 : way = 5
        · rw [if_pos (w5.2 c5), htight, Option.bind_some]
          cases hst : stopT 1 (runS true way c Q k).1 with
          | true =>
            have hlt : (runS true way c Q k).1.1.length < c := by
              by_cases hx : (runS true way c Q k).1.1.length < c
              · exact hx
              · have := hJ.one.nst (by have := hJ.one.l; omega); rw [hst] at this; cases this
            have hnF : ¬ isF way c Q k (runS true way c Q k).1 := fun h => by have := h.2.2.2; omega
            rw [if_pos (show bi (!true) = 0 from rfl)]
            rw [if_neg gk]
            refine tot_b (c_bring (F := F) (v := 0) (b := 2 * k + 1) hR ok1 f100 (by omega) (QC_0 (a := qa) (b := qb) (c := qc) (d := qd) (e := qe)) (harg _) (fun hr hf => room_lt ok1 hJ.one (Or.inr (Or.inl hlt)) hr hf)) (fun y ⟨z0, z1, z2, z3⟩ => ?_)
            obtain ⟨r, ⟨i1, i2, i3, i4, i5, i6⟩, ⟨i7, i8, i9, i10, i11, i12, i13, i14, i15, i16, i17, i18, i19⟩, ⟨i20, i21⟩, ⟨i22, i23⟩, ⟨i24, i25, i26, i27, i28, i29, i30, i31⟩⟩ := y
            dsimp only at z1 z2 z3 ⊢
            have z2' : QC ([] ++ (bringS Q[k] 0 1 (-1) 0 (runS true way c Q k).1).2.2) (i24, i25, i26, i27, i28, i29, i30, i31) := z2
            have z1'' : RC (bringS Q[k] 0 1 (-1) 0 (runS true way c Q k).1).2.1 (i1, i2, i3, i4, i5, i6) (i7, i8, i9, i10, i11, i12, i13, i14, i15, i16, i17, i18, i19) (i20, i21) (i22, i23) := z1
            refine tot_e (c_goneNow z2' (by rw [List.length_append]; have := bring_ne (k := Q[k]) (v := 0) (wt := 1) (t := -1) (d := 0) (S := (runS true way c Q k).1); omega)) ?_
            rw [if_neg gk, nI_1]
            have e1 : (bringS Q[k] 0 1 (-1) 0 (runS true way c Q k).1).2.1 = (runS true way c Q (k + 1)).1 := by simp only [runS, rst]; rw [if_neg hnF, hky]
            have e2 : gnow ([] ++ (bringS Q[k] 0 1 (-1) 0 (runS true way c Q k).1).2.2) = (rst true way c Q k (runS true way c Q k).1).2 := by rw [List.nil_append, rst, if_neg hnF, hky]
            have z1' : RC (runS true way c Q (k + 1)).1 (i1, i2, i3, i4, i5, i6) (i7, i8, i9, i10, i11, i12, i13, i14, i15, i16, i17, i18, i19) (i20, i21) (i22, i23) := by rw [← e1]; exact z1''
            have e3 : hh = nI (runS true way c Q (k + 1)).2.1 := by simp only [runS]; rw [hky, hfn, hhv]; rfl
            exact ih (k + 1) _ _ _ _ _ _ _ (by omega) (by omega) z1' e3 (fun q hq => by
              simp only [runS]
              by_cases cq : q = k
              · subst cq; rw [upd_s, upd_s]; exact e2
              · rw [upd_n cq, upd_n cq]; exact hg q (by omega))
          | false =>
            rw [if_neg (show ¬ bi (!false) = 0 by decide)]
            have hlc : (runS true way c Q k).1.1.length = c := by
              by_cases hx : (runS true way c Q k).1.1.length < c
              · have := hJ.one.st hx; rw [hst] at this; cases this
              · have := hJ.one.l; omega
            by_cases hc0 : c = 0
            · have hnil : (runS true way c Q k).1.1 = [] := List.eq_nil_of_length_eq_zero (by omega)
              have hnF : ¬ isF way c Q k (runS true way c Q k).1 := fun h => by have := h.2.2.1; omega
              rw [hfarN hnil, Option.bind_some, c_evictN, Option.bind_some]
              dsimp only
              rw [if_neg gk]
              refine tot_b (c_bring (F := F) (v := 0) (b := 2 * k + 1) hR ok1 f100 (by omega) (QC_0 (a := qa) (b := qb) (c := qc) (d := qd) (e := qe)) (harg _) (fun hr hf => room_lt ok1 hJ.one (Or.inr (Or.inr (Or.inl hc0))) hr hf)) (fun y ⟨z0, z1, z2, z3⟩ => ?_)
              obtain ⟨r, ⟨i1, i2, i3, i4, i5, i6⟩, ⟨i7, i8, i9, i10, i11, i12, i13, i14, i15, i16, i17, i18, i19⟩, ⟨i20, i21⟩, ⟨i22, i23⟩, ⟨i24, i25, i26, i27, i28, i29, i30, i31⟩⟩ := y
              dsimp only at z1 z2 z3 ⊢
              have z2' : QC ([] ++ (bringS Q[k] 0 1 (-1) 0 (runS true way c Q k).1).2.2) (i24, i25, i26, i27, i28, i29, i30, i31) := z2
              have z1'' : RC (bringS Q[k] 0 1 (-1) 0 (runS true way c Q k).1).2.1 (i1, i2, i3, i4, i5, i6) (i7, i8, i9, i10, i11, i12, i13, i14, i15, i16, i17, i18, i19) (i20, i21) (i22, i23) := z1
              refine tot_e (c_goneNow z2' (by rw [List.length_append]; have := bring_ne (k := Q[k]) (v := 0) (wt := 1) (t := -1) (d := 0) (S := (runS true way c Q k).1); omega)) ?_
              rw [if_neg gk, nI_1]
              have e1 : (bringS Q[k] 0 1 (-1) 0 (runS true way c Q k).1).2.1 = (runS true way c Q (k + 1)).1 := by simp only [runS, rst]; rw [if_neg hnF, hky]
              have e2 : gnow ([] ++ (bringS Q[k] 0 1 (-1) 0 (runS true way c Q k).1).2.2) = (rst true way c Q k (runS true way c Q k).1).2 := by rw [List.nil_append, rst, if_neg hnF, hky]
              have z1' : RC (runS true way c Q (k + 1)).1 (i1, i2, i3, i4, i5, i6) (i7, i8, i9, i10, i11, i12, i13, i14, i15, i16, i17, i18, i19) (i20, i21) (i22, i23) := by rw [← e1]; exact z1''
              have e3 : hh = nI (runS true way c Q (k + 1)).2.1 := by simp only [runS]; rw [hky, hfn, hhv]; rfl
              exact ih (k + 1) _ _ _ _ _ _ _ (by omega) (by omega) z1' e3 (fun q hq => by
                simp only [runS]
                by_cases cq : q = k
                · subst cq; rw [upd_s, upd_s]; exact e2
                · rw [upd_n cq, upd_n cq]; exact hg q (by omega))
            · have hno : ∀ e ∈ (runS true way c Q k).1.1, eK e ≠ Q[k] := fnd_none.1 hfn
              have hne : (runS true way c Q k).1.1 ≠ [] := fun e => by rw [e] at hlc; simp at hlc; omega
              have hisF : isF way c Q k (runS true way c Q k).1 := ⟨c5, by rw [hky]; exact hfn, by omega, hlc⟩
              refine tot_b (hfar hkl hno hne) (fun r ⟨e, he, hre⟩ => ?_)
              have hfa := fa_eq he
              obtain ⟨g1, g2, g3, g4, g5, g6, g7⟩ := hJ.goes (by omega) (by omega) hlc hfn he.1 true
              rw [if_pos rfl] at g1 g2 g3 g4 g5 g6 g7
              refine tot_b (c_evict (F := F) (E := []) (xq := (qa, qb, qc, qd, qe, 0, 0, 0)) hR hJ.ok f100 QC_0 hre) (fun y ⟨v1, v2, v3⟩ => ?_)
              obtain ⟨⟨j1, j2, j3, j4, j5, j6⟩, ⟨j7, j8, j9, j10, j11, j12, j13, j14, j15, j16, j17, j18, j19⟩, ⟨j20, j21⟩, ⟨j22, j23⟩, ⟨j24, j25, j26, j27, j28, j29, j30, j31⟩⟩ := y
              have v3' : j31 = 0 := v3
              subst v3'
              dsimp only at v1 v2 ⊢
              rw [if_neg gk]
              refine tot_b (c_bring (F := F) (v := 0) (b := 2 * k + 1) v1 g1 f100 (by omega) v2 (harg _) (fun hr hf => room_lt g1 g2 (Or.inr (Or.inl g4)) hr hf)) (fun y ⟨z0, z1, z2, z3⟩ => ?_)
              obtain ⟨r, ⟨i1, i2, i3, i4, i5, i6⟩, ⟨i7, i8, i9, i10, i11, i12, i13, i14, i15, i16, i17, i18, i19⟩, ⟨i20, i21⟩, ⟨i22, i23⟩, ⟨i24, i25, i26, i27, i28, i29, i30, i31⟩⟩ := y
              dsimp only at z1 z2 z3 ⊢
              have z2' : QC ([(2, eK e, eV e, eW e, 0)] ++ (bringS Q[k] 0 1 (-1) 0 (evS e (runS true way c Q k).1)).2.2) (i24, i25, i26, i27, i28, i29, i30, i31) := z2
              have z1'' : RC (bringS Q[k] 0 1 (-1) 0 (evS e (runS true way c Q k).1)).2.1 (i1, i2, i3, i4, i5, i6) (i7, i8, i9, i10, i11, i12, i13, i14, i15, i16, i17, i18, i19) (i20, i21) (i22, i23) := z1
              refine tot_e (c_goneNow z2' (by rw [List.length_append]; have := bring_ne (k := Q[k]) (v := 0) (wt := 1) (t := -1) (d := 0) (S := (evS e (runS true way c Q k).1)); omega)) ?_
              rw [if_neg gk, nI_1]
              have e1 : (bringS Q[k] 0 1 (-1) 0 (evS e (runS true way c Q k).1)).2.1 = (runS true way c Q (k + 1)).1 := by simp only [runS, rst]; rw [if_pos hisF, hfa, hky]; rfl
              have e2 : gnow ([(2, eK e, eV e, eW e, 0)] ++ (bringS Q[k] 0 1 (-1) 0 (evS e (runS true way c Q k).1)).2.2) = (rst true way c Q k (runS true way c Q k).1).2 := by rw [rst, if_pos hisF, hfa]; rfl
              have z1' : RC (runS true way c Q (k + 1)).1 (i1, i2, i3, i4, i5, i6) (i7, i8, i9, i10, i11, i12, i13, i14, i15, i16, i17, i18, i19) (i20, i21) (i22, i23) := by rw [← e1]; exact z1''
              have e3 : hh = nI (runS true way c Q (k + 1)).2.1 := by simp only [runS]; rw [hky, hfn, hhv]; rfl
              exact ih (k + 1) _ _ _ _ _ _ _ (by omega) (by omega) z1' e3 (fun q hq => by
                simp only [runS]
                by_cases cq : q = k
                · subst cq; rw [upd_s, upd_s]; exact e2
                · rw [upd_n cq, upd_n cq]; exact hg q (by omega))
        · rw [if_neg (fun hx => c5 (w5.1 hx))]
          have hnF : ¬ isF way c Q k (runS true way c Q k).1 := fun h => c5 h.1
          have hokw : OkW ((runS true way c Q k).1.2.2.2 2) := by
            rw [hw2, if_pos rfl]
            have : way = 0 ∨ way = 1 ∨ way = 2 ∨ way = 3 ∨ way = 4 := by omega
            rcases this with rfl | rfl | rfl | rfl | rfl
            · exact Or.inl rfl
            · exact Or.inr (Or.inl rfl)
            · exact Or.inr (Or.inr (Or.inl rfl))
            · exact Or.inr (Or.inr (Or.inr (Or.inl rfl)))
            · exact Or.inr (Or.inr (Or.inr (Or.inr rfl)))
          rw [if_neg gk]
          refine tot_b (c_bring (F := F) (v := 0) (b := 2 * k + 1) hR ok1 f100 (by omega) (QC_0 (a := qa) (b := qb) (c := qc) (d := qd) (e := qe)) (harg _) (fun hr hf => room_lt ok1 hJ.one (Or.inl hokw) hr hf)) (fun y ⟨z0, z1, z2, z3⟩ => ?_)
          obtain ⟨r, ⟨i1, i2, i3, i4, i5, i6⟩, ⟨i7, i8, i9, i10, i11, i12, i13, i14, i15, i16, i17, i18, i19⟩, ⟨i20, i21⟩, ⟨i22, i23⟩, ⟨i24, i25, i26, i27, i28, i29, i30, i31⟩⟩ := y
          dsimp only at z1 z2 z3 ⊢
          have z2' : QC ([] ++ (bringS Q[k] 0 1 (-1) 0 (runS true way c Q k).1).2.2) (i24, i25, i26, i27, i28, i29, i30, i31) := z2
          have z1'' : RC (bringS Q[k] 0 1 (-1) 0 (runS true way c Q k).1).2.1 (i1, i2, i3, i4, i5, i6) (i7, i8, i9, i10, i11, i12, i13, i14, i15, i16, i17, i18, i19) (i20, i21) (i22, i23) := z1
          refine tot_e (c_goneNow z2' (by rw [List.length_append]; have := bring_ne (k := Q[k]) (v := 0) (wt := 1) (t := -1) (d := 0) (S := (runS true way c Q k).1); omega)) ?_
          rw [if_neg gk, nI_1]
          have e1 : (bringS Q[k] 0 1 (-1) 0 (runS true way c Q k).1).2.1 = (runS true way c Q (k + 1)).1 := by simp only [runS, rst]; rw [if_neg hnF, hky]
          have e2 : gnow ([] ++ (bringS Q[k] 0 1 (-1) 0 (runS true way c Q k).1).2.2) = (rst true way c Q k (runS true way c Q k).1).2 := by rw [List.nil_append, rst, if_neg hnF, hky]
          have z1' : RC (runS true way c Q (k + 1)).1 (i1, i2, i3, i4, i5, i6) (i7, i8, i9, i10, i11, i12, i13, i14, i15, i16, i17, i18, i19) (i20, i21) (i22, i23) := by rw [← e1]; exact z1''
          have e3 : hh = nI (runS true way c Q (k + 1)).2.1 := by simp only [runS]; rw [hky, hfn, hhv]; rfl
          exact ih (k + 1) _ _ _ _ _ _ _ (by omega) (by omega) z1' e3 (fun q hq => by
            simp only [runS]
            by_cases cq : q = k
            · subst cq; rw [upd_s, upd_s]; exact e2
            · rw [upd_n cq, upd_n cq]; exact hg q (by omega))
      · have hnF : ¬ isF way c Q k (runS true way c Q k).1 := fun h => by have := h.2.1; rw [hky, hfs] at this; cases this
        rw [if_neg (show ¬ nI i = -1 by simp (disch := omega) only [nI_add, pn_add, pn_addl, pn_mul, pn_cl, pn_nlt0, false_or, pn_ge, pn_le, Nat.add_zero, Nat.zero_add, ↓reduceIte, Option.bind_some, nI_leI, nI_ltI, nI_eq, pn_ne1, pn_1ne]; simp)]
        rw [if_neg gk]
        refine tot_b (c_bring (F := F) (v := 0) (b := 2 * k + 1) hR ok1 f100 (by omega) (QC_0 (a := qa) (b := qb) (c := qc) (d := qd) (e := qe)) (harg _) (fun hr hf => room_lt ok1 hJ.one (Or.inr (Or.inr (Or.inr ⟨_, hfs⟩))) hr hf)) (fun y ⟨z0, z1, z2, z3⟩ => ?_)
        obtain ⟨r, ⟨i1, i2, i3, i4, i5, i6⟩, ⟨i7, i8, i9, i10, i11, i12, i13, i14, i15, i16, i17, i18, i19⟩, ⟨i20, i21⟩, ⟨i22, i23⟩, ⟨i24, i25, i26, i27, i28, i29, i30, i31⟩⟩ := y
        dsimp only at z1 z2 z3 ⊢
        have z2' : QC ([] ++ (bringS Q[k] 0 1 (-1) 0 (runS true way c Q k).1).2.2) (i24, i25, i26, i27, i28, i29, i30, i31) := z2
        have z1'' : RC (bringS Q[k] 0 1 (-1) 0 (runS true way c Q k).1).2.1 (i1, i2, i3, i4, i5, i6) (i7, i8, i9, i10, i11, i12, i13, i14, i15, i16, i17, i18, i19) (i20, i21) (i22, i23) := z1
        refine tot_e (c_goneNow z2' (by rw [List.length_append]; have := bring_ne (k := Q[k]) (v := 0) (wt := 1) (t := -1) (d := 0) (S := (runS true way c Q k).1); omega)) ?_
        rw [if_neg gk, nI_1]
        have e1 : (bringS Q[k] 0 1 (-1) 0 (runS true way c Q k).1).2.1 = (runS true way c Q (k + 1)).1 := by simp only [runS, rst]; rw [if_neg hnF, hky]
        have e2 : gnow ([] ++ (bringS Q[k] 0 1 (-1) 0 (runS true way c Q k).1).2.2) = (rst true way c Q k (runS true way c Q k).1).2 := by rw [List.nil_append, rst, if_neg hnF, hky]
        have z1' : RC (runS true way c Q (k + 1)).1 (i1, i2, i3, i4, i5, i6) (i7, i8, i9, i10, i11, i12, i13, i14, i15, i16, i17, i18, i19) (i20, i21) (i22, i23) := by rw [← e1]; exact z1''
        have e3 : hh + 1 = nI (runS true way c Q (k + 1)).2.1 := by simp only [runS]; rw [hky, hfs, hhv, nI_1]; rfl
        exact ih (k + 1) _ _ _ _ _ _ _ (by omega) (by omega) z1' e3 (fun q hq => by
          simp only [runS]
          by_cases cq : q = k
          · subst cq; rw [upd_s, upd_s]; exact e2
          · rw [upd_n cq, upd_n cq]; exact hg q (by omega))
theorem fill7 (hF : 200 ≤ F) (h : Nat → Int32) : Tot (J7_fill_53178 F 0 h) (fun y => ∀ q, q < 7 → y q = 0) := by
  have key : ∀ (n i : Nat) (a : Nat → Int32), i ≤ 7 → 7 - i < n → (∀ q, q < i → a q = 0) → Tot (J7_fill_53178_L5 F n 0 (nI i) (nI 7) a) (fun y => ∀ q, q < 7 → y q = 0) := by
    intro n
    induction n with
    | zero => intro i a _ hn; omega
    | succ n ih =>
      intro i a hi hn h
      rw [J7_fill_53178_L5]
      by_cases c : 7 ≤ i
      · rw [if_pos ((nI_leI (by omega) (by omega)).2 c)]
        exact tot_s (fun q hq => h q (by omega))
      · have g1 : ¬ ((nI i : Int32) < 0 ∨ 7 ≤ (nI i).toNatClampNeg) := by simp (disch := omega) only [nI_add, pn_add, pn_addl, pn_mul, pn_cl, pn_nlt0, false_or, pn_ge, pn_le, Nat.add_zero, Nat.zero_add, ↓reduceIte, Option.bind_some, nI_leI, nI_ltI, nI_eq, pn_ne1, pn_1ne]; simp
        rw [if_neg (fun hx => c ((nI_leI (by omega) (by omega)).1 hx)), if_neg g1, kcl (by omega), nI_1]
        refine ih (i + 1) _ (by omega) (by omega) (fun q hq => ?_)
        by_cases cq : q = i
        · subst cq; rw [upd_s]
        · rw [upd_n cq]; exact h q (by omega)
  rw [J7_fill_53178]
  exact tot_b (key F 0 h (by omega) (by omega) (fun q hq => by omega)) (fun y hy => tot_s hy)
theorem c_empty {x6 : tX6} {x1 : tX1} {xy xz : tX2} (hF : 200 ≤ F) (way c : Nat) : Tot (X6_empty F (nI way) (nI c) x6 x1 xy xz) (fun y => RC (S0 true way c) y.1 y.2.1 y.2.2.1 y.2.2.2) := by
  obtain ⟨hap, got, cap, wy, bal, wbt⟩ := x6
  obtain ⟨kK, kV, kW, kC, kL, kT, kP, sz, ld, pl, us, ag, hv⟩ := x1
  obtain ⟨yk, ys⟩ := xy
  obtain ⟨zk, zs⟩ := xz
  rw [X6_empty, X1_empty, Option.bind_some]
  dsimp only
  refine tot_b (fill7 (F := F) hF hap) (fun y hy => tot_s ?_)
  have hz : ∀ q, q ≠ 1 → q ≠ 2 → q ≠ 6 → (S0 true way c).2.2.2 q = 0 := fun q q1 q2 q3 => by simp only [S0]; rw [upd_n q2, upd_n q3, upd_n q1]
  refine ⟨⟨[], List.Perm.refl _, rfl, by simp, fun i hi => by simp at hi⟩, rfl, rfl, ⟨rfl, by simp [S0], fun j hj => by simp [S0] at hj⟩, ⟨rfl, by simp [S0], fun j hj => by simp [S0] at hj⟩, ?_⟩
  refine ⟨?_, ?_, ?_, ?_, ?_, ?_, ?_, ?_, ?_, ?_, ?_, ?_⟩
  · rw [hy 5 (by decide), hz 9 (by decide) (by decide) (by decide)]
  · rw [hy 2 (by decide), hz 10 (by decide) (by decide) (by decide)]
  · rw [hy 3 (by decide), hz 11 (by decide) (by decide) (by decide)]
  · rw [hy 6 (by decide), hz 12 (by decide) (by decide) (by decide)]
  · rw [hz 8 (by decide) (by decide) (by decide)]
  · simp only [S0]; rw [upd_n (by decide), upd_n (by decide), upd_s]
  · simp only [S0]; rw [upd_s]; rfl
  · rw [hz 3 (by decide) (by decide) (by decide)]
  · rw [hz 16 (by decide) (by decide) (by decide)]
  · rw [hz 4 (by decide) (by decide) (by decide)]
  · simp only [S0]; rw [upd_n (by decide), upd_s]
  · rw [hz 15 (by decide) (by decide) (by decide)]
theorem c_run (hF : 200 ≤ F) (hK : ∀ x ∈ Q, 0 ≤ x.toInt ∧ x.toInt < 1000) (hc : c ≤ 60) (hway : way ≤ 5) {x0 : tX0} {x6 : tX6} {x1 : tX1} {xy xz : tX2} {xq : tX7} (hA : RA Q x0) :
    Tot (X0_run F (nI way) (nI c) x0 x6 x1 xy xz xq) (fun y => RC (runS true way c Q Q.length).1 y.2.1 y.2.2.1 y.2.2.2.1 y.2.2.2.2.1 ∧ RA Q y.1 ∧ y.1.2.2.2.2.1 = x0.2.2.2.2.1 ∧ y.1.2.2.2.2.2.2.2 = x0.2.2.2.2.2.2.2 ∧ y.1.2.2.2.2.2.2.1 = nI (runS true way c Q Q.length).2.1 ∧ ∀ q, q < Q.length → y.1.2.2.2.1 q = (runS true way c Q Q.length).2.2 q) := by
  have hem := c_empty (F := F) (x6 := x6) (x1 := x1) (xy := xy) (xz := xz) hF way c
  obtain ⟨K, nx, f, g, s, zz, hh, hs⟩ := x0
  obtain ⟨rfl, hl, hKK, hN⟩ := hA
  obtain ⟨hap, got, cap, wy, bal, wbt⟩ := x6
  obtain ⟨kK, kV, kW, kC, kL, kT, kP, sz, ld, pl, us, ag, hv⟩ := x1
  obtain ⟨yk, ys⟩ := xy
  obtain ⟨zk, zs⟩ := xz
  obtain ⟨qa, qb, qc, qd, qe, qs, ql, qp⟩ := xq
  rw [X0_run]
  refine tot_b hem (fun y hy => ?_)
  obtain ⟨⟨j1, j2, j3, j4, j5, j6⟩, ⟨j7, j8, j9, j10, j11, j12, j13, j14, j15, j16, j17, j18, j19⟩, ⟨j20, j21⟩, ⟨j22, j23⟩⟩ := y
  dsimp only at hy ⊢
  refine tot_b (c_runL (F := F) (f := f) (s := s) (hs := hs) hF hl hK hc hway hKK hN F 0 g 0 _ _ _ _ (qa, qb, qc, qd, qe, qs, ql, qp) trivial (by omega) (by omega) hy rfl (fun q hq => by omega)) (fun z ⟨z1, g', z2, z3⟩ => ?_)
  obtain ⟨a0, ⟨i1, i2, i3, i4, i5, i6⟩, ⟨i7, i8, i9, i10, i11, i12, i13, i14, i15, i16, i17, i18, i19⟩, ⟨i20, i21⟩, ⟨i22, i23⟩, ⟨i24, i25, i26, i27, i28, i29, i30, i31⟩⟩ := z
  dsimp only at z1 z2 z3 ⊢
  subst z2
  exact tot_s ⟨z1, ⟨rfl, hl, hKK, hN⟩, rfl, rfl, rfl, z3⟩
end CRun5
