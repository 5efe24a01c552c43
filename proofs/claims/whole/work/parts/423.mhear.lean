/-! one event is heard by all: the reference -/
def FrH (w w' : Nat → Int32) (o : Nat) : Prop := ∀ q, (q < o ∨ o + 548 ≤ q) → w' q = w q
theorem FrH.rfl' {w : Nat → Int32} {o : Nat} : FrH w w o := fun _ _ => rfl
theorem FrH.trans {a b c : Nat → Int32} {o : Nat} (h1 : FrH a b o) (h2 : FrH b c o) : FrH a c o := fun q hq => (h2 q hq).trans (h1 q hq)
theorem FrO.H {a b : Nat → Int32} {o : Nat} (h : FrO a b o) : FrH a b o := fun q hq => h q (by omega)
theorem RM.far {S : SS} {w w' : Nat → Int32} {o : Nat} (h : RM S w o) (hf : ∀ q, o ≤ q → q < o + 476 → w' q = w q) : RM S w' o := by
  obtain ⟨⟨L, p, hE⟩, hy, hz, hN⟩ := h
  have ho := hy.2.1
  exact ⟨⟨L, p, EM.same hE (hf _ (by omega) (by omega)) (fun q _ _ => hf q (by omega) (by omega))⟩, GM.same hy (hf _ (by omega) (by omega)) (fun q _ _ => hf q (by omega) (by omega)), GM.same hz (hf _ (by omega) (by omega)) (fun q _ _ => hf q (by omega) (by omega)), fun q q1 q2 => by rw [hf _ (by omega) (by omega)]; exact hN q q1 q2⟩
section MHear
variable {F o n : Nat} {sil : Int32}
theorem m_L125 (hF : 1000 ≤ F) {kind key v d : Int32} (hv : VOk v) (k1 : 0 ≤ key.toInt) (k2 : key.toInt < 1000) (v1 v2 : Int32) :
    ∀ (f c j b m : Nat) (cnt : Int32) (H : Nat → Nat → Int32) (S : SS) (E : List Ev) (w went t : Nat → Int32) (came : Int32), j + c = n → n ≤ 8 → c < f → b + 64 * c + 200 < 2147483648 → m + 60 * c < 2147483600 → E.length + 61 * c + 100 < 2147480000 → RM S w o → Ok2 b S → (∀ i, i < n → OkH (H i)) → QS sil E t came → LM n H w o →
    Tot (X10_done_L125 F f v1 v2 kind key v cnt (nI j) w (nI o) went (nI m) t came d sil) (fun y => y.1 = (hearL kind key v d c j (cnt, H, S, E)).1 ∧ RM (hearL kind key v d c j (cnt, H, S, E)).2.2.1 y.2.1 o ∧ QS sil (hearL kind key v d c j (cnt, H, S, E)).2.2.2 y.2.2.2.2.1 y.2.2.2.2.2 ∧ (∃ m', y.2.2.2.1 = nI m' ∧ m' ≤ m + 60 * c) ∧ LM n (hearL kind key v d c j (cnt, H, S, E)).2.1 y.2.1 o ∧ FrH w y.2.1 o) := by
  intro f
  induction f with
  | zero => intro c j b m cnt H S E w went t came _ _ hm; omega
  | succ f ih =>
    intro c j b m cnt H S E w went t came hj hn8 hm hb hmm hEl h hS hH hq hL
    have ho := h.ho
    obtain ⟨_, hL7, hL2⟩ := id hL
    rw [X10_done_L125]
    simp (disch := omega) only [nI_add, pn_add, pn_addl, pn_mul, pn_cl, pn_nlt0, false_or, pn_ge, pn_le, Nat.add_zero, Nat.zero_add, ↓reduceIte, Option.bind_some, nI_leI, nI_ltI, nI_eq, pn_ne1, pn_1ne, hL7]
    by_cases c0 : c = 0
    · subst c0
      have e : j = n := by omega
      subst e
      rw [if_pos (Nat.le_refl _)]
      exact tot_s ⟨rfl, h, hq, ⟨m, rfl, by omega⟩, hL, FrH.rfl'⟩
    obtain ⟨c', rfl⟩ : ∃ c', c = c' + 1 := ⟨c - 1, by omega⟩
    have hjn : j < n := by omega
    have hh := hH j hjn
    have l0 : w (o + 476 + 9 * j) = H j 0 := hL2 j 0 hjn (by omega)
    have l1 := hL2 j 1 hjn (by omega)
    have l2 := hL2 j 2 hjn (by omega)
    have l6 := hL2 j 6 hjn (by omega)
    have l7 := hL2 j 7 hjn (by omega)
    have l8 := hL2 j 8 hjn (by omega)
    rw [if_neg (by omega)]
    have hd2 : ¬ H j 1 = 0 := by intro e; have := hh.1.1; rw [e] at this; exact absurd this (by decide)
    have hhb : X10_isHeardBy F (nI j) kind key w (nI o) = some (bi (hearsB (H j) kind key)) := by
      rw [X10_isHeardBy, X10_hearerAt]
      simp (maxSteps := 3000000) (disch := omega) only [nI_add, pn_add, pn_addl, pn_mul, pn_cl, pn_nlt0, false_or, pn_ge, pn_le, Nat.add_zero, Nat.zero_add, ↓reduceIte, Option.bind_some, nI_leI, nI_ltI, nI_eq, pn_ne1, pn_1ne, l0, l1, l2, l6, hd2]
      by_cases o6 : H j 6 = 1
      · rw [if_pos o6]
        by_cases o0 : H j 0 = -1
        · rw [if_pos o0]
          by_cases o2 : key - key / H j 1 * H j 1 = H j 2
          · rw [if_pos o2]; simp [hearsB, o6, o0, o2, bi]
          · rw [if_neg o2]; simp [hearsB, o2, bi]
        · rw [if_neg o0]
          by_cases o1 : H j 0 = kind
          · rw [if_pos o1]
            by_cases o2 : key - key / H j 1 * H j 1 = H j 2
            · rw [if_pos o2]; simp [hearsB, o6, o1, o2, bi]
            · rw [if_neg o2]; simp [hearsB, o2, bi]
          · rw [if_neg o1]; simp [hearsB, o0, o1, bi]
      · rw [if_neg o6]; simp [hearsB, o6, bi]
    rw [hhb]
    simp only [Option.bind_some]
    rw [hearL]
    cases hb2 : hearsB (H j) kind key with
    | false =>
      rw [if_pos (show bi false = 0 from rfl), if_neg (show ¬ false = true by decide)]
      refine tot_m (ih c' (j + 1) b m cnt H S E w went t came (by omega) hn8 (by omega) (by omega) (by omega) (by omega) h hS hH hq hL) (fun y ⟨g0, g1, g2, ⟨m', g3, g4⟩, g5, g6⟩ => ⟨g0, g1, g2, ⟨m', g3, by omega⟩, g5, g6⟩)
    | true =>
      rw [if_neg (show ¬ bi true = 0 by decide), if_pos rfl, X10_hearerAt]
      simp (disch := omega) only [nI_add, pn_add, pn_addl, pn_mul, pn_cl, pn_nlt0, false_or, pn_ge, pn_le, Nat.add_zero, Nat.zero_add, ↓reduceIte, Option.bind_some, nI_leI, nI_ltI, nI_eq, pn_ne1, pn_1ne, l7]
      rw [upd_n (by omega), l8]
      generalize hw1 : upd w (o + 476 + 9 * j + 7) (H j 7 + 1) = w1
      have fw1 : ∀ q, q ≠ o + 476 + 9 * j + 7 → w1 q = w q := fun q hq => by rw [← hw1, upd_n hq]
      have hR1 : RM S w1 o := h.far (fun q _ _ => fw1 q (by omega))
      have hL1 : LM n (updH H j false) w1 o → True := fun _ => trivial
      have hLx : LM n (fun i q => if i = j ∧ q = 7 then H j 7 + 1 else H i q) w1 o := by
        refine ⟨hn8, by rw [fw1 _ (by omega)]; exact hL7, fun i q hi hq2 => ?_⟩
        by_cases cc : i = j ∧ q = 7
        · obtain ⟨rfl, rfl⟩ := cc
          simp only [and_self, if_true]; rw [← hw1, upd_s]
        · simp only [cc, if_false]; rw [fw1 _ (by omega)]; exact hL2 i q hi hq2
      have hHx : OkH ((fun i q => if i = j ∧ q = 7 then H j 7 + 1 else H i q) j) := by simpa [OkH] using hh
      have hact := m_acts (went := went) (m := m) (d := d) hR1 hS hF (by omega) (by omega) (by omega) hq hLx hjn hHx hv k1 k2
      have hae : actS ((fun i q => if i = j ∧ q = 7 then H j 7 + 1 else H i q) j) key v d S = actS (H j) key v d S := by
        simp [actS]
      rw [hae] at hact
      refine tot_b hact (fun y ⟨g0, g1, g2, ⟨m', g3, g3'⟩, g4⟩ => ?_)
      obtain ⟨r, y2, y3, y4, y5, y6⟩ := y
      simp only at g0 g1 g2 g3 g4 ⊢
      subst g3
      rw [g0, m_flag]
      simp only [Option.bind_some]
      obtain ⟨a1', a2', a3', a4'⟩ := act_ok (d := d) hS hh (by omega) hv k1 k2
      generalize hw3 : upd y2 (o + 476 + 9 * j + 8) (H j 8 + bi (actS (H j) key v d S).1) = w3
      have fw3 : ∀ q, q ≠ o + 476 + 9 * j + 8 → w3 q = y2 q := fun q hq => by rw [← hw3, upd_n hq]
      have hR3 : RM (actS (H j) key v d S).2.1 w3 o := g1.far (fun q _ _ => fw3 q (by omega))
      have h77 : (actS (H j) key v d S).2.1.2.2.2 7 = S.2.2.2 7 := act_sc (by simp [keepQ])
      have hL3 : LM n (updH H j (actS (H j) key v d S).1) w3 o := by
        refine ⟨hn8, ?_, fun i q hi hq2 => ?_⟩
        · rw [fw3 _ (by omega), g1.2.2.2 7 (by omega) (by omega), h77, ← h.2.2.2 7 (by omega) (by omega)]; exact hL7
        · by_cases ci : i = j
          · subst ci
            by_cases c7 : q = 7
            · subst c7; rw [fw3 _ (by omega), g2 _ (by omega), ← hw1, upd_s]; simp [updH]
            · by_cases c8 : q = 8
              · subst c8; rw [← hw3, upd_s]; simp [updH]
              · rw [fw3 _ (by omega), g2 _ (by omega), fw1 _ (by omega), hL2 i q hi hq2]; simp [updH, c7, c8]
          · rw [fw3 _ (by omega), g2 _ (by omega), fw1 _ (by omega), hL2 i q hi hq2]; simp [updH, ci]
      refine tot_m (ih c' (j + 1) (b + 64) m' (cnt + 1) (updH H j (actS (H j) key v d S).1) (actS (H j) key v d S).2.1 (E ++ (actS (H j) key v d S).2.2) w3 y3 y5 y6 (by omega) hn8 (by omega) (by omega) (by omega) (by simp; omega) hR3 a1' (fun i hi => updH_ok (hH i hi)) g4 hL3) (fun z ⟨z0, z1, z2, ⟨m2, z3, z4⟩, z5, z6⟩ => ⟨z0, z1, z2, ⟨m2, z3, by omega⟩, z5, fun q hq2 => ?_⟩)
      rw [z6 q hq2, fw3 _ (by omega), g2 q (by omega), fw1 _ (by omega)]
end MHear
/-! the log: the latest first, forty at most -/
abbrev Lg : Type := Int32 × Int32 × Int32 × Int32 × Int32
def addL (e : Lg) (G : List Lg) : List Lg := (e :: G).take 40
theorem addL_len (e : Lg) (G : List Lg) : (addL e G).length = min 40 (G.length + 1) := by simp [addL]; omega
theorem addL_get {e : Lg} {G : List Lg} {j : Nat} (h : j < (addL e G).length) : (addL e G)[j] = if h0 : j = 0 then e else G[j - 1]'(by rw [addL_len] at h; omega) := by
  simp only [addL, List.getElem_take]
  cases j with
  | zero => simp
  | succ j => simp
def GLc (G : List Lg) : tX4 → Prop
  | (a, b, c, d, e, sz, nx) => ∃ x, nx = nI x ∧ x < 40 ∧ sz = nI G.length ∧ G.length ≤ 40 ∧ (G.length < 40 → x = G.length) ∧ ∀ k (h : k < G.length), G[k] = (a ((x + 39 - k) % 40), b ((x + 39 - k) % 40), c ((x + 39 - k) % 40), d ((x + 39 - k) % 40), e ((x + 39 - k) % 40))
def GLm (G : List Lg) (w : Nat → Int32) (o : Nat) : Prop := w (o + 18) = nI G.length ∧ G.length ≤ 40 ∧ ∀ k (h : k < G.length), G[k] = (w (o + 548 + 5 * k), w (o + 548 + 5 * k + 1), w (o + 548 + 5 * k + 2), w (o + 548 + 5 * k + 3), w (o + 548 + 5 * k + 4))
theorem c_log {F : Nat} {G : List Lg} {a b c d e : Nat → Int32} {sz nx : Int32} (h : GLc G (a, b, c, d, e, sz, nx)) (p1 p2 p3 p4 p5 : Int32) : Tot (X4_add F p1 p2 p3 p4 p5 a b c d e sz nx) (fun y => GLc (addL (p1, p2, p3, p4, p5) G) y) := by
  obtain ⟨x, rfl, hx, rfl, hl, hlt, hg⟩ := h
  have e40 : (if (40 : Int32) < nI G.length + 1 then (40 : Int32) else nI G.length + 1) = nI (min 40 (G.length + 1)) := by
    rw [nI_1]
    by_cases c1 : G.length + 1 ≤ 40
    · rw [if_neg (by exact nI_nlt (a := 40) (by omega) (by omega)), Nat.min_eq_right c1]
    · rw [if_pos (by exact nI_lt (a := 40) (by omega) (by omega)), Nat.min_eq_left (by omega)]; rfl
  have erem : nI x + 1 - (nI x + 1) / 40 * 40 = nI ((x + 1) % 40) := by rw [nI_1]; exact pk_rem (d := 40) (by omega) (by omega) (by omega)
  rw [X4_add, e40, erem]
  simp (disch := omega) only [nI_add, pn_add, pn_addl, pn_mul, pn_cl, pn_nlt0, false_or, pn_ge, pn_le, Nat.add_zero, Nat.zero_add, ↓reduceIte, Option.bind_some, nI_leI, nI_ltI, nI_eq, pn_ne1, pn_1ne]
  refine tot_s ⟨(x + 1) % 40, rfl, Nat.mod_lt _ (by omega), by rw [addL_len], by rw [addL_len]; omega, fun hh => ?_, fun k hk => ?_⟩
  · rw [addL_len] at hh ⊢
    have := hlt (by omega)
    rw [Nat.mod_eq_of_lt (by omega)]; omega
  · rw [addL_get hk]
    rw [addL_len] at hk
    by_cases c0 : k = 0
    · subst c0
      have e0 : ((x + 1) % 40 + 39 - 0) % 40 = x := by omega
      rw [e0, upd_s, upd_s, upd_s, upd_s, upd_s]; rfl
    · have e1 : ((x + 1) % 40 + 39 - k) % 40 = (x + 39 - (k - 1)) % 40 := by omega
      have e2 : (x + 39 - (k - 1)) % 40 ≠ x := by omega
      simp only [c0, dite_false]
      rw [e1, upd_n e2, upd_n e2, upd_n e2, upd_n e2, upd_n e2]
      exact hg (k - 1) (by omega)
theorem m_log {F o : Nat} {G : List Lg} {w : Nat → Int32} (ho : o + 848 ≤ 3392) (hF : 1000 ≤ F) (h : GLm G w o) (p1 p2 p4 p5 dd : Int32) : Tot (X10_logs F p1 p2 p4 p5 w (nI o) dd) (fun w' => GLm (addL (p1, p2, dd - 1, p4, p5) G) w' o ∧ ∀ q, q ≠ o + 18 → (q < o + 548 ∨ o + 748 ≤ q) → w' q = w q) := by
  obtain ⟨h0, hl, hg⟩ := h
  obtain ⟨m, hm⟩ : ∃ m, m + 1 = min 40 (G.length + 1) := ⟨min 40 (G.length + 1) - 1, by omega⟩
  have el : X10_lesser F 40 (nI (G.length + 1)) = some (nI (m + 1)) := by
    rw [lesser_eq]
    by_cases c : G.length + 1 ≤ 40
    · rw [if_pos (by exact nI_le (b := 40) c (by omega))]; congr 2; omega
    · rw [if_neg (by exact nI_ge (a := 40) (by omega) (by omega))]; rw [show m + 1 = 40 by omega]; rfl
  rw [X10_logs]
  simp (disch := omega) only [nI_add, pn_add, pn_addl, pn_mul, pn_cl, pn_nlt0, false_or, pn_ge, pn_le, Nat.add_zero, Nat.zero_add, ↓reduceIte, Option.bind_some, nI_leI, nI_ltI, nI_eq, pn_ne1, pn_1ne, h0, el, upd_s]
  rw [show nI (5 * (m + 1)) - 1 = nI (5 * m + 4) from by rw [show 5 * (m + 1) = 5 * m + 4 + 1 by omega]; exact nI_pred _]
  generalize hx : upd w (o + 18) (nI (m + 1)) = x
  have fx : ∀ q, q ≠ o + 18 → x q = w q := fun q hq => by rw [← hx, upd_n hq]
  refine tot_b (Q := fun y => ∀ q, y q = if o + 548 + 5 ≤ q ∧ q ≤ o + 548 + (5 * m + 4) then x (q - 5) else x q) ?_ (fun y hy => tot_s ⟨⟨?_, ?_, ?_⟩, ?_⟩)
  · refine tot_down (fun n i y => X10_logs_L49 F n p1 p2 p4 p5 (nI i) y (nI o)) (fun i y => 4 ≤ i ∧ i ≤ 5 * m + 4 ∧ ∀ q, y q = if o + 548 + i < q ∧ q ≤ o + 548 + (5 * m + 4) then x (q - 5) else x q) 4 ?_ ?_ F (5 * m + 4) x (by omega) (by omega) ⟨by omega, Nat.le_refl _, fun q => by rw [if_neg (by omega)]⟩
    · intro n y ⟨_, _, hy⟩
      rw [X10_logs_L49, if_pos (by decide)]
      refine tot_s (fun q => ?_)
      rw [hy q]
      by_cases c : o + 548 + 4 < q ∧ q ≤ o + 548 + (5 * m + 4)
      · rw [if_pos c, if_pos (by omega)]
      · rw [if_neg c, if_neg (by omega)]
    · intro n i y hi4 ⟨_, hi, hy⟩ ih
      rw [X10_logs_L49, if_neg (by exact nI_nlt (b := 5) (by omega) (by omega)), pk_m1]
      have e5 : nI o + 548 + nI (i + 1) - 5 = nI (o + 548 + (i + 1) - 5) := by
        simp (disch := omega) only [nI_add, pn_add]; exact pk_sub (b := 5) (by omega)
      rw [e5]
      simp (disch := omega) only [nI_add, pn_add, pn_addl, pn_mul, pn_cl, pn_nlt0, false_or, pn_ge, pn_le, Nat.add_zero, Nat.zero_add, ↓reduceIte, Option.bind_some, nI_leI, nI_ltI, nI_eq, pn_ne1, pn_1ne]
      refine ih _ ⟨by omega, by omega, fun q => ?_⟩
      by_cases c : q = o + 548 + (i + 1)
      · subst c; rw [upd_s, if_pos (by omega), hy, if_neg (by omega)]
      · rw [upd_n c, hy]
        by_cases c2 : o + 548 + (i + 1) < q ∧ q ≤ o + 548 + (5 * m + 4)
        · rw [if_pos c2, if_pos (by omega)]
        · rw [if_neg c2, if_neg (by omega)]
  · rw [upd_n (by omega), upd_n (by omega), upd_n (by omega), upd_n (by omega), upd_n (by omega), hy, if_neg (by omega), ← hx, upd_s, addL_len, hm]
  · rw [addL_len]; omega
  · intro k hk
    rw [addL_get hk]
    rw [addL_len] at hk
    by_cases c0 : k = 0
    · subst c0
      simp (disch := omega) only [upd_s, upd_n, Nat.mul_zero, Nat.add_zero]
      rfl
    · simp only [c0, dite_false]
      rw [hg (k - 1) (by omega)]
      have rd : ∀ q, o + 548 + 5 ≤ q → q ≤ o + 548 + (5 * m + 4) → upd (upd (upd (upd (upd y (o + 548) p1) (o + 548 + 1) p2) (o + 548 + 2) (dd - 1)) (o + 548 + 3) p4) (o + 548 + 4) p5 q = w (q - 5) := by
        intro q q1 q2
        rw [upd_n (by omega), upd_n (by omega), upd_n (by omega), upd_n (by omega), upd_n (by omega), hy, if_pos ⟨q1, q2⟩, fx _ (by omega)]
      rw [rd _ (by omega) (by omega), rd _ (by omega) (by omega), rd _ (by omega) (by omega), rd _ (by omega) (by omega), rd _ (by omega) (by omega)]
      rw [show o + 548 + 5 * k - 5 = o + 548 + 5 * (k - 1) by omega, show o + 548 + 5 * k + 1 - 5 = o + 548 + 5 * (k - 1) + 1 by omega, show o + 548 + 5 * k + 2 - 5 = o + 548 + 5 * (k - 1) + 2 by omega, show o + 548 + 5 * k + 3 - 5 = o + 548 + 5 * (k - 1) + 3 by omega, show o + 548 + 5 * k + 4 - 5 = o + 548 + 5 * (k - 1) + 4 by omega]
  · intro q q1 q2
    rw [upd_n (by omega), upd_n (by omega), upd_n (by omega), upd_n (by omega), upd_n (by omega), hy, if_neg (by omega), fx q q1]
