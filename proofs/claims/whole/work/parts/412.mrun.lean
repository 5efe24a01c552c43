/-! the reference: as many go as must -/
def WNT (went : Nat → Int32) (m : Nat) (G : List Ev) (went' : Nat → Int32) : Prop := (∀ j (h : j < G.length), went' ((m + j) % 128) = (G[j]).2.1) ∧ ∀ q, (∀ j, j < G.length → q ≠ (m + j) % 128) → went' q = went q
theorem WNT.nil {went : Nat → Int32} {m : Nat} : WNT went m [] went := ⟨fun j h => by simp at h, fun _ _ => rfl⟩
theorem WNT.cons {went went' : Nat → Int32} {m : Nat} {g : Ev} {G : List Ev} (hl : G.length < 127) (h : WNT (upd went (m % 128) g.2.1) (m + 1) G went') : WNT went m (g :: G) went' := by
  refine ⟨fun j hj => ?_, fun q hq => ?_⟩
  · simp only [List.length_cons] at hj
    cases j with
    | zero =>
      simp only [Nat.add_zero, List.getElem_cons_zero]
      rw [h.2 (m % 128) (fun j hj => by omega), upd_s]
    | succ j =>
      have := h.1 j (by omega)
      rw [show m + 1 + j = m + (j + 1) by omega] at this
      simpa using this
  · have h0 : q ≠ m % 128 := by have := hq 0 (by simp); simpa using this
    rw [h.2 q (fun j hj => by have := hq (j + 1) (by simp; omega); rwa [show m + (j + 1) = m + 1 + j by omega] at this), upd_n h0]
theorem stopW_0 : stopW 0 = stopL := by funext S; simp [stopW, stopL]
theorem evS_len {S : SS} {e : En} {b : Nat} (ok : Ok b S) (he : e ∈ S.1) : (evS e S).1.length + 1 = S.1.length := delK_len ok.1.1 he
theorem chS_mem {S : SS} {e : En} {b : Nat} {but : Int32} (ok : Ok b S) (h : chS but S = some e) : e ∈ S.1 ∧ mayGo but e = true := chooseS_mem ok.1.2.1 h
section MRun
variable {F o : Nat} {sil : Int32}
theorem m_L101 (hF : 1000 ≤ F) (k v wt tl d : Int32) {v5 a : Int32} (hv : (v5 = 0 ∧ a = 0) ∨ (v5 = 1 ∧ a = wt)) (J : SS → Prop) (hJ1 : ∀ b S, Ok b S → OkW (S.2.2.2 2) → J S → stopW a S = false → chS k S ≠ none) (hJ2 : ∀ b S e, Ok b S → J S → chS k S = some e → J (evS e S)) :
    ∀ (n c b m : Nat) (S : SS) (E : List Ev) (w went t : Nat → Int32) (came : Int32), S.1.length ≤ c → c ≤ 60 → c < n → b + c < 2147483648 → m + c < 2147483647 → E.length + c < 2147480000 → RM S w o → Ok b S → OkW (S.2.2.2 2) → J S → QS sil E t came →
    Tot (X10_puts_L101 F n k v wt tl v5 w (nI o) went (nI m) t came d sil) (fun y => RM (evRun (stopW a) k d c S).1 y.1 o ∧ FrO w y.1 o ∧ WNT went m (evRun (stopW a) k d c S).2 y.2.1 ∧ y.2.2.1 = nI (m + (evRun (stopW a) k d c S).2.length) ∧ QS sil (E ++ (evRun (stopW a) k d c S).2) y.2.2.2.1 y.2.2.2.2 ∧ stopW a (evRun (stopW a) k d c S).1 = true) := by
  intro n
  induction n with
  | zero => intro c b m S E w went t came _ _ hn; omega
  | succ n ih =>
    intro c b m S E w went t came hl h60 hn hb hm hE h ok hw4 hJ hq
    have ho := h.ho
    have hF1 : 100 ≤ F := by omega
    have hld : X10_load F w (nI o) = some (sumBy eW S.1) := by
      obtain ⟨⟨L, p, hEM⟩, _⟩ := h
      rw [m_load hEM hF1, sumBy_perm eW p]
    have hcap : w (o + 1) = S.2.2.2 1 := h.2.2.2 1 (by omega) (by omega)
    have step : Tot (if sumBy eW S.1 + a ≤ S.2.2.2 1 then some (w, went, nI m, t, came) else (X10_evicts F k w (nI o) went (nI m) t came d sil).bind fun (r13, w14, e15, m16, t17, c18) => X10_puts_L101 F n k v wt tl v5 w14 (nI o) e15 m16 t17 c18 d sil) (fun y => RM (evRun (stopW a) k d c S).1 y.1 o ∧ FrO w y.1 o ∧ WNT went m (evRun (stopW a) k d c S).2 y.2.1 ∧ y.2.2.1 = nI (m + (evRun (stopW a) k d c S).2.length) ∧ QS sil (E ++ (evRun (stopW a) k d c S).2) y.2.2.2.1 y.2.2.2.2 ∧ stopW a (evRun (stopW a) k d c S).1 = true) := by
      by_cases cs : stopW a S = true
      · have cs2 : sumBy eW S.1 + a ≤ S.2.2.2 1 := by simpa [stopW] using cs
        rw [if_pos cs2, evRun_stop cs]
        exact tot_s ⟨h, FrO.rfl', WNT.nil, rfl, by simpa using hq, cs⟩
      · have cs1 : stopW a S = false := by simpa using cs
        have cs2 : ¬ sumBy eW S.1 + a ≤ S.2.2.2 1 := by simpa [stopW] using cs1
        rw [if_neg cs2]
        cases hc : chS k S with
        | none => exact absurd hc (hJ1 b S ok hw4 hJ cs1)
        | some e =>
          have hmem := (chS_mem ok hc).1
          have hlen := evS_len ok hmem
          obtain ⟨c', rfl⟩ : ∃ c', c = c' + 1 := ⟨c - 1, by omega⟩
          refine tot_b (m_evicts (went := went) h ok hw4 hF hq (by omega) (by omega) k d hc) (fun y ⟨_, g1, g2, g3, g4, g5⟩ => ?_)
          obtain ⟨y1, y2, y3, y4, y5, y6⟩ := y
          simp only at g1 g2 g3 g4 g5 ⊢
          subst g3; subst g4
          have := ih c' (b + 1) (m + 1) (evS e S) _ y2 (upd went (m % 128) (eK e)) y5 y6 (by omega) (by omega) (by omega) (by omega) (by omega) (by simp; omega) g1 (ok.ev (by omega)) (W4.ev (e := e) hw4) (hJ2 b S e ok hJ hc) g5
          rw [evRun_some cs1 hc]
          have hle := (evRun_ok (stop := stopW a) (but := k) (d := d) c' (b + 1) (evS e S) (ok.ev (by omega)) (by omega)).2
          refine tot_m this (fun z ⟨z1, z2, z3, z4, z5, z6⟩ => ⟨z1, g2.trans z2, WNT.cons (by omega) z3, ?_, ?_, z6⟩)
          · rw [z4, List.length_cons]; congr 1; omega
          · rw [List.append_assoc] at z5; exact z5
    rw [X10_puts_L101, hld]
    simp (disch := omega) only [nI_add, pn_add, pn_addl, pn_mul, pn_cl, pn_nlt0, false_or, pn_ge, pn_le, Nat.add_zero, Nat.zero_add, ↓reduceIte, Option.bind_some, nI_leI, nI_ltI, nI_eq, pn_ne1, pn_1ne, hcap]
    rcases hv with ⟨rfl, rfl⟩ | ⟨rfl, rfl⟩
    · rw [if_pos rfl]; exact step
    · rw [if_neg (by decide)]; exact step
def stop60 (S : SS) : Bool := decide (S.1.length ≠ 60)
theorem evRun_lt {wt but d : Int32} : ∀ (c b : Nat) (S : SS), Ok b S → b + c < 2147483648 → S.1.length < 60 → evRun (stopW wt) but d c S = evRun (stopT wt) but d c S
  | 0, b, S, _, _, _ => rfl
  | c + 1, b, S, ok, hb, hl => by
    have e1 : stopT wt S = stopW wt S := by simp [stopT, stopW, hl]
    by_cases cs : stopW wt S = true
    · rw [evRun_stop cs, evRun_stop (e1.trans cs)]
    · have cs1 : stopW wt S = false := by simpa using cs
      cases hc : chS but S with
      | none => rw [evRun_none hc, evRun_none hc]
      | some e =>
        have hlen := evS_len ok (chS_mem ok hc).1
        rw [evRun_some cs1 hc, evRun_some (e1.trans cs1) hc, evRun_lt c (b + 1) (evS e S) (ok.ev (by omega)) (by omega) (by omega)]
/-- room for one more: the two loops together -/
theorem m_room (hF : 1000 ≤ F) (k v wt tl d : Int32) (J : SS → Prop) (hJ1 : ∀ b S, Ok b S → OkW (S.2.2.2 2) → J S → stopT wt S = false → chS k S ≠ none) (hJ2 : ∀ b S e, Ok b S → J S → chS k S = some e → J (evS e S))
    {b m : Nat} {S : SS} {E : List Ev} {w went t : Nat → Int32} {came : Int32} (hb : b + 60 < 2147483648) (hm : m + 60 < 2147483647) (hE : E.length + 60 < 2147480000) (h : RM S w o) (ok : Ok b S) (hw4 : OkW (S.2.2.2 2)) (hJ : J S) (hq : QS sil E t came) :
    Tot ((X10_puts_L63 F F k v wt tl 1 w (nI o) went (nI m) t came d sil).bind fun (k56, k57, k58, k59, k60) => X10_puts_L101 F F k v wt tl 1 k56 (nI o) k57 k58 k59 k60 d sil) (fun y => RM (evRun (stopT wt) k d 60 S).1 y.1 o ∧ FrO w y.1 o ∧ WNT went m (evRun (stopT wt) k d 60 S).2 y.2.1 ∧ y.2.2.1 = nI (m + (evRun (stopT wt) k d 60 S).2.length) ∧ QS sil (E ++ (evRun (stopT wt) k d 60 S).2) y.2.2.2.1 y.2.2.2.2 ∧ stopT wt (evRun (stopT wt) k d 60 S).1 = true) := by
  have ho := h.ho
  have h60 := ok.1.2.2.1
  have hlw : ∀ S' : SS, ∀ w' : Nat → Int32, RM S' w' o → w' o = nI S'.1.length := fun S' w' h' => by
    obtain ⟨⟨L, p, hEM⟩, _⟩ := h'
    rw [hEM.1, p.length_eq]
  have run : ∀ (c b m : Nat) (S : SS) (E : List Ev) (w went t : Nat → Int32) (came : Int32), S.1.length ≤ c → S.1.length < 60 → c ≤ 60 → b + c < 2147483648 → m + c < 2147483647 → E.length + c < 2147480000 → RM S w o → Ok b S → OkW (S.2.2.2 2) → J S → QS sil E t came →
      Tot (X10_puts_L101 F F k v wt tl 1 w (nI o) went (nI m) t came d sil) (fun y => RM (evRun (stopT wt) k d c S).1 y.1 o ∧ FrO w y.1 o ∧ WNT went m (evRun (stopT wt) k d c S).2 y.2.1 ∧ y.2.2.1 = nI (m + (evRun (stopT wt) k d c S).2.length) ∧ QS sil (E ++ (evRun (stopT wt) k d c S).2) y.2.2.2.1 y.2.2.2.2 ∧ stopT wt (evRun (stopT wt) k d c S).1 = true) := by
    intro c b m S E w went t came hl hl60 hc hb hm hE h ok hw4 hJ hq
    have := m_L101 (o := o) (sil := sil) hF k v wt tl d (v5 := 1) (a := wt) (Or.inr ⟨rfl, rfl⟩) (fun S => J S ∧ S.1.length < 60)
      (fun b S ok hw hJ hs => hJ1 b S ok hw hJ.1 (by simp only [stopT, stopW] at hs ⊢; simp [hJ.2, hs]))
      (fun b S e ok hJ hc => ⟨hJ2 b S e ok hJ.1 hc, by have := evS_len ok (chS_mem ok hc).1; omega⟩)
      F c b m S E w went t came hl hc (by omega) hb hm hE h ok hw4 ⟨hJ, hl60⟩ hq
    have hlt : (evRun (stopW wt) k d c S).1.1.length < 60 := by
      have : ∀ (c b : Nat) (S : SS), Ok b S → b + c < 2147483648 → S.1.length < 60 → (evRun (stopW wt) k d c S).1.1.length < 60 := by
        intro c
        induction c with
        | zero => intro b S _ _ h; exact h
        | succ c ih =>
          intro b S ok hb hl
          by_cases cs : stopW wt S = true
          · rw [evRun_stop cs]; exact hl
          · cases hc : chS k S with
            | none => rw [evRun_none hc]; exact hl
            | some e =>
              rw [evRun_some (by simpa using cs) hc]
              have hlen := evS_len ok (chS_mem ok hc).1
              exact ih (b + 1) (evS e S) (ok.ev (by omega)) (by omega) (by omega)
      exact this c b S ok hb hl60
    rw [evRun_lt c b S ok hb hl60] at this hlt
    refine tot_m this (fun y ⟨y1, y2, y3, y4, y5, y6⟩ => ⟨y1, y2, y3, y4, y5, ?_⟩)
    simp only [stopT, stopW] at y6 ⊢
    simp [hlt, y6]
  obtain ⟨n, hn⟩ : ∃ n, F = n + 2 := ⟨F - 2, by omega⟩
  by_cases c60 : S.1.length = 60
  · have hne : chS k S ≠ none := hJ1 b S ok hw4 hJ (by simp [stopT, c60])
    cases hc : chS k S with
    | none => exact absurd hc hne
    | some e =>
      have hlen := evS_len ok (chS_mem ok hc).1
      have e1 : X10_puts_L63 F F k v wt tl 1 w (nI o) went (nI m) t came d sil = (X10_evicts F k w (nI o) went (nI m) t came d sil).bind fun (r47, w48, e49, m50, t51, c52) => X10_puts_L63 F (n + 1) k v wt tl 1 w48 (nI o) e49 m50 t51 c52 d sil := by
        conv => lhs; rw [show X10_puts_L63 F F = X10_puts_L63 F (n + 1 + 1) by rw [hn]]
        rw [X10_puts_L63]
        simp (disch := omega) only [nI_add, pn_add, pn_addl, pn_mul, pn_cl, pn_nlt0, false_or, pn_ge, pn_le, Nat.add_zero, Nat.zero_add, ↓reduceIte, Option.bind_some, nI_leI, nI_ltI, nI_eq, pn_ne1, pn_1ne, hlw S w h, c60]
        rw [if_pos (by decide)]
      rw [e1]
      refine tot_b (tot_b (m_evicts (went := went) h ok hw4 hF hq (by omega) (by omega) k d hc) (Q := fun (y : Int32 × (Nat → Int32) × (Nat → Int32) × Int32 × (Nat → Int32) × Int32) => y.1 = 1 ∧ RM (evS e S) y.2.1 o ∧ FrO w y.2.1 o ∧ y.2.2.1 = upd went (m % 128) (eK e) ∧ y.2.2.2.1 = nI (m + 1) ∧ QS sil (E ++ [gone d e]) y.2.2.2.2.1 y.2.2.2.2.2) (P := fun (z : (Nat → Int32) × (Nat → Int32) × Int32 × (Nat → Int32) × Int32) => RM (evS e S) z.1 o ∧ FrO w z.1 o ∧ z.2.1 = upd went (m % 128) (eK e) ∧ z.2.2.1 = nI (m + 1) ∧ QS sil (E ++ [gone d e]) z.2.2.2.1 z.2.2.2.2) (fun y ⟨_, g1, g2, g3, g4, g5⟩ => ?_)) (fun z hz => ?_)
      · obtain ⟨y1, y2, y3, y4, y5, y6⟩ := y
        simp only at g1 g2 g3 g4 g5 ⊢
        have hw2 := hlw _ _ g1
        rw [X10_puts_L63]
        simp (disch := omega) only [nI_add, pn_add, pn_addl, pn_mul, pn_cl, pn_nlt0, false_or, pn_ge, pn_le, Nat.add_zero, Nat.zero_add, ↓reduceIte, Option.bind_some, nI_leI, nI_ltI, nI_eq, pn_ne1, pn_1ne, hw2]
        rw [if_neg (by
          have : (evS e S).1.length < 60 := by omega
          intro hx
          exact absurd (nI_leI (a := 60) (b := (evS e S).1.length) (by omega) (by omega) |>.1 (by rw [hx]; decide)) (by omega))]
        exact tot_s ⟨g1, g2, g3, g4, g5⟩
      · obtain ⟨z1, z2, z3, z4, z5⟩ := z
        obtain ⟨g1, g2, g3, g4, g5⟩ := hz
        simp only at g1 g2 g3 g4 g5 ⊢
        subst g3; subst g4
        have hs1 : stopT wt S = false := by simp [stopT, c60]
        rw [evRun_some (n := 59) hs1 hc]
        have := run 59 (b + 1) (m + 1) (evS e S) _ z1 (upd went (m % 128) (eK e)) z4 z5 (by omega) (by omega) (by omega) (by omega) (by omega) (by simp; omega) g1 (ok.ev (by omega)) (W4.ev (e := e) hw4) (hJ2 b S e ok hJ hc) g5
        have hle := (evRun_ok (stop := stopT wt) (but := k) (d := d) 59 (b + 1) (evS e S) (ok.ev (by omega)) (by omega)).2
        refine tot_m this (fun z ⟨z1, z2, z3, z4, z5, z6⟩ => ⟨z1, g2.trans z2, WNT.cons (by omega) z3, ?_, ?_, z6⟩)
        · rw [z4, List.length_cons]; congr 1; omega
        · rw [List.append_assoc] at z5; exact z5
  · have e1 : X10_puts_L63 F F k v wt tl 1 w (nI o) went (nI m) t came d sil = some (w, went, nI m, t, came) := by
      conv => lhs; rw [show X10_puts_L63 F F = X10_puts_L63 F (n + 1 + 1) by rw [hn]]
      rw [X10_puts_L63]
      simp (disch := omega) only [nI_add, pn_add, pn_addl, pn_mul, pn_cl, pn_nlt0, false_or, pn_ge, pn_le, Nat.add_zero, Nat.zero_add, ↓reduceIte, Option.bind_some, nI_leI, nI_ltI, nI_eq, pn_ne1, pn_1ne, hlw S w h]
      rw [if_neg (by
          intro hx
          have hx2 : nI S.1.length = nI 60 := hx
          rw [nI_eq (by omega) (by omega)] at hx2
          exact c60 hx2)]
    rw [e1]
    exact run 60 b m S E w went t came (by omega) (by omega) (by omega) hb hm hE h ok hw4 hJ hq
theorem m_L40 (hF : 1000 ≤ F) (c0 d : Int32) :
    ∀ (n c b m : Nat) (v : Int32) (S : SS) (E : List Ev) (w went t : Nat → Int32) (came : Int32), S.1.length ≤ c → c ≤ 60 → c < n → b + c < 2147483648 → m + c < 2147483647 → E.length + c < 2147480000 → RM S w o → Ok b S → OkW (S.2.2.2 2) → S.2.2.2 1 = c0 → QS sil E t came →
    Tot (X10_caps_L40 F n c0 v w (nI o) went (nI m) t came d sil) (fun y => y.1 = v + nI (evRun stopL (-1) d c S).2.length ∧ RM (evRun stopL (-1) d c S).1 y.2.1 o ∧ FrO w y.2.1 o ∧ WNT went m (evRun stopL (-1) d c S).2 y.2.2.1 ∧ y.2.2.2.1 = nI (m + (evRun stopL (-1) d c S).2.length) ∧ QS sil (E ++ (evRun stopL (-1) d c S).2) y.2.2.2.2.1 y.2.2.2.2.2) := by
  intro n
  induction n with
  | zero => intro c b m v S E w went t came _ _ hn; omega
  | succ n ih =>
    intro c b m v S E w went t came hl h60 hn hb hm hE h ok hw4 hc0 hq
    have ho := h.ho
    have hF1 : 100 ≤ F := by omega
    have hld : X10_load F w (nI o) = some (sumBy eW S.1) := by
      obtain ⟨⟨L, p, hEM⟩, _⟩ := h
      rw [m_load hEM hF1, sumBy_perm eW p]
    rw [X10_caps_L40, hld]
    simp only [Option.bind_some]
    by_cases cs : stopL S = true
    · have cs2 : sumBy eW S.1 ≤ c0 := by rw [← hc0]; simpa [stopL] using cs
      rw [if_pos cs2, evRun_stop cs]
      exact tot_s ⟨by simp [nI_0], h, FrO.rfl', WNT.nil, rfl, by simpa using hq⟩
    · have cs1 : stopL S = false := by simpa using cs
      have cs2 : ¬ sumBy eW S.1 ≤ c0 := by rw [← hc0]; simpa [stopL] using cs1
      rw [if_neg cs2]
      cases hc : chS (-1) S with
      | none =>
        rw [m_evictsN h ok hw4 hF1 (-1) d hc, evRun_none hc]
        simp only [Option.bind_some, if_true]
        exact tot_s ⟨by simp [nI_0], h, FrO.rfl', WNT.nil, rfl, by simpa using hq⟩
      | some e =>
        have hmem := (chS_mem ok hc).1
        have hlen := evS_len ok hmem
        obtain ⟨c', rfl⟩ : ∃ c', c = c' + 1 := ⟨c - 1, by omega⟩
        refine tot_b (m_evicts (went := went) h ok hw4 hF hq (by omega) (by omega) (-1) d hc) (fun y ⟨g0, g1, g2, g3, g4, g5⟩ => ?_)
        obtain ⟨y1, y2, y3, y4, y5, y6⟩ := y
        simp only at g0 g1 g2 g3 g4 g5 ⊢
        subst g3; subst g4; subst g0
        rw [if_neg (by decide)]
        have := ih c' (b + 1) (m + 1) (v + 1) (evS e S) _ y2 (upd went (m % 128) (eK e)) y5 y6 (by omega) (by omega) (by omega) (by omega) (by omega) (by simp; omega) g1 (ok.ev (by omega)) (W4.ev (e := e) hw4) (by simp only [evS]; rw [upd_n (by decide), upd_n (by decide)]; exact hc0) g5
        rw [evRun_some cs1 hc]
        have hle := (evRun_ok (stop := stopL) (but := -1) (d := d) c' (b + 1) (evS e S) (ok.ev (by omega)) (by omega)).2
        refine tot_m this (fun z ⟨z0, z1, z2, z3, z4, z5⟩ => ⟨?_, z1, g2.trans z2, WNT.cons (by omega) z3, ?_, ?_⟩)
        · rw [z0, List.length_cons, Int32.add_assoc, Int32.add_comm 1, nI_1]
        · rw [z4, List.length_cons]; congr 1; omega
        · rw [List.append_assoc] at z5; exact z5
end MRun
