/-! as many go as must -/
abbrev chS (but : Int32) (S : SS) : Option En := chooseS (S.2.2.2 2) but (S.2.2.2 3) (S.2.2.2 16) S.1
abbrev gone (d : Int32) (e : En) : Ev := (2, eK e, eV e, eW e, d)
def evRun (stop : SS → Bool) (but d : Int32) : Nat → SS → SS × List Ev
  | 0, S => (S, [])
  | n + 1, S => if stop S then (S, []) else match chS but S with
    | none => (S, [])
    | some e => ((evRun stop but d n (evS e S)).1, gone d e :: (evRun stop but d n (evS e S)).2)
theorem evRun_stop {stop : SS → Bool} {but d : Int32} {n : Nat} {S : SS} (h : stop S = true) : evRun stop but d n S = (S, []) := by
  cases n with
  | zero => rfl
  | succ n => rw [evRun, if_pos h]
theorem evRun_none {stop : SS → Bool} {but d : Int32} {n : Nat} {S : SS} (h : chS but S = none) : evRun stop but d n S = (S, []) := by
  cases n with
  | zero => rfl
  | succ n =>
    rw [evRun]
    split
    · rfl
    · rw [h]
theorem evRun_some {stop : SS → Bool} {but d : Int32} {n : Nat} {S : SS} {e : En} (hs : stop S = false) (h : chS but S = some e) : evRun stop but d (n + 1) S = ((evRun stop but d n (evS e S)).1, gone d e :: (evRun stop but d n (evS e S)).2) := by
  rw [evRun, hs, h]; rfl
theorem evRun_ok {stop : SS → Bool} {but d : Int32} : ∀ (n b : Nat) (S : SS), Ok b S → b + n < 2147483648 → Ok (b + n) (evRun stop but d n S).1 ∧ (evRun stop but d n S).2.length ≤ n
  | 0, b, S, h, _ => ⟨h, Nat.le_refl _⟩
  | n + 1, b, S, h, hb => by
    have up : Ok (b + (n + 1)) S := by
      obtain ⟨h1, h2, h3, n1, n2, n3, n4, n5, n6, n7, n8, n9, n10⟩ := h
      exact ⟨h1, h2, h3, n1, n2, n3, n4, n5, n6, by omega, n8, n9, by omega⟩
    by_cases hs : stop S = true
    · rw [evRun_stop hs]; exact ⟨up, by simp⟩
    · have hs' : stop S = false := by simpa using hs
      cases hc : chS but S with
      | none => rw [evRun_none hc]; exact ⟨up, by simp⟩
      | some e =>
        rw [evRun_some hs' hc]
        have ih := evRun_ok (stop := stop) (but := but) (d := d) n (b + 1) (evS e S) (h.ev (by omega)) (by omega)
        refine ⟨?_, ?_⟩
        · rw [show b + (n + 1) = b + 1 + n by omega]; exact ih.1
        · simp only [List.length_cons]; omega
def stopL (S : SS) : Bool := decide (sumBy eW S.1 ≤ S.2.2.2 1)
def stopW (w : Int32) (S : SS) : Bool := decide (sumBy eW S.1 + w ≤ S.2.2.2 1)
def stopT (w : Int32) (S : SS) : Bool := decide (S.1.length < 60) && decide (sumBy eW S.1 + w ≤ S.2.2.2 1)
theorem Ok.up {b c : Nat} {S : SS} (h : Ok b S) (hc : b ≤ c) : Ok c S := by
  obtain ⟨h1, h2, h3, n1, n2, n3, n4, n5, n6, n7, n8, n9, n10⟩ := h
  exact ⟨h1, h2, h3, n1, n2, n3, n4, n5, n6, by omega, n8, n9, by omega⟩
section CRun
variable {F : Nat}
theorem c_L111 (hF : 100 ≤ F) (k v wt s : Int32) : ∀ (n i b : Nat) (S : SS) (E : List Ev) (x6 : tX6) (x1 : tX1) (xy xz : tX2) (xq : tX7), i ≤ 60 → 60 - i < n → b + 100 < 2147483648 + i → RC S x6 x1 xy xz → Ok b S → QC E xq →
    Tot (X6_bring_L111 F n k v wt s (nI i) x6 x1 xy xz xq) (fun y => RC (evRun stopL k (dep xq) (60 - i) S).1 y.1 y.2.1 y.2.2.1 y.2.2.2.1 ∧ QC (E ++ (evRun stopL k (dep xq) (60 - i) S).2) y.2.2.2.2 ∧ dep y.2.2.2.2 = dep xq) := by
  intro n
  induction n with
  | zero => intro i b S E x6 x1 xy xz xq _ hn; omega
  | succ n ih =>
    intro i b S E x6 x1 xy xz xq hi hn hb h ok hq
    obtain ⟨hap, got, cap, wy, bal, wbt⟩ := x6
    obtain ⟨kK, kV, kW, kC, kL, kT, kP, sz, ld, pl, us, ag, hv⟩ := x1
    obtain ⟨yk, ys⟩ := xy
    obtain ⟨zk, zs⟩ := xz
    obtain ⟨qa, qb, qc, qd, qe, qs, ql, qp⟩ := xq
    have hR := h
    obtain ⟨⟨L, p, hE⟩, hld, hpl, hy, hz, n1, n2, n3, n4, n5, n6, n7, n8, n9, n10, n11, n12⟩ := h
    have hlen := hE.2.1
    rw [X6_bring_L111]
    by_cases c60 : 60 ≤ i
    · rw [if_pos (by exact nI_le (a := 60) c60 (by omega))]
      rw [show 60 - i = 0 by omega]
      exact tot_s ⟨hR, by simpa [evRun] using hq, rfl⟩
    rw [if_neg (by exact nI_ge (b := 60) (by omega) (by omega))]
    have hst : (ld ≤ cap) ↔ (stopL : SS → Bool) S = true := by rw [hld, n6]; simp [stopL]
    by_cases cs : (stopL : SS → Bool) S = true
    · rw [if_pos (hst.2 cs), evRun_stop cs]
      exact tot_s ⟨hR, by simpa using hq, rfl⟩
    rw [if_neg (fun x => cs (hst.1 x))]
    by_cases cs2 : False
    · exact cs2.elim

    · have cs' : (stopL : SS → Bool) S = false := by simpa using cs
      have hch := RC.choose hR ok hF wy k
      rw [n7] at hch ⊢
      rw [n7] at hR
      refine tot_b hch (fun r hr => ?_)
      cases hc : chS k S with
      | none =>
        rw [show chooseS (S.2.2.2 2) k (S.2.2.2 3) (S.2.2.2 16) S.1 = none from hc] at hr
        obtain ⟨L', p', hE', hi'⟩ := hr
        rcases hi' with ⟨rfl, _⟩ | ⟨j, hj, rfl, he⟩
        · rw [c_evictN]
          simp only [Option.bind_some]
          have := ih (i + 1) b S E _ _ _ _ _ (by omega) (by omega) (by omega) hR ok hq
          rw [evRun_none hc] at this ⊢
          rw [nI_1]
          exact this
        · cases he
      | some e =>
        rw [show chooseS (S.2.2.2 2) k (S.2.2.2 3) (S.2.2.2 16) S.1 = some e from hc] at hr
        refine tot_b (c_evict hR ok hF hq hr) (fun y ⟨g1, g2, g3⟩ => ?_)
        obtain ⟨y6, y1, yy, yz, yq⟩ := y
        have := ih (i + 1) (b + 1) (evS e S) _ y6 y1 yy yz yq (by omega) (by omega) (by omega) g1 (ok.ev (by omega)) g2
        rw [show 60 - i = (60 - (i + 1)) + 1 by omega, evRun_some cs' hc, nI_1]
        have g3' : dep yq = qp := g3
        rw [g3'] at this
        rw [List.append_assoc] at this
        exact this
theorem c_L53 (hF : 100 ≤ F) (c0 : Int32) : ∀ (n i b : Nat) (S : SS) (E : List Ev) (x6 : tX6) (x1 : tX1) (xy xz : tX2) (xq : tX7), i ≤ 60 → 60 - i < n → b + 100 < 2147483648 + i → RC S x6 x1 xy xz → Ok b S → QC E xq →
    Tot (X6_recap_L53 F n c0 (nI i) x6 x1 xy xz xq) (fun y => RC (evRun stopL (-1) (dep xq) (60 - i) S).1 y.1 y.2.1 y.2.2.1 y.2.2.2.1 ∧ QC (E ++ (evRun stopL (-1) (dep xq) (60 - i) S).2) y.2.2.2.2 ∧ dep y.2.2.2.2 = dep xq) := by
  intro n
  induction n with
  | zero => intro i b S E x6 x1 xy xz xq _ hn; omega
  | succ n ih =>
    intro i b S E x6 x1 xy xz xq hi hn hb h ok hq
    obtain ⟨hap, got, cap, wy, bal, wbt⟩ := x6
    obtain ⟨kK, kV, kW, kC, kL, kT, kP, sz, ld, pl, us, ag, hv⟩ := x1
    obtain ⟨yk, ys⟩ := xy
    obtain ⟨zk, zs⟩ := xz
    obtain ⟨qa, qb, qc, qd, qe, qs, ql, qp⟩ := xq
    have hR := h
    obtain ⟨⟨L, p, hE⟩, hld, hpl, hy, hz, n1, n2, n3, n4, n5, n6, n7, n8, n9, n10, n11, n12⟩ := h
    have hlen := hE.2.1
    rw [X6_recap_L53]
    by_cases c60 : 60 ≤ i
    · rw [if_pos (by exact nI_le (a := 60) c60 (by omega))]
      rw [show 60 - i = 0 by omega]
      exact tot_s ⟨hR, by simpa [evRun] using hq, rfl⟩
    rw [if_neg (by exact nI_ge (b := 60) (by omega) (by omega))]
    have hst : (ld ≤ cap) ↔ (stopL : SS → Bool) S = true := by rw [hld, n6]; simp [stopL]
    by_cases cs : (stopL : SS → Bool) S = true
    · rw [if_pos (hst.2 cs), evRun_stop cs]
      exact tot_s ⟨hR, by simpa using hq, rfl⟩
    rw [if_neg (fun x => cs (hst.1 x))]
    by_cases cs2 : False
    · exact cs2.elim

    · have cs' : (stopL : SS → Bool) S = false := by simpa using cs
      have hch := RC.choose hR ok hF wy (-1)
      rw [n7] at hch ⊢
      rw [n7] at hR
      refine tot_b hch (fun r hr => ?_)
      cases hc : chS (-1) S with
      | none =>
        rw [show chooseS (S.2.2.2 2) (-1) (S.2.2.2 3) (S.2.2.2 16) S.1 = none from hc] at hr
        obtain ⟨L', p', hE', hi'⟩ := hr
        rcases hi' with ⟨rfl, _⟩ | ⟨j, hj, rfl, he⟩
        · rw [c_evictN]
          simp only [Option.bind_some]
          have := ih (i + 1) b S E _ _ _ _ _ (by omega) (by omega) (by omega) hR ok hq
          rw [evRun_none hc] at this ⊢
          rw [nI_1]
          exact this
        · cases he
      | some e =>
        rw [show chooseS (S.2.2.2 2) (-1) (S.2.2.2 3) (S.2.2.2 16) S.1 = some e from hc] at hr
        refine tot_b (c_evict hR ok hF hq hr) (fun y ⟨g1, g2, g3⟩ => ?_)
        obtain ⟨y6, y1, yy, yz, yq⟩ := y
        have := ih (i + 1) (b + 1) (evS e S) _ y6 y1 yy yz yq (by omega) (by omega) (by omega) g1 (ok.ev (by omega)) g2
        rw [show 60 - i = (60 - (i + 1)) + 1 by omega, evRun_some cs' hc, nI_1]
        have g3' : dep yq = qp := g3
        rw [g3'] at this
        rw [List.append_assoc] at this
        exact this
theorem c_L46 (hF : 100 ≤ F) (k v wt tl s : Int32) : ∀ (n i b : Nat) (S : SS) (E : List Ev) (x6 : tX6) (x1 : tX1) (xy xz : tX2) (xq : tX7), i ≤ 60 → 60 - i < n → b + 100 < 2147483648 + i → RC S x6 x1 xy xz → Ok b S → QC E xq →
    Tot (X6_bring_L46 F n k v wt tl s (nI i) x6 x1 xy xz xq) (fun y => RC (evRun (stopT wt) k (dep xq) (60 - i) S).1 y.1 y.2.1 y.2.2.1 y.2.2.2.1 ∧ QC (E ++ (evRun (stopT wt) k (dep xq) (60 - i) S).2) y.2.2.2.2 ∧ dep y.2.2.2.2 = dep xq) := by
  intro n
  induction n with
  | zero => intro i b S E x6 x1 xy xz xq _ hn; omega
  | succ n ih =>
    intro i b S E x6 x1 xy xz xq hi hn hb h ok hq
    obtain ⟨hap, got, cap, wy, bal, wbt⟩ := x6
    obtain ⟨kK, kV, kW, kC, kL, kT, kP, sz, ld, pl, us, ag, hv⟩ := x1
    obtain ⟨yk, ys⟩ := xy
    obtain ⟨zk, zs⟩ := xz
    obtain ⟨qa, qb, qc, qd, qe, qs, ql, qp⟩ := xq
    have hR := h
    obtain ⟨⟨L, p, hE⟩, hld, hpl, hy, hz, n1, n2, n3, n4, n5, n6, n7, n8, n9, n10, n11, n12⟩ := h
    have hlen := hE.2.1
    rw [X6_bring_L46]
    by_cases c60 : 60 ≤ i
    · rw [if_pos (by exact nI_le (a := 60) c60 (by omega))]
      rw [show 60 - i = 0 by omega]
      exact tot_s ⟨hR, by simpa [evRun] using hq, rfl⟩
    rw [if_neg (by exact nI_ge (b := 60) (by omega) (by omega))]
    have hti : X6_isTight F wt (hap, got, cap, wy, bal, wbt) (kK, kV, kW, kC, kL, kT, kP, sz, ld, pl, us, ag, hv) = some (bi (!(stopT wt S))) := by
      rw [X6_isTight, hE.1, hld, n6, p.length_eq]
      have hl2 := p.length_eq
      by_cases c1 : S.1.length < 60
      · rw [if_neg (by exact nI_ge (b := 60) c1 (by omega))]
        by_cases c2 : sumBy eW S.1 + wt ≤ S.2.2.2 1 <;> simp [stopT, c1, c2, bi]
      · rw [if_pos (by exact nI_le (a := 60) (by omega) (by omega))]
        simp [stopT, c1, bi]
    rw [hti]
    simp only [Option.bind_some]
    by_cases cs : (stopT wt : SS → Bool) S = true
    · rw [cs, if_pos (show bi (!true) = 0 from rfl), evRun_stop cs]
      exact tot_s ⟨hR, by simpa using hq, rfl⟩
    rw [show stopT wt S = false by simpa using cs, if_neg (show ¬ bi (!false) = 0 by decide)]
    by_cases cs2 : False
    · exact cs2.elim

    · have cs' : ((stopT wt) : SS → Bool) S = false := by simpa using cs
      have hch := RC.choose hR ok hF wy k
      rw [n7] at hch ⊢
      rw [n7] at hR
      refine tot_b hch (fun r hr => ?_)
      cases hc : chS k S with
      | none =>
        rw [show chooseS (S.2.2.2 2) k (S.2.2.2 3) (S.2.2.2 16) S.1 = none from hc] at hr
        obtain ⟨L', p', hE', hi'⟩ := hr
        rcases hi' with ⟨rfl, _⟩ | ⟨j, hj, rfl, he⟩
        · rw [c_evictN]
          simp only [Option.bind_some]
          have := ih (i + 1) b S E _ _ _ _ _ (by omega) (by omega) (by omega) hR ok hq
          rw [evRun_none hc] at this ⊢
          rw [nI_1]
          exact this
        · cases he
      | some e =>
        rw [show chooseS (S.2.2.2 2) k (S.2.2.2 3) (S.2.2.2 16) S.1 = some e from hc] at hr
        refine tot_b (c_evict hR ok hF hq hr) (fun y ⟨g1, g2, g3⟩ => ?_)
        obtain ⟨y6, y1, yy, yz, yq⟩ := y
        have := ih (i + 1) (b + 1) (evS e S) _ y6 y1 yy yz yq (by omega) (by omega) (by omega) g1 (ok.ev (by omega)) g2
        rw [show 60 - i = (60 - (i + 1)) + 1 by omega, evRun_some cs' hc, nI_1]
        have g3' : dep yq = qp := g3
        rw [g3'] at this
        rw [List.append_assoc] at this
        exact this
end CRun
