/-! a use, on both sides -/
def useS (k : Int32) (S : SS) : SS := (useL S.1 k (S.2.2.2 4) (S.2.2.2 6), S.2.1, S.2.2.1, upd (upd S.2.2.2 4 (S.2.2.2 4 + 1)) 15 (if (S.2.2.2 4 + 1) - (S.2.2.2 4 + 1) / S.2.2.2 6 * S.2.2.2 6 = 0 then S.2.2.2 15 + 1 else S.2.2.2 15))
theorem sumBy_map {α β : Type} (f : β → Int32) (g : α → β) (l : List α) : sumBy f (l.map g) = sumBy (fun e => f (g e)) l := by
  induction l with
  | nil => rfl
  | cons e l ih => simp [sumBy, ih]
theorem sum_mod {f : En → Int32} {k : Int32} {g : En → En} {L : List En} (h : ∀ e, f (g e) = f e) : sumBy f (modK k g L) = sumBy f L := by
  rw [modK, sumBy_map]
  refine sumBy_congr (fun e _ => ?_)
  split
  · exact h e
  · rfl
theorem sum_use {f : En → Int32} {k u a : Int32} {L : List En} (h1 : ∀ v e, f (usedE v e) = f e) (h2 : ∀ e, f (halveE e) = f e) : sumBy f (useL L k u a) = sumBy f L := by
  rw [useL]
  split
  · rw [sumBy_map, sumBy_congr (fun e _ => h2 e), sum_mod (h1 _)]
  · rw [sum_mod (h1 _)]
theorem useL_perm {L M : List En} {k u a : Int32} (p : L.Perm M) : (useL L k u a).Perm (useL M k u a) := by
  rw [useL, useL]
  split
  · exact (modK_perm p).map _
  · exact modK_perm p
theorem useL_len {L : List En} {k u a : Int32} : (useL L k u a).length = L.length := by
  rw [useL]; split <;> simp [modK]
theorem useL_keys {L : List En} {k u a : Int32} : (useL L k u a).map eK = L.map eK := by
  have h1 : (modK k (usedE (u + 1)) L).map eK = L.map eK := by
    rw [modK, List.map_map]
    refine List.map_congr_left (fun e _ => ?_)
    simp only [Function.comp]; split <;> rfl
  rw [useL]
  split
  · rw [List.map_map, ← h1]; rfl
  · exact h1
theorem useL_lasts {L : List En} {k u a : Int32} : (useL L k u a).map eL = L.map (fun e => if eK e = k then u + 1 else eL e) := by
  have h1 : (modK k (usedE (u + 1)) L).map eL = L.map (fun e => if eK e = k then u + 1 else eL e) := by
    rw [modK, List.map_map]
    refine List.map_congr_left (fun e _ => ?_)
    simp only [Function.comp]; split <;> rfl
  rw [useL]
  split
  · rw [List.map_map, ← h1]; rfl
  · exact h1
theorem c_half {c : Int32} (h1 : 0 ≤ c.toInt) (h2 : c.toInt ≤ 999999) : 1 ≤ (if c / 2 < 1 then 1 else c / 2).toInt ∧ (if c / 2 < 1 then (1 : Int32) else c / 2).toInt ≤ 999999 := by
  have hh := i32_half (c := c)
  rw [Int.tdiv_eq_ediv_of_nonneg h1] at hh
  have e1 : (1 : Int32).toInt = 1 := by decide
  split
  · rw [e1]; omega
  · rename_i hc
    rw [i32_lt, e1] at hc; omega
theorem c_inc {c : Int32} (h1 : 0 ≤ c.toInt) (h2 : c.toInt ≤ 999999) : 1 ≤ (if 999999 < c + 1 then 999999 else c + 1).toInt ∧ (if 999999 < c + 1 then (999999 : Int32) else c + 1).toInt ≤ 999999 := by
  have e1 : (1 : Int32).toInt = 1 := by decide
  have e9 : (999999 : Int32).toInt = 999999 := by decide
  have ea : (c + 1).toInt = c.toInt + 1 := by rw [i32_add (by omega) (by omega), e1]
  split
  · rw [e9]; omega
  · rename_i hc
    rw [i32_lt, ea, e9] at hc; omega
/-- fit to be used: the one of key k may be new -/
def OkEk (k u t : Int32) (e : En) : Prop := 0 ≤ (eK e).toInt ∧ (eK e).toInt < 1000 ∧ 1 ≤ (eW e).toInt ∧ (eW e).toInt ≤ 99 ∧ 0 ≤ (eC e).toInt ∧ (eC e).toInt ≤ 999999 ∧ (eK e ≠ k → 1 ≤ (eC e).toInt ∧ (eL e).toInt ≤ u.toInt) ∧ (eT e = -1 ∨ t.toInt < (eT e).toInt) ∧ (eP e = 0 ∨ eP e = 1) ∧ VOk (eV e)
theorem OkE.k {k u t : Int32} {e : En} (h : OkE u t e) : OkEk k u t e := by
  obtain ⟨a1, a2, a3, a4, a5, a6, a7, a8, a9⟩ := h
  exact ⟨a1, a2, a3, a4, by omega, a6, fun _ => ⟨a5, a7⟩, a8, a9⟩
theorem OkL_use {k u t a : Int32} {L : List En} (hk : (L.map eK).Nodup) (hl : L.Pairwise (fun e f => eK e = k ∨ eK f = k ∨ eL e ≠ eL f)) (h60 : L.length ≤ 60) (hE : ∀ e ∈ L, OkEk k u t e) (hu0 : 0 ≤ u.toInt) (hu : u.toInt + 1 < 2147483648) : OkL (u + 1) t (useL L k u a) := by
  have e1 : (1 : Int32).toInt = 1 := by decide
  have eu : (u + 1).toInt = u.toInt + 1 := by rw [i32_add (by omega) (by omega), e1]
  refine ⟨by rw [useL_keys]; exact hk, ?_, by rw [useL_len]; exact h60, ?_⟩
  · rw [useL_lasts, List.Nodup, List.pairwise_map]
    have hk' : L.Pairwise (fun e f => eK e ≠ eK f) := by rw [List.Nodup, List.pairwise_map] at hk; exact hk
    refine (hk'.and hl).imp_of_mem (fun {e f} he hf hh => ?_)
    obtain ⟨h1, h2⟩ := hh
    by_cases c1 : eK e = k
    · by_cases c2 : eK f = k
      · exact absurd (c1.trans c2.symm) h1
      · simp only [c1, c2, if_true, if_false]
        intro hx
        have := ((hE f hf).2.2.2.2.2.2.1 c2).2
        rw [← hx, eu] at this; omega
    · by_cases c2 : eK f = k
      · simp only [c1, c2, if_true, if_false]
        intro hx
        have := ((hE e he).2.2.2.2.2.2.1 c1).2
        rw [hx, eu] at this; omega
      · simp only [c1, c2, if_false]
        rcases h2 with h2 | h2 | h2
        · exact absurd h2 c1
        · exact absurd h2 c2
        · exact h2
  · have h1 : ∀ e ∈ modK k (usedE (u + 1)) L, OkE (u + 1) t e := by
      intro e he
      rw [modK, List.mem_map] at he
      obtain ⟨f, hf, rfl⟩ := he
      obtain ⟨a1, a2, a3, a4, a5, a6, a7, a8, a9⟩ := hE f hf
      by_cases c : eK f = k
      · simp only [c, if_true]
        have := c_inc a5 a6
        exact ⟨a1, a2, a3, a4, this.1, this.2, Int.le_refl _, a8, a9⟩
      · simp only [c, if_false]
        obtain ⟨b1, b2⟩ := a7 c
        exact ⟨a1, a2, a3, a4, b1, a6, by rw [eu]; omega, a8, a9⟩
    intro e he
    rw [useL] at he
    split at he
    · rw [List.mem_map] at he
      obtain ⟨f, hf, rfl⟩ := he
      obtain ⟨a1, a2, a3, a4, a5, a6, a7, a8, a9⟩ := h1 f hf
      have := c_half (c := eC f) (by omega) a6
      exact ⟨a1, a2, a3, a4, this.1, this.2, a7, a8, a9⟩
    · exact h1 e he
theorem Ok.use {b : Nat} {S : SS} {k : Int32} (h : Ok b S) (hb : b + 1 < 2147483648) : Ok (b + 1) (useS k S) := by
  obtain ⟨h1, h2, h3, n1, n2, n3, n4, n5, n6, n7, n8, n9, n10⟩ := h
  have e1 : (1 : Int32).toInt = 1 := by decide
  have eu : (S.2.2.2 4 + 1).toInt = (S.2.2.2 4).toInt + 1 := by rw [i32_add (by omega) (by omega), e1]
  refine ⟨?_, h2, h3, ?_⟩
  · have hl : S.1.Pairwise (fun e f => eK e = k ∨ eK f = k ∨ eL e ≠ eL f) := by
      have := h1.2.1
      rw [List.Nodup, List.pairwise_map] at this
      exact this.imp (fun hh => Or.inr (Or.inr hh))
    have := OkL_use (k := k) (a := S.2.2.2 6) h1.1 hl h1.2.2.1 (fun e he => (h1.2.2.2 e he).k) n6 (by omega)
    simpa [useS, upd] using this
  · simp only [useS, OkN]
    simp only [upd_n (show 1 ≠ 15 by decide), upd_n (show 1 ≠ 4 by decide), upd_n (show 2 ≠ 15 by decide), upd_n (show 2 ≠ 4 by decide), upd_n (show 3 ≠ 15 by decide), upd_n (show 3 ≠ 4 by decide), upd_n (show 4 ≠ 15 by decide), upd_s, upd_n (show 6 ≠ 15 by decide), upd_n (show 6 ≠ 4 by decide), upd_n (show 16 ≠ 15 by decide), upd_n (show 16 ≠ 4 by decide)]
    exact ⟨n1, n2, n3, n4, n5, by omega, by omega, n8, n9, by omega⟩
section UseBoth
variable {F o : Nat} {S : SS} {e : En} {r : Int32}
theorem RC.use {hap : Nat → Int32} {got cap wy bal wbt : Int32} {kK kV kW kC kL kT kP : Nat → Int32} {sz ld pl us ag hv : Int32} {xy xz : tX2} (h : RC S (hap, got, cap, wy, bal, wbt) (kK, kV, kW, kC, kL, kT, kP, sz, ld, pl, us, ag, hv) xy xz) (hn : (S.1.map eK).Nodup) (ha : 0 < S.2.2.2 6) (hF : 100 ≤ F)
    (hx : IXC S.1 (some e) r (kK, kV, kW, kC, kL, kT, kP, sz, ld, pl, us, ag, hv)) :
    Tot (X1_use F r kC kL sz us ag hv) (fun q => RC (useS (eK e) S) (hap, got, cap, wy, bal, wbt) (kK, kV, kW, q.1, q.2.1, kT, kP, sz, ld, pl, q.2.2.1, ag, q.2.2.2) xy xz) := by
  obtain ⟨_, hld, hpl, hy, hz, n1, n2, n3, n4, n5, n6, n7, n8, n9, n10, n11, n12⟩ := h
  obtain ⟨L, p, hE, hi⟩ := hx
  rcases hi with ⟨_, hi⟩ | ⟨i, hi, rfl, he⟩
  · cases hi
  simp only [Option.some.injEq] at he
  have hnL : (L.map eK).Nodup := (p.map eK).nodup_iff.2 hn
  refine tot_m (c_use hE hnL hi hF us ag hv (by rw [n11]; exact ha)) (fun q ⟨q1, q2, q3⟩ => ⟨⟨_, ?_, q1⟩, ?_, ?_, hy, hz, ?_⟩)
  · simp only [useS]; rw [he, n10, n11]; exact useL_perm p
  · simp only [useS]; rw [sum_use (f := eW) (fun _ _ => rfl) (fun _ => rfl)]; exact hld
  · simp only [useS]; rw [sum_use (f := pinA) (fun _ _ => rfl) (fun _ => rfl)]; exact hpl
  · simp only [useS, NC]
    simp only [upd_n (show 9 ≠ 15 by decide), upd_n (show 9 ≠ 4 by decide), upd_n (show 10 ≠ 15 by decide), upd_n (show 10 ≠ 4 by decide), upd_n (show 11 ≠ 15 by decide), upd_n (show 11 ≠ 4 by decide), upd_n (show 12 ≠ 15 by decide), upd_n (show 12 ≠ 4 by decide), upd_n (show 8 ≠ 15 by decide), upd_n (show 8 ≠ 4 by decide), upd_n (show 1 ≠ 15 by decide), upd_n (show 1 ≠ 4 by decide), upd_n (show 2 ≠ 15 by decide), upd_n (show 2 ≠ 4 by decide), upd_n (show 3 ≠ 15 by decide), upd_n (show 3 ≠ 4 by decide), upd_n (show 4 ≠ 15 by decide), upd_s, upd_n (show 6 ≠ 15 by decide), upd_n (show 6 ≠ 4 by decide), upd_n (show 16 ≠ 15 by decide), upd_n (show 16 ≠ 4 by decide)]
    refine ⟨n1, n2, n3, n4, n5, n6, n7, n8, n9, ?_, n11, ?_⟩
    · rw [q2, n10]
    · rw [q3, n10, n11, n12]
theorem RM.use {w : Nat → Int32} (h : RM S w o) (hn : (S.1.map eK).Nodup) (ha : 0 < S.2.2.2 6) (hF : 100 ≤ F) (hx : IXM S.1 (some e) r w o) :
    Tot (X10_uses F r w (nI o)) (fun w' => RM (useS (eK e) S) w' o ∧ FrO w w' o) := by
  obtain ⟨_, hy, hz, hN⟩ := h
  have ho := hy.2.1
  obtain ⟨L, p, hE, hi⟩ := hx
  rcases hi with ⟨_, hi⟩ | ⟨i, hi, rfl, he⟩
  · cases hi
  simp only [Option.some.injEq] at he
  have hnL : (L.map eK).Nodup := (p.map eK).nodup_iff.2 hn
  have h6 := hN 6 (by omega) (by omega)
  have h4 := hN 4 (by omega) (by omega)
  have h15 := hN 15 (by omega) (by omega)
  have ha2 : w (o + 6) ≠ 0 := by rw [h6]; intro e; rw [e] at ha; exact absurd ha (by decide)
  refine tot_m (m_uses hE hnL hi ha2 hF) (fun w' ⟨q1, q2, q3, q4⟩ => ⟨⟨⟨_, ?_, q1⟩, ?_, ?_, fun q hq1 hq2 => ?_⟩, fun q hq => q4 q (by omega) (by omega) (by omega)⟩)
  · simp only [useS]; rw [he, h4, h6]; exact useL_perm p
  · exact GM.same hy (q4 _ (by omega) (by omega) (by omega)) (fun q _ _ => q4 q (by omega) (by omega) (by omega))
  · exact GM.same hz (q4 _ (by omega) (by omega) (by omega)) (fun q _ _ => q4 q (by omega) (by omega) (by omega))
  · simp only [useS]
    by_cases c15 : q = 15
    · subst c15; rw [upd_s, q3, h4, h6, h15]
    · rw [upd_n c15]
      by_cases c4 : q = 4
      · subst c4; rw [upd_s, q2, h4]
      · rw [upd_n c4, q4 _ (by omega) (by omega) (by omega), hN q hq1 hq2]
end UseBoth
