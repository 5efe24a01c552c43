/-! tick: the loops of both sides -/
def evE (e : En) : Ev := (3, eK e, eV e, eW e, 0)
def tS (L : List En) (n : Int32) (S : SS) : SS := (L, S.2.1, S.2.2.1, upd S.2.2.2 11 n)
theorem upd_upd {f : Nat → Int32} {k : Nat} {x y : Int32} : upd (upd f k x) k y = upd f k y := by
  funext q
  by_cases c : q = k
  · subst c; rw [upd_s, upd_s]
  · rw [upd_n c, upd_n c, upd_n c]
theorem tS_lose {L : List En} {n k : Int32} {S : SS} : withE (delK k (tS L n S).1) (if 3 = 3 then setN 11 ((tS L n S).2.2.2 11 + 1) (tS L n S) else tS L n S) = tS (delK k L) (n + 1) S := by
  rw [if_pos rfl]; simp only [withE, setN, tS, upd_s, upd_upd]
theorem okTS {b : Nat} {S : SS} {L : List En} {n : Int32} (ok : Ok b S) (hL : OkL (S.2.2.2 4) (S.2.2.2 5) L) : Ok b (tS L n S) := by
  obtain ⟨_, h2, h3, h4⟩ := ok
  refine ⟨?_, h2, h3, ?_⟩
  · simp only [tS]; rw [upd_n (by decide), upd_n (by decide)]; exact hL
  · simp only [tS, OkN]
    rw [upd_n (by decide), upd_n (by decide), upd_n (by decide), upd_n (by decide), upd_n (by decide), upd_n (by decide)]
    exact h4
section TickC
variable {F b : Nat} {S : SS} {xy xz : tX2} {lc tt ls dpp v2 : Int32}
theorem c_lapse (hF : 100 ≤ F) (ok : Ok b S) : ∀ (c i f k : Nat) (L : List En) (E : List Ev) (x6 : tX6) (x1 : tX1) (xq : tX7), i + c = 60 → c < f → OkL (S.2.2.2 4) (S.2.2.2 5) L → RC (tS L (S.2.2.2 11 + nI k) S) x6 x1 xy xz → QC E xq → dep xq = 0 →
    Tot (X8_callTick_L32 F f v2 (nI i) (lc, tt, ls, dpp) x6 x1 xq) (fun y => RC (tS (lapL tt c L).1 (S.2.2.2 11 + nI (k + (lapL tt c L).2.length)) S) y.1 y.2.1 xy xz ∧ QC (E ++ (lapL tt c L).2.map evE) y.2.2 ∧ dep y.2.2 = 0) := by
  intro c
  induction c with
  | zero =>
    intro i f k L E x6 x1 xq hi hf hL hR hq hd
    obtain ⟨f, rfl⟩ : ∃ k, f = k + 1 := ⟨f - 1, by omega⟩
    obtain rfl : i = 60 := by omega
    obtain ⟨hap, got, cap, wy, bal, wbt⟩ := x6
    obtain ⟨kK, kV, kW, kC, kL, kT, kP, sz, ld, pl, us, ag, hvv⟩ := x1
    obtain ⟨qa, qb, qc, qd, qe, qs, ql, qp⟩ := xq
    rw [X8_callTick_L32, if_pos (by decide)]
    refine tot_s ⟨hR, ?_, hd⟩
    simp only [lapL, List.map_nil, List.append_nil]; exact hq
  | succ c ih =>
    intro i f k L E x6 x1 xq hi hf hL hR hq hd
    obtain ⟨f, rfl⟩ : ∃ k, f = k + 1 := ⟨f - 1, by omega⟩
    have okL := okTS (n := S.2.2.2 11 + nI k) ok hL
    have hlose := fun (e : En) (r : Int32) (hx : IXC (tS L (S.2.2.2 11 + nI k) S).1 (some e) r x1) => c_lose (F := F) hR okL hq 3 (Or.inl rfl) hx
    have hn60 : ¬ (60 : Int32) ≤ nI i := by
      have e60 : (60 : Int32).toInt = 60 := by decide
      rw [i32_le, nI_toInt (by omega)]; omega
    have hpos : ∃ M, M.Perm L ∧ EC M x1.1 x1.2.1 x1.2.2.1 x1.2.2.2.1 x1.2.2.2.2.1 x1.2.2.2.2.2.1 x1.2.2.2.2.2.2.1 x1.2.2.2.2.2.2.2.1 := by
      obtain ⟨hap, got, cap, wy, bal, wbt⟩ := x6
      obtain ⟨kK, kV, kW, kC, kL, kT, kP, sz, ld, pl, us, ag, hvv⟩ := x1
      exact hR.1
    obtain ⟨M, hp, hE⟩ := hpos
    have hsoon := c_soonest hE hF tt
    rw [best_perm lin_sooner (nd_last (hL.perm hp).2.1) hp] at hsoon
    have hRx := hR
    obtain ⟨hap, got, cap, wy, bal, wbt⟩ := x6
    obtain ⟨kK, kV, kW, kC, kL, kT, kP, sz, ld, pl, us, ag, hvv⟩ := x1
    obtain ⟨qa, qb, qc, qd, qe, qs, ql, qp⟩ := xq
    rw [X8_callTick_L32, if_neg hn60]
    refine tot_b hsoon (fun r hr => ?_)
    rcases hr with ⟨rfl, hb⟩ | ⟨j, hj, rfl, hb⟩
    · rw [c_loseN, Option.bind_some]
      dsimp only
      rw [nI_1, lap_none hb]
      have := ih (i + 1) f k L E _ _ _ (by omega) (by omega) hL hRx hq hd
      rw [lap_none hb] at this
      exact this
    · rw [lap_some hb]
      refine tot_b (hlose _ _ ⟨M, hp, hE, Or.inr ⟨j, hj, rfl, rfl⟩⟩) (fun y ⟨y0, y1, y2⟩ => ?_)
      obtain ⟨⟨j1, j2, j3, j4, j5, j6⟩, ⟨j7, j8, j9, j10, j11, j12, j13, j14, j15, j16, j17, j18, j19⟩, ⟨j24, j25, j26, j27, j28, j29, j30, j31⟩⟩ := y
      rw [tS_lose, Int32.add_assoc, nI_1] at y0
      have y1' : QC (E ++ [evE M[j]]) (j24, j25, j26, j27, j28, j29, j30, j31) := by
        have : dep (qa, qb, qc, qd, qe, qs, ql, qp) = 0 := hd
        rw [this] at y1
        exact y1
      dsimp only
      rw [nI_1]
      have := ih (i + 1) f (k + 1) (delK (eK M[j]) L) (E ++ [evE M[j]]) _ _ _ (by omega) (by omega) (hL.del _) y0 y1' (y2.trans hd)
      refine tot_m this (fun z ⟨z0, z1, z2⟩ => ⟨?_, ?_, z2⟩)
      · rw [show k + 1 + (lapL tt c (delK (eK M[j]) L)).2.length = k + (M[j] :: (lapL tt c (delK (eK M[j]) L)).2).length from by simp only [List.length_cons]; omega] at z0
        exact z0
      · rw [List.append_assoc] at z1; exact z1
end TickC
section TickM
variable {F : Nat}
theorem m_lapse (hF : 1000 ≤ F) {s v1 v3 : Int32} : ∀ (c f k : Nat) (L M : List En) (w t : Nat → Int32) (came v4 : Int32) (E : List Ev), M.Perm L → EM M w 0 → IX M (best sooner (okT s) L) v4 → w 5 = s → (L.map eK).Nodup → (L.map eL).Nodup → (∀ e ∈ L, eT e = -1 ∨ s ≤ eT e) → L.length ≤ c → c < f → QS 0 E t came → E.length + c < 2147480000 →
    Tot (X10_tick_L44 F f v1 (nI k) v3 v4 w 0 t came 0 0) (fun y => y.1 = nI (k + (lapL s c L).2.length) ∧ (∃ M', M'.Perm (lapL s c L).1 ∧ EM M' y.2.1 0) ∧ (∀ q, q ≠ 0 → (q < 24 ∨ 444 ≤ q) → y.2.1 q = w q) ∧ QS 0 (E ++ (lapL s c L).2.map evE) y.2.2.1 y.2.2.2) := by
  intro c
  induction c with
  | zero =>
    intro f k L M w t came v4 E hp hE hx h5 n1 n2 hT hl hf hq hb
    obtain ⟨f, rfl⟩ : ∃ k, f = k + 1 := ⟨f - 1, by omega⟩
    have hl0 : L = [] := List.eq_nil_of_length_eq_zero (by omega)
    subst hl0
    have : v4 = -1 := by
      rcases hx with ⟨h, _⟩ | ⟨j, hj, _, h⟩
      · exact h
      · simp [best] at h
    rw [X10_tick_L44, if_pos this]
    refine tot_s ⟨rfl, ⟨M, hp, hE⟩, fun _ _ _ => rfl, ?_⟩
    simp only [lapL, List.map_nil, List.append_nil]; exact hq
  | succ c ih =>
    intro f k L M w t came v4 E hp hE hx h5 n1 n2 hT hl hf hq hb
    obtain ⟨f, rfl⟩ : ∃ k, f = k + 1 := ⟨f - 1, by omega⟩
    have m60 := hE.2.1
    rw [X10_tick_L44]
    rcases hx with ⟨rfl, hbn⟩ | ⟨j, hj, rfl, hbs⟩
    · rw [if_pos rfl, lap_none hbn]
      refine tot_s ⟨rfl, ⟨M, hp, hE⟩, fun _ _ _ => rfl, ?_⟩
      simp only [List.map_nil, List.append_nil]; exact hq
    · rw [if_neg (by simp (disch := omega) only [nI_add, pn_add, pn_addl, pn_mul, pn_cl, pn_nlt0, false_or, pn_ge, pn_le, Nat.add_zero, Nat.zero_add, ↓reduceIte, Option.bind_some, nI_leI, nI_ltI, nI_eq, pn_ne1, pn_1ne]; simp), lap_some hbs]
      have hm : M[j] ∈ L := hp.mem_iff.1 (List.getElem_mem hj)
      refine tot_e (m_of0 (o := 0) hE hj) (tot_e (m_of1 (o := 0) hE hj) (tot_e (m_of2 (o := 0) hE hj) ?_))
      refine tot_b (m_tells (F := F) hq (by omega) 3 (eK M[j]) (eV M[j]) (eW M[j]) 0) (fun y hy => ?_)
      obtain ⟨t', came'⟩ := y
      dsimp only
      refine tot_b (m_goes (F := F) (o := 0) hE ((hp.map eK).nodup_iff.2 n1) hj hF) (fun u ⟨e1, fu⟩ => ?_)
      have hp2 : (M.eraseIdx j).Perm (delK (eK M[j]) L) := by
        have hp1 : (M[j] :: M.eraseIdx j).Perm M := by
          have h1 := List.eraseIdx_eq_take_drop_succ M j
          rw [h1]
          have e2 : M = M.take j ++ (M[j] :: M.drop (j + 1)) := by simp
          refine (List.perm_middle.symm).trans ?_
          rw [← e2]
        exact (delK_of ((hp.map eK).nodup_iff.2 n1) hp1).trans (delK_perm hp)
      obtain ⟨d1, d2⟩ := nd_delK (k := eK M[j]) n1 n2
      have hT' : ∀ e ∈ delK (eK M[j]) L, eT e = -1 ∨ s ≤ eT e := fun e he => hT e (mem_delK.1 he).1
      have hlen := delK_len n1 hm
      have hu5 : u 5 = s := by rw [fu 5 (by omega) (by omega)]; exact h5
      have hfo := m_firstOver e1 (show 100 ≤ F by omega)
      rw [hu5, best_tick ((hp2.map eL).nodup_iff.2 d2) (fun e he => hT' e (hp2.mem_iff.1 he)), best_perm lin_sooner (nd_last ((hp2.map eL).nodup_iff.2 d2)) hp2] at hfo
      refine tot_b hfo (fun r hr => ?_)
      rw [nI_1]
      refine tot_m (ih f (k + 1) (delK (eK M[j]) L) (M.eraseIdx j) u t' came' r (E ++ [evE M[j]]) hp2 e1 hr hu5 d1 d2 hT' (by omega) (by omega) hy (by simp; omega)) (fun z ⟨z0, z1, z2, z3⟩ => ⟨?_, z1, fun q q1 q2 => by rw [z2 q q1 q2]; exact fu q (by omega) (by omega), ?_⟩)
      · rw [z0]; congr 1; simp only [List.length_cons]; omega
      · rw [List.append_assoc] at z3; exact z3
theorem m_ticks (hF : 1000 ≤ F) {n T0 : Nat} (hn : n ≤ 999) (hT0 : T0 + 999 < 2147483648) : ∀ (c i f k : Nat) (L M : List En) (w t : Nat → Int32) (came : Int32) (E : List Ev), i + c = n → c < f → M.Perm L → EM M w 0 → w 5 = nI (T0 + i) → (L.map eK).Nodup → (L.map eL).Nodup → (∀ e ∈ L, eT e = -1 ∨ (nI (T0 + i)).toInt < (eT e).toInt) → L.length ≤ 60 → QS 0 E t came → E.length + 60 * (c + 1) < 2147480000 →
    Tot (X10_tick_L23 F f (nI n) (nI k) (nI i) w 0 t came 0 0) (fun y => y.1 = nI (k + (lapL (nI (T0 + n)) 60 L).2.length) ∧ (∃ M', M'.Perm (lapL (nI (T0 + n)) 60 L).1 ∧ EM M' y.2.1 0) ∧ y.2.1 5 = nI (T0 + n) ∧ (∀ q, q ≠ 0 → q ≠ 5 → (q < 24 ∨ 444 ≤ q) → y.2.1 q = w q) ∧ QS 0 (E ++ (lapL (nI (T0 + n)) 60 L).2.map evE) y.2.2.1 y.2.2.2) := by
  have c5 : Int32.toNatClampNeg 5 = 5 := by decide
  intro c
  induction c with
  | zero =>
    intro i f k L M w t came E hi hf hp hE h5 n1 n2 hT hl hq hb
    obtain ⟨f, rfl⟩ : ∃ k, f = k + 1 := ⟨f - 1, by omega⟩
    obtain rfl : i = n := by omega
    have hbn : best sooner (okT (nI (T0 + i))) L = none := by
      refine best_none.2 (fun e he => ?_)
      cases hk : okT (nI (T0 + i)) e with
      | false => rfl
      | true =>
        obtain ⟨k1, k2⟩ := okT_iff.1 hk
        have := (hT e he).resolve_left k1
        rw [i32_le] at k2; omega
    rw [X10_tick_L23, if_pos (Int32.le_refl _), lap_none hbn]
    refine tot_s ⟨rfl, ⟨M, hp, hE⟩, h5, fun _ _ _ _ => rfl, ?_⟩
    simp only [List.map_nil, List.append_nil]; exact hq
  | succ c ih =>
    intro i f k L M w t came E hi hf hp hE h5 n1 n2 hT hl hq hb
    obtain ⟨f, rfl⟩ : ∃ k, f = k + 1 := ⟨f - 1, by omega⟩
    have hlt : ¬ nI n ≤ nI i := by rw [i32_le, nI_toInt (by omega), nI_toInt (by omega)]; omega
    have hst : nI (T0 + (i + 1)) ≤ nI (T0 + n) := by rw [i32_le, nI_toInt (by omega), nI_toInt (by omega)]; omega
    rw [X10_tick_L23, if_neg hlt, c5, h5, nI_1, show T0 + i + 1 = T0 + (i + 1) by omega]
    have hE' : EM M (upd w 5 (nI (T0 + (i + 1)))) 0 := by
      obtain ⟨g0, g1, g2, g3⟩ := hE
      refine ⟨by rw [upd_n (by decide)]; exact g0, g1, g2, fun j hj => ?_⟩
      rw [g3 j hj]; simp only [rowAt]
      rw [upd_n (by omega), upd_n (by omega), upd_n (by omega), upd_n (by omega), upd_n (by omega), upd_n (by omega), upd_n (by omega)]
    have hT' : ∀ e ∈ L, eT e = -1 ∨ nI (T0 + (i + 1)) ≤ eT e := fun e he => by
      rcases hT e he with h | h
      · exact Or.inl h
      · right
        rw [nI_toInt (by omega)] at h
        rw [i32_le, nI_toInt (by omega)]; omega
    have hM2 : (M.map eL).Nodup := (hp.map eL).nodup_iff.2 n2
    have hfo := m_firstOver hE' (show 100 ≤ F by omega)
    rw [upd_s, best_tick hM2 (fun e he => hT' e (hp.mem_iff.1 he)), best_perm lin_sooner (nd_last hM2) hp] at hfo
    refine tot_b hfo (fun r hr => ?_)
    refine tot_b (m_lapse (F := F) (v1 := nI n) (v3 := nI i) hF 60 F k L M _ t came r E hp hE' hr upd_s n1 n2 hT' hl (by omega) hq (by omega)) (fun y ⟨y0, ⟨M', y1, y2⟩, y3, y4⟩ => ?_)
    obtain ⟨r', w', t', came'⟩ := y
    dsimp only at y0 y1 y2 y3 y4 ⊢
    rw [y0, nI_1]
    have hs := lap_sub (t := nI (T0 + (i + 1))) 60 L
    have hmore := lap_more (t := nI (T0 + (i + 1))) 60 L n1 n2 hl
    have hlen := lap_len (t := nI (T0 + (i + 1))) 60 L n1 n2
    rw [lap_split hst 60 L n1 n2 hl]
    have w5 : w' 5 = nI (T0 + (i + 1)) := by rw [y3 5 (by decide) (by decide), upd_s]
    refine tot_m (ih (i + 1) f _ (lapL (nI (T0 + (i + 1))) 60 L).1 M' w' t' came' _ (by omega) (by omega) y1 y2 w5 (n1.sublist (hs.1.map eK)) (n2.sublist (hs.1.map eL)) (fun e he => ?_) (by omega) y4 (by simp only [List.length_append, List.length_map]; omega)) (fun z ⟨z0, z1, z2, z3, z4⟩ => ⟨?_, z1, z2, fun q q1 q2 q3 => by rw [z3 q q1 q2 q3, y3 q q1 q3, upd_n q2], ?_⟩)
    · have := best_none.1 hmore.2 e he
      by_cases ce : eT e = -1
      · exact Or.inl ce
      · right
        have h3 : ¬ eT e ≤ nI (T0 + (i + 1)) := fun hx => by rw [okT_iff.2 ⟨ce, hx⟩] at this; cases this
        rw [i32_le] at h3; omega
    · rw [z0]; congr 1; simp only [List.length_append]; omega
    · rw [List.append_assoc] at z4; simp only [List.map_append]; exact z4
end TickM
