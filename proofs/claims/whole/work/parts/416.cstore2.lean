/-! the store: the rest of what it does -/
section CStore2
variable {F b : Nat} {S : SS} {x6 : tX6} {x1 : tX1} {xy xz : tX2} {xq : tX7} {E : List Ev} {r : Int32} {e : En}
theorem c_fetch (h : RC S x6 x1 xy xz) (ok : Ok b S) (hF : 100 ≤ F) (hq : QC E xq) (k : Int32) :
    Tot (X6_fetch F k x6 x1 xq) (fun y => y.1 = (fetchS k (dep xq) S).1 ∧ RC (fetchS k (dep xq) S).2.1 y.2.1 y.2.2.1 xy xz ∧ QC (E ++ (fetchS k (dep xq) S).2.2) y.2.2.2 ∧ dep y.2.2.2 = dep xq) := by
  have hfind := RC.find h ok hF k
  obtain ⟨hap, got, cap, wy, bal, wbt⟩ := x6
  obtain ⟨kK, kV, kW, kC, kL, kT, kP, sz, ld, pl, us, ag, hv⟩ := x1
  obtain ⟨qa, qb, qc, qd, qe, qs, ql, qp⟩ := xq
  rw [X6_fetch]
  refine tot_b hfind (fun r hr => ?_)
  cases hf : fnd k S.1 with
  | none =>
    rw [hf] at hr
    obtain ⟨L, p, hE, hi⟩ := hr
    rcases hi with ⟨rfl, _⟩ | ⟨i, hi, rfl, he⟩
    · rw [if_pos rfl, fetchS, hf, if_pos (show (none : Option En).isNone = true from rfl)]
      refine tot_b (c_tell (x6 := (hap, got, cap, wy, bal, wbt)) hq 5 (by omega) k 0 0) (fun ⟨⟨h1, h2, h3, h4, h5, h6⟩, q1, q2, q3, q4, q5, q6, q7, q8⟩ ⟨t1, t2, t3⟩ => ?_)
      simp only [Prod.mk.injEq] at t1
      obtain ⟨rfl, rfl, rfl, rfl, rfl, rfl⟩ := t1
      refine tot_s ⟨rfl, ?_, t2, t3⟩
      have := RC.num (kd := 5) (q := 9) h (by simp) (hap 5 + 1)
      have n1 := h.2.2.2.2.2.1
      rw [n1] at this ⊢
      exact this
    · cases he
  | some e =>
    rw [hf] at hr
    have hne : ¬ r = -1 := by
      obtain ⟨L, p, hE, hi⟩ := hr
      have := hE.2.1
      rcases hi with ⟨_, hi⟩ | ⟨i, hi, rfl, he⟩
      · cases hi
      · simp (disch := omega) only [nI_add, pn_add, pn_addl, pn_mul, pn_cl, pn_nlt0, false_or, pn_ge, pn_le, Nat.add_zero, Nat.zero_add, ↓reduceIte, Option.bind_some, nI_leI, nI_ltI, nI_eq, pn_ne1, pn_1ne]; simp
    rw [if_neg hne, fetchS, hf, if_neg (by simp)]
    refine tot_b (RC.use (F := F) h ok.1.1 ok.age hF hr) (fun ⟨b1, b2, b3, b4⟩ hU => tot_s ⟨rfl, ?_, by simpa using hq, rfl⟩)
    rw [(fnd_some hf).2] at hU
    obtain ⟨hL, hld, hpl, hy, hz, n1, n2, n3, n4, n5, n6, n7, n8, n9, n10, n11, n12⟩ := hU
    refine ⟨hL, hld, hpl, hy, hz, ?_⟩
    have e8 : (useS k S).2.2.2 8 = S.2.2.2 8 := by simp only [useS]; rw [upd_n (by decide), upd_n (by decide)]
    simp only [setN, NC]
    simp only [upd_n (show 9 ≠ 8 by decide), upd_n (show 10 ≠ 8 by decide), upd_n (show 11 ≠ 8 by decide), upd_n (show 12 ≠ 8 by decide), upd_n (show 3 ≠ 8 by decide), upd_n (show 1 ≠ 8 by decide), upd_n (show 2 ≠ 8 by decide), upd_s, upd_n (show 16 ≠ 8 by decide), upd_n (show 4 ≠ 8 by decide), upd_n (show 6 ≠ 8 by decide), upd_n (show 15 ≠ 8 by decide)]
    exact ⟨n1, n2, n3, n4, by rw [n5, e8], n6, n7, n8, n9, n10, n11, n12⟩
/-- gone without a ghost -/
theorem c_lose (h : RC S x6 x1 xy xz) (ok : Ok b S) (hq : QC E xq) (kd : Nat) (hk : kd = 3 ∨ kd = 4) (hx : IXC S.1 (some e) r x1) :
    Tot (X6_lose F (nI kd) r x6 x1 xq) (fun y => RC (withE (delK (eK e) S.1) (if kd = 3 then setN 11 (S.2.2.2 11 + 1) S else S)) y.1 y.2.1 xy xz ∧ QC (E ++ [(nI kd, eK e, eV e, eW e, dep xq)]) y.2.2 ∧ dep y.2.2 = dep xq) := by
  obtain ⟨hap, got, cap, wy, bal, wbt⟩ := x6
  obtain ⟨kK, kV, kW, kC, kL, kT, kP, sz, ld, pl, us, ag, hv⟩ := x1
  obtain ⟨qa, qb, qc, qd, qe, qs, ql, qp⟩ := xq
  obtain ⟨L, p, hE, hi⟩ := hx
  rcases hi with ⟨_, hi⟩ | ⟨i, hi, rfl, he⟩
  · cases hi
  simp only [Option.some.injEq] at he
  have okL := ok.1.perm p
  have hlen := hE.2.1
  have heM : e ∈ S.1 := p.mem_iff.1 (he ▸ List.getElem_mem hi)
  rw [X6_lose, c_has hE hi]
  simp (disch := omega) only [nI_add, pn_add, pn_addl, pn_mul, pn_cl, pn_nlt0, false_or, pn_ge, pn_le, Nat.add_zero, Nat.zero_add, ↓reduceIte, Option.bind_some, nI_leI, nI_ltI, nI_eq, pn_ne1, pn_1ne]
  rw [if_neg (by decide)]
  refine tot_b (c_tell (x6 := (hap, got, cap, wy, bal, wbt)) hq kd (by omega) (kK i) (kV i) (kW i)) (fun ⟨⟨h1, h2, h3, h4, h5, h6⟩, q1, q2, q3, q4, q5, q6, q7, q8⟩ ⟨t1, t2, t3⟩ => ?_)
  simp only [Prod.mk.injEq] at t1
  obtain ⟨rfl, rfl, rfl, rfl, rfl, rfl⟩ := t1
  refine tot_b (c_drop hE okL.PB hi ld pl) (fun ⟨d1, d2, d3, d4, d5, d6, d7, d8, d9, d10⟩ ⟨u1, u2, u3⟩ => tot_s ⟨?_, ?_, t3⟩)
  · have base : ∀ S' : SS, S'.1 = S.1 → RC S' (upd hap kd (hap kd + 1), h2, h3, h4, h5, h6) (kK, kV, kW, kC, kL, kT, kP, sz, ld, pl, us, ag, hv) xy xz → RC (withE (delK (eK e) S.1) S') (upd hap kd (hap kd + 1), h2, h3, h4, h5, h6) (d1, d2, d3, d4, d5, d6, d7, d8, d9, d10, us, ag, hv) xy xz := by
      intro S' hS' hR
      obtain ⟨_, hld, hpl, hy, hz, hN⟩ := hR
      rw [hS'] at hld hpl
      refine ⟨⟨dropS L i, ?_, u1⟩, ?_, ?_, hy, hz, hN⟩
      · have hp := delK_of okL.1 (dropS_perm hi)
        rw [← he] at hp
        exact hp.trans (delK_perm p)
      · simp only [withE]; rw [sum_del ok.1.1 heM, ← hld, he]; exact u2
      · have u3' : d10 = if eP L[i] = 0 then pl else pl - eW L[i] := u3
        simp only [withE]; rw [sum_del ok.1.1 heM, ← hpl, u3', he]
        simp only [pinA]; split <;> simp
    rcases hk with rfl | rfl
    · rw [if_pos rfl]
      refine base _ rfl ?_
      have := RC.num (kd := 3) (q := 11) h (by simp) (hap 3 + 1)
      have n3 : hap 3 = S.2.2.2 11 := h.2.2.2.2.2.2.2.1
      rw [n3] at this ⊢
      exact this
    · rw [if_neg (by decide)]
      exact base _ rfl (RC.hap h (Or.inr (Or.inr rfl)))
  · rw [he, ← c_K hE hi, ← c_V hE hi, ← c_W hE hi]; exact t2
theorem c_loseN {kd : Int32} {x6 : tX6} {x1 : tX1} {xq : tX7} : X6_lose F kd (-1) x6 x1 xq = some (x6, x1, xq) := by
  obtain ⟨hap, got, cap, wy, bal, wbt⟩ := x6
  obtain ⟨kK, kV, kW, kC, kL, kT, kP, sz, ld, pl, us, ag, hv⟩ := x1
  obtain ⟨qa, qb, qc, qd, qe, qs, ql, qp⟩ := xq
  rw [X6_lose, c_hasN]; rfl
theorem c_takeOut (h : RC S x6 x1 xy xz) (ok : Ok b S) (hF : 100 ≤ F) (hq : QC E xq) (k : Int32) :
    Tot (X6_takeOut F k x6 x1 xq) (fun y => y.1 = (takeS k (dep xq) S).1 ∧ RC (takeS k (dep xq) S).2.1 y.2.1 y.2.2.1 xy xz ∧ QC (E ++ (takeS k (dep xq) S).2.2) y.2.2.2 ∧ dep y.2.2.2 = dep xq) := by
  have hfind := RC.find h ok hF k
  have hlose := fun (e : En) (r : Int32) (hx : IXC S.1 (some e) r x1) => c_lose (F := F) h ok hq 4 (Or.inr rfl) hx
  obtain ⟨hap, got, cap, wy, bal, wbt⟩ := x6
  obtain ⟨kK, kV, kW, kC, kL, kT, kP, sz, ld, pl, us, ag, hv⟩ := x1
  obtain ⟨qa, qb, qc, qd, qe, qs, ql, qp⟩ := xq
  rw [X6_takeOut]
  refine tot_b hfind (fun r hr => ?_)
  cases hf : fnd k S.1 with
  | none =>
    rw [hf] at hr
    obtain ⟨L, p, hE, hi⟩ := hr
    rcases hi with ⟨rfl, _⟩ | ⟨i, hi, rfl, he⟩
    · rw [if_pos rfl, takeS, hf]
      exact tot_s ⟨rfl, h, by simpa using hq, rfl⟩
    · cases he
  | some e =>
    rw [hf] at hr
    have hr2 := hr
    obtain ⟨L, p, hE, hi⟩ := hr2
    have hlen := hE.2.1
    rcases hi with ⟨_, hi⟩ | ⟨i, hi, rfl, he⟩
    · cases hi
    have hne : ¬ nI i = -1 := by simp (disch := omega) only [nI_add, pn_add, pn_addl, pn_mul, pn_cl, pn_nlt0, false_or, pn_ge, pn_le, Nat.add_zero, Nat.zero_add, ↓reduceIte, Option.bind_some, nI_leI, nI_ltI, nI_eq, pn_ne1, pn_1ne]; simp
    have heK := (fnd_some hf).2
    have hle : L[i] = e := by simpa using he.symm
    rw [if_neg hne, takeS, hf]
    simp (disch := omega) only [nI_add, pn_add, pn_addl, pn_mul, pn_cl, pn_nlt0, false_or, pn_ge, pn_le, Nat.add_zero, Nat.zero_add, ↓reduceIte, Option.bind_some, nI_leI, nI_ltI, nI_eq, pn_ne1, pn_1ne]
    refine tot_b (hlose e (nI i) hr) (fun ⟨⟨h1, h2, h3, h4, h5, h6⟩, ⟨d1, d2, d3, d4, d5, d6, d7, d8, d9, d10, d11, d12, d13⟩, ⟨q1, q2, q3, q4, q5, q6, q7, q8⟩⟩ ⟨g1, g2, g3⟩ => tot_s ⟨?_, ?_, ?_, g3⟩)
    · show kV i + 10000 = eV e + 10000
      rw [c_V hE hi, hle]
    · rw [if_neg (by decide), heK] at g1; exact g1
    · rw [heK] at g2; exact g2
theorem c_fastS (h : RC S x6 x1 xy xz) (ok : Ok b S) (hF : 100 ≤ F) (k : Int32) {p : Int32} (hp : p = 0 ∨ p = 1) :
    Tot (X6_fasten F k p x1) (fun y => y.1 = (fastS k p S).1 ∧ RC (fastS k p S).2 x6 y.2 xy xz) := by
  have hfind := RC.find h ok hF k
  obtain ⟨hap, got, cap, wy, bal, wbt⟩ := x6
  obtain ⟨kK, kV, kW, kC, kL, kT, kP, sz, ld, pl, us, ag, hv⟩ := x1
  rw [X6_fasten]
  refine tot_b hfind (fun r hr => ?_)
  cases hf : fnd k S.1 with
  | none =>
    rw [hf] at hr
    obtain ⟨L, p, hE, hi⟩ := hr
    rcases hi with ⟨rfl, _⟩ | ⟨i, hi, rfl, he⟩
    · rw [if_pos rfl, fastS, hf]
      exact tot_s ⟨rfl, h⟩
    · cases he
  | some e =>
    rw [hf] at hr
    obtain ⟨L, pp, hE, hi⟩ := hr
    have hlen := hE.2.1
    rcases hi with ⟨_, hi⟩ | ⟨i, hi, rfl, he⟩
    · cases hi
    have hne : ¬ nI i = -1 := by simp (disch := omega) only [nI_add, pn_add, pn_addl, pn_mul, pn_cl, pn_nlt0, false_or, pn_ge, pn_le, Nat.add_zero, Nat.zero_add, ↓reduceIte, Option.bind_some, nI_leI, nI_ltI, nI_eq, pn_ne1, pn_1ne]; simp
    obtain ⟨heM, heK⟩ := fnd_some hf
    have hle : L[i] = e := by simpa using he.symm
    have okL := ok.1.perm pp
    obtain ⟨_, hld, hpl, hy, hz, hN⟩ := h
    rw [if_neg hne, fastS, hf]
    refine tot_b (c_fasten hE hi hp pl) (fun ⟨r3, a4, a5⟩ ⟨u1, u2, u3⟩ => ?_)
    simp only at u1 u2 u3 ⊢
    have e7 : X9_asInt F r3 = some r3 := by
      rw [X9_asInt, u1, hle]; split <;> simp
    rw [e7]
    simp only [Option.bind_some]
    have hset : L.set i (pinE p L[i]) = modK k (pinE p) L := set_modK okL.1 hi (by rw [hle]; exact heK) _
    rw [hset] at u2
    have hp0 := perm_del ok.1.1 heM
    refine tot_s ⟨by rw [u1, hle], ⟨_, modK_perm pp, u2⟩, ?_, ?_, hy, hz, hN⟩
    · simp only [withE]; rw [sum_mod (f := eW) (g := pinE p) (fun _ => rfl)]; exact hld
    · simp only [withE]
      have hp1 := modK_perm (k := k) (f := pinE p) hp0
      have hs1 : sumBy pinA S.1 = pinA e + sumBy pinA (delK (eK e) S.1) := by rw [← sumBy_perm pinA hp0, sumBy_cons]
      have hs2 : sumBy pinA (modK k (pinE p) S.1) = pinA (pinE p e) + sumBy pinA (delK (eK e) S.1) := by
        rw [← sumBy_perm pinA hp1]
        rw [show modK k (pinE p) (e :: delK (eK e) S.1) = pinE p e :: delK (eK e) S.1 by
          simp only [modK, List.map_cons, heK, if_true]
          congr 1
          conv => rhs; rw [← List.map_id (delK k S.1)]
          refine List.map_congr_left (fun x hx => ?_)
          rw [if_neg (mem_delK.1 hx).2]; rfl, sumBy_cons]
      have hpe : pinA (pinE p e) = if p = 0 then 0 else eW e := rfl
      rw [hs2, u3, hpl, hs1, hle, hpe]
      generalize sumBy pinA (delK (eK e) S.1) = z
      rcases ok.1.PB e heM with c | c <;> rcases hp with rfl | rfl <;> simp [pinA, c]
      · rw [Int32.add_comm]
      · rw [Int32.add_comm (eW e), Int32.add_assoc, Int32.add_right_neg, Int32.add_zero]
theorem c_recap (h : RC S x6 x1 xy xz) (ok : Ok b S) (hF : 100 ≤ F) (hb : b + 200 < 2147483648) (hq : QC E xq) (c : Int32) :
    Tot (X6_recap F c x6 x1 xy xz xq) (fun y => y.1 = (recapS c (dep xq) S).1 ∧ RC (recapS c (dep xq) S).2.1 y.2.1 y.2.2.1 y.2.2.2.1 y.2.2.2.2.1 ∧ QC (E ++ (recapS c (dep xq) S).2.2) y.2.2.2.2.2 ∧ dep y.2.2.2.2.2 = dep xq) := by
  obtain ⟨hap, got, cap, wy, bal, wbt⟩ := x6
  obtain ⟨kK, kV, kW, kC, kL, kT, kP, sz, ld, pl, us, ag, hv⟩ := x1
  obtain ⟨yk, ys⟩ := xy
  obtain ⟨zk, zs⟩ := xz
  obtain ⟨qa, qb, qc, qd, qe, qs, ql, qp⟩ := xq
  rw [X6_recap, isCap_eq]
  simp only [Option.bind_some]
  cases hc : isCapB c with
  | false =>
    rw [if_pos (show bi false = 0 from rfl), recapS, if_pos hc]
    exact tot_s ⟨rfl, h, by simpa using hq, rfl⟩
  | true =>
    rw [if_neg (show ¬ bi true = 0 by decide), recapS, if_neg (show ¬ isCapB c = false by rw [hc]; decide)]
    have hR := h
    obtain ⟨hL, hld, hpl, hy, hz, n1, n2, n3, n4, n5, n6, n7, n8, n9, n10, n11, n12⟩ := h
    by_cases c1 : pl ≤ c
    · have c1' : sumBy pinA S.1 ≤ c := by rw [← hpl]; exact c1
      rw [if_pos c1, if_neg (show ¬ ¬ sumBy pinA S.1 ≤ c from fun hx => hx c1')]
      have hbal : (if c < bal then c else bal) = (if c < S.2.2.2 3 then c else S.2.2.2 3) := by rw [n8]
      have hR1 : RC (setN 3 (if c < S.2.2.2 3 then c else S.2.2.2 3) (setN 1 c S)) (hap, got, c, wy, (if c < bal then c else bal), wbt) (kK, kV, kW, kC, kL, kT, kP, sz, ld, pl, us, ag, hv) (yk, ys) (zk, zs) := by
        refine ⟨hL, hld, hpl, hy, hz, ?_⟩
        simp only [setN, NC]
        simp [upd, n1, n2, n3, n4, n5, n6, n7, n8, n9, n10, n11, n12]
      have ok1 : Ok b (setN 3 (if c < S.2.2.2 3 then c else S.2.2.2 3) (setN 1 c S)) := by
        obtain ⟨a1, a2, a3, o1, o2, o3, o4, o5, o6, o7, o8, o9, o10⟩ := ok
        simp only [isCapB, Bool.and_eq_true, decide_eq_true_eq, i32_le] at hc
        have e0 : (0 : Int32).toInt = 0 := by decide
        have e5 : (5000 : Int32).toInt = 5000 := by decide
        refine ⟨?_, a2, a3, ?_⟩
        · simpa [setN, upd] using a1
        · simp only [setN, OkN]
          simp only [upd_n (show 1 ≠ 3 by decide), upd_n (show 2 ≠ 3 by decide), upd_n (show 2 ≠ 1 by decide), upd_s, upd_n (show 4 ≠ 3 by decide), upd_n (show 4 ≠ 1 by decide), upd_n (show 6 ≠ 3 by decide), upd_n (show 6 ≠ 1 by decide), upd_n (show 16 ≠ 3 by decide), upd_n (show 16 ≠ 1 by decide)]
          refine ⟨by omega, by omega, o3, ?_, ?_, o6, o7, o8, o9, o10⟩
          · split <;> omega
          · split
            · omega
            · rename_i hx; rw [i32_lt] at hx; omega
      refine tot_b (c_L53 hF (hap 2) F 0 b _ E _ _ _ _ _ (by omega) (by omega) (by omega) hR1 ok1 hq) (fun y hy => ?_)
      obtain ⟨⟨j1, j2, j3, j4, j5, j6⟩, ⟨j7, j8, j9, j10, j11, j12, j13, j14, j15, j16, j17, j18, j19⟩, ⟨j20, j21⟩, ⟨j22, j23⟩, ⟨j24, j25, j26, j27, j28, j29, j30, j31⟩⟩ := y
      obtain ⟨g1, g2, g3⟩ := hy
      rw [show evRun stopL (-1) (dep (qa, qb, qc, qd, qe, qs, ql, qp)) (60 - 0) (setN 3 (if c < S.2.2.2 3 then c else S.2.2.2 3) (setN 1 c S)) = capS c qp S from rfl] at g1 g2
      refine tot_s ⟨?_, g1, g2, g3⟩
      have hcnt : ∀ (n : Nat) (T : SS), (evRun stopL (-1) qp n T).1.2.2.2 10 = T.2.2.2 10 + nI (evRun stopL (-1) qp n T).2.length := by
        intro n
        induction n with
        | zero => intro T; simp [evRun, nI_0]
        | succ n ih =>
          intro T
          by_cases hs : stopL T = true
          · rw [evRun_stop hs]; simp [nI_0]
          · cases hch : chS (-1) T with
            | none => rw [evRun_none hch]; simp [nI_0]
            | some e =>
              rw [evRun_some (by simpa using hs) hch]
              show (evRun stopL (-1) qp n (evS e T)).1.2.2.2 10 = _
              rw [ih (evS e T), List.length_cons]
              simp only [evS]
              rw [upd_n (by decide), upd_s, Int32.add_assoc, Int32.add_comm 1, nI_1]
      have g10 : j1 2 = (capS c qp S).1.2.2.2 10 := g1.2.2.2.2.2.2.1
      show j1 2 - hap 2 = _
      rw [g10, capS, hcnt 60, n2]
      simp only [setN]
      rw [upd_n (by decide), upd_n (by decide), Int32.add_comm, Int32.add_sub_cancel]
    · have c1' : ¬ sumBy pinA S.1 ≤ c := by rw [← hpl]; exact c1
      rw [if_neg c1, if_pos c1']
      exact tot_s ⟨rfl, hR, by simpa using hq, rfl⟩
end CStore2
