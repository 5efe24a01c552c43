/-! draws: both ways -/
def nxD (n : Nat) : Nat := (1103515245 * n + 12345) % 2147483648
theorem nxD_lt (n : Nat) : nxD n < 2147483648 := Nat.mod_lt _ (by decide)
theorem l_toInt {n : Nat} (h : n < 9223372036854775808) : (Int64.ofNat n).toInt = n := Int64.toInt_ofNat_of_lt h
theorem l_div {a b : Nat} (ha : a < 9223372036854775808) (hb : b < 9223372036854775808) (h0 : 0 < b) : Int64.ofNat a / Int64.ofNat b = Int64.ofNat (a / b) := by
  apply Int64.toInt_inj.1
  have hq : a / b < 9223372036854775808 := Nat.lt_of_le_of_lt (Nat.div_le_self _ _) ha
  rw [Int64.toInt_div_of_ne_right _ _ (fun h => by have := congrArg Int64.toInt h; rw [l_toInt hb] at this; have e : (-1 : Int64).toInt = -1 := by decide
                                                   omega), l_toInt ha, l_toInt hb, l_toInt hq]
  rfl
theorem l_rem {a b : Nat} (ha : a < 9223372036854775808) (hb : b < 9223372036854775808) (h0 : 0 < b) : Int64.ofNat a - Int64.ofNat a / Int64.ofNat b * Int64.ofNat b = Int64.ofNat (a % b) := by
  rw [l_div ha hb h0, ← Int64.ofNat_mul, ← Int64.ofNat_sub _ _ (Nat.div_mul_le_self a b)]
  congr 1
  have := Nat.div_add_mod a b
  rw [Nat.mul_comm] at this; omega
theorem l_64 {n : Nat} (h : n < 2147483648) : (nI n).toInt64 = Int64.ofNat n := by
  apply Int64.toInt_inj.1
  rw [Int32.toInt_toInt64, nI_toInt h, l_toInt (by omega)]
theorem l_32 {n : Nat} (h : n < 2147483648) : (Int64.ofNat n).toInt32 = nI n := by
  apply i32_eq.2
  rw [Int64.toInt_toInt32, l_toInt (by omega), nI_toInt h]; exact Int.bmod_eq_of_le (by omega) (by omega)
theorem l_and {n : Nat} (h : n < 9223372036854775808) : Int64.ofNat n &&& 2147483647 = Int64.ofNat (n % 2147483648) := by
  apply Int64.toBitVec_inj.1
  rw [Int64.toBitVec_and]
  apply BitVec.eq_of_toNat_eq
  rw [BitVec.toNat_and]
  show (BitVec.ofNat 64 n).toNat &&& (BitVec.ofNat 64 2147483647).toNat = (BitVec.ofNat 64 (n % 2147483648)).toNat
  rw [BitVec.toNat_ofNat, BitVec.toNat_ofNat, BitVec.toNat_ofNat, Nat.mod_eq_of_lt (show n < 2 ^ 64 by omega), Nat.mod_eq_of_lt (show 2147483647 < 2 ^ 64 by decide), Nat.mod_eq_of_lt (show n % 2147483648 < 2 ^ 64 by omega)]
  exact Nat.and_two_pow_sub_one_eq_mod n 31
theorem n_div {a b : Nat} (ha : a < 2147483648) (hb : b < 2147483648) (h0 : 0 < b) : nI a / nI b = nI (a / b) := by
  apply i32_eq.2
  have hq : a / b < 2147483648 := Nat.lt_of_le_of_lt (Nat.div_le_self _ _) ha
  rw [Int32.toInt_div_of_ne_right _ _ (fun h => by have := congrArg Int32.toInt h; rw [nI_toInt hb] at this; have e : (-1 : Int32).toInt = -1 := by decide
                                                   omega), nI_toInt ha, nI_toInt hb, nI_toInt hq]
  rfl
theorem n_rem {a b : Nat} (ha : a < 2147483648) (hb : b < 2147483648) (h0 : 0 < b) : nI a - nI a / nI b * nI b = nI (a % b) := by
  have h1 : a / b * b ≤ a := Nat.div_mul_le_self a b
  have h2 := Nat.div_add_mod a b
  rw [Nat.mul_comm] at h2
  have hm : nI (a / b) * nI b = nI (a / b * b) := (Int32.ofNat_mul _ _).symm
  rw [n_div ha hb h0, hm]
  apply i32_eq.2
  have hr : a % b < b := Nat.mod_lt _ h0
  rw [i32_sub (by rw [nI_toInt ha, nI_toInt (by omega)]; omega) (by rw [nI_toInt ha, nI_toInt (by omega)]; omega), nI_toInt ha, nI_toInt (by omega), nI_toInt (by omega)]
  omega
section Draw
variable {F : Nat}
theorem drawC {n : Nat} (h : n < 2147483648) : X9_nextDraw F (nI n) = some (nI (nxD n)) := by
  rw [X9_nextDraw, l_64 h, show (1103515245 : Int64) = Int64.ofNat 1103515245 from rfl, show (12345 : Int64) = Int64.ofNat 12345 from rfl, ← Int64.ofNat_mul, ← Int64.ofNat_add, l_and (by omega), l_32 (by omega)]
  rfl
theorem drawnC {n q : Nat} (h : n < 2147483648) (h0 : 0 < q) (hq : q < 100) : X9_drawn F (nI n) (nI q) = some (nI (n / 64 % q)) := by
  rw [X9_drawn, if_neg (by rw [i32_le, nI_toInt (by omega)]; have e : (0 : Int32).toInt = 0 := by decide
                           omega), if_neg (by intro hx; have := congrArg Int32.toInt hx; rw [nI_toInt (by omega)] at this; have e : (0 : Int32).toInt = 0 := by decide
                                              omega), show (64 : Int32) = nI 64 from rfl, n_div h (by decide) (by decide), n_rem (by omega) (by omega) h0]
theorem drawM {n q : Nat} (h : n < 2147483648) (h0 : 0 < q) (hq : q < 100) : X10_draw F (nI q) (Int64.ofNat n) = some (nI (nxD n / 64 % q), Int64.ofNat (nxD n)) := by
  have h1 := nxD_lt n
  have h2 : nxD n / 64 % q < q := Nat.mod_lt _ h0
  have hn : ¬ Int64.ofNat q = 0 := by
    intro hx
    have := congrArg Int64.toInt hx
    have e : (0 : Int64).toInt = 0 := by decide
    rw [l_toInt (by omega)] at this
    omega
  rw [X10_draw, l_64 (show q < 2147483648 by omega), if_neg hn, show (1103515245 : Int64) = Int64.ofNat 1103515245 from rfl, show (12345 : Int64) = Int64.ofNat 12345 from rfl, show (2147483648 : Int64) = Int64.ofNat 2147483648 from rfl, show (64 : Int64) = Int64.ofNat 64 from rfl, ← Int64.ofNat_mul, ← Int64.ofNat_add, l_rem (by omega) (by decide) (by decide)]
  rw [show (1103515245 * n + 12345) % 2147483648 = nxD n from rfl, l_div (by omega) (by decide) (by decide), l_rem (by omega) (by omega) h0, l_32 (by omega)]
end Draw
