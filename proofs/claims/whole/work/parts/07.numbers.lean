/-! ===== digits ===== -/
def u32 (x : Int32) : Nat := x.toBitVec.toNat
theorem u32_lt (x : Int32) : u32 x < 2 ^ 32 := x.toBitVec.isLt
theorem u32_inj {x y : Int32} (h : u32 x = u32 y) : x = y := by
  have : x.toBitVec = y.toBitVec := BitVec.eq_of_toNat_eq h
  exact Int32.toBitVec_inj.mp this
theorem u32_nI (n : Nat) : u32 (nI n) = n % 2 ^ 32 := by
  unfold u32 nI
  simp [Int32.toBitVec_ofNat]
theorem u32_0 {x : Int32} : u32 x = 0 ↔ x = 0 := by
  constructor
  · intro h
    exact u32_inj (by rw [h]; rfl)
  · intro h
    rw [h]; rfl
def u64 (x : Int64) : Nat := x.toBitVec.toNat
theorem u64_lN (n : Nat) : u64 (lN n) = n % 2 ^ 64 := by
  unfold u64 lN
  simp [Int64.toBitVec_ofNat]
theorem u64_inj {x y : Int64} (h : u64 x = u64 y) : x = y := by
  have : x.toBitVec = y.toBitVec := BitVec.eq_of_toNat_eq h
  exact Int64.toBitVec_inj.mp this
theorem lN_of (x : Int64) : x = lN (u64 x) := u64_inj (by
  rw [u64_lN, Nat.mod_eq_of_lt]
  exact x.toBitVec.isLt)
theorem nI_of32 (x : Int32) : x = nI (u32 x) := u32_inj (by
  rw [u32_nI, Nat.mod_eq_of_lt (u32_lt x)])
/-- parts[i] & PART -/
theorem l_mask (x : Int32) : x.toInt64 &&& 4294967295 = lN (u32 x) := by
  apply u64_inj
  rw [u64_lN, Nat.mod_eq_of_lt (by have := u32_lt x; omega)]
  unfold u64 u32
  rw [Int64.toBitVec_and, show (4294967295 : Int64).toBitVec = BitVec.ofNat 64 (2 ^ 32 - 1) by decide, BitVec.toNat_and, BitVec.toNat_ofNat, Nat.mod_eq_of_lt (by decide), Nat.and_two_pow_sub_one_eq_mod, Int32.toBitVec_toInt64, BitVec.toNat_signExtend]
  have h := x.toBitVec.isLt
  simp only [BitVec.toNat_setWidth]
  split <;> omega
theorem l_shr32 {c : Nat} (h : c < 2 ^ 64) : ((lN c).toUInt64 >>> ((32 : Int32).toInt64.toUInt64 &&& Int64.toUInt64 63)).toInt64 = lN (c / 2 ^ 32) := by
  apply u64_inj
  rw [u64_lN, Nat.mod_eq_of_lt (by omega)]
  unfold u64
  rw [show ((32 : Int32).toInt64.toUInt64 &&& Int64.toUInt64 63) = 32 by decide]
  simp [lN, Int64.toBitVec_ofNat, Nat.mod_eq_of_lt h, Nat.shiftRight_eq_div_pow]
/-- value of n digits in base B -/
def dv (B : Nat) (g : Nat → Nat) : Nat → Nat
  | 0 => 0
  | n + 1 => dv B g n + g n * B ^ n
theorem dv_congr {B : Nat} {g h : Nat → Nat} : ∀ {n : Nat}, (∀ i, i < n → g i = h i) → dv B g n = dv B h n
  | 0, _ => rfl
  | n + 1, e => by rw [dv, dv, dv_congr (fun i hi => e i (by omega)), e n (by omega)]
theorem dv_lt {B : Nat} {g : Nat → Nat} : ∀ {n : Nat}, (∀ i, i < n → g i < B) → dv B g n < B ^ n
  | 0, _ => by simp [dv]
  | n + 1, e => by
    have h1 := dv_lt (B := B) (g := g) (n := n) (fun i hi => e i (by omega))
    have h2 := e n (by omega)
    have h3 : (g n + 1) * B ^ n ≤ B * B ^ n := Nat.mul_le_mul_right _ h2
    rw [dv, Nat.pow_succ, Nat.mul_comm (B ^ n) B]
    rw [Nat.add_mul, Nat.one_mul] at h3
    omega
theorem dv_ext {B : Nat} {g : Nat → Nat} {n : Nat} : ∀ {m : Nat}, n ≤ m → (∀ i, n ≤ i → i < m → g i = 0) → dv B g m = dv B g n
  | 0, h, _ => by rw [Nat.le_zero.mp h]
  | m + 1, h, e => by
    rcases Nat.lt_or_ge m n with q | q
    · rw [show n = m + 1 by omega]
    · rw [dv, dv_ext q (fun i h1 h2 => e i h1 (by omega)), e m q (by omega), Nat.zero_mul, Nat.add_zero]
theorem dv_top {B : Nat} {g : Nat → Nat} {n : Nat} (h : g n ≠ 0) : B ^ n ≤ dv B g (n + 1) := by
  rw [dv]
  have : 1 * B ^ n ≤ g n * B ^ n := Nat.mul_le_mul_right _ (by omega)
  omega
theorem dv_cmp {B : Nat} {g h : Nat → Nat} {k : Nat} (hg : ∀ i, i < k → g i < B) (hlt : g k < h k) : ∀ {n : Nat}, k < n → (∀ i, k < i → i < n → g i = h i) → dv B g n < dv B h n
  | 0, h1, _ => absurd h1 (Nat.not_lt_zero k)
  | n + 1, h1, e => by
    rcases Nat.lt_or_ge k n with q | q
    · rw [dv, dv, e n q (by omega)]
      have := dv_cmp hg hlt q (fun i a b => e i a (by omega))
      omega
    · have hk : n = k := by omega
      subst hk
      rw [dv, dv]
      have h2 := dv_lt (B := B) (g := g) (n := n) hg
      have h3 : (g n + 1) * B ^ n ≤ h n * B ^ n := Nat.mul_le_mul_right _ hlt
      rw [Nat.add_mul, Nat.one_mul] at h3
      omega
theorem t_ring (a b c d : Int) : (a + b) * (c - d) = a * c - a * d + b * c - b * d := by grind
theorem t_ring2 (a b c d e f g h i : Int) : a*(e*i-f*h) - b*(d*i-f*g) + c*(d*h-e*g) = -(d*(b*i-c*h) - e*(a*i-c*g) + f*(a*h-b*g)) := by grind
