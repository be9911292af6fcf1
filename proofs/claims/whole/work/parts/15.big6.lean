/-! ===== shiftRight, inverseOf, divideByOdd, divideWhole ===== -/
theorem shr_lem {X P Y r : Nat} (h : X = P + 2 ^ 64 * Y) (hr : r ≤ 32) : X / 2 ^ r % 2 ^ 32 = P / 2 ^ r % 2 ^ 32 := by
  have e1 : 2 ^ 64 = 2 ^ r * (2 ^ 32 * 2 ^ (32 - r)) := by
    rw [← Nat.pow_add, ← Nat.pow_add]
    congr 1
    omega
  rw [h, e1, Nat.mul_assoc, Nat.add_mul_div_left _ _ (Nat.two_pow_pos r), Nat.mul_assoc, Nat.add_mul_mod_self_left]
theorem dv_of {B : Nat} (v : Nat) : ∀ m, dv B (fun i => v / B ^ i % B) m = v % B ^ m
  | 0 => by simp [dv, Nat.mod_one]
  | m + 1 => by rw [dv, dv_of v m, Nat.mod_pow_succ, Nat.mul_comm]
theorem l_shl32i (x : Int32) : x.toInt64 <<< ((32 : Int32).toInt64 &&& 63) = lN (u32 x * 2 ^ 32) := by
  apply u64_inj
  rw [u64_lN, Nat.mod_eq_of_lt (by have := u32_lt x; omega)]
  unfold u64 u32
  rw [show ((32 : Int32).toInt64 &&& 63) = 32 by decide, Int64.toBitVec_shiftLeft, Int32.toBitVec_toInt64]
  rw [show ((32 : Int64).toBitVec.smod 64) = 32#64 by decide]
  show ((x.toBitVec.signExtend 64) <<< (32 : Nat)).toNat = _
  rw [BitVec.toNat_shiftLeft, BitVec.toNat_signExtend, BitVec.toNat_setWidth, Nat.shiftLeft_eq]
  have h := x.toBitVec.isLt
  split <;> omega
theorem l_ushr {P r : Nat} (hP : P < 2 ^ 64) (hr : r < 32) : ((lN P).toUInt64 >>> ((nI r).toInt64.toUInt64 &&& Int64.toUInt64 63)).toInt64 = lN (P / 2 ^ r) := by
  have e : ∀ r, r < 32 → ((nI r).toInt64.toUInt64 &&& Int64.toUInt64 63) = UInt64.ofNat r := by decide +kernel
  rw [e r hr]
  apply u64_inj
  rw [u64_lN, Nat.mod_eq_of_lt (Nat.lt_of_le_of_lt (Nat.div_le_self _ _) hP)]
  unfold u64
  have h3 : r % 64 = r := Nat.mod_eq_of_lt (by omega)
  simp [lN, Int64.toBitVec_ofNat, Nat.mod_eq_of_lt hP, Nat.shiftRight_eq_div_pow, h3]
def pt_shiftRight : mSH → mRF → mPT := m_pv 0 (fun sh rf b rest I J K => ∃ (k : Nat) (z q : Int), rest = [.inl (nI k)] ∧ k < 2 ^ 26 ∧ BIs sh rf I b z ∧ z = 2 ^ k * q ∧ ∀ I1, BCh rf I I1 b → BIs sh rf I1 b q → K none I1 J)
def ct_X0_shiftRight (sh : mSH) (rf : mRF) : Nat → Option (Nat × Bool × mPT) := fun k => match k with
  | 7 => some (2, false, pt_max sh rf)
  | 27 => some (1, true, pt_trim sh rf)
  | _ => none
set_option maxRecDepth 20000 in
theorem ce_X0_shiftRight : m_CE RX0 1 21 cX0_shiftRight 8 ct_X0_shiftRight := by
  intro p l e s m args below meth c Q D cs ad sh rf N hx hb hml hown hts hK hi hN k n vf pt h
  unfold ct_X0_shiftRight at h
  split at h
  · cases h
    exact m_CG_max hx hb hml hown hts hK hi hN (m_wck_ok (l := [(Cond.methodLink RX0 7 Lib.Math.max.name, 93), (Cond.static Lib.Math.max.name, 94), (Cond.initialized "java/lang/Math", 59), (Cond.code Lib.Math.max.name Lib.Math.max.code 2 (some .int), 95)]) (by decide +kernel)) ⟨Nat.le_of_ble_eq_true rfl, Nat.le_of_ble_eq_true rfl⟩
  · cases h
    exact m_CG_V mt_X0_trim hx hb hml hown hts hK hi hN (ci := 0) m_pv_rec rfl rfl (m_wck_ok (l := [(Cond.methodLink RX0 27 yX0_trim, 179), (Cond.instanceMethod yX0_trim, 181), (Cond.selects RX0 yX0_trim yX0_trim, 0), (Cond.initialized RX0, 58), (Cond.code yX0_trim cX0_trim 1 none, 182)]) (by decide +kernel)) ⟨rfl, by decide +kernel, by decide +kernel, by decide +kernel⟩ ⟨Nat.le_of_ble_eq_true rfl, Nat.le_of_ble_eq_true rfl⟩
  · cases h
set_option maxHeartbeats 4000000 in
set_option maxRecDepth 100000 in
theorem mt_X0_shiftRight : m_Mt yX0_shiftRight cX0_shiftRight 8 none 1 21 pt_shiftRight := by
  refine m_methodG (fl := fl_X0) (kI := kI_X0) (kJ := kJ_X0) (ct := ct_X0_shiftRight) (cd := cd_X0_shiftRight) (cut := [(12, [0, 2, 3, 4]), (51, [0, 2, 3, 4])]) (rk := 0) (fu := 80) (by decide +kernel) fl_X0_ok kI_X0_ok kJ_X0_ok ce_X0_shiftRight rfl ck_X0_shiftRight ⟨_, _, rfl, rfl⟩ ?_
  intro sh rf As I J K hpt
  obtain ⟨b, rest, rfl, hb, k, z, q, rfl, hk, ⟨cap, n, hB, h1, h2, h4, h5, h6⟩, hzq, hK⟩ := hpt
  have hcap := hB.2.2
  have hne := hB.ne
  have hp2 : (0 : Int) < 2 ^ k := Int.pow_pos (by decide)
  obtain ⟨wh, hwh⟩ : ∃ wh, wh = k / 32 := ⟨_, rfl⟩
  obtain ⟨r, hr⟩ : ∃ r, r = k % 32 := ⟨_, rfl⟩
  have ew : nI k >>> ((5 : Int32) &&& 31) = nI wh := by rw [hwh]; exact pk_shrN (by omega) _ 5 (by decide)
  have er : nI k &&& 31 = nI r := by rw [hr]; exact pk_andN (by omega) 5 (by decide)
  have hZ : z.natAbs = 2 ^ k * q.natAbs := by
    rw [hzq, Int.natAbs_mul, Int.natAbs_pow]
    rfl
  have hV : z.natAbs / 2 ^ k = q.natAbs := by
    rw [hZ, Nat.mul_div_cancel_left _ (Nat.two_pow_pos k)]
  have hdg : ∀ i, bdg rf I b i < 2 ^ 32 := fun i => bdg_lt rf I b i
  refine ⟨Nat.le_of_ble_eq_true rfl, fun a b9 pc vs st I1 J1 => ∃ i, vs = [.inr (.inr b), .inl (nI wh), .inl (nI r), .inl (nI i)] ∧ J1 = J ∧ a = n - wh - i ∧ i ≤ n - wh ∧ (∀ q, q ≠ rf b 0 → I1 q = I q) ∧ (∀ j, i ≤ j → I1 (rf b 0) j = I (rf b 0) j) ∧ (∀ j, j < i → u32 (I1 (rf b 0) j) = q.natAbs / (2 ^ 32) ^ j % 2 ^ 32) ∧ (pc = 12 ∧ st = [] ∧ b9 = 1 ∨ pc = 51 ∧ b9 = 0 ∧ i + wh < n ∧ ∃ ab : Int32, st = [.inl ab] ∧ u32 ab = dz (bdg rf I b) n (i + wh + 1)), ?_, ?_⟩
  · refine ⟨n - wh - 0, 1, 0, ?_, rfl, rfl, Nat.zero_le _, fun _ _ => rfl, fun _ _ => rfl, fun j h => absurd h (Nat.not_lt_zero j), Or.inl ⟨rfl, rfl, rfl⟩⟩
    rw [← ew, ← er]
    rfl
  · intro pc ks a b9 vs st I1 J1 hc hI
    obtain ⟨i, rfl, rfl, rfl, hi, e1, e2, e3, e5⟩ := hI
    have hIb : I1 b = I b := e1 b hne
    rcases m_cu1 hc with ⟨rfl, rfl⟩ | hc
    · obtain ⟨rfl, rfl⟩ : st = [] ∧ b9 = 1 := by
        rcases e5 with ⟨-, q1⟩ | ⟨q, -⟩
        · exact q1
        · cases q
      refine ⟨hb, fun h => ?_, fun h => ?_⟩
      · have h : I1 b 1 ≤ nI i + nI wh := h
        rw [hIb, h1, nI_add] at h
        have hge := (nI_leI (by omega) (by omega)).mp h
        obtain rfl : i = n - wh := by omega
        refine ⟨hb, I1 b 1 - nI wh, 0, rfl, hb, ?_⟩
        have es : (if I1 b 1 - nI wh < 0 then (0 : Int32) else I1 b 1 - nI wh) = nI (n - wh) := by
          rw [hIb, h1]
          rcases Nat.lt_or_ge n wh with q | q
          · rw [if_pos (pk_sneg (by omega) q), show n - wh = 0 by omega]
            rfl
          · rw [pk_sub q, if_neg (nI_pos (by omega))]
        rw [es]
        refine ⟨b, [], rfl, hb, cap, n - wh, q, rfl, hB, ?_, by omega, ?_, ?_, ?_, ?_⟩
        · rw [uI_s]
        · rw [dv_congr (h := fun j => q.natAbs / (2 ^ 32) ^ j % 2 ^ 32) (fun j hj => by
            unfold bdg
            rw [uI_a _ _ _ hne.symm]
            exact e3 j hj), dv_of]
          apply Nat.mod_eq_of_lt
          have hzl : z.natAbs < (2 ^ 32) ^ n := by
            rw [← h6]
            exact dv_lt (fun j _ => hdg j)
          rw [← hV, Nat.div_lt_iff_lt_mul (Nat.two_pow_pos k)]
          refine Nat.lt_of_lt_of_le hzl ?_
          rw [← Nat.pow_mul, ← Nat.pow_mul, ← Nat.pow_add]
          exact Nat.pow_le_pow_right (by decide) (by omega)
        · intro hq
          rw [uI_k _ _ _ (by decide), hIb, h5, if_pos]
          rw [hzq]
          exact Int.mul_neg_of_pos_of_neg hp2 hq
        · intro hq
          rw [uI_k _ _ _ (by decide), hIb, h5, if_neg]
          rw [hzq]
          have := Int.mul_pos hp2 hq
          omega
        · intro I2 k1 k2
          refine hK I2 (fun a k3 k4 => ?_) k2
          rw [k1 a k3, uI_a _ _ _ k3, e1 a k4]
      · have h : ¬ I1 b 1 ≤ nI i + nI wh := h
        rw [hIb, h1, nI_add] at h
        have hlt : i + wh < n := by
          rcases Nat.lt_or_ge (i + wh) n with q | q
          · exact q
          · exact absurd (nI_le q (by omega)) h
        refine ⟨hb, fun h7 => ?_, fun h7 => ?_⟩
        · have h7 : I1 b 1 ≤ nI i + nI wh + 1 := h7
          rw [hIb, h1, nI_add, nI_1] at h7
          have h8 := (nI_leI (by omega) (by omega)).mp h7
          refine ⟨n - wh - i, 0, Or.inr ⟨rfl, by omega⟩, i, rfl, rfl, rfl, hi, e1, e2, e3, Or.inr ⟨rfl, rfl, hlt, 0, rfl, ?_⟩⟩
          unfold dz
          rw [if_neg (by omega)]
          rfl
        · have h7 : ¬ I1 b 1 ≤ nI i + nI wh + 1 := h7
          rw [hIb, h1, nI_add, nI_1] at h7
          have h8 : i + wh + 1 < n := by
            rcases Nat.lt_or_ge (i + wh + 1) n with q | q
            · exact q
            · exact absurd (nI_le q (by omega)) h7
          have e6 : nI i + nI wh + 1 = nI (i + wh + 1) := by rw [nI_add, nI_1]
          refine ⟨hb, ?_, n - wh - i, 0, Or.inr ⟨rfl, by omega⟩, i, rfl, rfl, rfl, hi, e1, e2, e3, Or.inr ⟨rfl, rfl, hlt, _, rfl, ?_⟩⟩
          · show m_inb sh (rf b 0) 0 (nI i + nI wh + 1)
            rw [e6]
            exact m_inb_i hB.2.1 (vp_in_nI (by omega) (by omega))
          · show u32 (I1 (rf b 0) (nI i + nI wh + 1).toNatClampNeg) = _
            rw [e6, nI_clamp (by omega), e2 _ (by omega)]
            unfold dz
            rw [if_pos h8]
            rfl
    rcases m_cu1 hc with ⟨rfl, rfl⟩ | hc
    · obtain ⟨rfl, hlt, ab, rfl, hab⟩ : b9 = 0 ∧ i + wh < n ∧ ∃ ab : Int32, st = [.inl ab] ∧ u32 ab = dz (bdg rf I b) n (i + wh + 1) := by
        rcases e5 with ⟨q, -⟩ | ⟨-, q1⟩
        · cases q
        · exact q1
      have e6 : nI i + nI wh = nI (i + wh) := nI_add i wh
      have d1 := hdg (i + wh)
      have d2 := u32_lt ab
      have es : ab.toInt64 <<< ((32 : Int32).toInt64 &&& 63) ||| ((I1 (rf b 0) (nI i + nI wh).toNatClampNeg).toInt64 &&& 4294967295) = lN (u32 ab * 2 ^ 32 + bdg rf I b (i + wh)) := by
        rw [e6, nI_clamp (by omega), l_mask, e2 _ (by omega), l_shl32i]
        exact l_or d1 d2
      refine ⟨hb, ?_, hb, m_inb_i hB.2.1 (vp_in_nI (by omega) (by omega)), n - wh - (i + 1), 1, Or.inl (by omega), i + 1, ?_, rfl, rfl, by omega, ?_, ?_, ?_, Or.inl ⟨rfl, rfl, rfl⟩⟩
      · show m_inb sh (rf b 0) 0 (nI i + nI wh)
        rw [e6]
        exact m_inb_i hB.2.1 (vp_in_nI (by omega) (by omega))
      · rw [← nI_1]
      · intro a ha
        rw [uI_a _ _ _ ha, e1 a ha]
      · intro j hj
        rw [nI_clamp (by omega), uI_k _ _ _ (by omega), e2 j (by omega)]
      · intro j hj
        rw [nI_clamp (by omega)]
        by_cases hji : j = i
        · subst hji
          rw [uI_s, es, l_ushr (by omega) (by omega), lN_i, u32_nI, ← hV, Nat.div_div_eq_div_mul]
          have ep : 2 ^ k * (2 ^ 32) ^ j = (2 ^ 32) ^ (j + wh) * 2 ^ r := by
            rw [← Nat.pow_mul, ← Nat.pow_mul, ← Nat.pow_add, ← Nat.pow_add]
            congr 1
            omega
          rw [ep, ← Nat.div_div_eq_div_mul, ← h6]
          obtain ⟨m, hm⟩ : ∃ m, n = j + wh + (m + 1) := ⟨n - (j + wh) - 1, by omega⟩
          have ex : dv (2 ^ 32) (bdg rf I b) n / (2 ^ 32) ^ (j + wh) = (u32 ab * 2 ^ 32 + bdg rf I b (j + wh)) + 2 ^ 64 * dv (2 ^ 32) (fun t => bdg rf I b (j + wh + 2 + t)) (m - 1) := by
            rw [hm, dv_div (by decide) hdg]
            rcases Nat.eq_zero_or_pos m with q0 | q0
            · subst q0
              have : u32 ab = 0 := by rw [hab]; unfold dz; rw [if_neg (by omega)]
              rw [this]
              simp [dv]
            · obtain ⟨m', rfl⟩ : ∃ m', m = m' + 1 := ⟨m - 1, by omega⟩
              have : u32 ab = bdg rf I b (j + wh + 1) := by rw [hab]; unfold dz; rw [if_pos (by omega)]
              rw [this, show m' + 1 + 1 = 2 + m' by omega, dv_split 2 m', show m' + 1 - 1 = m' by omega]
              have e9 : (fun t => (fun t => bdg rf I b (j + wh + t)) (2 + t)) = (fun t => bdg rf I b (j + wh + 2 + t)) := by
                funext t
                show bdg rf I b (j + wh + (2 + t)) = _
                rw [Nat.add_assoc (j + wh) 2 t]
              rw [e9]
              simp only [dv, Nat.pow_zero, Nat.pow_one, Nat.mul_one, Nat.zero_add, Nat.add_zero]
              omega
          exact (shr_lem ex (by omega)).symm
        · rw [uI_k _ _ _ hji]
          exact e3 j (by omega)
    · cases hc

def pt_inverseOf (_ : mSH) (_ : mRF) : mPT := fun As I J K => ∃ x : Int32, As = [.inl x] ∧ u32 x % 2 = 1 ∧ ∀ v : Int32, x * v = 1 → K (some (.inl v)) I J
def ee : Nat → Int32
  | 0 => 8
  | s + 1 => ee s * ee s
theorem ee_step {x v t e : Int32} (h : x * v = 1 + t * e) : x * (v * (2 - x * v)) = 1 + (-(t * t)) * (e * e) := by
  have e1 : x * (v * (2 - x * v)) = (x * v) * (2 - x * v) := by rw [Int32.mul_assoc]
  rw [e1, h]
  grind
theorem odd_sq {x : Int32} (h : u32 x % 2 = 1) : ∃ t : Int32, x * x = 1 + t * ee 0 := by
  obtain ⟨m, hm⟩ : ∃ m, u32 x = 2 * m + 1 := ⟨u32 x / 2, by omega⟩
  obtain ⟨s, hs⟩ : ∃ s, m * (m + 1) = 2 * s := by
    refine ⟨m * (m + 1) / 2, ?_⟩
    have : m * (m + 1) % 2 = 0 := by
      rcases (show m % 2 = 0 ∨ m % 2 = 1 by omega) with q | q
      · rw [Nat.mul_mod, q]; simp
      · rw [Nat.mul_mod, show (m + 1) % 2 = 0 by omega]; simp
    omega
  refine ⟨nI s, ?_⟩
  rw [nI_of32 x, hm, pk_mul, show (1 : Int32) = nI 1 from rfl, show ee 0 = nI 8 from rfl, pk_mul, nI_add]
  congr 1
  have : (2 * m + 1) * (2 * m + 1) = 4 * (m * (m + 1)) + 1 := by grind
  omega
set_option maxHeartbeats 4000000 in
set_option maxRecDepth 100000 in
theorem mt_X0_inverseOf : m_Mt yX0_inverseOf cX0_inverseOf 3 (some .int) 0 0 pt_inverseOf := by
  refine m_methodG (fl := fl_X0) (kI := kI_X0) (kJ := kJ_X0) (ct := ct_none) (cd := cd_X0_inverseOf) (cut := [(4, [0, 1, 2])]) (rk := 1) (fu := 80) (by decide +kernel) fl_X0_ok kI_X0_ok kJ_X0_ok (ce_none _ _ _ _ _) rfl ck_X0_inverseOf ⟨_, _, rfl, rfl⟩ ?_
  intro sh rf As I J K hpt
  obtain ⟨x, rfl, hx, hK⟩ := hpt
  refine ⟨Nat.le_of_ble_eq_true rfl, fun a b9 pc vs st I1 J1 => ∃ (s : Nat) (v t : Int32), vs = [.inl x, .inl v, .inl (nI s)] ∧ st = [] ∧ I1 = I ∧ J1 = J ∧ a = 4 - s ∧ s ≤ 4 ∧ x * v = 1 + t * ee s, ?_, ?_⟩
  · obtain ⟨t, ht⟩ := odd_sq hx
    exact ⟨4, 0, 0, x, t, rfl, rfl, rfl, rfl, rfl, by omega, ht⟩
  · intro pc ks a b9 vs st I1 J1 hc hI
    rcases m_cu1 hc with ⟨rfl, rfl⟩ | hc
    · obtain ⟨s, v, t, rfl, rfl, rfl, rfl, rfl, hs, ht⟩ := hI
      refine ⟨fun h => ?_, fun h => ?_⟩
      · have hge := (nI_leI (a := 4) (b := s) (by decide) (by omega)).mp h
        obtain rfl : s = 4 := by omega
        refine hK v ?_
        rw [ht, show ee 4 = 0 by decide, Int32.mul_zero, Int32.add_zero]
      · have hlt : s < 4 := by
          rcases Nat.lt_or_ge s 4 with q | q
          · exact q
          · exact absurd (nI_le q (by omega)) h
        refine ⟨4 - (s + 1), 0, Or.inl (by omega), s + 1, v * (2 - x * v), -(t * t), ?_, rfl, rfl, rfl, rfl, by omega, ee_step ht⟩
        rw [← nI_1]
    · cases hc

