/-! ===== compareSize, bitLength, sixteenBits, twos, toLong ===== -/
theorem lg_cmp_N {a b : Nat} (ha : a < 2 ^ 63) (hb : b < 2 ^ 63) : lg_cmp (lN a) (lN b) = cmpN a b := by
  unfold lg_cmp cmpN
  by_cases h : a < b
  · rw [if_pos h, if_neg (fun q => by have := (pk_lLT hb ha).mp q; omega), if_neg (fun q => by have := (pk_lEQ ha hb).mp q; omega)]
  · rw [if_neg h]
    by_cases h2 : a = b
    · rw [if_pos h2, if_neg (fun q => by have := (pk_lLT hb ha).mp q; omega), if_pos (by rw [h2])]
    · rw [if_neg h2, if_pos ((pk_lLT hb ha).mpr (by omega))]
def ct_X0_compareSize (sh : mSH) (rf : mRF) : Nat → Option (Nat × Bool × mPT) := fun k => match k with
  | 52 => some (2, false, pt_cmpJ sh rf)
  | _ => none
set_option maxRecDepth 20000 in
theorem ce_X0_compareSize : m_CE RX0 1 23 cX0_compareSize 3 ct_X0_compareSize := by
  intro p l e s m args below meth c Q D cs ad sh rf N hx hb hml hown hts hK hi hN k n vf pt h
  unfold ct_X0_compareSize at h
  split at h
  · cases h
    exact m_CG_S mt_J13_compare_74951 hx hb hml hown hts hK hi hN (m_wck_ok (l := [(Cond.methodLink RX0 52 yJ13_compare_74951, 364), (Cond.static yJ13_compare_74951, 365), (Cond.initialized RJ13, 65), (Cond.code yJ13_compare_74951 cJ13_compare_74951 4 (some .int), 366)]) (by decide +kernel)) ⟨by decide +kernel, by decide +kernel, by decide +kernel⟩ ⟨Nat.le_of_ble_eq_true rfl, Nat.le_of_ble_eq_true rfl⟩
  · cases h
set_option maxHeartbeats 4000000 in
set_option maxRecDepth 100000 in
theorem mt_X0_compareSize : m_Mt yX0_compareSize cX0_compareSize 3 (some .int) 1 23 pt_compareSize := by
  refine m_methodG (fl := fl_X0) (kI := kI_X0) (kJ := kJ_X0) (ct := ct_X0_compareSize) (cd := cd_X0_compareSize) (cut := [(35, [0, 1, 2])]) (rk := 1) (fu := 80) (by decide +kernel) fl_X0_ok kI_X0_ok kJ_X0_ok ce_X0_compareSize rfl ck_X0_compareSize ⟨_, _, rfl, rfl⟩ ?_
  intro sh rf As I J K hpt
  obtain ⟨b, rest, rfl, hb, f, z, y, rfl, ⟨cap, n, hB, h1, h2, h4, h5, h6⟩, ⟨cap2, n2, hF, g1, g2, g4, g5, g6⟩, hK⟩ := hpt
  have hcap := hB.2.2.2
  have hcap2 := hF.2.2.2
  have hdg : ∀ c i, bdg rf I c i < 2 ^ 32 := fun c i => bdg_lt rf I c i
  refine ⟨Nat.le_of_ble_eq_true rfl, fun a b9 pc vs st I1 J1 => ∃ j, vs = [.inr (.inr b), .inr (.inr f), .inl (nI j - 1)] ∧ st = [] ∧ I1 = I ∧ J1 = J ∧ a = j ∧ n2 = n ∧ j ≤ n ∧ (∀ i, j ≤ i → i < n → bdg rf I b i = bdg rf I f i), ?_, ?_⟩
  · refine ⟨hb, hF.1, fun h => ?_, fun h => ?_⟩
    · have h : I b 1 = I f 1 := h
      rw [h1, g1] at h
      have hnn := (nI_eq (by omega) (by omega)).mp h
      refine ⟨hb, n, 0, n, ?_, rfl, rfl, rfl, rfl, hnn.symm, Nat.le_refl _, fun i a1 a2 => absurd a2 (by omega)⟩
      rw [← h1]
    · have h : ¬ I b 1 = I f 1 := h
      rw [h1, g1] at h
      have hnn : n ≠ n2 := fun q => h (by rw [q])
      refine ⟨hb, hF.1, fun h => ?_, fun h => ?_⟩
      · have h : I f 1 ≤ I b 1 := h
        rw [h1, g1] at h
        have hlt : n2 < n := by
          have := (nI_leI (by omega) (by omega)).mp h
          omega
        have e : cmpN z.natAbs y.natAbs = 1 := by
          have a1 : y.natAbs < z.natAbs := by
            rw [← h6, ← g6]
            obtain ⟨k, rfl⟩ : ∃ k, n = k + 1 := ⟨n - 1, by omega⟩
            have b1 : (2 ^ 32) ^ k ≤ dv (2 ^ 32) (bdg rf I b) (k + 1) := dv_top (fun e => h4 (by omega) (u32_0.mp e))
            have b2 : dv (2 ^ 32) (bdg rf I f) n2 < (2 ^ 32) ^ n2 := dv_lt (fun i _ => hdg f i)
            have b3 : (2 ^ 32) ^ n2 ≤ (2 ^ 32) ^ k := Nat.pow_le_pow_right (by decide) (by omega)
            omega
          unfold cmpN
          rw [if_neg (by omega), if_neg (by omega)]
        rw [e] at hK
        exact hK
      · have h : ¬ I f 1 ≤ I b 1 := h
        rw [h1, g1] at h
        have hlt : n < n2 := by
          rcases Nat.lt_or_ge n n2 with q | q
          · exact q
          · exact absurd (nI_le q (by omega)) h
        have e : cmpN z.natAbs y.natAbs = -1 := by
          have a1 : z.natAbs < y.natAbs := by
            rw [← h6, ← g6]
            obtain ⟨k, rfl⟩ : ∃ k, n2 = k + 1 := ⟨n2 - 1, by omega⟩
            have b1 : (2 ^ 32) ^ k ≤ dv (2 ^ 32) (bdg rf I f) (k + 1) := dv_top (fun e => g4 (by omega) (u32_0.mp e))
            have b2 : dv (2 ^ 32) (bdg rf I b) n < (2 ^ 32) ^ n := dv_lt (fun i _ => hdg b i)
            have b3 : (2 ^ 32) ^ n ≤ (2 ^ 32) ^ k := Nat.pow_le_pow_right (by decide) (by omega)
            omega
          unfold cmpN
          rw [if_pos a1]
        rw [e] at hK
        exact hK
  · intro pc ks a b9 vs st I1 J1 hc hI
    rcases m_cu1 hc with ⟨rfl, rfl⟩ | hc
    · obtain ⟨j, rfl, rfl, rfl, rfl, rfl, rfl, hj, he⟩ := hI
      refine ⟨fun h => ?_, fun h => ?_⟩
      · have hj0 : a = 0 := by
          rcases Nat.eq_zero_or_pos a with q | q
          · exact q
          · have h : nI a - nI 1 < 0 := h
            rw [pk_sub q] at h
            exact absurd h (nI_pos (by omega))
        subst hj0
        have e : cmpN z.natAbs y.natAbs = 0 := by
          unfold cmpN
          rw [← h6, ← g6, dv_congr (fun i hi => he i (by omega) hi), if_neg (by omega), if_pos rfl]
        rw [e] at hK
        exact hK
      · have hj0 : 0 < a := by
          rcases Nat.eq_zero_or_pos a with q | q
          · rw [q] at h; exact absurd (by decide) h
          · exact q
        have e6 : nI a - 1 = nI (a - 1) := pk_sub (b := 1) hj0
        have i1 : m_inb sh (rf b 0) 0 (nI a - 1) := by
          rw [e6]; exact m_inb_i hB.2.1 (vp_in_nI (by omega) (by omega))
        have i2 : m_inb sh (rf f 0) 0 (nI a - 1) := by
          rw [e6]; exact m_inb_i hF.2.1 (vp_in_nI (by omega) (by omega))
        refine ⟨hb, i1, hF.1, i2, fun h7 => ?_, fun h7 => ?_⟩
        · have h7 : I1 (rf b 0) (nI a - 1).toNatClampNeg = I1 (rf f 0) (nI a - 1).toNatClampNeg := h7
          rw [e6, nI_clamp (by omega)] at h7
          refine ⟨a - 1, 0, Or.inl (by omega), a - 1, ?_, rfl, rfl, rfl, rfl, rfl, by omega, fun i q1 q2 => ?_⟩
          · rw [← e6, Int32.sub_eq_add_neg (nI a - 1) 1]
          · rcases Nat.eq_or_lt_of_le q1 with q | q
            · unfold bdg
              rw [← q, h7]
            · exact he i (by omega) q2
        · have h7 : ¬ I1 (rf b 0) (nI a - 1).toNatClampNeg = I1 (rf f 0) (nI a - 1).toNatClampNeg := h7
          rw [e6, nI_clamp (by omega)] at h7
          refine ⟨hb, i1, hF.1, i2, _, _, rfl, ?_⟩
          show K (some (.inl (lg_cmp ((I1 (rf b 0) (nI a - 1).toNatClampNeg).toInt64 &&& 4294967295) ((I1 (rf f 0) (nI a - 1).toNatClampNeg).toInt64 &&& 4294967295)))) I1 J1
          rw [e6, nI_clamp (by omega), l_mask, l_mask]
          have d1 := hdg b (a - 1)
          have d2 := hdg f (a - 1)
          have hne : bdg rf I1 b (a - 1) ≠ bdg rf I1 f (a - 1) := fun q => h7 (u32_inj q)
          rw [show u32 (I1 (rf b 0) (a - 1)) = bdg rf I1 b (a - 1) from rfl, show u32 (I1 (rf f 0) (a - 1)) = bdg rf I1 f (a - 1) from rfl, lg_cmp_N (by omega) (by omega)]
          have e : cmpN z.natAbs y.natAbs = cmpN (bdg rf I1 b (a - 1)) (bdg rf I1 f (a - 1)) := by
            unfold cmpN
            rw [← h6, ← g6]
            rcases Nat.lt_or_gt_of_ne hne with q | q
            · have := dv_cmp (B := 2 ^ 32) (fun i _ => hdg b i) q (n := n2) (by omega) (fun i q1 q2 => he i (by omega) q2)
              rw [if_pos this, if_pos q]
            · have := dv_cmp (B := 2 ^ 32) (fun i _ => hdg f i) q (n := n2) (by omega) (fun i q1 q2 => (he i (by omega) q2).symm)
              rw [if_neg (by omega), if_neg (by omega), if_neg (by omega), if_neg (by omega)]
          rw [← e]
          exact hK
    · cases hc

def ct_X0_bitLength (sh : mSH) (rf : mRF) : Nat → Option (Nat × Bool × mPT) := fun k => match k with
  | 42 => some (1, false, pt_nlz sh rf)
  | _ => none
set_option maxRecDepth 20000 in
theorem ce_X0_bitLength : m_CE RX0 1 21 cX0_bitLength 1 ct_X0_bitLength := by
  intro p l e s m args below meth c Q D cs ad sh rf N hx hb hml hown hts hK hi hN k n vf pt h
  unfold ct_X0_bitLength at h
  split at h
  · cases h
    exact m_CG_S mt_J6_numberOfLeadingZeros_0f7a4 hx hb hml hown hts hK hi hN (m_wck_ok (l := [(Cond.methodLink RX0 42 yJ6_numberOfLeadingZeros_0f7a4, 383), (Cond.static yJ6_numberOfLeadingZeros_0f7a4, 384), (Cond.initialized RJ6, 60), (Cond.code yJ6_numberOfLeadingZeros_0f7a4 cJ6_numberOfLeadingZeros_0f7a4 2 (some .int), 385)]) (by decide +kernel)) ⟨by decide +kernel, by decide +kernel, by decide +kernel⟩ ⟨Nat.le_of_ble_eq_true rfl, Nat.le_of_ble_eq_true rfl⟩
  · cases h
set_option maxHeartbeats 4000000 in
set_option maxRecDepth 100000 in
theorem mt_X0_bitLength : m_Mt yX0_bitLength cX0_bitLength 1 (some .int) 1 21 pt_bitLength := by
  refine m_method0 80 (fl := fl_X0) (kI := kI_X0) (kJ := kJ_X0) (ct := ct_X0_bitLength) (cd := cd_X0_bitLength) (rk := 1) (by decide +kernel) fl_X0_ok kI_X0_ok kJ_X0_ok ce_X0_bitLength rfl ck_X0_bitLength ⟨_, _, rfl, rfl⟩ ?_
  intro sh rf As I J K hpt
  obtain ⟨b, rest, rfl, hb, z, rfl, ⟨cap, n, hB, h1, h2, h4, h5, h6⟩, hK⟩ := hpt
  have hcap := hB.2.2.2
  have h0 := BIs.zero (sh := sh) h4 h6
  refine ⟨Nat.le_of_ble_eq_true rfl, hb, fun h => ?_, fun h => ?_⟩
  · have h : ¬ I b 1 = 0 := h
    rw [h1] at h
    have hn0 : 0 < n := by
      rcases Nat.eq_zero_or_pos n with q | q
      · rw [q] at h; exact absurd rfl h
      · exact q
    have e6 : I b 1 - 1 = nI (n - 1) := by rw [h1]; exact pk_sub (b := 1) hn0
    refine ⟨hb, hb, hb, ?_, I (rf b 0) (I b 1 - 1).toNatClampNeg, rfl, ?_, fun r hr hr1 hr2 => ?_⟩
    · show m_inb sh (rf b 0) 0 (I b 1 - 1)
      rw [e6]
      exact m_inb_i hB.2.1 (vp_in_nI (by omega) (by omega))
    · rw [e6, nI_clamp (by omega)]
      exact h4 hn0
    · rw [e6, nI_clamp (by omega)] at hr1 hr2
      show K (some (.inl (32 * I b 1 - nI r))) I J
      obtain ⟨k, rfl⟩ : ∃ k, n = k + 1 := ⟨n - 1, by omega⟩
      have e : 32 * I b 1 - nI r = nI (32 * (k + 1) - r) := by
        rw [h1, show (32 : Int32) = nI 32 from rfl, pk_mul, pk_sub (by omega)]
      have hv : blen z.natAbs = 32 * (k + 1) - r := by
        have d : dv (2 ^ 32) (bdg rf I b) (k + 1) = dv (2 ^ 32) (bdg rf I b) k + u32 (I (rf b 0) k) * 2 ^ (32 * k) := by
          rw [dv, ← Nat.pow_mul]
          rfl
        have dl : dv (2 ^ 32) (bdg rf I b) k < 2 ^ (32 * k) := by
          rw [Nat.pow_mul]
          exact dv_lt (fun i _ => bdg_lt rf I b i)
        rw [show k + 1 - 1 = k by omega] at hr1 hr2
        rw [← h6, show 32 * (k + 1) - r = (32 * k + (31 - r)) + 1 by omega]
        apply blen_of
        · rw [d, Nat.pow_add, Nat.mul_comm (2 ^ (32 * k))]
          have := Nat.mul_le_mul_right (2 ^ (32 * k)) hr1
          omega
        · rw [d, show 32 * k + (31 - r) + 1 = (32 - r) + 32 * k by omega, Nat.pow_add]
          have := Nat.mul_le_mul_right (2 ^ (32 * k)) (show u32 (I (rf b 0) k) + 1 ≤ 2 ^ (32 - r) from hr2)
          rw [Nat.add_mul, Nat.one_mul] at this
          omega
      rw [e, ← hv]
      exact hK
  · have h : I b 1 = nI 0 := h
    rw [h1] at h
    have hz := h0.mp ((nI_eq (by omega) (by decide)).mp h)
    subst hz
    exact hK

set_option maxHeartbeats 4000000 in
set_option maxRecDepth 100000 in
theorem mt_X0_sixteenBits : m_Mt yX0_sixteenBits cX0_sixteenBits 3 (some .int) 0 0 pt_sixteenBits := by
  refine m_method0 80 (fl := fl_X0) (kI := kI_X0) (kJ := kJ_X0) (ct := ct_none) (cd := cd_X0_sixteenBits) (rk := 1) (by decide +kernel) fl_X0_ok kI_X0_ok kJ_X0_ok (ce_none _ _ _ _ _) rfl ck_X0_sixteenBits ⟨_, _, rfl, rfl⟩ ?_
  intro sh rf As I J K hpt
  obtain ⟨b, rest, rfl, hb, z, k, rfl, hk, ⟨cap, n, hB, h1, h2, h4, h5, h6⟩, hK⟩ := hpt
  have hcap := hB.2.2.2
  have e1 : nI k >>> ((1 : Int32) &&& 31) = nI (k / 2) := pk_shrN hk _ 1 (by decide)
  have hdg : ∀ i, bdg rf I b i < 2 ^ 32 := fun i => bdg_lt rf I b i
  have ep : 2 ^ (16 * k) = (2 ^ 32) ^ (k / 2) * 2 ^ (16 * (k % 2)) := by
    rw [← Nat.pow_mul, ← Nat.pow_add]
    congr 1
    omega
  rw [ep, ← Nat.div_div_eq_div_mul, ← h6] at hK
  refine ⟨Nat.le_of_ble_eq_true rfl, fun h => ?_, fun h => ?_⟩
  · have h : nI k >>> ((1 : Int32) &&& 31) < 0 := h
    rw [e1] at h
    exact absurd h (nI_pos (by omega))
  · refine ⟨hb, fun h7 => ?_, fun h7 => ?_⟩
    · have h7 : nI k >>> ((1 : Int32) &&& 31) < I b 1 := h7
      rw [e1, h1] at h7
      have hlt := (nI_ltI (by omega) (by omega)).mp h7
      refine ⟨hb, ?_, ?_⟩
      · show m_inb sh (rf b 0) 0 (nI k >>> ((1 : Int32) &&& 31))
        rw [e1]
        exact m_inb_i hB.2.1 (vp_in_nI (by omega) (by omega))
      · show K (some (.inl (((I (rf b 0) (nI k >>> ((1 : Int32) &&& 31)).toNatClampNeg).toUInt32 >>> (((nI k &&& 1) <<< ((4 : Int32) &&& 31)).toUInt32 &&& Int32.toUInt32 31)).toInt32 &&& 65535))) I J
        rw [e1, nI_clamp (by omega)]
        have e2 : nI k &&& 1 = nI (k % 2) := pk_andN (by omega) 1 (by decide)
        have d1 := dv_digit (B := 2 ^ 32) (by decide) hdg hlt
        have d2 := hdg (k / 2)
        have e9 : I (rf b 0) (k / 2) = nI (bdg rf I b (k / 2)) := nI_of32 _
        rw [e2, e9]
        rcases (show k % 2 = 0 ∨ k % 2 = 1 by omega) with q | q
        · rw [q, show (nI 0 <<< ((4 : Int32) &&& 31)) = 0 by decide, pk_ushrN d2 0 0 (by decide), pk_andN (by omega) 16 (by decide)]
          rw [q] at hK
          have e : dv (2 ^ 32) (bdg rf I b) n / (2 ^ 32) ^ (k / 2) / 2 ^ (16 * 0) % 65536 = bdg rf I b (k / 2) / 2 ^ 0 % 2 ^ 16 := by omega
          rw [e] at hK
          exact hK
        · rw [q, show (nI 1 <<< ((4 : Int32) &&& 31)) = 16 by decide, pk_ushrN d2 16 16 (by decide), pk_andN (by omega) 16 (by decide)]
          rw [q] at hK
          have e : dv (2 ^ 32) (bdg rf I b) n / (2 ^ 32) ^ (k / 2) / 2 ^ (16 * 1) % 65536 = bdg rf I b (k / 2) / 2 ^ 16 % 2 ^ 16 := by omega
          rw [e] at hK
          exact hK
    · have h7 : ¬ nI k >>> ((1 : Int32) &&& 31) < I b 1 := h7
      rw [e1, h1] at h7
      have hge : n ≤ k / 2 := by
        rcases Nat.lt_or_ge (k / 2) n with q | q
        · exact absurd ((nI_ltI (by omega) (by omega)).mpr q) h7
        · exact q
      rw [dv_high (by decide) hdg hge, Nat.zero_div] at hK
      exact hK

theorem odd_part : ∀ v : Nat, 0 < v → ∃ r y, v = 2 ^ r * (2 * y + 1) := by
  intro v
  induction v using Nat.strongRecOn with
  | ind v ih =>
    intro h
    rcases (show v % 2 = 0 ∨ v % 2 = 1 by omega) with q | q
    · obtain ⟨r, y, e⟩ := ih (v / 2) (by omega) (by omega)
      refine ⟨r + 1, y, ?_⟩
      rw [Nat.pow_succ, Nat.mul_comm (2 ^ r) 2, Nat.mul_assoc, ← e]
      omega
    · exact ⟨0, v / 2, by omega⟩
def ct_X0_twos (sh : mSH) (rf : mRF) : Nat → Option (Nat × Bool × mPT) := fun k => match k with
  | 49 => some (1, false, pt_ntz sh rf)
  | _ => none
set_option maxRecDepth 20000 in
theorem ce_X0_twos : m_CE RX0 1 21 cX0_twos 2 ct_X0_twos := by
  intro p l e s m args below meth c Q D cs ad sh rf N hx hb hml hown hts hK hi hN k n vf pt h
  unfold ct_X0_twos at h
  split at h
  · cases h
    exact m_CG_S mt_J6_numberOfTrailingZeros_0f7a4 hx hb hml hown hts hK hi hN (m_wck_ok (l := [(Cond.methodLink RX0 49 yJ6_numberOfTrailingZeros_0f7a4, 544), (Cond.static yJ6_numberOfTrailingZeros_0f7a4, 545), (Cond.initialized RJ6, 60), (Cond.code yJ6_numberOfTrailingZeros_0f7a4 cJ6_numberOfTrailingZeros_0f7a4 2 (some .int), 546)]) (by decide +kernel)) ⟨by decide +kernel, by decide +kernel, by decide +kernel⟩ ⟨Nat.le_of_ble_eq_true rfl, Nat.le_of_ble_eq_true rfl⟩
  · cases h
set_option maxHeartbeats 4000000 in
set_option maxRecDepth 100000 in
theorem mt_X0_twos : m_Mt yX0_twos cX0_twos 2 (some .int) 1 21 pt_twos := by
  refine m_methodG (fl := fl_X0) (kI := kI_X0) (kJ := kJ_X0) (ct := ct_X0_twos) (cd := cd_X0_twos) (cut := [(2, [0, 1])]) (rk := 1) (fu := 80) (by decide +kernel) fl_X0_ok kI_X0_ok kJ_X0_ok ce_X0_twos rfl ck_X0_twos ⟨_, _, rfl, rfl⟩ ?_
  intro sh rf As I J K hpt
  obtain ⟨b, rest, rfl, hb, z, rfl, ⟨cap, n, hB, h1, h2, h4, h5, h6⟩, hK0, hK⟩ := hpt
  have hcap := hB.2.2.2
  have hdg : ∀ i, bdg rf I b i < 2 ^ 32 := fun i => bdg_lt rf I b i
  refine ⟨Nat.le_of_ble_eq_true rfl, fun a b9 pc vs st I1 J1 => ∃ i, vs = [.inr (.inr b), .inl (nI i)] ∧ st = [] ∧ I1 = I ∧ J1 = J ∧ a = n - i ∧ i ≤ n ∧ (∀ j, j < i → bdg rf I b j = 0), ?_, ?_⟩
  · exact ⟨n, 0, 0, rfl, rfl, rfl, rfl, by omega, Nat.zero_le _, fun j h => absurd h (Nat.not_lt_zero j)⟩
  · intro pc ks a b9 vs st I1 J1 hc hI
    rcases m_cu1 hc with ⟨rfl, rfl⟩ | hc
    · obtain ⟨i, rfl, rfl, rfl, rfl, rfl, hi, he⟩ := hI
      refine ⟨hb, fun h => ?_, fun h => ?_⟩
      · have h : I1 b 1 ≤ nI i := h
        rw [h1] at h
        have hge := (nI_leI (by omega) (by omega)).mp h
        have hz : z = 0 := by
          have e : dv (2 ^ 32) (bdg rf I1 b) n = dv (2 ^ 32) (bdg rf I1 b) 0 := dv_ext (Nat.zero_le _) (fun j _ hj => he j (by omega))
          rw [h6] at e
          have e : z.natAbs = 0 := e
          omega
        exact hK0 hz
      · have h : ¬ I1 b 1 ≤ nI i := h
        rw [h1] at h
        have hlt : i < n := by
          rcases Nat.lt_or_ge i n with q | q
          · exact q
          · exact absurd (nI_le q (by omega)) h
        have i1 : m_inb sh (rf b 0) 0 (nI i) := m_inb_i hB.2.1 (vp_in_nI (by omega) (by omega))
        refine ⟨hb, i1, fun h7 => ?_, fun h7 => ?_⟩
        · have h7 : I1 (rf b 0) (nI i).toNatClampNeg = 0 := h7
          rw [nI_clamp (by omega)] at h7
          refine ⟨n - (i + 1), 0, Or.inl (by omega), i + 1, ?_, rfl, rfl, rfl, rfl, by omega, fun j hj => ?_⟩
          · rw [← nI_1]
          · rcases Nat.eq_or_lt_of_le (Nat.le_of_lt_succ hj) with q | q
            · unfold bdg
              rw [q, h7]
              rfl
            · exact he j q
        · have h7 : ¬ I1 (rf b 0) (nI i).toNatClampNeg = 0 := h7
          rw [nI_clamp (by omega)] at h7
          have hp : 0 < u32 (I1 (rf b 0) i) := Nat.pos_of_ne_zero (fun q => h7 (u32_0.mp q))
          obtain ⟨r, y, hry⟩ := odd_part _ hp
          have d2 := hdg i
          have hr : r < 32 := by
            rcases Nat.lt_or_ge r 32 with q | q
            · exact q
            · exfalso
              have a1 : 2 ^ 32 ≤ 2 ^ r := Nat.pow_le_pow_right (by omega) q
              have a2 : 2 ^ r * 1 ≤ 2 ^ r * (2 * y + 1) := Nat.mul_le_mul_left _ (by omega)
              have a3 : u32 (I1 (rf b 0) i) < 2 ^ 32 := d2
              omega
          refine ⟨hb, i1, _, r, y, rfl, ?_, ?_⟩
          · rw [nI_clamp (by omega)]
            exact hry
          · show K (some (.inl (32 * nI i + nI r))) I1 J1
            rw [show (32 : Int32) = nI 32 from rfl, pk_mul, nI_add]
            obtain ⟨m, rfl⟩ : ∃ m, n = i + (m + 1) := ⟨n - i - 1, by omega⟩
            refine hK (32 * i + r) (y + 2 ^ (31 - r) * dv (2 ^ 32) (fun j => bdg rf I1 b (i + 1 + j)) m) ?_ (by omega)
            rw [← h6, dv_split i (m + 1), dv_ext (n := 0) (Nat.zero_le _) (fun j _ hj => he j hj)]
            rw [show dv (2 ^ 32) (bdg rf I1 b) 0 = 0 from rfl, Nat.zero_add, Nat.add_comm m 1, dv_split 1 m]
            have e1 : dv (2 ^ 32) (fun j => bdg rf I1 b (i + j)) 1 = 2 ^ r * (2 * y + 1) := by
              simp only [dv, Nat.pow_zero, Nat.mul_one, Nat.zero_add, Nat.add_zero]
              exact hry
            rw [e1, ← Nat.pow_mul, Nat.pow_add, Nat.mul_assoc]
            congr 1
            have e2 : (fun j => bdg rf I1 b (i + (1 + j))) = (fun j => bdg rf I1 b (i + 1 + j)) := by
              funext j
              rw [Nat.add_assoc]
            rw [show (fun j => (fun j => bdg rf I1 b (i + j)) (1 + j)) = (fun j => bdg rf I1 b (i + (1 + j))) from rfl, e2]
            generalize dv (2 ^ 32) (fun j => bdg rf I1 b (i + 1 + j)) m = X
            have e3 : (2 ^ 32) ^ 1 = 2 ^ r * (2 * 2 ^ (31 - r)) := by
              rw [Nat.pow_one, ← Nat.pow_succ', ← Nat.pow_add]
              congr 1
              omega
            rw [e3]
            generalize 2 ^ r = A
            generalize 2 ^ (31 - r) = C
            rw [Nat.mul_add 2, Nat.mul_add, Nat.mul_add, Nat.mul_add, Nat.mul_assoc, Nat.mul_assoc]
            omega
    · cases hc

theorem l_shl32 {a : Nat} : lN a <<< ((32 : Int32).toInt64 &&& 63) = lN (a * 2 ^ 32) := by
  apply u64_inj
  rw [u64_lN]
  unfold u64
  rw [show ((32 : Int32).toInt64 &&& 63) = 32 by decide]
  rw [Int64.toBitVec_shiftLeft]
  simp [lN, Int64.toBitVec_ofNat, Nat.shiftLeft_eq]
theorem l_or {a b : Nat} (hb : b < 2 ^ 32) (ha : a < 2 ^ 32) : lN (a * 2 ^ 32) ||| lN b = lN (a * 2 ^ 32 + b) := by
  apply u64_inj
  rw [u64_lN, Nat.mod_eq_of_lt (by omega)]
  unfold u64
  rw [Int64.toBitVec_or, BitVec.toNat_or]
  have e1 : (lN (a * 2 ^ 32)).toBitVec.toNat = a * 2 ^ 32 := by
    have := u64_lN (a * 2 ^ 32)
    rw [Nat.mod_eq_of_lt (by omega)] at this
    exact this
  have e2 : (lN b).toBitVec.toNat = b := by
    have := u64_lN b
    rw [Nat.mod_eq_of_lt (by omega)] at this
    exact this
  rw [e1, e2, Nat.mul_comm, Nat.two_pow_add_eq_or_of_lt hb]
set_option maxHeartbeats 4000000 in
set_option maxRecDepth 100000 in
theorem mt_X0_toLong : m_Mt yX0_toLong cX0_toLong 7 (some .long) 0 0 pt_toLong := by
  refine m_method0 80 (fl := fl_X0) (kI := kI_X0) (kJ := kJ_X0) (ct := ct_none) (cd := cd_X0_toLong) (rk := 2) (by decide +kernel) fl_X0_ok kI_X0_ok kJ_X0_ok (ce_none _ _ _ _ _) rfl ck_X0_toLong ⟨_, _, rfl, rfl⟩ ?_
  intro sh rf As I J K hpt
  obtain ⟨b, rest, rfl, hb, z, rfl, ⟨cap, n, hB, h1, h2, h4, h5, h6⟩, hlim, hK⟩ := hpt
  have hcap := hB.2.2
  have hn := BIs.lim (sh := sh) (cap := 0) (m := 2) h4 h6 (by omega)
  have hdg : ∀ i, bdg rf I b i < 2 ^ 32 := fun i => bdg_lt rf I b i
  have fin : ∀ lo hi : Nat, lo < 2 ^ 32 → hi < 2 ^ 32 → hi * 2 ^ 32 + lo = z.natAbs → sh b = .inl 0 ∧ ((I b 2 = 0 → K (some (.inr (.inl (lN hi <<< ((32 : Int32).toInt64 &&& 63) ||| lN lo)))) I J) ∧ (¬ I b 2 = 0 → K (some (.inr (.inl (-(lN hi <<< ((32 : Int32).toInt64 &&& 63) ||| lN lo))))) I J)) := by
    intro lo hi a1 a2 a3
    rw [l_shl32, l_or a1 a2, a3, lN_int, h5]
    refine ⟨hb, fun h => ?_, fun h => ?_⟩
    · have hz : ¬ z < 0 := fun q => by rw [if_pos q] at h; exact absurd h (by decide)
      rw [Int.natAbs_of_nonneg (by omega)]
      exact hK
    · have hz : z < 0 := by
        rcases Int.lt_or_le z 0 with q | q
        · exact q
        · rw [if_neg (by omega)] at h; exact absurd rfl h
      rw [← Int64.ofInt_neg, Int.ofNat_natAbs_of_nonpos (by omega), Int.neg_neg]
      exact hK
  refine ⟨Nat.le_of_ble_eq_true rfl, hb, fun h => ?_, fun h => ?_⟩
  · have h : I b 1 ≤ nI 0 := h
    rw [h1] at h
    have hn0 : n = 0 := by have := (nI_leI (by omega) (by decide)).mp h; omega
    subst hn0
    refine ⟨hb, fun _ => fin 0 0 (by decide) (by decide) h6, fun h7 => ?_⟩
    have h7 : ¬ I b 1 ≤ nI 1 := h7
    rw [h1] at h7
    exact absurd (nI_le (by omega) (by decide)) h7
  · have h : ¬ I b 1 ≤ nI 0 := h
    rw [h1] at h
    have hn0 : 0 < n := by
      rcases Nat.eq_zero_or_pos n with q | q
      · rw [q] at h; exact absurd (nI_le (Nat.le_refl _) (by decide)) h
      · exact q
    refine ⟨hb, m_inb_i hB.2.1 (vp_in_nI (n := 0) (by omega) (by omega)), hb, fun h7 => ?_, fun h7 => ?_⟩
    · have h7 : I b 1 ≤ nI 1 := h7
      rw [h1] at h7
      have hn1 : n = 1 := by have := (nI_leI (by omega) (by decide)).mp h7; omega
      subst hn1
      have e : bdg rf I b 0 = z.natAbs := by
        rw [← h6]
        simp [dv]
      have f1 := fin (bdg rf I b 0) 0 (hdg 0) (by decide) (by omega)
      rw [show lN (bdg rf I b 0) = (I (rf b 0) 0).toInt64 &&& 4294967295 from (l_mask _).symm] at f1
      exact f1
    · have h7 : ¬ I b 1 ≤ nI 1 := h7
      rw [h1] at h7
      have hn1 : n = 2 := by
        rcases Nat.lt_or_ge 1 n with q | q
        · omega
        · exact absurd (nI_le q (by decide)) h7
      subst hn1
      have e : bdg rf I b 1 * 2 ^ 32 + bdg rf I b 0 = z.natAbs := by
        rw [← h6]
        simp only [dv]
        omega
      have f1 := fin (bdg rf I b 0) (bdg rf I b 1) (hdg 0) (hdg 1) e
      rw [show lN (bdg rf I b 0) = (I (rf b 0) 0).toInt64 &&& 4294967295 from (l_mask _).symm, show lN (bdg rf I b 1) = (I (rf b 0) 1).toInt64 &&& 4294967295 from (l_mask _).symm] at f1
      exact ⟨hb, m_inb_i hB.2.1 (vp_in_nI (n := 1) (by omega) (by omega)), f1⟩

