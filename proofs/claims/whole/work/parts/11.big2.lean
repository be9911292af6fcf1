/-! ===== more on digits and longs ===== -/
theorem dv_split {B : Nat} {g : Nat → Nat} (i : Nat) : ∀ n, dv B g (i + n) = dv B g i + B ^ i * dv B (fun j => g (i + j)) n
  | 0 => by simp [dv]
  | n + 1 => by
    rw [← Nat.add_assoc, dv, dv_split i n, dv, Nat.mul_add, ← Nat.add_assoc]
    congr 1
    rw [Nat.pow_add, Nat.mul_left_comm, Nat.mul_comm (g (i + n))]
theorem dv_div {B : Nat} {g : Nat → Nat} (hB : 0 < B) (hg : ∀ i, g i < B) (i n : Nat) : dv B g (i + n) / B ^ i = dv B (fun j => g (i + j)) n := by
  rw [dv_split, Nat.add_mul_div_left _ _ (Nat.pow_pos hB), Nat.div_eq_of_lt (dv_lt (fun j _ => hg j)), Nat.zero_add]
theorem dv_low {B : Nat} {g : Nat → Nat} (hB : 0 < B) (hg : ∀ i, g i < B) (n : Nat) : dv B g (n + 1) % B = g 0 := by
  rw [Nat.add_comm, dv_split 1 n]
  simp only [dv, Nat.pow_zero, Nat.mul_one, Nat.zero_add, Nat.pow_one]
  rw [Nat.add_mul_mod_self_left, Nat.mod_eq_of_lt (hg 0)]
theorem dv_digit {B : Nat} {g : Nat → Nat} (hB : 0 < B) (hg : ∀ i, g i < B) {i n : Nat} (h : i < n) : dv B g n / B ^ i % B = g i := by
  obtain ⟨m, rfl⟩ : ∃ m, n = i + (m + 1) := ⟨n - i - 1, by omega⟩
  rw [dv_div hB hg, dv_low hB (fun j => hg (i + j))]
  rfl
theorem dv_high {B : Nat} {g : Nat → Nat} (hB : 0 < B) (hg : ∀ i, g i < B) {i n : Nat} (h : n ≤ i) : dv B g n / B ^ i = 0 :=
  Nat.div_eq_of_lt (Nat.lt_of_lt_of_le (dv_lt (fun j _ => hg j)) (Nat.pow_le_pow_right hB h))
theorem lN_int (n : Nat) : lN n = Int64.ofInt (n : Int) := by
  unfold lN
  apply Int64.toBitVec_inj.mp
  simp [Int64.toBitVec_ofNat, Int64.toBitVec_ofInt]
theorem l_of_nonneg {v : Int64} (h : 0 ≤ v.toInt) : v = lN v.toInt.natAbs := by
  rw [lN_int, Int.natAbs_of_nonneg h, Int64.ofInt_toInt]
theorem l_neg_abs {v : Int64} (h : v.toInt < 0) : -v = lN v.toInt.natAbs := by
  rw [lN_int, Int.ofNat_natAbs_of_nonpos (by omega), Int64.ofInt_neg, Int64.ofInt_toInt]
theorem l_ge0 {v : Int64} : 0 ≤ lg_cmp v 0 ↔ 0 ≤ v.toInt := by
  rw [lg_cmp_ge, Int64.le_iff_toInt_le]
  rfl
theorem l_absb (v : Int64) : v.toInt.natAbs ≤ 2 ^ 63 := by
  have h1 := v.le_toInt
  have h2 := v.toInt_lt
  omega
def blen (v : Nat) : Nat := if v = 0 then 0 else Nat.log2 v + 1
theorem blen_of {v L : Nat} (h1 : 2 ^ L ≤ v) (h2 : v < 2 ^ (L + 1)) : blen v = L + 1 := by
  have h0 : v ≠ 0 := by
    have := Nat.two_pow_pos L
    omega
  unfold blen
  rw [if_neg h0]
  have a1 := (Nat.le_log2 h0).mpr h1
  have a2 := (Nat.log2_lt h0).mpr h2
  omega
theorem blen_le {v L : Nat} (h : v < 2 ^ L) : blen v ≤ L := by
  unfold blen
  split
  · omega
  · rename_i h0
    have := (Nat.log2_lt h0).mpr h
    omega
theorem lt_blen (v : Nat) : v < 2 ^ blen v := by
  unfold blen
  split
  · omega
  · rename_i h0
    exact (Nat.log2_lt h0).mp (Nat.lt_succ_self _)
/-! ===== contracts ===== -/
def sgI (z : Int) : Int32 := if z < 0 then -1 else if z = 0 then 0 else 1
def cmpN (a b : Nat) : Int32 := if a < b then -1 else if a = b then 0 else 1
def pt_setLong : mSH → mRF → mPT := m_pv 0 (fun sh rf b rest I J K => ∃ (cap : Nat) (v : Int64), rest = [.inr (.inl v)] ∧ BSh sh rf b cap ∧ ∀ I1, BCh rf I I1 b → BIs sh rf I1 b v.toInt → K none I1 J)
def pt_signum : mSH → mRF → mPT := m_pv 0 (fun sh rf b rest I J K => ∃ z : Int, rest = [] ∧ BIs sh rf I b z ∧ K (some (.inl (sgI z))) I J)
def pt_negate : mSH → mRF → mPT := m_pv 0 (fun sh rf b rest I J K => ∃ z : Int, rest = [] ∧ BIs sh rf I b z ∧ ∀ I1, (∀ a, a ≠ b → I1 a = I a) → BIs sh rf I1 b (-z) → K none I1 J)
def pt_dropSign : mSH → mRF → mPT := m_pv 0 (fun sh rf b rest I J K => ∃ z : Int, rest = [] ∧ BIs sh rf I b z ∧ ∀ I1, (∀ a, a ≠ b → I1 a = I a) → BIs sh rf I1 b (z.natAbs : Int) → K none I1 J)
def pt_setBig : mSH → mRF → mPT := m_pv 0 (fun sh rf b rest I J K => ∃ (cap f : Nat) (z : Int), rest = [.inr (.inr f)] ∧ BSh sh rf b cap ∧ BL sh rf ∧ f ≠ b ∧ BIs sh rf I f z ∧ z.natAbs < 2 ^ (32 * cap) ∧ ∀ I1, BCh rf I I1 b → BIs sh rf I1 b z → K none I1 J)
def pt_compareSize : mSH → mRF → mPT := m_pv 0 (fun sh rf b rest I J K => ∃ (f : Nat) (z y : Int), rest = [.inr (.inr f)] ∧ BIs sh rf I b z ∧ BIs sh rf I f y ∧ K (some (.inl (cmpN z.natAbs y.natAbs))) I J)
def pt_bitLength : mSH → mRF → mPT := m_pv 0 (fun sh rf b rest I J K => ∃ z : Int, rest = [] ∧ BIs sh rf I b z ∧ K (some (.inl (nI (blen z.natAbs)))) I J)
def pt_sixteenBits : mSH → mRF → mPT := m_pv 0 (fun sh rf b rest I J K => ∃ (z : Int) (k : Nat), rest = [.inl (nI k)] ∧ k < 2 ^ 31 ∧ BIs sh rf I b z ∧ K (some (.inl (nI (z.natAbs / 2 ^ (16 * k) % 65536)))) I J)
def pt_twos : mSH → mRF → mPT := m_pv 0 (fun sh rf b rest I J K => ∃ z : Int, rest = [] ∧ BIs sh rf I b z ∧ (z = 0 → K (some (.inl 0)) I J) ∧ ∀ t y : Nat, z.natAbs = 2 ^ t * (2 * y + 1) → t < 2 ^ 26 → K (some (.inl (nI t))) I J)
def pt_toLong : mSH → mRF → mPT := m_pv 0 (fun sh rf b rest I J K => ∃ z : Int, rest = [] ∧ BIs sh rf I b z ∧ z.natAbs < 2 ^ 63 ∧ K (some (.inr (.inl (Int64.ofInt z)))) I J)
def ct_X0_setLong (sh : mSH) (rf : mRF) : Nat → Option (Nat × Bool × mPT) := fun k => match k with
  | 27 => some (1, true, pt_trim sh rf)
  | _ => none
set_option maxRecDepth 20000 in
theorem ce_X0_setLong : m_CE RX0 1 20 cX0_setLong 5 ct_X0_setLong := by
  intro p l e s m args below meth c Q D cs ad sh rf N hx hb hml hown hts hK hi hN k n vf pt h
  unfold ct_X0_setLong at h
  split at h
  · cases h
    exact m_CG_V mt_X0_trim hx hb hml hown hts hK hi hN (ci := 0) m_pv_rec rfl rfl (m_wck_ok (l := [(Cond.methodLink RX0 27 yX0_trim, 179), (Cond.instanceMethod yX0_trim, 181), (Cond.selects RX0 yX0_trim yX0_trim, 0), (Cond.initialized RX0, 58), (Cond.code yX0_trim cX0_trim 1 none, 182)]) (by decide +kernel)) ⟨rfl, by decide +kernel, by decide +kernel, by decide +kernel⟩ ⟨Nat.le_of_ble_eq_true rfl, Nat.le_of_ble_eq_true rfl⟩
  · cases h
set_option maxHeartbeats 4000000 in
set_option maxRecDepth 100000 in
theorem mt_X0_setLong : m_Mt yX0_setLong cX0_setLong 5 none 1 20 pt_setLong := by
  refine m_methodG (fl := fl_X0) (kI := kI_X0) (kJ := kJ_X0) (ct := ct_X0_setLong) (cd := cd_X0_setLong) (cut := [(12, [0, 1])]) (rk := 0) (fu := 80) (by decide +kernel) fl_X0_ok kI_X0_ok kJ_X0_ok ce_X0_setLong rfl ck_X0_setLong ⟨_, _, rfl, rfl⟩ ?_
  intro sh rf As I J K hpt
  obtain ⟨b, rest, rfl, hb, cap, v, rfl, hB, hK⟩ := hpt
  have hcap := hB.2.2
  have hne := hB.ne
  have hab := l_absb v
  refine ⟨Nat.le_of_ble_eq_true rfl, fun a b9 pc vs st I1 J1 => vs = [.inr (.inr b), .inr (.inl v)] ∧ st = [.inr (.inl (lN v.toInt.natAbs))] ∧ I1 = I ∧ J1 = J ∧ a = 0, ?_, ?_⟩
  · refine ⟨fun h => ?_, fun h => ?_⟩
    · have e := l_of_nonneg (l_ge0.mp h)
      exact ⟨0, 0, rfl, by rw [← e], rfl, rfl, rfl⟩
    · have e := l_neg_abs (v := v) (by
        rcases Int.lt_or_le v.toInt 0 with q | q
        · exact q
        · exact absurd (l_ge0.mpr q) h)
      exact ⟨0, 0, rfl, by rw [← e], rfl, rfl, rfl⟩
  · intro pc ks a b9 vs st I1 J1 hc hI
    rcases m_cu1 hc with ⟨rfl, rfl⟩ | hc
    · obtain ⟨rfl, rfl, rfl, rfl, rfl⟩ := hI
      have key : ∀ sv : Int32, ((v.toInt < 0 → sv = 1) ∧ (0 ≤ v.toInt → sv = 0)) → pt_trim sh rf [.inr (.inr b)] (m_uI (m_uI (m_uI (m_uI I1 (rf b 0) 0 (lN v.toInt.natAbs).toInt32) (rf b 0) 1 ((lN v.toInt.natAbs).toUInt64 >>> ((32 : Int32).toInt64.toUInt64 &&& Int64.toUInt64 63)).toInt64.toInt32) b 1 2) b 2 sv) J1 K := by
        intro sv hsv
        refine ⟨b, [], rfl, hb, cap, 2, v.toInt, rfl, hB, ?_, hcap.1, ?_, ?_, ?_, ?_⟩
        · rw [uI_k _ _ _ (by decide), uI_s]
          rfl
        · rw [l_shr32 (by omega), lN_i, lN_i]
          have d0 : bdg rf (m_uI (m_uI (m_uI (m_uI I1 (rf b 0) 0 (nI v.toInt.natAbs)) (rf b 0) 1 (nI (v.toInt.natAbs / 2 ^ 32))) b 1 2) b 2 sv) b 0 = v.toInt.natAbs % 2 ^ 32 := by
            unfold bdg
            rw [uI_a _ _ _ hne.symm, uI_a _ _ _ hne.symm, uI_k _ _ _ (by decide), uI_s, u32_nI]
          have d1 : bdg rf (m_uI (m_uI (m_uI (m_uI I1 (rf b 0) 0 (nI v.toInt.natAbs)) (rf b 0) 1 (nI (v.toInt.natAbs / 2 ^ 32))) b 1 2) b 2 sv) b 1 = v.toInt.natAbs / 2 ^ 32 % 2 ^ 32 := by
            unfold bdg
            rw [uI_a _ _ _ hne.symm, uI_a _ _ _ hne.symm, uI_s, u32_nI]
          simp only [dv, d0, d1]
          omega
        · intro h
          rw [uI_s]
          exact hsv.1 h
        · intro h
          rw [uI_s]
          exact hsv.2 (by omega)
        · intro I2 h1 h2
          refine hK I2 (fun q h3 h4 => ?_) h2
          rw [h1 q h3, uI_a _ _ _ h3, uI_a _ _ _ h3, uI_a _ _ _ h4, uI_a _ _ _ h4]
      refine ⟨hb, m_inb_i hB.2.1 (vp_in_nI (n := 0) (by omega) (by omega)), hb, m_inb_i hB.2.1 (vp_in_nI (n := 1) (by omega) (by omega)), hb, fun h => ?_, fun h => ?_⟩
      · have h0 := l_ge0.mp h
        exact ⟨hb, Or.inl rfl, key 0 ⟨fun h1 => absurd h1 (by omega), fun _ => rfl⟩⟩
      · have h0 : v.toInt < 0 := by
          rcases Int.lt_or_le v.toInt 0 with q | q
          · exact q
          · exact absurd (l_ge0.mpr q) h
        exact ⟨hb, Or.inr rfl, key 1 ⟨fun _ => rfl, fun h1 => absurd h1 (by omega)⟩⟩
    · cases hc

set_option maxHeartbeats 4000000 in
set_option maxRecDepth 100000 in
theorem mt_X0_signum : m_Mt yX0_signum cX0_signum 1 (some .int) 0 0 pt_signum := by
  refine m_method0 80 (fl := fl_X0) (kI := kI_X0) (kJ := kJ_X0) (ct := ct_none) (cd := cd_X0_signum) (rk := 1) (by decide +kernel) fl_X0_ok kI_X0_ok kJ_X0_ok (ce_none _ _ _ _ _) rfl ck_X0_signum ⟨_, _, rfl, rfl⟩ ?_
  intro sh rf As I J K hpt
  obtain ⟨b, rest, rfl, hb, z, rfl, ⟨cap, n, hB, h1, h2, h4, h5, h6⟩, hK⟩ := hpt
  have hcap := hB.2.2.2
  have h0 := BIs.zero (sh := sh) h4 h6
  unfold sgI at hK
  refine ⟨Nat.le_of_ble_eq_true rfl, hb, fun h => ?_, fun h => ?_⟩
  · have h : ¬ I b 1 = 0 := h
    have hz : ¬ z = 0 := fun q => h (by rw [h1, h0.mpr q]; rfl)
    refine ⟨hb, fun h7 => ?_, fun h7 => ?_⟩
    · have h7 : I b 2 = 0 := h7
      rw [h5] at h7
      have hn : ¬ z < 0 := fun q => by rw [if_pos q] at h7; exact absurd h7 (by decide)
      rw [if_neg hn, if_neg hz] at hK
      exact hK
    · have h7 : ¬ I b 2 = 0 := h7
      rw [h5] at h7
      have hn : z < 0 := by
        rcases Int.lt_or_le z 0 with q | q
        · exact q
        · rw [if_neg (by omega)] at h7; exact absurd rfl h7
      rw [if_pos hn] at hK
      exact hK
  · have h : I b 1 = nI 0 := h
    rw [h1] at h
    have hz := h0.mp ((nI_eq (by omega) (by decide)).mp h)
    rw [if_neg (by omega), if_pos hz] at hK
    exact hK

set_option maxHeartbeats 4000000 in
set_option maxRecDepth 100000 in
theorem mt_X0_negate : m_Mt yX0_negate cX0_negate 1 none 0 0 pt_negate := by
  refine m_method0 80 (fl := fl_X0) (kI := kI_X0) (kJ := kJ_X0) (ct := ct_none) (cd := cd_X0_negate) (rk := 0) (by decide +kernel) fl_X0_ok kI_X0_ok kJ_X0_ok (ce_none _ _ _ _ _) rfl ck_X0_negate ⟨_, _, rfl, rfl⟩ ?_
  intro sh rf As I J K hpt
  obtain ⟨b, rest, rfl, hb, z, rfl, ⟨cap, n, hB, h1, h2, h4, h5, h6⟩, hK⟩ := hpt
  have hcap := hB.2.2.2
  have hne := hB.ne
  have h0 := BIs.zero (sh := sh) h4 h6
  have fin : ∀ x : Int32, x = (if -z < 0 then 1 else 0) → K none (m_uI I b 2 x) J := by
    intro x hx
    refine hK _ (fun a h => uI_a _ _ _ h) ⟨cap, n, hB, by rw [uI_k _ _ _ (by decide)]; exact h1, h2, by rw [uI_a _ _ _ hne.symm]; exact h4, by rw [uI_s]; exact hx, ?_⟩
    rw [Int.natAbs_neg, ← h6]
    apply dv_congr
    intro i _
    unfold bdg
    rw [uI_a _ _ _ hne.symm]
  refine ⟨Nat.le_of_ble_eq_true rfl, hb, fun h => ?_, fun h => ?_⟩
  · have h : I b 1 = nI 0 := h
    rw [h1] at h
    have hz := h0.mp ((nI_eq (by omega) (by decide)).mp h)
    exact ⟨hb, Or.inl rfl, fin 0 (by rw [if_neg (by omega)])⟩
  · have h : ¬ I b 1 = 0 := h
    have hz : ¬ z = 0 := fun q => h (by rw [h1, h0.mpr q]; rfl)
    refine ⟨hb, fun h7 => ?_, fun h7 => ?_⟩
    · have h7 : ¬ I b 2 = 0 := h7
      rw [h5] at h7
      have hn : z < 0 := by
        rcases Int.lt_or_le z 0 with q | q
        · exact q
        · rw [if_neg (by omega)] at h7; exact absurd rfl h7
      exact ⟨hb, Or.inl rfl, fin 0 (by rw [if_neg (by omega)])⟩
    · have h7 : I b 2 = 0 := h7
      rw [h5] at h7
      have hn : ¬ z < 0 := fun q => by rw [if_pos q] at h7; exact absurd h7 (by decide)
      exact ⟨hb, Or.inr rfl, fin 1 (by rw [if_pos (by omega)])⟩

set_option maxHeartbeats 4000000 in
set_option maxRecDepth 100000 in
theorem mt_X0_dropSign : m_Mt yX0_dropSign cX0_dropSign 1 none 0 0 pt_dropSign := by
  refine m_method0 80 (fl := fl_X0) (kI := kI_X0) (kJ := kJ_X0) (ct := ct_none) (cd := cd_X0_dropSign) (rk := 0) (by decide +kernel) fl_X0_ok kI_X0_ok kJ_X0_ok (ce_none _ _ _ _ _) rfl ck_X0_dropSign ⟨_, _, rfl, rfl⟩ ?_
  intro sh rf As I J K hpt
  obtain ⟨b, rest, rfl, hb, z, rfl, ⟨cap, n, hB, h1, h2, h4, h5, h6⟩, hK⟩ := hpt
  have hne := hB.ne
  refine ⟨Nat.le_of_ble_eq_true rfl, hb, Or.inl rfl, ?_⟩
  refine hK _ (fun a h => uI_a _ _ _ h) ⟨cap, n, hB, by rw [uI_k _ _ _ (by decide)]; exact h1, h2, by rw [uI_a _ _ _ hne.symm]; exact h4, by rw [uI_s, if_neg (by omega)], ?_⟩
  rw [Int.natAbs_natCast, ← h6]
  apply dv_congr
  intro i _
  unfold bdg
  rw [uI_a _ _ _ hne.symm]

def ct_X0_setBig (sh : mSH) (rf : mRF) : Nat → Option (Nat × Bool × mPT) := fun k => match k with
  | 30 => some (2, true, pt_makeRoom sh rf)
  | 34 => some (5, false, pt_cpI sh rf)
  | _ => none
set_option maxRecDepth 20000 in
theorem ce_X0_setBig : m_CE RX0 1 60 cX0_setBig 2 ct_X0_setBig := by
  intro p l e s m args below meth c Q D cs ad sh rf N hx hb hml hown hts hK hi hN k n vf pt h
  unfold ct_X0_setBig at h
  split at h
  · cases h
    exact m_CG_V mt_X0_makeRoom hx hb hml hown hts hK hi hN (ci := 0) m_pv_rec rfl rfl (m_wck_ok (l := [(Cond.methodLink RX0 30 yX0_makeRoom, 320), (Cond.instanceMethod yX0_makeRoom, 322), (Cond.selects RX0 yX0_makeRoom yX0_makeRoom, 2), (Cond.initialized RX0, 58), (Cond.code yX0_makeRoom cX0_makeRoom 2 none, 323)]) (by decide +kernel)) ⟨rfl, by decide +kernel, by decide +kernel, by decide +kernel⟩ ⟨Nat.le_of_ble_eq_true rfl, Nat.le_of_ble_eq_true rfl⟩
  · cases h
    exact m_CG_cpI hx hb hml hown hts hK hi hN (m_wck_ok (l := [(Cond.methodLink RX0 34 arraycopyName, 355), (Cond.native arraycopyName, 339), (Cond.static arraycopyName, 338), (Cond.initialized "java/lang/System", 64)]) (by decide +kernel)) (by decide +kernel)
  · cases h
set_option maxHeartbeats 4000000 in
set_option maxRecDepth 100000 in
theorem mt_X0_setBig : m_Mt yX0_setBig cX0_setBig 2 none 1 60 pt_setBig := by
  refine m_method0 80 (fl := fl_X0) (kI := kI_X0) (kJ := kJ_X0) (ct := ct_X0_setBig) (cd := cd_X0_setBig) (rk := 0) (by decide +kernel) fl_X0_ok kI_X0_ok kJ_X0_ok ce_X0_setBig rfl ck_X0_setBig ⟨_, _, rfl, rfl⟩ ?_
  intro sh rf As I J K hpt
  obtain ⟨b, rest, rfl, hb, cap, f, z, rfl, hB, hL, hfb, hz, hlim, hK⟩ := hpt
  obtain ⟨cap2, n, hF, h1, h2, h4, h5, h6⟩ := id hz
  have hcap := hB.2.2.2
  have hcap2 := hF.2.2.2
  have hne := hB.ne
  have hn := BIs.lim (sh := sh) (cap := 0) h4 h6 hlim
  have hpp : rf f 0 ≠ rf b 0 := fun e => hfb (hL f b hF.1 hB.1 e)
  have hfp : f ≠ rf b 0 := hF.nex hB
  have hbp : b ≠ rf f 0 := hB.nex hF
  refine ⟨Nat.le_of_ble_eq_true rfl, hF.1, b, [.inl (I f 1)], rfl, hb, cap, n, by rw [h1], hB, hn, hF.1, hb, hF.1, rf f 0, 0, rf b 0, 0, I f 1, cap2, cap, rfl, hF.2.1, hB.2.1, by decide, by decide, by rw [h1]; exact nI_pos (by omega), ?_, ?_, ?_⟩
  · rw [h1, nI_clamp (by omega), show (0 : Int32).toNatClampNeg = 0 by decide]
    omega
  · rw [h1, nI_clamp (by omega), show (0 : Int32).toNatClampNeg = 0 by decide]
    omega
  rw [h1, nI_clamp (by omega), show (0 : Int32).toNatClampNeg = 0 by decide]
  have q1 : va_up I (rf b 0) (va_cpy (I (rf f 0)) (I (rf b 0)) 0 0 n) f = I f := va_up_ne _ _ hfp
  have e2 : va_up I (rf b 0) (va_cpy (I (rf f 0)) (I (rf b 0)) 0 0 n) f 2 = 0 ∨ va_up I (rf b 0) (va_cpy (I (rf f 0)) (I (rf b 0)) 0 0 n) f 2 = 1 := by
    rw [q1, h5]
    by_cases q : z < 0
    · rw [if_pos q]; exact Or.inr rfl
    · rw [if_neg q]; exact Or.inl rfl
  refine ⟨hF.1, hb, hF.1, hb, ?_, ?_⟩
  · show m_uI _ b 1 _ f 2 = 0 ∨ m_uI _ b 1 _ f 2 = 1
    rw [uI_a _ _ _ hfb]
    exact e2
  · refine hK _ (fun a h7 h8 => ?_) ⟨cap, n, hB, ?_, hn, ?_, ?_, ?_⟩
    · rw [uI_a _ _ _ h7, uI_a _ _ _ h7, va_up_ne _ _ h8]
    · rw [uI_k _ _ _ (by decide), uI_s]
      show va_up I (rf b 0) _ f 1 = nI n
      rw [q1]
      exact h1
    · intro h0
      rw [uI_a _ _ _ hne.symm, uI_a _ _ _ hne.symm, va_up_self, pk_cpy_in (by omega) (by omega)]
      rw [show 0 + (n - 1 - 0) = n - 1 by omega]
      exact h4 h0
    · rw [uI_s]
      show m_uI _ b 1 _ f 2 = _
      rw [uI_a _ _ _ hfb, q1]
      exact h5
    · rw [← h6]
      apply dv_congr
      intro i hi
      unfold bdg
      rw [uI_a _ _ _ hne.symm, uI_a _ _ _ hne.symm, va_up_self, pk_cpy_in (by omega) (by omega)]
      rw [show 0 + (i - 0) = i by omega]

