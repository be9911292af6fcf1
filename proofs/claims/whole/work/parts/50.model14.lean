/-! ===== the reference: what calls change ===== -/
theorem jin {k : Nat} (h : k < 12) : m_inb shL 532 1 (nI k) := m_inb_i (n := 12) rfl (vp_in_nI h (by decide))
def pt_mbegin : mSH → mRF → mPT := m_pv 5 (fun sh rf d rest I J K => ∃ kd : Int32, sh = shL ∧ rf = rfL ∧ d = 528 ∧ rest = [.inl kd] ∧ ∀ I1 J1, (∀ a, a ≠ 528 → I1 a = I a) → I1 528 4 = kd → I1 528 5 = 11 → I1 528 6 = 0 → I1 528 7 = 0 → (∀ a, a ≠ 532 → J1 a = J a) → (∀ k, k < 12 → J1 532 k = 0) → K none I1 J1)
def pt_maddw : mSH → mRF → mPT := m_pv 5 (fun sh rf d rest I J K => ∃ (x : Int32) (wt : Int64), sh = shL ∧ rf = rfL ∧ d = 528 ∧ rest = [.inl x, .inr (.inl wt)] ∧ ∀ J1, (∀ a, a ≠ 532 → J1 a = J a) → (∀ k, k < 12 → J1 532 k = J 532 k + wt * pwL x.toInt64 k) → K none I J1)
def UpdM (I : mPI) (J : mPJ) (I1 : mPI) (J1 : mPJ) (kd l pts ch : Int32) (mo : Nat → Int64) : Prop := (∀ a, a ≠ 528 → a ≠ 529 → a ≠ 530 → a ≠ 531 → a ≠ 533 → a ≠ 534 → a ≠ 536 → I1 a = I a) ∧ I1 528 4 = kd ∧ I1 528 5 = l ∧ I1 528 7 = pts ∧ I1 528 6 = ch ∧ (∀ a, a ≠ 532 → a ≠ 535 → J1 a = J a) ∧ ∀ k, k < 12 → J1 532 k = mo k
def SlotsM (I : mPI) (σ : Nat → Int) (I1 : mPI) : Prop := ∃ σ', MS I1 σ' ∧ σ' 0 = σ 0 ∧ σ' 1 = σ 1
def SameM (I : mPI) (J : mPJ) (I1 : mPI) (J1 : mPJ) : Prop := MO I I1 ∧ ∀ a, a ≠ 535 → J1 a = J a
def pt_mclear : mSH → mRF → mPT := m_pv 5 (fun sh rf d rest I J K => ∃ σ, sh = shL ∧ rf = rfL ∧ d = 528 ∧ rest = [] ∧ MS I σ ∧ ∀ I1 J1, UpdM I J I1 J1 0 11 0 0 (fun _ => 0) → I1 533 = I 533 → I1 534 = I 534 → SlotsM I σ I1 → K (some (.inl (I 528 5))) I1 J1)
def pt_mspan : mSH → mRF → mPT := m_pv 5 (fun sh rf d rest I J K => ∃ (a b : Int32) (σ : Nat → Int), sh = shL ∧ rf = rfL ∧ d = 528 ∧ rest = [.inl a, .inl b] ∧ MS I σ ∧ Out (spanO a.toInt b.toInt) (fun r => K (some (.inl r)) I J) (∀ I1 J1, UpdM I J I1 J1 2 11 0 0 (spM a b) → I1 533 = I 533 → I1 534 = I 534 → SlotsM I σ I1 → K (some (.inl 1)) I1 J1))
def pt_mmoment : mSH → mRF → mPT := m_pv 5 (fun sh rf d rest I J K => ∃ (k v : Int32) (σ : Nat → Int), sh = shL ∧ rf = rfL ∧ d = 528 ∧ rest = [.inl k, .inl v] ∧ MS I σ ∧ (∃ kd : Nat, kd < 4 ∧ I 528 4 = nI kd) ∧ (∃ n : Nat, n < 2 ^ 31 ∧ I 528 7 = nI n) ∧ Out (momO (I 528 4) (I 528 7) (I 528 6) k.toInt v.toInt) (fun r => K (some (.inl r)) I J) (∀ I1 J1, UpdM I J I1 J1 1 (I 528 5) (I 528 7) (I 528 6) (fun j => if j = k.toInt.toNat then v.toInt64 else J 532 j) → I1 533 = I 533 → I1 534 = I 534 → SlotsM I σ I1 → K (some (.inl (nI (nzc (J1 532) 12)))) I1 J1))
def ovF (n x : Nat) : Nat → Nat
  | 0 => 1
  | i + 1 => ovF n x i * (n - x + (i + 1)) / (i + 1)
theorem ov_t : ∀ n, n < 12 → ∀ x, x < n + 1 → ovF n x x = chs n x := by decide +kernel
theorem ov_b : ∀ n, n < 12 → ∀ x, x < n + 1 → ∀ i, i < x → ovF n x i * (n - x + (i + 1)) < 2 ^ 31 ∧ ovF n x i < 2 ^ 31 := by decide +kernel
def pt_mover (_ : mSH) (_ : mRF) : mPT := fun As I J K => ∃ n x : Nat, As = [.inl (nI n), .inl (nI x)] ∧ n < 12 ∧ x < 12 ∧ K (some (.inr (.inl (lN (chs n x))))) I J
def pt_misMom : mSH → mRF → mPT := m_pv 5 (fun sh rf d rest I J K => ∃ (s k : Nat) (z : Int), sh = shL ∧ rf = rfL ∧ d = 528 ∧ rest = [.inl (nI s), .inl (nI k)] ∧ s < 40 ∧ k < 12 ∧ ZIs I s z ∧ (z.natAbs < 2 ^ 62 → K (some (.inl 1)) I (m_uJ J 535 k (Int64.ofInt z))) ∧ (¬ z.natAbs < 2 ^ 62 → K (some (.inl 0)) I J))
def pt_mchange : mSH → mRF → mPT := m_pv 5 (fun sh rf d rest I J K => ∃ l : Nat, sh = shL ∧ rf = rfL ∧ d = 528 ∧ rest = [.inl (nI l)] ∧ l ≤ 11 ∧ ∀ J1, (∀ a, a ≠ 532 → J1 a = J a) → (∀ k, k < 12 → J1 532 k = if k < l + 1 then J 535 k else 0) → K none (m_uI (m_uI I 528 5 (nI l)) 528 6 1) J1)
theorem l_shl24 {a : Nat} : lN a <<< ((24 : Int32).toInt64 &&& 63) = lN (a * 2 ^ 24) := by
  rw [show ((24 : Int32).toInt64 &&& 63) = 24 by decide]
  apply u64_inj
  rw [u64_lN]
  unfold u64
  rw [Int64.toBitVec_shiftLeft]
  have e : (24 : Int64).toBitVec.smod 64 = BitVec.ofNat 64 24 := by decide
  rw [show ((24 : Int64).toBitVec.smod 64) = 24#64 by decide]
  rw [BitVec.shiftLeft_eq', BitVec.toNat_shiftLeft, Nat.shiftLeft_eq]
  have h2 := u64_lN a
  unfold u64 at h2
  rw [h2]
  show a % 2 ^ 64 * 2 ^ 24 % 2 ^ 64 = _
  omega
theorem l_or24 {a b : Nat} (hb : b < 2 ^ 24) (ha : a < 2 ^ 39) : lN (a * 2 ^ 24) ||| lN b = lN (a * 2 ^ 24 + b) := by
  apply u64_inj
  rw [u64_lN, Nat.mod_eq_of_lt (by omega)]
  unfold u64
  rw [Int64.toBitVec_or, BitVec.toNat_or]
  have e1 := u64_lN (a * 2 ^ 24)
  have e2 := u64_lN b
  unfold u64 at e1 e2
  rw [e1, e2, Nat.mod_eq_of_lt (by omega), Nat.mod_eq_of_lt (by omega)]
  have := Nat.shiftLeft_add_eq_or_of_lt hb a
  rw [Nat.shiftLeft_eq] at this
  exact this.symm

set_option maxHeartbeats 4000000 in
set_option maxRecDepth 100000 in
theorem mt_X5_begin : m_Mt yX5_begin cX5_begin 3 none 0 0 pt_mbegin := by
  refine m_methodG (fl := fl_X5) (kI := kI_X5) (kJ := kJ_X5) (ct := ct_none) (cd := cd_X5_begin) (cut := [(23, [0, 2])]) (rk := 0) (fu := 80) (by decide +kernel) fl_X5_ok kI_X5_ok kJ_X5_ok (ce_none _ _ _ _ _) rfl ck_X5_begin ⟨_, _, rfl, rfl⟩ ?_
  intro sh rf As I J K hpt
  obtain ⟨d, rest, rfl, hd, kd, rfl, rfl, rfl, rfl, hK⟩ := hpt
  refine ⟨Nat.le_of_ble_eq_true rfl, fun a9 b9 pc vs st I1 J1 => st = [] ∧ ∃ k, vs = [.inr (.inr 528), .inl (nI k)] ∧ a9 = 12 - k ∧ k ≤ 12 ∧ (∀ a, a ≠ 528 → I1 a = I a) ∧ I1 528 4 = kd ∧ I1 528 5 = 11 ∧ I1 528 6 = 0 ∧ I1 528 7 = 0 ∧ (∀ a, a ≠ 532 → J1 a = J a) ∧ ∀ j, j < k → J1 532 j = 0, ?_, ?_⟩
  · refine ⟨rfl, rfl, rfl, Or.inl rfl, rfl, 12 - 0, 0, rfl, 0, rfl, rfl, by decide, fun a ha => ?_, ?_, ?_, ?_, uI_s _ _ _ _, fun _ _ => rfl, fun j hj => absurd hj (Nat.not_lt_zero j)⟩
    · rw [uI_a _ _ _ ha, uI_a _ _ _ ha, uI_a _ _ _ ha, uI_a _ _ _ ha]
    · rw [uI_k _ _ _ (by decide), uI_k _ _ _ (by decide), uI_k _ _ _ (by decide), uI_s]
    · rw [uI_k _ _ _ (by decide), uI_k _ _ _ (by decide), uI_s]
    · rw [uI_k _ _ _ (by decide), uI_s]
  · intro pc ks a9 b9 vs st I1 J1 hc hI
    rcases m_cu1 hc with ⟨rfl, rfl⟩ | hc
    · obtain ⟨rfl, k, rfl, rfl, hk, h1, h2, h3, h4, h5, h6, h7⟩ := hI
      refine ⟨fun h => ?_, fun h => ?_⟩
      · have h : nI 11 < nI k := h
        rw [nI_ltI (by omega) (by omega)] at h
        exact hK I1 J1 h1 h2 h3 h4 h5 h6 (fun j hj => h7 j (by omega))
      · have h : ¬ nI 11 < nI k := h
        rw [nI_ltI (by omega) (by omega)] at h
        refine ⟨rfl, jin (by omega), 12 - (k + 1), 0, Or.inl (by omega), rfl, k + 1, by rw [← nI_1 k], rfl, by omega, h1, h2, h3, h4, h5, ?_⟩
        show (∀ a, a ≠ 532 → m_uJ J1 532 (nI k).toNatClampNeg 0 a = J a) ∧ ∀ j, j < k + 1 → m_uJ J1 532 (nI k).toNatClampNeg 0 532 j = 0
        rw [nI_clamp (by omega)]
        refine ⟨fun a ha => by rw [uJ_a _ _ _ ha]; exact h6 a ha, fun j hj => ?_⟩
        by_cases q : j = k
        · rw [q, uJ_s]
        · rw [uJ_k _ _ _ q]
          exact h7 j (by omega)
    · cases hc

def ct_X5_addWeight (sh : mSH) (rf : mRF) : Nat → Option (Nat × Bool × mPT) := fun k => match k with
  | 123 => some (2, false, pt_mpower sh rf)
  | _ => none
set_option maxRecDepth 20000 in
theorem ce_X5_addWeight : m_CE RX5 1 25 cX5_addWeight 5 ct_X5_addWeight := by
  intro p l e s m args below meth c Q D cs ad sh rf N hx hb hml hown hts hK hi hN k n vf pt h
  unfold ct_X5_addWeight at h
  split at h
  · cases h
    exact m_CG_S mt_X5_power hx hb hml hown hts hK hi hN (m_wck_ok (l := [(Cond.methodLink RX5 123 yX5_power, 757), (Cond.static yX5_power, 758), (Cond.initialized RX5, 62), (Cond.code yX5_power cX5_power 6 (some .long), 759)]) (by decide +kernel)) ⟨by decide +kernel, by decide +kernel, by decide +kernel⟩ ⟨Nat.le_of_ble_eq_true rfl, Nat.le_of_ble_eq_true rfl⟩
  · cases h
set_option maxHeartbeats 4000000 in
set_option maxRecDepth 100000 in
theorem mt_X5_addWeight : m_Mt yX5_addWeight cX5_addWeight 5 none 1 25 pt_maddw := by
  refine m_methodG (fl := fl_X5) (kI := kI_X5) (kJ := kJ_X5) (ct := ct_X5_addWeight) (cd := cd_X5_addWeight) (cut := [(3, [0, 1, 2, 4])]) (rk := 0) (fu := 80) (by decide +kernel) fl_X5_ok kI_X5_ok kJ_X5_ok ce_X5_addWeight rfl ck_X5_addWeight ⟨_, _, rfl, rfl⟩ ?_
  intro sh rf As I J K hpt
  obtain ⟨d, rest, rfl, hd, x, wt, rfl, rfl, rfl, rfl, hK⟩ := hpt
  refine ⟨Nat.le_of_ble_eq_true rfl, fun a9 b9 pc vs st I1 J1 => st = [] ∧ I1 = I ∧ ∃ k, vs = [.inr (.inr 528), .inl x, .inr (.inl wt), .inl (nI k)] ∧ a9 = 12 - k ∧ k ≤ 12 ∧ (∀ a, a ≠ 532 → J1 a = J a) ∧ (∀ j, j < k → J1 532 j = J 532 j + wt * pwL x.toInt64 j) ∧ ∀ j, k ≤ j → J1 532 j = J 532 j, ?_, ?_⟩
  · exact ⟨12 - 0, 0, rfl, rfl, 0, rfl, rfl, by decide, fun _ _ => rfl, fun j hj => absurd hj (Nat.not_lt_zero j), fun _ _ => rfl⟩
  · intro pc ks a9 b9 vs st I1 J1 hc hI
    rcases m_cu1 hc with ⟨rfl, rfl⟩ | hc
    · obtain ⟨rfl, rfl, k, rfl, rfl, hk, h6, h7, h8⟩ := hI
      refine ⟨fun h => ?_, fun h => ?_⟩
      · have h : nI 11 < nI k := h
        rw [nI_ltI (by omega) (by omega)] at h
        exact hK J1 h6 (fun j hj => h7 j (by omega))
      · have h : ¬ nI 11 < nI k := h
        rw [nI_ltI (by omega) (by omega)] at h
        refine ⟨rfl, jin (by omega), x.toInt64, k, rfl, by omega, jin (by omega), 12 - (k + 1), 0, Or.inl (by omega), rfl, rfl, k + 1, by rw [← nI_1 k], rfl, by omega, ?_⟩
        show (∀ a, a ≠ 532 → m_uJ J1 532 (nI k).toNatClampNeg (J1 532 (nI k).toNatClampNeg + wt * pwL x.toInt64 k) a = J a) ∧ (∀ j, j < k + 1 → m_uJ J1 532 (nI k).toNatClampNeg (J1 532 (nI k).toNatClampNeg + wt * pwL x.toInt64 k) 532 j = J 532 j + wt * pwL x.toInt64 j) ∧ ∀ j, k + 1 ≤ j → m_uJ J1 532 (nI k).toNatClampNeg (J1 532 (nI k).toNatClampNeg + wt * pwL x.toInt64 k) 532 j = J 532 j
        rw [nI_clamp (by omega)]
        refine ⟨fun a ha => by rw [uJ_a _ _ _ ha]; exact h6 a ha, fun j hj => ?_, fun j hj => by rw [uJ_k _ _ _ (by omega)]; exact h8 j (by omega)⟩
        by_cases q : j = k
        · rw [q, uJ_s, h8 k (Nat.le_refl _)]
        · rw [uJ_k _ _ _ q]
          exact h7 j (by omega)
    · cases hc

def ct_X5_clear (sh : mSH) (rf : mRF) : Nat → Option (Nat × Bool × mPT) := fun k => match k with
  | 127 => some (2, true, pt_mbegin sh rf)
  | _ => none
set_option maxRecDepth 20000 in
theorem ce_X5_clear : m_CE RX5 1 22 cX5_clear 2 ct_X5_clear := by
  intro p l e s m args below meth c Q D cs ad sh rf N hx hb hml hown hts hK hi hN k n vf pt h
  unfold ct_X5_clear at h
  split at h
  · cases h
    exact m_CG_V mt_X5_begin hx hb hml hown hts hK hi hN (ci := 5) m_pv_rec rfl rfl (m_wck_ok (l := [(Cond.methodLink RX5 127 yX5_begin, 738), (Cond.instanceMethod yX5_begin, 740), (Cond.selects RX5 yX5_begin yX5_begin, 15), (Cond.initialized RX5, 62), (Cond.code yX5_begin cX5_begin 3 none, 741)]) (by decide +kernel)) ⟨rfl, by decide +kernel, by decide +kernel, by decide +kernel⟩ ⟨Nat.le_of_ble_eq_true rfl, Nat.le_of_ble_eq_true rfl⟩
  · cases h
set_option maxHeartbeats 4000000 in
set_option maxRecDepth 100000 in
theorem mt_X5_clear : m_Mt yX5_clear cX5_clear 2 (some .int) 1 22 pt_mclear := by
  refine m_method0 80 (fl := fl_X5) (kI := kI_X5) (kJ := kJ_X5) (ct := ct_X5_clear) (cd := cd_X5_clear) (rk := 1) (by decide +kernel) fl_X5_ok kI_X5_ok kJ_X5_ok ce_X5_clear rfl ck_X5_clear ⟨_, _, rfl, rfl⟩ ?_
  intro sh rf As I J K hpt
  obtain ⟨d, rest, rfl, hd, σ, rfl, rfl, rfl, rfl, hM, hK⟩ := hpt
  exact ⟨Nat.le_of_ble_eq_true rfl, rfl, 528, [.inl 0], rfl, rfl, 0, rfl, rfl, rfl, rfl, fun I1 J1 a1 a2 a3 a4 a5 a6 a7 => hK I1 J1 ⟨fun a h _ _ _ _ _ _ => a1 a h, a2, a3, a5, a4, fun a h _ => a6 a h, a7⟩ (a1 _ (by decide)) (a1 _ (by decide)) ⟨σ, hM.cg (a1 _ (by decide)) (a1 _ (by decide)) (a1 _ (by decide)), rfl, rfl⟩⟩

set_option maxHeartbeats 4000000 in
set_option maxRecDepth 100000 in
theorem mt_X5_over : m_Mt yX5_over cX5_over 5 (some .long) 0 0 pt_mover := by
  refine m_methodG (fl := fl_X5) (kI := kI_X5) (kJ := kJ_X5) (ct := ct_none) (cd := cd_X5_over) (cut := [(16, [0, 1, 2, 4])]) (rk := 2) (fu := 80) (by decide +kernel) fl_X5_ok kI_X5_ok kJ_X5_ok (ce_none _ _ _ _ _) rfl ck_X5_over ⟨_, _, rfl, rfl⟩ ?_
  intro sh rf As I J K hpt
  obtain ⟨n, x, rfl, hn, hx, hK⟩ := hpt
  refine ⟨Nat.le_of_ble_eq_true rfl, fun a9 b9 pc vs st I1 J1 => ∃ i, vs = [.inl (nI n), .inl (nI x), .inr (.inl (lN (ovF n x i))), .inl (nI (i + 1))] ∧ st = [] ∧ I1 = I ∧ J1 = J ∧ a9 = x - i ∧ i ≤ x ∧ x ≤ n, ?_, ?_⟩
  · refine ⟨fun h => absurd h (nI_pos (by omega)), fun _ => ⟨fun h => ?_, fun h => ?_⟩⟩
    · have hle : x ≤ n := (nI_leI (by omega) (by omega)).mp h
      exact ⟨x - 0, 0, 0, rfl, rfl, rfl, rfl, rfl, Nat.zero_le _, hle⟩
    · have hlt : n < x := by
        rcases Nat.lt_or_ge n x with q | q
        · exact q
        · exact absurd ((nI_leI (by omega) (by omega)).mpr q) h
      unfold chs at hK
      rw [if_pos hlt] at hK
      exact hK
  · intro pc ks a9 b9 vs st I1 J1 hc hI
    rcases m_cu1 hc with ⟨rfl, rfl⟩ | hc
    · obtain ⟨i, rfl, rfl, rfl, rfl, rfl, hi, hxn⟩ := hI
      refine ⟨fun h => ?_, fun h => ?_⟩
      · have h : nI x < nI (i + 1) := h
        rw [nI_ltI (by omega) (by omega)] at h
        obtain rfl : i = x := by omega
        rw [← ov_t n hn i (by omega)] at hK
        exact hK
      · have h : ¬ nI x < nI (i + 1) := h
        rw [nI_ltI (by omega) (by omega)] at h
        obtain ⟨b1, b2⟩ := ov_b n hn x (by omega) i (by omega)
        have e1 : (nI n - nI x + nI (i + 1)).toInt64 = lN (n - x + (i + 1)) := by
          rw [show nI n - nI x = nI (n - x) from pk_sub hxn, nI_add, nI_l (by omega)]
        have e2 : (nI (i + 1)).toInt64 = lN (i + 1) := nI_l (by omega)
        have e3 : lN (ovF n x i) * (nI n - nI x + nI (i + 1)).toInt64 / (nI (i + 1)).toInt64 = lN (ovF n x (i + 1)) := by
          rw [e1, e2, lN_mul, pk_lDiv (by omega) (by omega) (by omega)]
          rfl
        refine ⟨?_, x - (i + 1), 0, Or.inl (by omega), i + 1, ?_, rfl, rfl, rfl, rfl, by omega, hxn⟩
        · show ¬ (nI (i + 1)).toInt64 = 0
          rw [e2]
          intro q
          have := (lN_eq (a := i + 1) (b := 0) (by omega) (by omega)).mp q
          omega
        · rw [← e3, ← nI_1 (i + 1)]
    · cases hc

set_option maxHeartbeats 4000000 in
set_option maxRecDepth 100000 in
theorem mt_X5_changeTo : m_Mt yX5_changeTo cX5_changeTo 3 none 0 0 pt_mchange := by
  refine m_methodG (fl := fl_X5) (kI := kI_X5) (kJ := kJ_X5) (ct := ct_none) (cd := cd_X5_changeTo) (cut := [(2, [0, 1, 2])]) (rk := 0) (fu := 80) (by decide +kernel) fl_X5_ok kI_X5_ok kJ_X5_ok (ce_none _ _ _ _ _) rfl ck_X5_changeTo ⟨_, _, rfl, rfl⟩ ?_
  intro sh rf As I J K hpt
  obtain ⟨d, rest, rfl, hd, l, rfl, rfl, rfl, rfl, hl, hK⟩ := hpt
  refine ⟨Nat.le_of_ble_eq_true rfl, fun a9 b9 pc vs st I1 J1 => st = [] ∧ I1 = I ∧ ∃ k, vs = [.inr (.inr 528), .inl (nI l), .inl (nI k)] ∧ a9 = 12 - k ∧ k ≤ 12 ∧ (∀ a, a ≠ 532 → J1 a = J a) ∧ ∀ j, j < k → J1 532 j = if j < l + 1 then J 535 j else 0, ?_, ?_⟩
  · exact ⟨12 - 0, 0, rfl, rfl, 0, rfl, rfl, by decide, fun _ _ => rfl, fun j hj => absurd hj (Nat.not_lt_zero j)⟩
  · intro pc ks a9 b9 vs st I1 J1 hc hI
    rcases m_cu1 hc with ⟨rfl, rfl⟩ | hc
    · obtain ⟨rfl, rfl, k, rfl, rfl, hk, h6, h7⟩ := hI
      refine ⟨fun h => ?_, fun h => ?_⟩
      · have h : nI 11 < nI k := h
        rw [nI_ltI (by omega) (by omega)] at h
        exact ⟨rfl, rfl, Or.inr rfl, hK J1 h6 (fun j hj => h7 j (by omega))⟩
      · have h : ¬ nI 11 < nI k := h
        rw [nI_ltI (by omega) (by omega)] at h
        have fin : ∀ v, v = (if k < l + 1 then J 535 k else 0) → ∃ a1 b1, (a1 < 12 - k ∨ a1 = 12 - k ∧ b1 < b9) ∧ ([] : List mPV) = [] ∧ I1 = I1 ∧ ∃ k', ([.inr (.inr 528), .inl (nI l), .inl (nI k + 1)] : List mPV) = [.inr (.inr 528), .inl (nI l), .inl (nI k')] ∧ a1 = 12 - k' ∧ k' ≤ 12 ∧ (∀ a, a ≠ 532 → m_uJ J1 532 (nI k).toNatClampNeg v a = J a) ∧ ∀ j, j < k' → m_uJ J1 532 (nI k).toNatClampNeg v 532 j = if j < l + 1 then J 535 j else 0 := by
          intro v hv
          rw [nI_clamp (by omega)]
          refine ⟨12 - (k + 1), 0, Or.inl (by omega), rfl, rfl, k + 1, by rw [nI_1], rfl, by omega, fun a ha => by rw [uJ_a _ _ _ ha]; exact h6 a ha, fun j hj => ?_⟩
          by_cases q : j = k
          · rw [q, uJ_s]
            exact hv
          · rw [uJ_k _ _ _ q]
            exact h7 j (by omega)
        refine ⟨rfl, fun h2 => ?_, fun h2 => ?_⟩
        · have h2 : nI l < nI k := h2
          rw [nI_ltI (by omega) (by omega)] at h2
          exact ⟨jin (by omega), fin 0 (by rw [if_neg (by omega)])⟩
        · have h2 : ¬ nI l < nI k := h2
          rw [nI_ltI (by omega) (by omega)] at h2
          refine ⟨rfl, m_inb_i (n := 12) rfl (vp_in_nI (by omega) (by decide)), jin (by omega), fin (J1 535 (nI k).toNatClampNeg) ?_⟩
          rw [nI_clamp (by omega), h6 535 (by decide), if_pos (by omega)]
    · cases hc

def ct_X5_isMoment (sh : mSH) (rf : mRF) : Nat → Option (Nat × Bool × mPT) := fun k => match k with
  | 97 => some (2, true, pt_mbits sh rf)
  | _ => none
set_option maxRecDepth 20000 in
theorem ce_X5_isMoment : m_CE RX5 1 22 cX5_isMoment 6 ct_X5_isMoment := by
  intro p l e s m args below meth c Q D cs ad sh rf N hx hb hml hown hts hK hi hN k n vf pt h
  unfold ct_X5_isMoment at h
  split at h
  · cases h
    exact m_CG_V mt_X5_bitsOf hx hb hml hown hts hK hi hN (ci := 5) m_pv_rec rfl rfl (m_wck_ok (l := [(Cond.methodLink RX5 97 yX5_bitsOf, 827), (Cond.instanceMethod yX5_bitsOf, 829), (Cond.selects RX5 yX5_bitsOf yX5_bitsOf, 27), (Cond.initialized RX5, 62), (Cond.code yX5_bitsOf cX5_bitsOf 3 (some .int), 830)]) (by decide +kernel)) ⟨rfl, by decide +kernel, by decide +kernel, by decide +kernel⟩ ⟨Nat.le_of_ble_eq_true rfl, Nat.le_of_ble_eq_true rfl⟩
  · cases h
set_option maxHeartbeats 4000000 in
set_option maxRecDepth 100000 in
theorem mt_X5_isMoment : m_Mt yX5_isMoment cX5_isMoment 6 (some .boolean) 1 22 pt_misMom := by
  refine m_methodG (fl := fl_X5) (kI := kI_X5) (kJ := kJ_X5) (ct := ct_X5_isMoment) (cd := cd_X5_isMoment) (cut := [(24, [0, 1, 2, 3, 5])]) (rk := 3) (fu := 80) (by decide +kernel) fl_X5_ok kI_X5_ok kJ_X5_ok ce_X5_isMoment rfl ck_X5_isMoment ⟨_, _, rfl, rfl⟩ ?_
  intro sh rf As I J K hpt
  obtain ⟨d, rest, rfl, hd, s, k, z, rfl, rfl, rfl, rfl, hs, hk, hz, hK1, hK0⟩ := hpt
  obtain ⟨n, ⟨⟨w1, w2, w3⟩, w4⟩, h2, h3⟩ := id hz
  have hbl : blen z.natAbs ≤ 24 * 260 := blen_le hz.lt
  refine ⟨Nat.le_of_ble_eq_true rfl, fun a9 b9 pc vs st I1 J1 => st = [] ∧ I1 = I ∧ J1 = J ∧ ∃ j, a9 = j + 1 ∧ j ≤ n ∧ z.natAbs < 2 ^ 62 ∧ vs = [.inr (.inr 528), .inl (nI s), .inl (nI k), .inr (.inl (lN (z.natAbs / (2 ^ 24) ^ j))), .inl (nI j - 1)], ?_, ?_⟩
  · refine ⟨528, [.inl (nI s)], rfl, rfl, s, z, rfl, rfl, rfl, rfl, hs, hz, fun h => ?_, fun h => ?_⟩
    · have h : nI (blen z.natAbs) ≤ nI 62 := h
      rw [nI_leI (by omega) (by omega)] at h
      have h62 : z.natAbs < 2 ^ 62 := Nat.lt_of_lt_of_le (lt_blen _) (Nat.pow_le_pow_right (by decide) h)
      refine ⟨rfl, lin hs, n + 1, 0, rfl, rfl, rfl, n, rfl, Nat.le_refl _, h62, ?_⟩
      have e0 : z.natAbs / (2 ^ 24) ^ n = 0 := by
        rw [← w4]
        exact Nat.div_eq_of_lt (dv_lt w3)
      rw [e0]
      show ([.inr (.inr 528), .inl (nI s), .inl (nI k), .inr (.inl 0), .inl (I 530 (nI s).toNatClampNeg - 1)] : List mPV) = _
      rw [scl hs, w1]
      rfl
    · have h : ¬ nI (blen z.natAbs) ≤ nI 62 := h
      rw [nI_leI (by omega) (by omega)] at h
      exact ⟨Or.inl rfl, hK0 (fun q => h (blen_le q))⟩
  · intro pc ks a9 b9 vs st I1 J1 hc hI
    rcases m_cu1 hc with ⟨rfl, rfl⟩ | hc
    · obtain ⟨rfl, rfl, rfl, j, rfl, hj, h62, rfl⟩ := hI
      refine ⟨fun h => ?_, fun h => ?_⟩
      · have h : nI j - nI 1 < 0 := h
        have j0 : j = 0 := by
          rcases Nat.eq_zero_or_pos j with q | q
          · exact q
          · rw [pk_sub (by omega)] at h
            exact absurd h (nI_pos (by omega))
        subst j0
        rw [Nat.pow_zero, Nat.div_one]
        have kk := hK1 h62
        have kcl : (nI k).toNatClampNeg = k := nI_clamp (by omega)
        refine ⟨rfl, rfl, sin hs, fun h5 => ?_, fun h5 => ?_⟩
        · have h5 : 0 ≤ I1 531 (nI s).toNatClampNeg := h5
          rw [scl hs, h3] at h5
          have hz0 : 0 ≤ z := by
            rcases (show z < 0 ∨ 0 ≤ z by omega) with q | q
            · rw [sgI_n q] at h5
              exact absurd h5 (by decide)
            · exact q
          refine ⟨m_inb_i (n := 12) rfl (vp_in_nI hk (by decide)), Or.inr rfl, ?_⟩
          show K (some (.inl 1)) I1 (m_uJ J1 535 (nI k).toNatClampNeg (lN z.natAbs))
          rw [kcl, lN_int, Int.natAbs_of_nonneg hz0]
          exact kk
        · have h5 : ¬ 0 ≤ I1 531 (nI s).toNatClampNeg := h5
          rw [scl hs, h3] at h5
          have hz0 : z < 0 := by
            rcases Int.lt_trichotomy z 0 with q | q | q
            · exact q
            · rw [q] at h5
              exact absurd (by decide) h5
            · rw [sgI_p q] at h5
              exact absurd (by decide) h5
          refine ⟨m_inb_i (n := 12) rfl (vp_in_nI hk (by decide)), Or.inr rfl, ?_⟩
          show K (some (.inl 1)) I1 (m_uJ J1 535 (nI k).toNatClampNeg (-lN z.natAbs))
          rw [kcl, lN_int, ← Int64.ofInt_neg, show -((z.natAbs : Nat) : Int) = z by omega]
          exact kk
      · have j0 : 0 < j := by
          rcases Nat.eq_zero_or_pos j with q | q
          · rw [q] at h
            exact absurd (by decide) h
          · exact q
        obtain ⟨i, rfl⟩ : ∃ i, j = i + 1 := ⟨j - 1, by omega⟩
        have ei : nI (i + 1) - 1 = nI i := pk_sub (a := i + 1) (b := 1) (by omega)
        have hd := w3 i (by omega)
        have hin : m_inb shL 529 0 ((260 : Int32) * nI s + (nI (i + 1) - 1)) := by
          rw [ei]
          exact zin hs (by omega)
        have erd : (I1 529 ((260 : Int32) * nI s + (nI (i + 1) - 1)).toNatClampNeg).toInt64 = lN (zd I1 s i) := by
          rw [ei, zrd I1 hs (by omega), nI_l (by omega)]
        have hdig := dv_digit (B := 2 ^ 24) (g := lm I1 s n) (by decide) (fun q => lm_lt ⟨w1, w2, w3⟩ q) (i := i) (n := n) (by omega)
        rw [lm_dv (Nat.le_refl _), w4] at hdig
        have elm : lm I1 s n i = zd I1 s i := if_pos (by omega)
        rw [elm] at hdig
        have hdv : z.natAbs / (2 ^ 24) ^ (i + 1) = z.natAbs / (2 ^ 24) ^ i / 2 ^ 24 := by
          rw [show (2 ^ 24) ^ (i + 1) = (2 ^ 24) ^ i * 2 ^ 24 from Nat.pow_succ _ _, Nat.div_div_eq_div_mul]
        have hle : z.natAbs / (2 ^ 24) ^ i ≤ z.natAbs := Nat.div_le_self _ _
        have e4 : (lN (z.natAbs / (2 ^ 24) ^ (i + 1)) <<< ((24 : Int32).toInt64 &&& 63)) ||| (I1 529 ((260 : Int32) * nI s + (nI (i + 1) - 1)).toNatClampNeg).toInt64 = lN (z.natAbs / (2 ^ 24) ^ i) := by
          rw [erd, l_shl24, l_or24 hd (by rw [hdv]; omega), hdv]
          congr 1
          omega
        refine ⟨rfl, hin, i + 1, 0, Or.inl (by omega), rfl, rfl, rfl, i, rfl, by omega, h62, ?_⟩
        rw [← e4, ← ei]
        exact congrArg (fun y => [Sum.inr (Sum.inr 528), Sum.inl (nI s), Sum.inl (nI k), _, Sum.inl y]) (Int32.sub_eq_add_neg (nI (i + 1) - 1) 1).symm
    · cases hc

