/-! ===== the reference: join, less, set ===== -/
theorem i_and24 {s : Nat} (h : s < 2 ^ 31) : nI s &&& 16777215 = nI (s % 2 ^ 24) := by
  apply u32_inj
  rw [u32n (by omega)]
  unfold u32
  rw [Int32.toBitVec_and, show (16777215 : Int32).toBitVec = BitVec.ofNat 32 (2 ^ 24 - 1) by decide, BitVec.toNat_and, BitVec.toNat_ofNat, Nat.mod_eq_of_lt (by decide), Nat.and_two_pow_sub_one_eq_mod]
  have : (nI s).toBitVec.toNat = s := u32n (by omega)
  rw [this]
theorem i_sarn {s : Nat} (h : s < 2 ^ 31) {r : Nat} (hr : r < 32) : nI s >>> (nI r &&& 31) = nI (s / 2 ^ r) := by
  have e0 : nI r &&& 31 = nI r := by
    have : ∀ r, r < 32 → nI r &&& 31 = nI r := by decide +kernel
    exact this r hr
  rw [e0]
  apply Int32.toInt_inj.mp
  have hd : s / 2 ^ r ≤ s := Nat.div_le_self _ _
  rw [nI_toInt (by omega)]
  have e : (nI s >>> nI r).toInt = (nI s).toInt >>> r := by
    show (nI s >>> nI r).toBitVec.toInt = _
    rw [Int32.toBitVec_shiftRight, BitVec.sshiftRight', BitVec.toInt_sshiftRight]
    have e2 : ((nI r).toBitVec.smod 32).toNat = r := by
      have : ∀ r, r < 32 → ((nI r).toBitVec.smod 32).toNat = r := by decide +kernel
      exact this r hr
    rw [e2]
    rfl
  rw [e, nI_toInt (by omega), Int.shiftRight_eq_div_pow]
  norm_cast
theorem i_shr24 {s : Nat} (h : s < 2 ^ 31) : nI s >>> ((24 : Int32) &&& 31) = nI (s / 2 ^ 24) := i_sarn h (r := 24) (by decide)
theorem l_and24 {s : Nat} (h : s < 2 ^ 63) : lN s &&& 16777215 = lN (s % 2 ^ 24) := by
  apply u64_inj
  rw [u64_lN, Nat.mod_eq_of_lt (by omega)]
  unfold u64
  rw [Int64.toBitVec_and, show (16777215 : Int64).toBitVec = BitVec.ofNat 64 (2 ^ 24 - 1) by decide, BitVec.toNat_and, BitVec.toNat_ofNat, Nat.mod_eq_of_lt (by decide), Nat.and_two_pow_sub_one_eq_mod]
  have : (lN s).toBitVec.toNat = s := by
    have := u64_lN s
    unfold u64 at this
    rw [this, Nat.mod_eq_of_lt (by omega)]
  rw [this]
theorem lN_toI {n : Nat} (h : n < 2 ^ 63) : (lN n).toInt = n := by
  rw [lN_int, Int64.toInt_ofInt_of_le (by omega) (by omega)]
theorem l_shr24 {s : Nat} (h : s < 2 ^ 63) : lN s >>> ((24 : Int32).toInt64 &&& 63) = lN (s / 2 ^ 24) := by
  rw [show ((24 : Int32).toInt64 &&& 63) = 24 by decide]
  apply Int64.toInt_inj.mp
  rw [lN_toI (by omega)]
  have e : (lN s >>> (24 : Int64)).toInt = (lN s).toInt >>> 24 := by
    show (lN s >>> (24 : Int64)).toBitVec.toInt = _
    rw [Int64.toBitVec_shiftRight, BitVec.sshiftRight', BitVec.toInt_sshiftRight]
    rfl
  rw [e, lN_toI h, Int.shiftRight_eq_div_pow]
  norm_cast
theorem lm_dv {I : mPI} {a n N : Nat} (h : n ≤ N) : dv (2 ^ 24) (lm I a n) N = dv (2 ^ 24) (zd I a) n := by
  rw [dv_ext (n := n) h (fun i h1 _ => by unfold lm; rw [if_neg (by omega)])]
  exact dv_congr (fun i hi => by unfold lm; rw [if_pos hi])
theorem lm_lt {I : mPI} {a n : Nat} (hw : WF I a n) (k : Nat) : lm I a n k < 2 ^ 24 := by
  unfold lm
  split
  · next h => exact hw.2.2 k h
  · decide
/-- while slot t is written up to k -/
theorem lm_cur {I I1 : mPI} {a t n k : Nat} (hn : n ≤ 260) (h1 : SF I I1 t) (h2 : ∀ i, k ≤ i → i < 260 → zd I1 t i = zd I t i) : lm I1 a n k = lm I a n k := by
  unfold lm
  split
  · next h =>
    by_cases q : a = t
    · rw [q]
      exact h2 k (Nat.le_refl _) (by omega)
    · exact h1.zd q (by omega)
  · rfl
theorem WF_cur {I I1 : mPI} {a t n k : Nat} (hw : WF I a n) (h1 : SF I I1 t) (h0 : I1 530 = I 530) (h3 : ∀ i, i < k → zd I1 t i < 2 ^ 24) (h2 : ∀ i, k ≤ i → i < 260 → zd I1 t i = zd I t i) : WF I1 a n := by
  obtain ⟨w1, w2, w3⟩ := hw
  refine ⟨by rw [h0]; exact w1, w2, fun i hi => ?_⟩
  by_cases q : a = t
  · subst q
    rcases Nat.lt_or_ge i k with r | r
    · exact h3 i r
    · rw [h2 i r (by omega)]
      exact w3 i hi
  · rw [h1.zd q (by omega)]
    exact w3 i hi
/-- slot t is written up to k -/
def WrI (I I1 : mPI) (t k : Nat) : Prop := SF I I1 t ∧ I1 530 = I 530 ∧ I1 531 = I 531 ∧ (∀ i, i < k → zd I1 t i < 2 ^ 24) ∧ ∀ i, k ≤ i → i < 260 → zd I1 t i = zd I t i
theorem WrI.rfl' (I : mPI) (t : Nat) : WrI I I t 0 := ⟨SF.rfl' I t, rfl, rfl, fun i hi => absurd hi (Nat.not_lt_zero i), fun _ _ _ => rfl⟩
theorem WrI.step {I I1 : mPI} {t k x idx : Nat} {v : Int32} {Q : mPI → Prop} (h : WrI I I1 t k) (hk : k < 260) (hx : x < 2 ^ 24) (hQ : ∀ I2, WrI I I2 t (k + 1) → (∀ i, i < k → zd I2 t i = zd I1 t i) → zd I2 t k = x → dv (2 ^ 24) (zd I2 t) (k + 1) = dv (2 ^ 24) (zd I1 t) k + x * (2 ^ 24) ^ k → Q I2) (hi : idx = 260 * t + k) (hv : v = nI x) : Q (m_uI I1 529 idx v) := by
  subst hi
  subst hv
  obtain ⟨h1, h2, h3, h4, h5⟩ := h
  have e1 : ∀ i, i < k → zd (m_uI I1 529 (260 * t + k) (nI x)) t i = zd I1 t i := fun i hi => zd_o I1 (by omega) _
  have e2 : zd (m_uI I1 529 (260 * t + k) (nI x)) t k = x := by rw [zd_w, u32n (by omega)]
  refine hQ _ ⟨h1.trans (sf_z I1 hk _), by rw [uI_a _ _ _ (by decide)]; exact h2, by rw [uI_a _ _ _ (by decide)]; exact h3, fun i hi => ?_, fun i a b => by rw [zd_o I1 (by omega)]; exact h5 i (by omega) b⟩ e1 e2 ?_
  · rcases Nat.lt_or_ge i k with q | q
    · rw [e1 i q]
      exact h4 i q
    · rw [show i = k by omega, e2]
      exact hx
  · rw [dv, e2, dv_congr e1]
theorem WrI.wf {I I1 : mPI} {a t n k : Nat} (h : WrI I I1 t k) (hw : WF I a n) : WF I1 a n := WF_cur hw h.1 h.2.1 h.2.2.2.1 h.2.2.2.2
theorem WrI.lm {I I1 : mPI} {a t n k : Nat} (h : WrI I I1 t k) (hw : WF I a n) : lm I1 a n k = lm I a n k := lm_cur hw.2.1 h.1 h.2.2.2.2
def pt_mjoin : mSH → mRF → mPT := m_pv 5 (fun sh rf d rest I J K => ∃ a b t n m x y : Nat, sh = shL ∧ rf = rfL ∧ d = 528 ∧ rest = [.inl (nI a), .inl (nI b), .inl (nI t)] ∧ a < 40 ∧ b < 40 ∧ t < 40 ∧ ZR I a n x ∧ ZR I b m y ∧ max n m < 260 ∧ ∀ I1, SF I I1 t → I1 531 = I 531 → ZR I1 t (max n m + 1) (x + y) → K none I1 J)
def pt_mless : mSH → mRF → mPT := m_pv 5 (fun sh rf d rest I J K => ∃ a b t n m x y : Nat, sh = shL ∧ rf = rfL ∧ d = 528 ∧ rest = [.inl (nI a), .inl (nI b), .inl (nI t)] ∧ a < 40 ∧ b < 40 ∧ t < 40 ∧ ZR I a n x ∧ ZR I b m y ∧ m ≤ n ∧ y ≤ x ∧ ∀ I1, SF I I1 t → I1 531 = I 531 → ZR I1 t n (x - y) → K none I1 J)
def pt_mset : mSH → mRF → mPT := m_pv 5 (fun sh rf d rest I J K => ∃ (s : Nat) (v : Int64), sh = shL ∧ rf = rfL ∧ d = 528 ∧ rest = [.inl (nI s), .inr (.inl v)] ∧ s < 40 ∧ v.toInt.natAbs < 2 ^ 63 ∧ ∀ I1, SF I I1 s → ZIs I1 s v.toInt → K none I1 J)
theorem dig_step {D P q r B : Nat} : D + r * P + q * (P * B) = D + (B * q + r) * P := by grind
theorem i_sub3 {x y b : Nat} (hx : x < 2 ^ 24) (hy : y < 2 ^ 24) (hb : b ≤ 1) : (nI x - nI y - nI b).toInt = (x : Int) - y - b := by
  have e1 : (nI x - nI y).toInt = (x : Int) - y := by
    rw [i_subT] <;> rw [nI_toInt (by omega), nI_toInt (by omega)] <;> omega
  rw [i_subT] <;> rw [e1, nI_toInt (by omega)] <;> omega
theorem i_sub3a {x y b : Nat} (hx : x < 2 ^ 24) (hy : y < 2 ^ 24) (hb : b ≤ 1) (h : y + b ≤ x) : nI x - nI y - nI b + 0 * 16777216 = nI (x - y - b) := by
  apply Int32.toInt_inj.mp
  rw [show (0 : Int32) * 16777216 = 0 by decide, Int32.add_zero, i_sub3 hx hy hb, nI_toInt (by omega)]
  omega
theorem i_sub3b {x y b : Nat} (hx : x < 2 ^ 24) (hy : y < 2 ^ 24) (hb : b ≤ 1) (h : x < y + b) : nI x - nI y - nI b + 1 * 16777216 = nI (x + 2 ^ 24 - y - b) := by
  apply Int32.toInt_inj.mp
  have e : ((1 : Int32) * 16777216).toInt = 16777216 := by decide
  rw [i_addT, i_sub3 hx hy hb, nI_toInt (by omega), e]
  · omega
  · rw [i_sub3 hx hy hb, e]
    omega
  · rw [i_sub3 hx hy hb, e]
    omega

def ct_X5_join (sh : mSH) (rf : mRF) : Nat → Option (Nat × Bool × mPT) := fun k => match k with
  | 60 => some (3, true, pt_limb sh rf)
  | _ => none
set_option maxRecDepth 20000 in
theorem ce_X5_join : m_CE RX5 1 22 cX5_join 7 ct_X5_join := by
  intro p l e s m args below meth c Q D cs ad sh rf N hx hb hml hown hts hK hi hN k n vf pt h
  unfold ct_X5_join at h
  split at h
  · cases h
    exact m_CG_V mt_X5_limb hx hb hml hown hts hK hi hN (ci := 5) m_pv_rec rfl rfl (m_wck_ok (l := [(Cond.methodLink RX5 60 yX5_limb, 809), (Cond.instanceMethod yX5_limb, 811), (Cond.selects RX5 yX5_limb yX5_limb, 23), (Cond.initialized RX5, 62), (Cond.code yX5_limb cX5_limb 3 (some .int), 812)]) (by decide +kernel)) ⟨rfl, by decide +kernel, by decide +kernel, by decide +kernel⟩ ⟨Nat.le_of_ble_eq_true rfl, Nat.le_of_ble_eq_true rfl⟩
  · cases h
set_option maxHeartbeats 4000000 in
set_option maxRecDepth 100000 in
theorem mt_X5_join : m_Mt yX5_join cX5_join 7 none 1 22 pt_mjoin := by
  refine m_methodG (fl := fl_X5) (kI := kI_X5) (kJ := kJ_X5) (ct := ct_X5_join) (cd := cd_X5_join) (cut := [(38, [0, 1, 2, 3, 4, 5, 6])]) (rk := 0) (fu := 80) (by decide +kernel) fl_X5_ok kI_X5_ok kJ_X5_ok ce_X5_join rfl ck_X5_join ⟨_, _, rfl, rfl⟩ ?_
  intro sh rf As I J K hpt
  obtain ⟨d, rest, rfl, hd, a, b, t, n, m, x, y, rfl, rfl, rfl, rfl, ha, hb, ht, hx, hy, hN, hK⟩ := hpt
  obtain ⟨hwa, hxv⟩ := hx
  obtain ⟨hwb, hyv⟩ := hy
  have hn := hwa.2.1
  have hm := hwb.2.1
  refine ⟨Nat.le_of_ble_eq_true rfl, fun a9 b9 pc vs st I1 J1 => ∃ k c, vs = [.inr (.inr 528), .inl (nI a), .inl (nI b), .inl (nI t), .inl (nI (max n m)), .inl (nI c), .inl (nI k)] ∧ st = [] ∧ J1 = J ∧ a9 = max n m - k ∧ k ≤ max n m ∧ c ≤ 1 ∧ WrI I I1 t k ∧ dv (2 ^ 24) (zd I1 t) k + c * (2 ^ 24) ^ k = dv (2 ^ 24) (lm I a n) k + dv (2 ^ 24) (lm I b m) k, ?_, ?_⟩
  · have st : ∀ N : Int32, N = nI (max n m) → ∃ a1 b1 : Nat, ∃ k c, ([.inr (.inr 528), .inl (nI a), .inl (nI b), .inl (nI t), .inl N, .inl 0, .inl 0] : List mPV) = [.inr (.inr 528), .inl (nI a), .inl (nI b), .inl (nI t), .inl (nI (max n m)), .inl (nI c), .inl (nI k)] ∧ ([] : List mPV) = [] ∧ J = J ∧ a1 = max n m - k ∧ k ≤ max n m ∧ c ≤ 1 ∧ WrI I I t k ∧ dv (2 ^ 24) (zd I t) k + c * (2 ^ 24) ^ k = dv (2 ^ 24) (lm I a n) k + dv (2 ^ 24) (lm I b m) k := by
      intro N hN2
      exact ⟨max n m - 0, 0, 0, 0, by rw [hN2]; rfl, rfl, rfl, rfl, Nat.zero_le _, by omega, WrI.rfl' I t, by rw [dv, dv, dv, Nat.zero_mul]⟩
    refine ⟨rfl, lin ha, rfl, lin hb, fun h => ?_, fun h => ?_⟩
    · have h : I 530 (nI a).toNatClampNeg ≤ I 530 (nI b).toNatClampNeg := h
      rw [scl ha, scl hb, hwa.1, hwb.1, nI_leI (by omega) (by omega)] at h
      refine ⟨rfl, lin hb, st _ ?_⟩
      show I 530 (nI b).toNatClampNeg = _
      rw [scl hb, hwb.1, Nat.max_eq_right h]
    · have h : ¬ I 530 (nI a).toNatClampNeg ≤ I 530 (nI b).toNatClampNeg := h
      rw [scl ha, scl hb, hwa.1, hwb.1, nI_leI (by omega) (by omega)] at h
      refine ⟨rfl, lin ha, st _ ?_⟩
      show I 530 (nI a).toNatClampNeg = _
      rw [scl ha, hwa.1, Nat.max_eq_left (by omega)]
  · intro pc ks a9 b9 vs st I1 J1 hc hI
    rcases m_cu1 hc with ⟨rfl, rfl⟩ | hc
    · obtain ⟨k, c, rfl, rfl, rfl, rfl, hk, hc1, hwr, e4⟩ := hI
      refine ⟨fun h => ?_, fun h => ?_⟩
      · have h : nI (max n m) ≤ nI k := h
        rw [nI_leI (by omega) (by omega)] at h
        obtain rfl : k = max n m := by omega
        refine ⟨rfl, zin ht hN, rfl, lin ht, ?_⟩
        show K none (m_uI (m_uI I1 529 ((260 : Int32) * nI t + nI (max n m)).toNatClampNeg (nI c)) 530 (nI t).toNatClampNeg (nI (max n m) + 1)) J1
        refine hwr.step (Q := fun I2 => K none (m_uI I2 530 (nI t).toNatClampNeg (nI (max n m) + 1)) J1) hN (x := c) (by omega) (fun I2 f1 f2 f3 f4 => ?_) (zcl ht hN) rfl
        rw [scl ht, nI_1]
        refine hK _ (f1.1.trans (sf_l _ t _)) (by rw [uI_a _ _ _ (by decide)]; exact f1.2.2.1) ⟨⟨uI_s _ _ _ _, by omega, fun i hi => by rw [zd_l]; exact f1.2.2.2.1 i hi⟩, ?_⟩
        rw [dv_congr (fun i _ => zd_l I2 t _ t i), f4, e4, lm_dv (Nat.le_max_left n m), lm_dv (Nat.le_max_right n m), hxv, hyv]
      · have h : ¬ nI (max n m) ≤ nI k := h
        rw [nI_leI (by omega) (by omega)] at h
        have ra := hwr.lm hwa
        have rb := hwr.lm hwb
        have la := lm_lt hwa k
        have lb := lm_lt hwb k
        refine ⟨528, [.inl (nI a), .inl (nI k)], rfl, rfl, a, k, n, rfl, rfl, rfl, rfl, ha, by omega, hwr.wf hwa, 528, [.inl (nI b), .inl (nI k)], rfl, rfl, b, k, m, rfl, rfl, rfl, rfl, hb, by omega, hwr.wf hwb, ?_⟩
        rw [ra, rb]
        have hd1 : dv (2 ^ 24) (lm I a n) (k + 1) = dv (2 ^ 24) (lm I a n) k + lm I a n k * (2 ^ 24) ^ k := rfl
        have hd2 : dv (2 ^ 24) (lm I b m) (k + 1) = dv (2 ^ 24) (lm I b m) k + lm I b m k * (2 ^ 24) ^ k := rfl
        generalize lm I a n k = u at la hd1
        generalize lm I b m k = v at lb hd2
        have esum : nI c + (nI u + nI v) = nI (c + (u + v)) := by rw [nI_add, nI_add]
        refine ⟨rfl, zin ht (by omega), max n m - (k + 1), 0, Or.inl (by omega), k + 1, (c + (u + v)) / 2 ^ 24, ?_, rfl, rfl, rfl, by omega, by omega, ?_⟩
        · rw [← nI_1 k, ← i_shr24 (by omega), ← esum]
        · refine hwr.step (Q := fun I2 => WrI I I2 t (k + 1) ∧ dv (2 ^ 24) (zd I2 t) (k + 1) + (c + (u + v)) / 2 ^ 24 * (2 ^ 24) ^ (k + 1) = dv (2 ^ 24) (lm I a n) (k + 1) + dv (2 ^ 24) (lm I b m) (k + 1)) (by omega) (x := (c + (u + v)) % 2 ^ 24) (Nat.mod_lt _ (by decide)) (fun I2 f1 f2 f3 f4 => ⟨f1, ?_⟩) (zcl ht (by omega)) ?_
          · rw [f4, hd1, hd2, Nat.pow_succ]
            exact add_step e4
          · show (nI c + (nI u + nI v)) &&& 16777215 = _
            rw [esum, i_and24 (by omega)]
    · cases hc

def ct_X5_less (sh : mSH) (rf : mRF) : Nat → Option (Nat × Bool × mPT) := fun k => match k with
  | 60 => some (3, true, pt_limb sh rf)
  | _ => none
set_option maxRecDepth 20000 in
theorem ce_X5_less : m_CE RX5 1 22 cX5_less 8 ct_X5_less := by
  intro p l e s m args below meth c Q D cs ad sh rf N hx hb hml hown hts hK hi hN k n vf pt h
  unfold ct_X5_less at h
  split at h
  · cases h
    exact m_CG_V mt_X5_limb hx hb hml hown hts hK hi hN (ci := 5) m_pv_rec rfl rfl (m_wck_ok (l := [(Cond.methodLink RX5 60 yX5_limb, 809), (Cond.instanceMethod yX5_limb, 811), (Cond.selects RX5 yX5_limb yX5_limb, 23), (Cond.initialized RX5, 62), (Cond.code yX5_limb cX5_limb 3 (some .int), 812)]) (by decide +kernel)) ⟨rfl, by decide +kernel, by decide +kernel, by decide +kernel⟩ ⟨Nat.le_of_ble_eq_true rfl, Nat.le_of_ble_eq_true rfl⟩
  · cases h
set_option maxHeartbeats 4000000 in
set_option maxRecDepth 100000 in
theorem mt_X5_less : m_Mt yX5_less cX5_less 8 none 1 22 pt_mless := by
  refine m_methodG (fl := fl_X5) (kI := kI_X5) (kJ := kJ_X5) (ct := ct_X5_less) (cd := cd_X5_less) (cut := [(14, [0, 1, 2, 3, 4, 5, 6])]) (rk := 0) (fu := 80) (by decide +kernel) fl_X5_ok kI_X5_ok kJ_X5_ok ce_X5_less rfl ck_X5_less ⟨_, _, rfl, rfl⟩ ?_
  intro sh rf As I J K hpt
  obtain ⟨d, rest, rfl, hd, a, b, t, n, m, x, y, rfl, rfl, rfl, rfl, ha, hb, ht, hx, hy, hmn, hyx, hK⟩ := hpt
  obtain ⟨hwa, hxv⟩ := hx
  obtain ⟨hwb, hyv⟩ := hy
  have hn := hwa.2.1
  refine ⟨Nat.le_of_ble_eq_true rfl, fun a9 b9 pc vs st I1 J1 => ∃ k c, vs = [.inr (.inr 528), .inl (nI a), .inl (nI b), .inl (nI t), .inl (nI n), .inl (nI c), .inl (nI k)] ∧ st = [] ∧ J1 = J ∧ a9 = n - k ∧ k ≤ n ∧ c ≤ 1 ∧ WrI I I1 t k ∧ dv (2 ^ 24) (zd I1 t) k + dv (2 ^ 24) (lm I b m) k = dv (2 ^ 24) (lm I a n) k + c * (2 ^ 24) ^ k, ?_, ?_⟩
  · refine ⟨rfl, lin ha, n - 0, 0, 0, 0, ?_, rfl, rfl, rfl, Nat.zero_le _, by omega, WrI.rfl' I t, by rw [dv, dv, dv, Nat.zero_mul]⟩
    show ([.inr (.inr 528), .inl (nI a), .inl (nI b), .inl (nI t), .inl (I 530 (nI a).toNatClampNeg), .inl 0, .inl 0] : List mPV) = _
    rw [scl ha, hwa.1]
    rfl
  · intro pc ks a9 b9 vs st I1 J1 hc hI
    rcases m_cu1 hc with ⟨rfl, rfl⟩ | hc
    · obtain ⟨k, c, rfl, rfl, rfl, rfl, hk, hc1, hwr, e4⟩ := hI
      refine ⟨fun h => ?_, fun h => ?_⟩
      · have h : nI n ≤ nI k := h
        rw [nI_leI (by omega) (by omega)] at h
        obtain rfl : k = n := by omega
        refine ⟨rfl, lin ht, ?_⟩
        show K none (m_uI I1 530 (nI t).toNatClampNeg (nI k)) J1
        rw [scl ht]
        refine hK _ (hwr.1.trans (sf_l _ t _)) (by rw [uI_a _ _ _ (by decide)]; exact hwr.2.2.1) ⟨⟨uI_s _ _ _ _, by omega, fun i hi => by rw [zd_l]; exact hwr.2.2.2.1 i hi⟩, ?_⟩
        rw [dv_congr (fun i _ => zd_l I1 t _ t i)]
        rw [lm_dv hmn, lm_dv (Nat.le_refl _), hxv, hyv] at e4
        have := dv_lt (B := 2 ^ 24) (g := zd I1 t) (n := k) hwr.2.2.2.1
        rcases (show c = 0 ∨ c = 1 by omega) with rfl | rfl
        · omega
        · rw [Nat.one_mul] at e4
          omega
      · have h : ¬ nI n ≤ nI k := h
        rw [nI_leI (by omega) (by omega)] at h
        have ra := hwr.lm hwa
        have rb := hwr.lm hwb
        have la := lm_lt hwa k
        have lb := lm_lt hwb k
        refine ⟨528, [.inl (nI a), .inl (nI k)], rfl, rfl, a, k, n, rfl, rfl, rfl, rfl, ha, by omega, hwr.wf hwa, 528, [.inl (nI b), .inl (nI k)], rfl, rfl, b, k, m, rfl, rfl, rfl, rfl, hb, by omega, hwr.wf hwb, ?_⟩
        rw [ra, rb]
        have hd1 : dv (2 ^ 24) (lm I a n) (k + 1) = dv (2 ^ 24) (lm I a n) k + lm I a n k * (2 ^ 24) ^ k := rfl
        have hd2 : dv (2 ^ 24) (lm I b m) (k + 1) = dv (2 ^ 24) (lm I b m) k + lm I b m k * (2 ^ 24) ^ k := rfl
        generalize lm I a n k = u at la hd1
        generalize lm I b m k = v at lb hd2
        obtain ⟨s1, s2⟩ := sub_step (B := 2 ^ 24) (x := u) (y := v) e4
        have ei := i_sub3 la lb hc1
        refine ⟨fun h5 => ?_, fun h5 => ?_⟩
        · have h5 : 0 ≤ nI u - nI v - nI c := h5
          rw [i_le0, ei] at h5
          refine ⟨rfl, zin ht (by omega), n - (k + 1), 0, Or.inl (by omega), k + 1, 0, by rw [← nI_1 k]; rfl, rfl, rfl, rfl, by omega, by omega, ?_⟩
          refine hwr.step (Q := fun I2 => WrI I I2 t (k + 1) ∧ dv (2 ^ 24) (zd I2 t) (k + 1) + dv (2 ^ 24) (lm I b m) (k + 1) = dv (2 ^ 24) (lm I a n) (k + 1) + 0 * (2 ^ 24) ^ (k + 1)) (by omega) (x := u - v - c) (by omega) (fun I2 f1 f2 f3 f4 => ⟨f1, ?_⟩) (zcl ht (by omega)) (i_sub3a la lb hc1 (by omega))
          rw [f4, hd1, hd2, Nat.pow_succ]
          exact s1 (by omega)
        · have h5 : ¬ 0 ≤ nI u - nI v - nI c := h5
          rw [i_le0, ei] at h5
          refine ⟨rfl, zin ht (by omega), n - (k + 1), 0, Or.inl (by omega), k + 1, 1, by rw [← nI_1 k]; rfl, rfl, rfl, rfl, by omega, by omega, ?_⟩
          refine hwr.step (Q := fun I2 => WrI I I2 t (k + 1) ∧ dv (2 ^ 24) (zd I2 t) (k + 1) + dv (2 ^ 24) (lm I b m) (k + 1) = dv (2 ^ 24) (lm I a n) (k + 1) + 1 * (2 ^ 24) ^ (k + 1)) (by omega) (x := u + 2 ^ 24 - v - c) (by omega) (fun I2 f1 f2 f3 f4 => ⟨f1, ?_⟩) (zcl ht (by omega)) (i_sub3b la lb hc1 (by omega))
          rw [f4, hd1, hd2, Nat.pow_succ]
          exact s2 (by omega) (by omega)
    · cases hc

set_option maxHeartbeats 4000000 in
set_option maxRecDepth 100000 in
theorem mt_X5_set : m_Mt yX5_set cX5_set 7 none 0 0 pt_mset := by
  refine m_methodG (fl := fl_X5) (kI := kI_X5) (kJ := kJ_X5) (ct := ct_none) (cd := cd_X5_set) (cut := [(12, [0, 1, 2]), (40, [0, 1, 2, 4]), (44, [0, 1, 4, 6])]) (rk := 0) (fu := 80) (by decide +kernel) fl_X5_ok kI_X5_ok kJ_X5_ok (ce_none _ _ _ _ _) rfl ck_X5_set ⟨_, _, rfl, rfl⟩ ?_
  intro sh rf As I J K hpt
  obtain ⟨d, rest, rfl, hd, s, v, rfl, rfl, rfl, rfl, hs, hv, hK⟩ := hpt
  have h0 : ∀ w : Int64, (0 ≤ lg_cmp w 0 ↔ 0 ≤ w.toInt) := fun w => l_ge0
  refine ⟨Nat.le_of_ble_eq_true rfl, fun a9 b9 pc vs st I1 J1 => ∃ r, J1 = J ∧ ((pc = 12 ∧ a9 = 100 ∧ vs = [.inr (.inr 528), .inl (nI s), .inr (.inl v)] ∧ st = [.inr (.inl (lN v.toInt.natAbs))] ∧ I1 = I) ∨ (pc = 40 ∧ a9 = 99 ∧ vs = [.inr (.inr 528), .inl (nI s), .inr (.inl v), .inr (.inl (lN v.toInt.natAbs))] ∧ st = [.inl (sgI v.toInt), .inl (nI s), .inr (.inr 531)] ∧ I1 = I) ∨ (pc = 44 ∧ ∃ k, a9 = 10 - k ∧ k ≤ 9 ∧ vs = [.inr (.inr 528), .inl (nI s), .inr (.inl (lN r)), .inl (nI k)] ∧ st = [] ∧ (0 < k → zd I1 s (k - 1) = 0 → 0 < r) ∧ ∃ I0, SF I I0 s ∧ I0 531 s = sgI v.toInt ∧ WrI I0 I1 s k ∧ dv (2 ^ 24) (zd I1 s) k + r * (2 ^ 24) ^ k = v.toInt.natAbs)), ?_, ?_⟩
  · refine ⟨fun h => ?_, fun h => ?_⟩
    · have h : 0 ≤ lg_cmp v 0 := h
      rw [l_ge0] at h
      exact ⟨100, 0, 0, rfl, Or.inl ⟨rfl, rfl, rfl, by rw [← l_of_nonneg h], rfl⟩⟩
    · have h : ¬ 0 ≤ lg_cmp v 0 := h
      rw [l_ge0] at h
      exact ⟨100, 0, 0, rfl, Or.inl ⟨rfl, rfl, rfl, by rw [← l_neg_abs (by omega)], rfl⟩⟩
  · intro pc ks a9 b9 vs st I1 J1 hc hI
    obtain ⟨r, rfl, hI⟩ := hI
    rcases m_cu1 hc with ⟨rfl, rfl⟩ | hc
    · rcases hI with ⟨-, rfl, rfl, rfl, rfl⟩ | ⟨q, -⟩ | ⟨q, -⟩
      · refine ⟨rfl, fun h => ⟨fun h2 => ?_, fun h2 => ?_⟩, fun h => ?_⟩
        · have h : 0 ≤ lg_cmp v 0 := h
          have h2 : lg_cmp v 0 ≤ 0 := h2
          rw [l_ge0] at h
          have hv0 : v.toInt = 0 := by
            have e := l_of_nonneg h
            rw [e, show (0 : Int64) = lN 0 from rfl, lg_cmp_N hv (by decide)] at h2
            unfold cmpN at h2
            rw [if_neg (by omega)] at h2
            by_cases q : v.toInt.natAbs = 0
            · omega
            · rw [if_neg q] at h2
              exact absurd h2 (by decide)
          exact ⟨99, 0, Or.inl (by decide), 0, rfl, Or.inr (Or.inl ⟨rfl, rfl, rfl, by rw [hv0]; rfl, rfl⟩)⟩
        · have h : 0 ≤ lg_cmp v 0 := h
          have h2 : ¬ lg_cmp v 0 ≤ 0 := h2
          rw [l_ge0] at h
          have hv0 : 0 < v.toInt := by
            by_cases q : v.toInt = 0
            · exfalso
              apply h2
              have e : v = 0 := Int64.toInt_inj.mp q
              rw [e]
              decide
            · omega
          refine ⟨99, 0, Or.inl (by decide), 0, rfl, Or.inr (Or.inl ⟨rfl, rfl, rfl, ?_, rfl⟩)⟩
          have : sgI v.toInt = 1 := by
            unfold sgI
            rw [if_neg (by omega), if_neg (by omega)]
          rw [this]
          rfl
        · have h : ¬ 0 ≤ lg_cmp v 0 := h
          rw [l_ge0] at h
          refine ⟨99, 0, Or.inl (by decide), 0, rfl, Or.inr (Or.inl ⟨rfl, rfl, rfl, ?_, rfl⟩)⟩
          have : sgI v.toInt = -1 := by
            unfold sgI
            rw [if_pos (by omega)]
          rw [this]
          rfl
      · exact absurd q (by decide)
      · exact absurd q (by decide)
    · rcases m_cu1 hc with ⟨rfl, rfl⟩ | hc
      · rcases hI with ⟨q, -⟩ | ⟨-, rfl, rfl, rfl, rfl⟩ | ⟨q, -⟩
        · exact absurd q (by decide)
        · refine ⟨sin hs, 10 - 0, 0, Or.inl (by decide), v.toInt.natAbs, rfl, Or.inr (Or.inr ⟨rfl, 0, rfl, by omega, rfl, rfl, fun q => absurd q (Nat.lt_irrefl 0), m_uI I1 531 s (sgI v.toInt), sf_s I1 s _, uI_s _ _ _ _, ?_, ?_⟩)⟩
          · have := WrI.rfl' (m_uI I1 531 s (sgI v.toInt)) s
            show WrI _ (m_uI I1 531 (nI s).toNatClampNeg (sgI v.toInt)) s 0
            rw [scl hs]
            exact this
          · rw [dv, Nat.pow_zero, Nat.mul_one, Nat.zero_add]
        · exact absurd q (by decide)
      · rcases m_cu1 hc with ⟨rfl, rfl⟩ | hc
        · rcases hI with ⟨q, -⟩ | ⟨q, -⟩ | ⟨-, k, rfl, hk, rfl, rfl, ht, I0, hsf, hsg, hwr, e4⟩
          · exact absurd q (by decide)
          · exact absurd q (by decide)
          · have hpow : (2 ^ 24) ^ k = 2 ^ (24 * k) := (Nat.pow_mul 2 24 k).symm
            have hr : r < 2 ^ 63 := by
              have : r * 1 ≤ r * (2 ^ 24) ^ k := Nat.mul_le_mul_left _ (Nat.pow_pos (by decide))
              omega
            have ecmp : lg_cmp (lN r) 0 = cmpN r 0 := lg_cmp_N hr (by decide)
            refine ⟨fun h => ?_, fun h => ?_⟩
            · have h : lg_cmp (lN r) 0 ≤ 0 := h
              have r0 : r = 0 := by
                rw [ecmp] at h
                unfold cmpN at h
                rw [if_neg (Nat.not_lt_zero _)] at h
                by_cases q : r = 0
                · exact q
                · rw [if_neg q] at h
                  exact absurd h (by decide)
              subst r0
              rw [Nat.zero_mul, Nat.add_zero] at e4
              refine ⟨rfl, lin hs, ?_⟩
              show K none (m_uI I1 530 (nI s).toNatClampNeg (nI k)) J1
              rw [scl hs]
              refine hK _ ((hsf.trans hwr.1).trans (sf_l _ s _)) ⟨k, ⟨⟨uI_s _ _ _ _, by omega, fun i hi => by rw [zd_l]; exact hwr.2.2.2.1 i hi⟩, by rw [dv_congr (fun i _ => zd_l I1 s _ s i)]; exact e4⟩, fun q => ?_, ?_⟩
              · rw [zd_l]
                exact fun e => absurd (ht q e) (Nat.lt_irrefl 0)
              · rw [uI_a _ _ _ (by decide), hwr.2.2.1]
                exact hsg
            · have h : ¬ lg_cmp (lN r) 0 ≤ 0 := h
              have r0 : 0 < r := by
                rcases Nat.eq_zero_or_pos r with q | q
                · subst q
                  exact absurd (by decide) h
                · exact q
              have hk2 : k ≤ 2 := by
                have h1 : 1 * (2 ^ 24) ^ k ≤ r * (2 ^ 24) ^ k := Nat.mul_le_mul_right _ r0
                rw [hpow] at h1 e4
                have h2 : 2 ^ (24 * k) < 2 ^ 63 := by omega
                have := (Nat.pow_lt_pow_iff_right (by decide)).mp h2
                omega
              refine ⟨rfl, zin hs (by omega), 10 - (k + 1), 0, Or.inl (by omega), r / 2 ^ 24, rfl, Or.inr (Or.inr ⟨rfl, k + 1, rfl, by omega, ?_, rfl, ?_⟩)⟩
              · rw [← nI_1 k, ← l_shr24 hr]
              · refine hwr.step (Q := fun I2 => (0 < k + 1 → zd I2 s (k + 1 - 1) = 0 → 0 < r / 2 ^ 24) ∧ ∃ I0, SF I I0 s ∧ I0 531 s = sgI v.toInt ∧ WrI I0 I2 s (k + 1) ∧ dv (2 ^ 24) (zd I2 s) (k + 1) + r / 2 ^ 24 * (2 ^ 24) ^ (k + 1) = v.toInt.natAbs) (by omega) (x := r % 2 ^ 24) (Nat.mod_lt _ (by decide)) (fun I2 f1 f2 f3 f4 => ⟨fun _ q => ?_, I0, hsf, hsg, f1, ?_⟩) (zcl hs (by omega)) ?_
                · rw [Nat.add_sub_cancel, f3] at q
                  omega
                · rw [f4, ← e4, show (2 ^ 24) ^ (k + 1) = (2 ^ 24) ^ k * 2 ^ 24 from Nat.pow_succ _ _]
                  have := Nat.div_add_mod r (2 ^ 24)
                  generalize (2 ^ 24) ^ k = P
                  generalize r / 2 ^ 24 = Qd at this ⊢
                  generalize r % 2 ^ 24 = Rm at this ⊢
                  rw [← this]
                  exact dig_step
                · show (lN r &&& 16777215).toInt32 = _
                  rw [l_and24 hr, lN_i]
        · cases hc

