/-! ===== the desk: by, mirror, keep, back ===== -/
theorem neg9 {c : Int32} (h : win c.toInt 9) : ((-c).toInt64).toInt = -c.toInt := by
  rw [Int32.toInt_toInt64, Int32.toInt_neg]
  exact Int.bmod_eq_of_le (by omega) (by omega)
theorem ofI62 {z : Int} (h : z.natAbs < 2 ^ 62) : (Int64.ofInt z).toInt = z := Int64.toInt_ofInt_of_le (by omega) (by omega)
theorem and1 : ∀ j, j < 12 → nI j &&& 1 = nI (j % 2) := by decide +kernel
/-- after change -/
theorem chg_upd {I I1 : mPI} {J J1 : mPJ} {l' : Nat} (hC : CI I J) (w1 : Wk I I1) (hj : ∀ a, a ≠ 526 → J1 a = J a) (h3 : 3 ≤ l') (h11 : l' ≤ 11) {f : Nat → Int} (hf : ∀ k, k < l' + 1 → J1 526 k = Int64.ofInt (f k) ∧ (f k).natAbs < 2 ^ 62) : UpdC I J (m_uI (m_uI (m_uI I1 513 1 (nI l')) 513 3 1) 513 7 1) (va_up J1 519 (va_cpy (J1 526) (J1 519) 0 0 (l' + 1))) (I 513 0) (nI l') (I 513 2) 1 (fun x => I 516 x) (fun k => if k < l' + 1 then Int64.ofInt (f k) else J 519 k) := by
  have hmo : ∀ k, va_up J1 519 (va_cpy (J1 526) (J1 519) 0 0 (l' + 1)) 519 k = if k < l' + 1 then Int64.ofInt (f k) else J 519 k := by
    intro k
    rw [va_up_self]
    unfold va_cpy
    by_cases q : k < l' + 1
    · rw [if_pos ⟨Nat.zero_le _, by omega⟩, if_pos q, Nat.zero_add, Nat.sub_zero]
      exact (hf k q).1
    · rw [if_neg (fun r => q (by omega)), if_neg q, hj 519 (by decide)]
  have hI : ∀ a, ¬ wkA a → a ≠ 513 → a ≠ 516 → m_uI (m_uI (m_uI I1 513 1 (nI l')) 513 3 1) 513 7 1 a = I a := fun a q1 q2 _ => by
    rw [uI_a _ _ _ q2, uI_a _ _ _ q2, uI_a _ _ _ q2, w1 a q1]
  have hJ : ∀ a, a ≠ 519 → a ≠ 526 → va_up J1 519 (va_cpy (J1 526) (J1 519) 0 0 (l' + 1)) a = J a := fun a q1 q2 => by
    rw [va_up_ne _ _ q1, hj a q2]
  have w513 : I1 513 = I 513 := w1 513 (by unfold wkA; omega)
  have h1 : m_uI (m_uI (m_uI I1 513 1 (nI l')) 513 3 1) 513 7 1 513 1 = nI l' := by rw [uI_k _ _ _ (by decide), uI_k _ _ _ (by decide), uI_s]
  have h31 : m_uI (m_uI (m_uI I1 513 1 (nI l')) 513 3 1) 513 7 1 513 3 = 1 := by rw [uI_k _ _ _ (by decide), uI_s]
  obtain ⟨l, b1, b2, b3, b4, b5, b6⟩ := hC.kind
  refine ⟨hI, ?_, h1, ?_, h31, fun x _ => ?_, hJ, fun k _ => hmo k, ?_⟩
  · rw [uI_k _ _ _ (by decide), uI_k _ _ _ (by decide), uI_k _ _ _ (by decide), w513]
  · rw [uI_k _ _ _ (by decide), uI_k _ _ _ (by decide), uI_k _ _ _ (by decide), w513]
  · rw [uI_a _ _ _ (by decide), uI_a _ _ _ (by decide), uI_a _ _ _ (by decide), w1 516 (by unfold wkA; omega)]
  · refine CI_upd (l := l') hC hI hJ h1 h3 h11 (fun k hk => ?_) (Or.inr h31) (uI_s _ _ _ _) (fun _ q => ?_)
    · rw [hmo k]
      by_cases q : k < l' + 1
      · rw [if_pos q, ofI62 (hf k q).2]
        have := (hf k q).2
        have := MB62
        omega
      · rw [if_neg q]
        exact b4 k hk
    · exact absurd (h31.symm.trans q) (by decide)

def ct_X4_addMomentTimes (sh : mSH) (rf : mRF) : Nat → Option (Nat × Bool × mPT) := fun k => match k with
  | 112 => some (2, true, pt_setLong sh rf)
  | 198 => some (4, true, pt_addProduct sh rf)
  | _ => none
set_option maxRecDepth 20000 in
theorem ce_X4_addMomentTimes : m_CE RX4 4 126 cX4_addMomentTimes 4 ct_X4_addMomentTimes := by
  intro p l e s m args below meth c Q D cs ad sh rf N hx hb hml hown hts hK hi hN k n vf pt h
  unfold ct_X4_addMomentTimes at h
  split at h
  · cases h
    exact m_CG_V mt_X0_setLong hx hb hml hown hts hK hi hN (ci := 0) m_pv_rec rfl rfl (m_wck_ok (l := [(Cond.methodLink RX4 112 yX0_setLong, 307), (Cond.instanceMethod yX0_setLong, 176), (Cond.selects RX0 yX0_setLong yX0_setLong, 177), (Cond.initialized RX0, 58), (Cond.code yX0_setLong cX0_setLong 5 none, 178)]) (by decide +kernel)) ⟨rfl, by decide +kernel, by decide +kernel, by decide +kernel⟩ ⟨Nat.le_of_ble_eq_true rfl, Nat.le_of_ble_eq_true rfl⟩
  · cases h
    exact m_CG_V mt_X0_addProduct hx hb hml hown hts hK hi hN (ci := 0) m_pv_rec rfl rfl (m_wck_ok (l := [(Cond.methodLink RX4 198 yX0_addProduct, 312), (Cond.instanceMethod yX0_addProduct, 313), (Cond.selects RX0 yX0_addProduct yX0_addProduct, 314), (Cond.initialized RX0, 58), (Cond.code yX0_addProduct cX0_addProduct 4 none, 315)]) (by decide +kernel)) ⟨rfl, by decide +kernel, by decide +kernel, by decide +kernel⟩ ⟨Nat.le_of_ble_eq_true rfl, Nat.le_of_ble_eq_true rfl⟩
  · cases h
set_option maxHeartbeats 4000000 in
set_option maxRecDepth 100000 in
theorem mt_X4_addMomentTimes : m_Mt yX4_addMomentTimes cX4_addMomentTimes 4 none 4 126 pt_addMT := by
  refine m_method0 80 (fl := fl_X4) (kI := kI_X4) (kJ := kJ_X4) (ct := ct_X4_addMomentTimes) (cd := cd_X4_addMomentTimes) (rk := 0) (by decide +kernel) fl_X4_ok kI_X4_ok kJ_X4_ok ce_X4_addMomentTimes rfl ck_X4_addMomentTimes ⟨_, _, rfl, rfl⟩ ?_
  intro sh rf As I J K hpt
  obtain ⟨d, rest, rfl, hd, k, m, f, z, rfl, rfl, rfl, rfl, hk, hz, hzm, h4, hm, hK⟩ := hpt
  refine ⟨Nat.le_of_ble_eq_true rfl, rfl, rfl, rfl, m_inb_i (n := 12) rfl (vp_in_nI hk (by decide)), 498, [.inr (.inl (J 519 (nI k).toNatClampNeg))], rfl, rfl, 40, J 519 (nI k).toNatClampNeg, rfl, L40 (b := 249) (by decide) (by decide), fun I1 c1 c2 => ?_⟩
  rw [nI_clamp (by omega)] at c2
  have w1 := bch_wk (b := 498) (by decide) (by decide) c1
  have z1 := hz.other lay_BL (L40 (b := 249) (by decide) (by decide)) (by decide) c1
  refine ⟨rfl, 500, [.inr (.inl f)], rfl, rfl, 40, f, rfl, L40 (b := 250) (by decide) (by decide), fun I2 c3 c4 => ?_⟩
  have w2 := w1.trans (bch_wk (b := 500) (by decide) (by decide) c3)
  have z2 := z1.other lay_BL (L40 (b := 250) (by decide) (by decide)) (by decide) c3
  have c5 := c2.other lay_BL (L40 (b := 250) (by decide) (by decide)) (by decide) c3
  refine ⟨rfl, rfl, rfl, rfl, 496, [.inr (.inr 498), .inr (.inr 500), .inr (.inr 502)], rfl, rfl, 40, 498, 500, 502, 40, 2, 2, m, z, _, _, rfl, L40 (b := 248) (by decide) (by decide), L40 (b := 251) (by decide) (by decide), lay_BL, by decide, by decide, by decide, z2, c5, c4, v64 _, v64 _, by decide, hzm, bup (bmul (v64 _) (v64 _)) h4, by omega, fun I3 c6 c7 => ?_⟩
  exact hK I3 (w2.trans (bch2_wk (by decide) (by decide) (by decide) (by decide) c6)) c7

def ct_X4_takesSumAsMoment (sh : mSH) (rf : mRF) : Nat → Option (Nat × Bool × mPT) := fun k => match k with
  | 215 => some (1, true, pt_bitLength sh rf)
  | 255 => some (1, true, pt_toLong sh rf)
  | _ => none
set_option maxRecDepth 20000 in
theorem ce_X4_takesSumAsMoment : m_CE RX4 2 41 cX4_takesSumAsMoment 2 ct_X4_takesSumAsMoment := by
  intro p l e s m args below meth c Q D cs ad sh rf N hx hb hml hown hts hK hi hN k n vf pt h
  unfold ct_X4_takesSumAsMoment at h
  split at h
  · cases h
    exact m_CG_V mt_X0_bitLength hx hb hml hown hts hK hi hN (ci := 0) m_pv_rec rfl rfl (m_wck_ok (l := [(Cond.methodLink RX4 215 yX0_bitLength, 379), (Cond.instanceMethod yX0_bitLength, 380), (Cond.selects RX0 yX0_bitLength yX0_bitLength, 381), (Cond.initialized RX0, 58), (Cond.code yX0_bitLength cX0_bitLength 1 (some .int), 382)]) (by decide +kernel)) ⟨rfl, by decide +kernel, by decide +kernel, by decide +kernel⟩ ⟨Nat.le_of_ble_eq_true rfl, Nat.le_of_ble_eq_true rfl⟩
  · cases h
    exact m_CG_V mt_X0_toLong hx hb hml hown hts hK hi hN (ci := 0) m_pv_rec rfl rfl (m_wck_ok (l := [(Cond.methodLink RX4 255 yX0_toLong, 387), (Cond.instanceMethod yX0_toLong, 388), (Cond.selects RX0 yX0_toLong yX0_toLong, 389), (Cond.initialized RX0, 58), (Cond.code yX0_toLong cX0_toLong 7 (some .long), 390)]) (by decide +kernel)) ⟨rfl, by decide +kernel, by decide +kernel, by decide +kernel⟩ ⟨Nat.le_of_ble_eq_true rfl, Nat.le_of_ble_eq_true rfl⟩
  · cases h
set_option maxHeartbeats 4000000 in
set_option maxRecDepth 100000 in
theorem mt_X4_takesSumAsMoment : m_Mt yX4_takesSumAsMoment cX4_takesSumAsMoment 2 (some .boolean) 2 41 pt_takesSum := by
  refine m_method0 80 (fl := fl_X4) (kI := kI_X4) (kJ := kJ_X4) (ct := ct_X4_takesSumAsMoment) (cd := cd_X4_takesSumAsMoment) (rk := 3) (by decide +kernel) fl_X4_ok kI_X4_ok kJ_X4_ok ce_X4_takesSumAsMoment rfl ck_X4_takesSumAsMoment ⟨_, _, rfl, rfl⟩ ?_
  intro sh rf As I J K hpt
  obtain ⟨d, rest, rfl, hd, k, z, rfl, rfl, rfl, rfl, hk, hz, hK1, hK0⟩ := hpt
  have hb : blen z.natAbs ≤ 32 * 40 := blen_le (hz.cap_lt (L40 (b := 248) (by decide) (by decide)))
  refine ⟨Nat.le_of_ble_eq_true rfl, rfl, 496, [], rfl, rfl, z, rfl, hz, fun h => ?_, fun h => ?_⟩
  · have h : nI (blen z.natAbs) ≤ nI 62 := h
    rw [nI_leI (by omega) (by omega)] at h
    have h62 : z.natAbs < 2 ^ 62 := Nat.lt_of_lt_of_le (lt_blen _) (Nat.pow_le_pow_right (by decide) h)
    refine ⟨rfl, rfl, 496, [], rfl, rfl, z, rfl, hz, by omega, m_inb_i (n := 12) rfl (vp_in_nI hk (by decide)), Or.inr rfl, ?_⟩
    have := hK1 h62
    show K (some (.inl 1)) I (m_uJ J 526 (nI k).toNatClampNeg (Int64.ofInt z))
    rw [nI_clamp (by omega)]
    exact this
  · have h : ¬ nI (blen z.natAbs) ≤ nI 62 := h
    rw [nI_leI (by omega) (by omega)] at h
    exact ⟨Or.inl rfl, hK0 (fun q => h (blen_le q))⟩

def ct_X4_by (sh : mSH) (rf : mRF) : Nat → Option (Nat × Bool × mPT) := fun k => match k with
  | 64 => some (2, false, pt_isWithin sh rf)
  | 112 => some (2, true, pt_setLong sh rf)
  | 116 => some (3, true, pt_addMT sh rf)
  | 119 => some (2, true, pt_takesSum sh rf)
  | 123 => some (3, true, pt_wchange sh rf)
  | _ => none
set_option maxRecDepth 20000 in
theorem ce_X4_by : m_CE RX4 5 149 cX4_by 4 ct_X4_by := by
  intro p l e s m args below meth c Q D cs ad sh rf N hx hb hml hown hts hK hi hN k n vf pt h
  unfold ct_X4_by at h
  split at h
  · cases h
    exact m_CG_S mt_X4_isWithin hx hb hml hown hts hK hi hN (m_wck_ok (l := [(Cond.methodLink RX4 64 yX4_isWithin, 253), (Cond.static yX4_isWithin, 254), (Cond.initialized RX4, 55), (Cond.code yX4_isWithin cX4_isWithin 2 (some .boolean), 255)]) (by decide +kernel)) ⟨by decide +kernel, by decide +kernel, by decide +kernel⟩ ⟨Nat.le_of_ble_eq_true rfl, Nat.le_of_ble_eq_true rfl⟩
  · cases h
    exact m_CG_V mt_X0_setLong hx hb hml hown hts hK hi hN (ci := 0) m_pv_rec rfl rfl (m_wck_ok (l := [(Cond.methodLink RX4 112 yX0_setLong, 307), (Cond.instanceMethod yX0_setLong, 176), (Cond.selects RX0 yX0_setLong yX0_setLong, 177), (Cond.initialized RX0, 58), (Cond.code yX0_setLong cX0_setLong 5 none, 178)]) (by decide +kernel)) ⟨rfl, by decide +kernel, by decide +kernel, by decide +kernel⟩ ⟨Nat.le_of_ble_eq_true rfl, Nat.le_of_ble_eq_true rfl⟩
  · cases h
    exact m_CG_V mt_X4_addMomentTimes hx hb hml hown hts hK hi hN (ci := 4) m_pv_rec rfl rfl (m_wck_ok (l := [(Cond.methodLink RX4 116 yX4_addMomentTimes, 308), (Cond.instanceMethod yX4_addMomentTimes, 310), (Cond.selects RX4 yX4_addMomentTimes yX4_addMomentTimes, 1), (Cond.initialized RX4, 55), (Cond.code yX4_addMomentTimes cX4_addMomentTimes 4 none, 311)]) (by decide +kernel)) ⟨rfl, by decide +kernel, by decide +kernel, by decide +kernel⟩ ⟨Nat.le_of_ble_eq_true rfl, Nat.le_of_ble_eq_true rfl⟩
  · cases h
    exact m_CG_V mt_X4_takesSumAsMoment hx hb hml hown hts hK hi hN (ci := 4) m_pv_rec rfl rfl (m_wck_ok (l := [(Cond.methodLink RX4 119 yX4_takesSumAsMoment, 375), (Cond.instanceMethod yX4_takesSumAsMoment, 377), (Cond.selects RX4 yX4_takesSumAsMoment yX4_takesSumAsMoment, 5), (Cond.initialized RX4, 55), (Cond.code yX4_takesSumAsMoment cX4_takesSumAsMoment 2 (some .boolean), 378)]) (by decide +kernel)) ⟨rfl, by decide +kernel, by decide +kernel, by decide +kernel⟩ ⟨Nat.le_of_ble_eq_true rfl, Nat.le_of_ble_eq_true rfl⟩
  · cases h
    exact m_CG_V mt_X3_change hx hb hml hown hts hK hi hN (ci := 3) m_pv_rec rfl rfl (m_wck_ok (l := [(Cond.methodLink RX4 123 yX3_change, 391), (Cond.instanceMethod yX3_change, 392), (Cond.selects RX3 yX3_change yX3_change, 393), (Cond.initialized RX3, 56), (Cond.code yX3_change cX3_change 3 none, 394)]) (by decide +kernel)) ⟨rfl, by decide +kernel, by decide +kernel, by decide +kernel⟩ ⟨Nat.le_of_ble_eq_true rfl, Nat.le_of_ble_eq_true rfl⟩
  · cases h
set_option maxHeartbeats 4000000 in
set_option maxRecDepth 100000 in
theorem mt_X4_by : m_Mt yX4_by cX4_by 4 (some .int) 5 149 pt_by := by
  refine m_methodG (fl := fl_X4) (kI := kI_X4) (kJ := kJ_X4) (ct := ct_X4_by) (cd := cd_X4_by) (cut := [(38, [0, 1, 2, 3])]) (rk := 1) (fu := 80) (by decide +kernel) fl_X4_ok kI_X4_ok kJ_X4_ok ce_X4_by rfl ck_X4_by ⟨_, _, rfl, rfl⟩ ?_
  intro sh rf As I J K hpt
  obtain ⟨d, rest, rfl, hd, c, l, rfl, rfl, rfl, rfl, hC, h1, hl, hS, hU⟩ := hpt
  have n9 : (9 : Int32).toInt = 9 := rfl
  refine ⟨Nat.le_of_ble_eq_true rfl, fun a9 b9 pc vs st I1 J1 => ∃ k, vs = [.inr (.inr 523), .inl c, .inl (nI (l - 1)), .inl (nI k)] ∧ st = [] ∧ a9 = l - k ∧ k ≤ l ∧ win c.toInt 9 ∧ 3 < l ∧ Wk I I1 ∧ (∀ a, a ≠ 526 → J1 a = J a) ∧ ∀ q, q < k → J1 526 q = Int64.ofInt (byV (moC J 0) c.toInt q) ∧ (byV (moC J 0) c.toInt q).natAbs < 2 ^ 62, ?_, ?_⟩
  · refine ⟨c, 9, rfl, fun h => ?_, fun h => ?_⟩
    · have hc := (within_i (by decide)).mp (w_not0 h)
      rw [n9] at hc
      refine ⟨rfl, rfl, fun h2 => ?_, fun h2 => ?_⟩
      · have h2 : nI 3 < I 513 1 := h2
        rw [h1, nI_ltI (by omega) (by omega)] at h2
        refine ⟨rfl, rfl, l - 0, 0, 0, ?_, rfl, rfl, by omega, hc, h2, Wk.rfl' I, fun _ _ => rfl, fun q hq => absurd hq (Nat.not_lt_zero q)⟩
        show ([.inr (.inr 523), .inl c, .inl (I 513 1 - 1), .inl 0] : List mPV) = _
        rw [h1, show nI l - 1 = nI (l - 1) from pk_sub (b := 1) (by omega)]
        rfl
      · have h2 : ¬ nI 3 < I 513 1 := h2
        rw [h1, nI_ltI (by omega) (by omega)] at h2
        exact hS _ (by unfold byO; rw [if_neg (fun q => q hc), if_pos (by omega)]) I J (SameC.rfl' I J)
    · have h := mt (within_i (by decide)).mpr (w_is0 h)
      rw [n9] at h
      exact hS _ (if_pos h) I J (SameC.rfl' I J)
  · intro pc ks a9 b9 vs st I1 J1 hcu hI
    rcases m_cu1 hcu with ⟨rfl, rfl⟩ | hcu
    · obtain ⟨k, rfl, rfl, rfl, hk, hc, h3, w1, hj, hq⟩ := hI
      have eJ : J1 519 = J 519 := hj 519 (by decide)
      refine ⟨fun h => ?_, fun h => ?_⟩
      · have h : nI (l - 1) < nI k := h
        rw [nI_ltI (by omega) (by omega)] at h
        obtain rfl : k = l := by omega
        have hU := hU (by unfold byO; rw [if_neg (fun q => q hc), if_neg (by omega), if_pos (fun q hq2 => (hq q hq2).2)])
        refine ⟨rfl, rfl, 513, [.inr (.inr 526), .inl (nI (k - 1))], rfl, rfl, 526, k - 1, rfl, by omega, rfl, lay_W0, ?_⟩
        have := chg_upd (l' := k - 1) hC w1 hj (by omega) (by omega) (f := byV (moC J 0) c.toInt) (fun q hq2 => hq q (by omega))
        rw [show k - 1 + 1 = k by omega] at this
        have e5 : rfL 513 5 = 519 := rfl
        rw [e5, show k - 1 + 1 = k by omega]
        exact hU _ _ this
      · have h : ¬ nI (l - 1) < nI k := h
        rw [nI_ltI (by omega) (by omega)] at h
        have ecl : (nI k + 1).toNatClampNeg = k + 1 := by rw [nI_1, nI_clamp (by omega)]
        refine ⟨rfl, rfl, rfl, m_inb_i (n := 12) rfl (by rw [nI_1]; exact vp_in_nI (by omega) (by decide)), 496, [.inr (.inl (J1 519 (nI k + 1).toNatClampNeg))], rfl, rfl, 40, J1 519 (nI k + 1).toNatClampNeg, rfl, L40 (b := 248) (by decide) (by decide), fun I2 c1 c2 => ?_⟩
        rw [ecl] at c2
        have w2 := w1.trans (bch_wk (b := 496) (by decide) (by decide) c1)
        refine ⟨523, [.inl (nI k), .inr (.inl (-c).toInt64)], rfl, rfl, k, 4, (-c).toInt64, _, rfl, rfl, rfl, rfl, by omega, c2, bup (v64 _) (by decide), by decide, by decide, fun I3 w3 c3 => ?_⟩
        have e : (J1 519 (k + 1)).toInt + moC J1 0 k * (-c).toInt64.toInt = byV (moC J 0) c.toInt k := by
          rw [neg9 hc]
          unfold byV moC
          rw [show 519 + 0 = 519 from rfl, eJ]
        rw [e] at c3
        refine ⟨523, [.inl (nI k)], rfl, rfl, k, _, rfl, rfl, rfl, rfl, by omega, c3, fun hz => ⟨fun _ => ?_, fun r => absurd r (by decide)⟩, fun hz => ⟨fun r => absurd rfl r, fun _ => ?_⟩⟩
        · refine ⟨l - (k + 1), 0, Or.inl (by omega), k + 1, by rw [← nI_1 k], rfl, rfl, by omega, hc, h3, w2.trans w3, fun a ha => ?_, fun q hq2 => ?_⟩
          · funext b
            unfold m_uJ
            rw [if_neg (fun r => ha r.1), hj a ha]
          · unfold m_uJ
            by_cases r : q = k
            · subst r
              rw [if_pos ⟨rfl, rfl⟩]
              exact ⟨rfl, hz⟩
            · rw [if_neg (fun r2 => r r2.2)]
              exact hq q (by omega)
        · exact hS _ (by unfold byO; rw [if_neg (fun q => q hc), if_neg (by omega), if_neg (fun q => hz (q k (by omega)))]) I3 J1 ⟨w2.trans w3, hj⟩
    · cases hcu

def ct_X4_mirror (sh : mSH) (rf : mRF) : Nat → Option (Nat × Bool × mPT) := fun k => match k with
  | 64 => some (2, false, pt_isWithin sh rf)
  | 112 => some (2, true, pt_setLong sh rf)
  | 127 => some (2, false, pt_ways sh rf)
  | 131 => some (2, false, pt_power sh rf)
  | 116 => some (3, true, pt_addMT sh rf)
  | 119 => some (2, true, pt_takesSum sh rf)
  | 123 => some (3, true, pt_wchange sh rf)
  | _ => none
set_option maxRecDepth 20000 in
theorem ce_X4_mirror : m_CE RX4 5 149 cX4_mirror 6 ct_X4_mirror := by
  intro p l e s m args below meth c Q D cs ad sh rf N hx hb hml hown hts hK hi hN k n vf pt h
  unfold ct_X4_mirror at h
  split at h
  · cases h
    exact m_CG_S mt_X4_isWithin hx hb hml hown hts hK hi hN (m_wck_ok (l := [(Cond.methodLink RX4 64 yX4_isWithin, 253), (Cond.static yX4_isWithin, 254), (Cond.initialized RX4, 55), (Cond.code yX4_isWithin cX4_isWithin 2 (some .boolean), 255)]) (by decide +kernel)) ⟨by decide +kernel, by decide +kernel, by decide +kernel⟩ ⟨Nat.le_of_ble_eq_true rfl, Nat.le_of_ble_eq_true rfl⟩
  · cases h
    exact m_CG_V mt_X0_setLong hx hb hml hown hts hK hi hN (ci := 0) m_pv_rec rfl rfl (m_wck_ok (l := [(Cond.methodLink RX4 112 yX0_setLong, 307), (Cond.instanceMethod yX0_setLong, 176), (Cond.selects RX0 yX0_setLong yX0_setLong, 177), (Cond.initialized RX0, 58), (Cond.code yX0_setLong cX0_setLong 5 none, 178)]) (by decide +kernel)) ⟨rfl, by decide +kernel, by decide +kernel, by decide +kernel⟩ ⟨Nat.le_of_ble_eq_true rfl, Nat.le_of_ble_eq_true rfl⟩
  · cases h
    exact m_CG_S mt_X4_ways hx hb hml hown hts hK hi hN (m_wck_ok (l := [(Cond.methodLink RX4 127 yX4_ways, 298), (Cond.static yX4_ways, 299), (Cond.initialized RX4, 55), (Cond.code yX4_ways cX4_ways 5 (some .long), 300)]) (by decide +kernel)) ⟨by decide +kernel, by decide +kernel, by decide +kernel⟩ ⟨Nat.le_of_ble_eq_true rfl, Nat.le_of_ble_eq_true rfl⟩
  · cases h
    exact m_CG_S mt_X4_power hx hb hml hown hts hK hi hN (m_wck_ok (l := [(Cond.methodLink RX4 131 yX4_power, 301), (Cond.static yX4_power, 286), (Cond.initialized RX4, 55), (Cond.code yX4_power cX4_power 5 (some .long), 287)]) (by decide +kernel)) ⟨by decide +kernel, by decide +kernel, by decide +kernel⟩ ⟨Nat.le_of_ble_eq_true rfl, Nat.le_of_ble_eq_true rfl⟩
  · cases h
    exact m_CG_V mt_X4_addMomentTimes hx hb hml hown hts hK hi hN (ci := 4) m_pv_rec rfl rfl (m_wck_ok (l := [(Cond.methodLink RX4 116 yX4_addMomentTimes, 308), (Cond.instanceMethod yX4_addMomentTimes, 310), (Cond.selects RX4 yX4_addMomentTimes yX4_addMomentTimes, 1), (Cond.initialized RX4, 55), (Cond.code yX4_addMomentTimes cX4_addMomentTimes 4 none, 311)]) (by decide +kernel)) ⟨rfl, by decide +kernel, by decide +kernel, by decide +kernel⟩ ⟨Nat.le_of_ble_eq_true rfl, Nat.le_of_ble_eq_true rfl⟩
  · cases h
    exact m_CG_V mt_X4_takesSumAsMoment hx hb hml hown hts hK hi hN (ci := 4) m_pv_rec rfl rfl (m_wck_ok (l := [(Cond.methodLink RX4 119 yX4_takesSumAsMoment, 375), (Cond.instanceMethod yX4_takesSumAsMoment, 377), (Cond.selects RX4 yX4_takesSumAsMoment yX4_takesSumAsMoment, 5), (Cond.initialized RX4, 55), (Cond.code yX4_takesSumAsMoment cX4_takesSumAsMoment 2 (some .boolean), 378)]) (by decide +kernel)) ⟨rfl, by decide +kernel, by decide +kernel, by decide +kernel⟩ ⟨Nat.le_of_ble_eq_true rfl, Nat.le_of_ble_eq_true rfl⟩
  · cases h
    exact m_CG_V mt_X3_change hx hb hml hown hts hK hi hN (ci := 3) m_pv_rec rfl rfl (m_wck_ok (l := [(Cond.methodLink RX4 123 yX3_change, 391), (Cond.instanceMethod yX3_change, 392), (Cond.selects RX3 yX3_change yX3_change, 393), (Cond.initialized RX3, 56), (Cond.code yX3_change cX3_change 3 none, 394)]) (by decide +kernel)) ⟨rfl, by decide +kernel, by decide +kernel, by decide +kernel⟩ ⟨Nat.le_of_ble_eq_true rfl, Nat.le_of_ble_eq_true rfl⟩
  · cases h
set_option maxHeartbeats 4000000 in
set_option maxRecDepth 100000 in
theorem mt_X4_mirror : m_Mt yX4_mirror cX4_mirror 6 (some .int) 5 149 pt_mirror := by
  refine m_methodG (fl := fl_X4) (kI := kI_X4) (kJ := kJ_X4) (ct := ct_X4_mirror) (cd := cd_X4_mirror) (cut := [(14, [0, 1, 2]), (35, [0, 1, 2, 3])]) (rk := 1) (fu := 80) (by decide +kernel) fl_X4_ok kI_X4_ok kJ_X4_ok ce_X4_mirror rfl ck_X4_mirror ⟨_, _, rfl, rfl⟩ ?_
  intro sh rf As I J K hpt
  obtain ⟨d, rest, rfl, hd, c, l, rfl, rfl, rfl, rfl, hC, h1, hl, hS, hU⟩ := hpt
  have n9 : (9 : Int32).toInt = 9 := rfl
  obtain ⟨h3, -, -⟩ := hC.cur h1 hl
  refine ⟨Nat.le_of_ble_eq_true rfl, fun a9 b9 pc vs st I1 J1 => ∃ k j, st = [] ∧ a9 = l + 1 - k ∧ k ≤ l + 1 ∧ win c.toInt 9 ∧ Wk I I1 ∧ (∀ a, a ≠ 526 → J1 a = J a) ∧ (∀ q, q < k → J1 526 q = Int64.ofInt (mirS (moC J 0) c q (q + 1)) ∧ (mirS (moC J 0) c q (q + 1)).natAbs < 2 ^ 62) ∧ ((pc = 14 ∧ b9 = 100 ∧ vs = [.inr (.inr 523), .inl c, .inl (nI k)]) ∨ (pc = 35 ∧ b9 = k + 1 - j ∧ vs = [.inr (.inr 523), .inl c, .inl (nI k), .inl (nI j)] ∧ k ≤ l ∧ j ≤ k + 1 ∧ BIs shL rfL I1 496 (mirS (moC J 0) c k j) ∧ (mirS (moC J 0) c k j).natAbs < 2 ^ (32 * (4 + j)))), ?_, ?_⟩
  · refine ⟨c, 9, rfl, fun h => ?_, fun h => ?_⟩
    · have hc := (within_i (by decide)).mp (w_not0 h)
      rw [n9] at hc
      exact ⟨l + 1 - 0, 100, 0, 0, rfl, rfl, by omega, hc, Wk.rfl' I, fun _ _ => rfl, fun q hq => absurd hq (Nat.not_lt_zero q), Or.inl ⟨rfl, rfl, rfl⟩⟩
    · have h := mt (within_i (by decide)).mpr (w_is0 h)
      rw [n9] at h
      exact hS _ (if_pos h) I J (SameC.rfl' I J)
  · intro pc ks a9 b9 vs st I1 J1 hcu hI
    obtain ⟨k, j, rfl, rfl, hk, hc, w1, hj, hq, hI⟩ := hI
    have eJ : J1 519 = J 519 := hj 519 (by decide)
    have e1 : I1 513 1 = nI l := by rw [w1 513 (by unfold wkA; omega)]; exact h1
    rcases m_cu1 hcu with ⟨rfl, rfl⟩ | hcu
    · rcases hI with ⟨-, rfl, rfl⟩ | ⟨q, -⟩
      · refine ⟨rfl, rfl, fun h => ?_, fun h => ?_⟩
        · have h : I1 513 1 < nI k := h
          rw [e1, nI_ltI (by omega) (by omega)] at h
          obtain rfl : k = l + 1 := by omega
          have hU := hU (by unfold mirO; rw [if_neg (fun q => q hc), if_pos (fun q hq2 => (hq q hq2).2)])
          refine ⟨rfl, rfl, rfl, rfl, 513, [.inr (.inr 526), .inl (I1 513 1)], rfl, rfl, 526, l, by rw [e1], hl, rfl, lay_W0, ?_⟩
          have e5 : rfL 513 5 = 519 := rfl
          rw [e5]
          exact hU _ _ (chg_upd (l' := l) hC w1 hj h3 hl (f := fun q => mirS (moC J 0) c q (q + 1)) hq)
        · have h : ¬ I1 513 1 < nI k := h
          rw [e1, nI_ltI (by omega) (by omega)] at h
          refine ⟨rfl, 496, [.inr (.inl 0)], rfl, rfl, 40, 0, rfl, L40 (b := 248) (by decide) (by decide), fun I2 c1 c2 => ?_⟩
          exact ⟨l + 1 - k, k + 1 - 0, Or.inr ⟨rfl, by omega⟩, k, 0, rfl, rfl, hk, hc, w1.trans (bch_wk (b := 496) (by decide) (by decide) c1), hj, hq, Or.inr ⟨rfl, rfl, rfl, by omega, by omega, c2, by show (0 : Int).natAbs < _; exact Nat.pow_pos (by decide)⟩⟩
      · exact absurd q (by decide)
    · rcases m_cu1 hcu with ⟨rfl, rfl⟩ | hcu
      · rcases hI with ⟨q, -⟩ | ⟨-, rfl, rfl, hkl, hjk, hz, hzb⟩
        · exact absurd q (by decide)
        · refine ⟨fun h => ?_, fun h => ?_⟩
          · have h : nI k < nI j := h
            rw [nI_ltI (by omega) (by omega)] at h
            obtain rfl : j = k + 1 := by omega
            refine ⟨523, [.inl (nI k)], rfl, rfl, k, _, rfl, rfl, rfl, rfl, by omega, hz, fun hz => ⟨fun _ => ?_, fun r => absurd r (by decide)⟩, fun hz => ⟨fun r => absurd rfl r, fun _ => ?_⟩⟩
            · refine ⟨l + 1 - (k + 1), 100, Or.inl (by omega), k + 1, 0, rfl, rfl, by omega, hc, w1, fun a ha => ?_, fun q hq2 => ?_, Or.inl ⟨rfl, rfl, by rw [← nI_1 k]⟩⟩
              · funext b
                unfold m_uJ
                rw [if_neg (fun r => ha r.1), hj a ha]
              · unfold m_uJ
                by_cases r : q = k
                · subst r
                  rw [if_pos ⟨rfl, rfl⟩]
                  exact ⟨rfl, hz⟩
                · rw [if_neg (fun r2 => r r2.2)]
                  exact hq q (by omega)
            · exact hS _ (by unfold mirO; rw [if_neg (fun q => q hc), if_neg (fun q => hz (q k (by omega)))]) I1 J1 ⟨w1, hj⟩
          · have h : ¬ nI k < nI j := h
            rw [nI_ltI (by omega) (by omega)] at h
            have es : nI k - nI j = nI (k - j) := pk_sub (by omega)
            have ea : nI j &&& 1 = nI (j % 2) := and1 j (by omega)
            have go : ∀ f : Int64, f = (if j % 2 = 0 then gF c k j else -gF c k j) → pt_addMT shL rfL [.inr (.inr 523), .inl (nI j), .inr (.inl f)] I1 J1 (fun _ I2 J2 => J2 = J1 ∧ Wk I1 I2 ∧ BIs shL rfL I2 496 (mirS (moC J 0) c k (j + 1)) ∧ (mirS (moC J 0) c k (j + 1)).natAbs < 2 ^ (32 * (4 + (j + 1)))) := by
              intro f ef
              refine ⟨523, [.inl (nI j), .inr (.inl f)], rfl, rfl, j, 4 + j, f, _, rfl, rfl, rfl, rfl, by omega, hz, hzb, by omega, by omega, fun I2 w2 c2 => ⟨rfl, w2, ?_, ?_⟩⟩
              · have em : moC J1 0 = moC J 0 := by
                  unfold moC
                  rw [show 519 + 0 = 519 from rfl, eJ]
                rw [em, ef] at c2
                exact c2
              · have := badd hzb (bup (b := 4 + j) (bmul (v64 (J 519 j)) (v64 (if j % 2 = 0 then gF c k j else -gF c k j))) (by omega))
                rw [Nat.add_assoc] at this
                exact this
            refine ⟨k, j, rfl, by omega, by omega, ?_⟩
            refine ⟨c, k - j, congrArg (fun y => [Sum.inl c, Sum.inl y]) es, by omega, ?_⟩
            refine ⟨fun h2 => ?_, fun h2 => ?_⟩
            · have h2 : ¬ (nI j &&& 1) = nI 0 := h2
              rw [ea, nI_eq (by omega) (by omega)] at h2
              obtain ⟨b, rest, g1, g2, k', m', f', z', g3, g4, g5, g6, g7, g8, g9, g10, g11, g12⟩ := go (-gF c k j) (by rw [if_neg h2])
              refine ⟨b, rest, g1, g2, k', m', f', z', g3, g4, g5, g6, g7, g8, g9, g10, g11, fun I2 w2 c2 => ?_⟩
              obtain ⟨-, f1, f2, f3⟩ := g12 I2 w2 c2
              exact ⟨l + 1 - k, k + 1 - (j + 1), Or.inr ⟨rfl, by omega⟩, k, j + 1, rfl, rfl, hk, hc, w1.trans f1, hj, hq, Or.inr ⟨rfl, rfl, by rw [← nI_1 j], hkl, by omega, f2, f3⟩⟩
            · have h2 : (nI j &&& 1) = nI 0 := h2
              rw [ea, nI_eq (by omega) (by omega)] at h2
              obtain ⟨b, rest, g1, g2, k', m', f', z', g3, g4, g5, g6, g7, g8, g9, g10, g11, g12⟩ := go (gF c k j) (by rw [if_pos h2])
              refine ⟨b, rest, g1, g2, k', m', f', z', g3, g4, g5, g6, g7, g8, g9, g10, g11, fun I2 w2 c2 => ?_⟩
              obtain ⟨-, f1, f2, f3⟩ := g12 I2 w2 c2
              exact ⟨l + 1 - k, k + 1 - (j + 1), Or.inr ⟨rfl, by omega⟩, k, j + 1, rfl, rfl, hk, hc, w1.trans f1, hj, hq, Or.inr ⟨rfl, rfl, by rw [← nI_1 j], hkl, by omega, f2, f3⟩⟩
      · cases hcu

theorem lsum_cg {g h : Nat → Int} {k : Nat} (e : ∀ x, x < 19 → g x = h x) : ∀ n, n ≤ 19 → lsum g k n = lsum h k n
  | 0, _ => rfl
  | n + 1, hn => by rw [lsum, lsum, lsum_cg e n (by omega), e n (by omega)]
/-- all of one weights' invariant is carried by a copy -/
theorem WI.copy {I I1 : mPI} {J J1 : mPJ} {p q : Nat} (h : WI I J p) (h1 : ∀ k, k < 4 → I1 (513 + q) k = I (513 + p) k) (h7 : I1 (513 + q) 7 = 1) (h2 : ∀ x, x < 19 → I1 (516 + q) x = I (516 + p) x) (h3 : ∀ k, k < 12 → J1 (519 + q) k = J (519 + p) k) : WI I1 J1 q := by
  obtain ⟨l, a1, a2, a3, a4, a5, a6, a7⟩ := h
  refine ⟨l, (h1 1 (by decide)).trans a1, a2, a3, fun k hk => by rw [h3 k hk]; exact a4 k hk, by rw [h1 3 (by decide)]; exact a5, fun e => absurd (h7.symm.trans e) (by decide), fun e1 e2 => ?_⟩
  rw [h1 0 (by decide)] at e1
  rw [h1 3 (by decide)] at e2
  obtain ⟨b1, b2⟩ := a7 e1 e2
  refine ⟨fun k hk => ?_, fun x hx => by rw [h2 x hx]; exact b2 x hx⟩
  rw [lsum_cg (h := fun x => (I (516 + p) x).toInt) (fun x hx => by rw [h2 x hx]) 19 (Nat.le_refl _), ← b1 k hk]
  unfold moC
  rw [h3 k hk]

def ct_X4_keep (sh : mSH) (rf : mRF) : Nat → Option (Nat × Bool × mPT) := fun k => match k with
  | 244 => some (2, true, pt_wcopy sh rf)
  | _ => none
set_option maxRecDepth 20000 in
theorem ce_X4_keep : m_CE RX4 2 81 cX4_keep 2 ct_X4_keep := by
  intro p l e s m args below meth c Q D cs ad sh rf N hx hb hml hown hts hK hi hN k n vf pt h
  unfold ct_X4_keep at h
  split at h
  · cases h
    exact m_CG_V mt_X3_copyFrom hx hb hml hown hts hK hi hN (ci := 3) m_pv_rec rfl rfl (m_wck_ok (l := [(Cond.methodLink RX4 244 yX3_copyFrom, 651), (Cond.instanceMethod yX3_copyFrom, 652), (Cond.selects RX3 yX3_copyFrom yX3_copyFrom, 653), (Cond.initialized RX3, 56), (Cond.code yX3_copyFrom cX3_copyFrom 2 none, 654)]) (by decide +kernel)) ⟨rfl, by decide +kernel, by decide +kernel, by decide +kernel⟩ ⟨Nat.le_of_ble_eq_true rfl, Nat.le_of_ble_eq_true rfl⟩
  · cases h
set_option maxHeartbeats 4000000 in
set_option maxRecDepth 100000 in
theorem mt_X4_keep : m_Mt yX4_keep cX4_keep 2 (some .int) 2 81 pt_keep := by
  refine m_method0 80 (fl := fl_X4) (kI := kI_X4) (kJ := kJ_X4) (ct := ct_X4_keep) (cd := cd_X4_keep) (rk := 1) (by decide +kernel) fl_X4_ok kI_X4_ok kJ_X4_ok ce_X4_keep rfl ck_X4_keep ⟨_, _, rfl, rfl⟩ ?_
  intro sh rf As I J K hpt
  obtain ⟨d, rest, rfl, hd, pl, rfl, rfl, rfl, rfl, hC, hN, hU⟩ := hpt
  have e2 : (2 : Int32).toInt = 2 := rfl
  refine ⟨Nat.le_of_ble_eq_true rfl, fun h => hN (fun q => absurd (i_lt0.mp h) (by omega)), fun h => ⟨fun h2 => ?_, fun h2 => ?_⟩⟩
  · have h := mt i_lt0.mpr h
    have h2 : pl < 2 := h2
    rw [Int32.lt_iff_toInt_lt, e2] at h2
    obtain ⟨ep, -⟩ := i_nat (k := pl) (by omega)
    have hlt : pl.toInt.toNat < 2 := by omega
    have hU2 := hU _ hlt ep
    clear hN hU
    generalize pl.toInt.toNat = p at ep hlt hU2
    clear h h2
    subst ep
    have ekp : rfL 524 (nI p).toNatClampNeg = 514 + p := by
      rw [nI_clamp (by omega)]
      rcases (show p = 0 ∨ p = 1 by omega) with rfl | rfl <;> rfl
    obtain ⟨hW, r4, r5, r6⟩ := lay_W (p := 1 + p) (by omega)
    have e13 : 513 + (1 + p) = 514 + p := by omega
    have e16 : 516 + (1 + p) = 517 + p := by omega
    have e19 : 519 + (1 + p) = 520 + p := by omega
    rw [e13] at hW r4 r5
    rw [e16] at r4
    rw [e19] at r5
    obtain ⟨-, -, -, -, -, h01, -⟩ := hC 0 (by decide)
    refine ⟨rfl, m_inr_i (t := 4) (n := 2) rfl (Or.inr rfl) (vp_in_nI hlt (by decide)), rfl, 514 + p, [.inr (.inr 513)], congrArg (fun x => [Sum.inr (Sum.inr x), Sum.inr (Sum.inr 513)]) ekp, hW.1, 513, rfl, by omega, hW, lay_W0, h01, fun I1 J1 a1 a2 a3 a4 a5 a6 => ?_⟩
    rw [r4] at a1 a4
    rw [r5] at a5 a6
    refine ⟨rfl, m_inb_i (n := 2) rfl (vp_in_nI hlt (by decide)), Or.inr rfl, ?_⟩
    refine hU2 (m_uI I1 525 (nI p).toNatClampNeg 1) J1 ?_
    rw [nI_clamp (by omega)]
    have hI : ∀ a, a ≠ 514 + p → a ≠ 517 + p → a ≠ 525 → m_uI I1 525 p 1 a = I a := fun a q1 q2 q3 => by rw [uI_a _ _ _ q3, a1 a q1 q2]
    have h514 : m_uI I1 525 p 1 (514 + p) = I1 (514 + p) := uI_a _ _ _ (by omega)
    have h517 : m_uI I1 525 p 1 (517 + p) = I1 (517 + p) := uI_a _ _ _ (by omega)
    refine ⟨hI, fun k hk => by rw [h514]; exact a2 k hk, fun x hx => by rw [h517]; exact a4 x hx, uI_s _ _ _ _, fun q hq => ?_, a5, a6, fun q hq => ?_⟩
    · rw [uI_k _ _ _ hq, a1 525 (by omega) (by omega)]
    · by_cases r : q = 1 + p
      · subst r
        refine WI.copy (p := 0) (hC 0 (by decide)) ?_ ?_ ?_ ?_
        · rw [e13, h514]
          exact a2
        · rw [e13, h514]
          exact a3
        · rw [e16, h517]
          exact a4
        · rw [e19]
          exact a6
      · refine WI.keepJ (J := J) ?_ (a5 _ (by omega))
        exact (hC q hq).keep hq (hI _ (by omega) (by omega) (by omega)) (hI _ (by omega) (by omega) (by omega)) (fun a ha => hI a (by unfold PA at ha; omega) (by unfold PA at ha; omega) (by unfold PA at ha; omega))
  · have h2 : ¬ pl < 2 := h2
    rw [Int32.lt_iff_toInt_lt, e2] at h2
    exact hN (fun q => h2 q.2)

def ct_X4_back (sh : mSH) (rf : mRF) : Nat → Option (Nat × Bool × mPT) := fun k => match k with
  | 248 => some (2, true, pt_isKeptAt sh rf)
  | 244 => some (2, true, pt_wcopy sh rf)
  | _ => none
set_option maxRecDepth 20000 in
theorem ce_X4_back : m_CE RX4 2 81 cX4_back 2 ct_X4_back := by
  intro p l e s m args below meth c Q D cs ad sh rf N hx hb hml hown hts hK hi hN k n vf pt h
  unfold ct_X4_back at h
  split at h
  · cases h
    exact m_CG_V mt_X4_isKeptAt hx hb hml hown hts hK hi hN (ci := 4) m_pv_rec rfl rfl (m_wck_ok (l := [(Cond.methodLink RX4 248 yX4_isKeptAt, 659), (Cond.instanceMethod yX4_isKeptAt, 661), (Cond.selects RX4 yX4_isKeptAt yX4_isKeptAt, 12), (Cond.initialized RX4, 55), (Cond.code yX4_isKeptAt cX4_isKeptAt 2 (some .boolean), 662)]) (by decide +kernel)) ⟨rfl, by decide +kernel, by decide +kernel, by decide +kernel⟩ ⟨Nat.le_of_ble_eq_true rfl, Nat.le_of_ble_eq_true rfl⟩
  · cases h
    exact m_CG_V mt_X3_copyFrom hx hb hml hown hts hK hi hN (ci := 3) m_pv_rec rfl rfl (m_wck_ok (l := [(Cond.methodLink RX4 244 yX3_copyFrom, 651), (Cond.instanceMethod yX3_copyFrom, 652), (Cond.selects RX3 yX3_copyFrom yX3_copyFrom, 653), (Cond.initialized RX3, 56), (Cond.code yX3_copyFrom cX3_copyFrom 2 none, 654)]) (by decide +kernel)) ⟨rfl, by decide +kernel, by decide +kernel, by decide +kernel⟩ ⟨Nat.le_of_ble_eq_true rfl, Nat.le_of_ble_eq_true rfl⟩
  · cases h
set_option maxHeartbeats 4000000 in
set_option maxRecDepth 100000 in
theorem mt_X4_back : m_Mt yX4_back cX4_back 2 (some .int) 2 81 pt_back := by
  refine m_method0 80 (fl := fl_X4) (kI := kI_X4) (kJ := kJ_X4) (ct := ct_X4_back) (cd := cd_X4_back) (rk := 1) (by decide +kernel) fl_X4_ok kI_X4_ok kJ_X4_ok ce_X4_back rfl ck_X4_back ⟨_, _, rfl, rfl⟩ ?_
  intro sh rf As I J K hpt
  obtain ⟨d, rest, rfl, hd, pl, rfl, rfl, rfl, rfl, hC, hN, hU⟩ := hpt
  refine ⟨Nat.le_of_ble_eq_true rfl, 523, [.inl pl], rfl, rfl, pl, rfl, rfl, rfl, rfl, fun h => ?_, fun h => hN (w_is0 h)⟩
  have hk := w_not0 h
  have hp : ∃ p, p < 2 ∧ pl = nI p := by
    rcases hk with ⟨q, -⟩ | ⟨q, -⟩
    · exact ⟨0, by decide, q⟩
    · exact ⟨1, by decide, q⟩
  obtain ⟨p, hlt, rfl⟩ := hp
  have hU := hU p hlt rfl hk
  have ekp : rfL 524 (nI p).toNatClampNeg = 514 + p := by
    rw [nI_clamp (by omega)]
    rcases (show p = 0 ∨ p = 1 by omega) with rfl | rfl <;> rfl
  obtain ⟨hW, r4, r5, r6⟩ := lay_W (p := 1 + p) (by omega)
  have e13 : 513 + (1 + p) = 514 + p := by omega
  have e16 : 516 + (1 + p) = 517 + p := by omega
  have e19 : 519 + (1 + p) = 520 + p := by omega
  rw [e13] at hW r4 r5
  rw [e16] at r4
  rw [e19] at r5
  have hWI := hC (1 + p) (by omega)
  obtain ⟨-, -, -, -, -, h01, -⟩ := id hWI
  rw [e13] at h01
  refine ⟨rfl, rfl, m_inr_i (t := 4) (n := 2) rfl (Or.inr rfl) (vp_in_nI hlt (by decide)), 513, [.inr (.inr (rfL 524 (nI p).toNatClampNeg))], rfl, rfl, 514 + p, congrArg (fun x => [Sum.inr (Sum.inr x)]) ekp, by omega, lay_W0, hW, h01, fun I1 J1 a1 a2 a3 a4 a5 a6 => ?_⟩
  have f4 : rfL 513 4 = 516 := rfl
  have f5 : rfL 513 5 = 519 := rfl
  rw [f4] at a1 a4
  rw [f5] at a5 a6
  rw [r4] at a4
  rw [r5] at a6
  have eK : I1 513 1 = I (514 + p) 1 := a2 1 (by decide)
  have fin : K (some (.inl (I (514 + p) 1))) I1 J1 := by
    refine hU I1 J1 ⟨fun a _ q1 q2 => a1 a q1 q2, a2 0 (by decide), eK, a2 2 (by decide), a2 3 (by decide), a4, fun a q _ => a5 a q, a6, fun q hq => ?_⟩
    by_cases r : q = 0
    · subst r
      exact WI.copy (p := 1 + p) hWI (by rw [e13]; exact a2) a3 (by rw [e16]; exact a4) (by rw [e19]; exact a6)
    · refine WI.keepJ (J := J) ?_ (a5 _ (by omega))
      exact (hC q hq).keep hq (a1 _ (by omega) (by omega)) (a1 _ (by omega) (by omega)) (fun a ha => a1 a (by unfold PA at ha; omega) (by unfold PA at ha; omega))
  rw [← eK] at fin
  exact ⟨rfl, rfl, fin⟩

