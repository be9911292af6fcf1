/-! ===== the reference: laying moments, worths, numbers, shares ===== -/
def pt_mlayMoment : mSH → mRF → mPT := m_pv 5 (fun sh rf d rest I J K => ∃ k : Int32, sh = shL ∧ rf = rfL ∧ d = 528 ∧ rest = [.inl k] ∧ AskM I J K (spMoment (moM J) k.toInt))
def pt_mlayWorth : mSH → mRF → mPT := m_pv 5 (fun sh rf d rest I J K => ∃ k : Int32, sh = shL ∧ rf = rfL ∧ d = 528 ∧ rest = [.inl k] ∧ AskM I J K (spWorth (moM J) k.toInt))
def pt_mlayDet : mSH → mRF → mPT := m_pv 5 (fun sh rf d rest I J K => ∃ k : Int32, sh = shL ∧ rf = rfL ∧ d = 528 ∧ rest = [.inl k] ∧ AskM I J K (spDet (moM J) k.toInt))
def spNumM (mo : Nat → Int) (k i : Int) (l : Nat) : mSL := if hasP mo l k ∧ 0 ≤ i then .inr (if i ≤ k then Nm mo k.toNat i.toNat else 0, Dt mo k.toNat) else .inl (-1)
def pt_mlayNum : mSH → mRF → mPT := m_pv 5 (fun sh rf d rest I J K => ∃ k i : Int32, sh = shL ∧ rf = rfL ∧ d = 528 ∧ rest = [.inl k, .inl i] ∧ AskM I J K (spNumM (moM J) k.toInt i.toInt))
def pt_mlayShare : mSH → mRF → mPT := m_pv 5 (fun sh rf d rest I J K => ∃ e k : Int32, sh = shL ∧ rf = rfL ∧ d = 528 ∧ rest = [.inl e, .inl k] ∧ AskM I J K (spShare (moM J) e.toInt k.toInt))
def pt_mlayRule : mSH → mRF → mPT := m_pv 5 (fun sh rf d rest I J K => ∃ k wh : Int32, sh = shL ∧ rf = rfL ∧ d = 528 ∧ rest = [.inl k, .inl wh] ∧ AskM I J K (spRule (moM J) k.toInt wh.toInt))
def pt_mlayValue : mSH → mRF → mPT := m_pv 5 (fun sh rf d rest I J K => ∃ k u v : Int32, sh = shL ∧ rf = rfL ∧ d = 528 ∧ rest = [.inl k, .inl u, .inl v] ∧ AskM I J K (spValue (moM J) k.toInt u.toInt v.toInt))
def prS (mo : Nat → Int) (i j : Nat) : Nat → Int
  | 0 => 0
  | a + 1 => prS mo i j a + Nm mo i a * ofN mo j a (j + 1)
def spProdM (mo : Nat → Int) (i j : Int) (l : Nat) : mSL := if hasP mo l i ∧ hasP mo l j ∧ i + j ≤ l then .inr (prS mo i.toNat j.toNat (i.toNat + 1), Dt mo i.toNat * Dt mo j.toNat) else .inl (-1)
def pt_mlayProd : mSH → mRF → mPT := m_pv 5 (fun sh rf d rest I J K => ∃ i j : Int32, sh = shL ∧ rf = rfL ∧ d = 528 ∧ rest = [.inl i, .inl j] ∧ AskM I J K (spProdM (moM J) i.toInt j.toInt))
theorem one72 : (1 : Int).natAbs < 2 ^ (24 * 3) := by decide
theorem nD0 : nD 0 ∧ nD 1 ∧ nD 2 ∧ nD 3 := by decide

def ct_X5_layMoment (sh : mSH) (rf : mRF) : Nat → Option (Nat × Bool × mPT) := fun k => match k with
  | 134 => some (3, false, pt_in sh rf)
  | 50 => some (3, true, pt_mset sh rf)
  | 198 => some (3, true, pt_mlay sh rf)
  | _ => none
set_option maxRecDepth 20000 in
theorem ce_X5_layMoment : m_CE RX5 5 117 cX5_layMoment 2 ct_X5_layMoment := by
  intro p l e s m args below meth c Q D cs ad sh rf N hx hb hml hown hts hK hi hN k n vf pt h
  unfold ct_X5_layMoment at h
  split at h
  · cases h
    exact m_CG_S mt_X5_in hx hb hml hown hts hK hi hN (m_wck_ok (l := [(Cond.methodLink RX5 134 yX5_in, 748), (Cond.static yX5_in, 749), (Cond.initialized RX5, 62), (Cond.code yX5_in cX5_in 6 (some .boolean), 750)]) (by decide +kernel)) ⟨by decide +kernel, by decide +kernel, by decide +kernel⟩ ⟨Nat.le_of_ble_eq_true rfl, Nat.le_of_ble_eq_true rfl⟩
  · cases h
    exact m_CG_V mt_X5_set hx hb hml hown hts hK hi hN (ci := 5) m_pv_rec rfl rfl (m_wck_ok (l := [(Cond.methodLink RX5 50 yX5_set, 677), (Cond.instanceMethod yX5_set, 679), (Cond.selects RX5 yX5_set yX5_set, 14), (Cond.initialized RX5, 62), (Cond.code yX5_set cX5_set 7 none, 680)]) (by decide +kernel)) ⟨rfl, by decide +kernel, by decide +kernel, by decide +kernel⟩ ⟨Nat.le_of_ble_eq_true rfl, Nat.le_of_ble_eq_true rfl⟩
  · cases h
    exact m_CG_V mt_X5_lay hx hb hml hown hts hK hi hN (ci := 5) m_pv_rec rfl rfl (m_wck_ok (l := [(Cond.methodLink RX5 198 yX5_lay, 843), (Cond.instanceMethod yX5_lay, 845), (Cond.selects RX5 yX5_lay yX5_lay, 29), (Cond.initialized RX5, 62), (Cond.code yX5_lay cX5_lay 3 (some .int), 846)]) (by decide +kernel)) ⟨rfl, by decide +kernel, by decide +kernel, by decide +kernel⟩ ⟨Nat.le_of_ble_eq_true rfl, Nat.le_of_ble_eq_true rfl⟩
  · cases h
set_option maxHeartbeats 4000000 in
set_option maxRecDepth 100000 in
theorem mt_X5_layMoment : m_Mt yX5_layMoment cX5_layMoment 2 (some .int) 5 117 pt_mlayMoment := by
  refine m_method0 80 (fl := fl_X5) (kI := kI_X5) (kJ := kJ_X5) (ct := ct_X5_layMoment) (cd := cd_X5_layMoment) (rk := 1) (by decide +kernel) fl_X5_ok kI_X5_ok kJ_X5_ok ce_X5_layMoment rfl ck_X5_layMoment ⟨_, _, rfl, rfl⟩ ?_
  intro sh rf As I J K hpt
  obtain ⟨d, rest, rfl, hd, k, rfl, rfl, rfl, rfl, l, σ, h5, hl, hB, hM, hK⟩ := hpt
  have e0 : (0 : Int64).toInt = 0 := rfl
  have e1 : (1 : Int64).toInt = 1 := rfl
  refine ⟨Nat.le_of_ble_eq_true rfl, rfl, k.toInt64, 0, (I 528 5).toInt64, rfl, fun h => ?_, fun h => ?_⟩
  · have h := w_not0 h
    rw [e0, Int32.toInt_toInt64, Int32.toInt_toInt64, h5, nI_toInt (by omega)] at h
    obtain ⟨ek, -⟩ := i_nat h.1
    have hx : spMoment (moM J) k.toInt l = .inr (moM J k.toInt.toNat, 1) := if_pos h
    have hk : k.toInt.toNat < 12 := by omega
    have hin : m_inb shL 532 1 k := by
      rw [ek]
      exact m_inb_i (n := 12) rfl (vp_in_nI hk (by decide))
    have ecl : k.toNatClampNeg = k.toInt.toNat := by
      have := nI_clamp (n := k.toInt.toNat) (by omega)
      rw [← ek] at this
      exact this
    have mb := hB _ hk
    have m62 := MB62
    have b2 : (moM J k.toInt.toNat).natAbs < 2 ^ (24 * 3) := by
      unfold moM
      omega
    refine ⟨rfl, hin, 528, [.inl (nI 2), .inr (.inl (J 532 k.toNatClampNeg))], rfl, rfl, 2, J 532 k.toNatClampNeg, rfl, rfl, rfl, rfl, by decide, by rw [ecl]; omega, fun I1 a1 a2 => ?_⟩
    have M1 := hM.up a1 a2
    refine ⟨528, [.inl (nI 3), .inr (.inl 1)], rfl, rfl, 3, 1, rfl, rfl, rfl, rfl, by decide, by decide, fun I2 b1 b2' => ?_⟩
    have M2 := M1.up b1 b2'
    have q2 : up (up σ 2 (J 532 k.toNatClampNeg).toInt) 3 (1 : Int64).toInt 2 = moM J k.toInt.toNat := by
      rw [up_o _ _ (by decide), up_s, ecl]
      rfl
    have q3 : up (up σ 2 (J 532 k.toNatClampNeg).toInt) 3 (1 : Int64).toInt 3 = 1 := up_s _ _ _
    exact ⟨528, [.inl (nI 2), .inl (nI 3)], rfl, rfl, 2, 3, _, rfl, rfl, rfl, rfl, by decide, by decide, by decide, by decide, by decide, M2, by rw [q3]; exact (by decide : (1 : Int) ≠ 0), by rw [q2]; exact cup b2 (by decide), by rw [q3]; exact cup one72 (by decide), fun I9 σ9 F9 M9 p1 p2 p3 p4 p5 => lay_end hK hx ((a1.mo.trans b1.mo).trans F9.mo) M9 p1 p2 p3 p4 p5 q2 q3 (by decide : (1 : Int) ≠ 0) (cup b2 (by decide)) (cup one72 (by decide))⟩
  · have h := w_is0 h
    rw [e0, Int32.toInt_toInt64, Int32.toInt_toInt64, h5, nI_toInt (by omega)] at h
    exact AskM.no hK (if_neg h) (MO.rfl' I) hM rfl rfl

def ct_X5_layWorth (sh : mSH) (rf : mRF) : Nat → Option (Nat × Bool × mPT) := fun k => match k with
  | 201 => some (2, true, pt_mhasW sh rf)
  | 187 => some (3, true, pt_mworth sh rf)
  | 198 => some (3, true, pt_mlay sh rf)
  | _ => none
set_option maxRecDepth 20000 in
theorem ce_X5_layWorth : m_CE RX5 8 188 cX5_layWorth 2 ct_X5_layWorth := by
  intro p l e s m args below meth c Q D cs ad sh rf N hx hb hml hown hts hK hi hN k n vf pt h
  unfold ct_X5_layWorth at h
  split at h
  · cases h
    exact m_CG_V mt_X5_hasWorth hx hb hml hown hts hK hi hN (ci := 5) m_pv_rec rfl rfl (m_wck_ok (l := [(Cond.methodLink RX5 201 yX5_hasWorth, 879), (Cond.instanceMethod yX5_hasWorth, 881), (Cond.selects RX5 yX5_hasWorth yX5_hasWorth, 36), (Cond.initialized RX5, 62), (Cond.code yX5_hasWorth cX5_hasWorth 2 (some .boolean), 882)]) (by decide +kernel)) ⟨rfl, by decide +kernel, by decide +kernel, by decide +kernel⟩ ⟨Nat.le_of_ble_eq_true rfl, Nat.le_of_ble_eq_true rfl⟩
  · cases h
    exact m_CG_V mt_X5_worthOf hx hb hml hown hts hK hi hN (ci := 5) m_pv_rec rfl rfl (m_wck_ok (l := [(Cond.methodLink RX5 187 yX5_worthOf, 892), (Cond.instanceMethod yX5_worthOf, 894), (Cond.selects RX5 yX5_worthOf yX5_worthOf, 39), (Cond.initialized RX5, 62), (Cond.code yX5_worthOf cX5_worthOf 3 none, 895)]) (by decide +kernel)) ⟨rfl, by decide +kernel, by decide +kernel, by decide +kernel⟩ ⟨Nat.le_of_ble_eq_true rfl, Nat.le_of_ble_eq_true rfl⟩
  · cases h
    exact m_CG_V mt_X5_lay hx hb hml hown hts hK hi hN (ci := 5) m_pv_rec rfl rfl (m_wck_ok (l := [(Cond.methodLink RX5 198 yX5_lay, 843), (Cond.instanceMethod yX5_lay, 845), (Cond.selects RX5 yX5_lay yX5_lay, 29), (Cond.initialized RX5, 62), (Cond.code yX5_lay cX5_lay 3 (some .int), 846)]) (by decide +kernel)) ⟨rfl, by decide +kernel, by decide +kernel, by decide +kernel⟩ ⟨Nat.le_of_ble_eq_true rfl, Nat.le_of_ble_eq_true rfl⟩
  · cases h
set_option maxHeartbeats 4000000 in
set_option maxRecDepth 100000 in
theorem mt_X5_layWorth : m_Mt yX5_layWorth cX5_layWorth 2 (some .int) 8 188 pt_mlayWorth := by
  refine m_method0 80 (fl := fl_X5) (kI := kI_X5) (kJ := kJ_X5) (ct := ct_X5_layWorth) (cd := cd_X5_layWorth) (rk := 1) (by decide +kernel) fl_X5_ok kI_X5_ok kJ_X5_ok ce_X5_layWorth rfl ck_X5_layWorth ⟨_, _, rfl, rfl⟩ ?_
  intro sh rf As I J K hpt
  obtain ⟨d, rest, rfl, hd, k, rfl, rfl, rfl, rfl, l, σ, h5, hl, hB, hM, hK⟩ := hpt
  have tl := tpf_le (moM J) l
  refine ⟨Nat.le_of_ble_eq_true rfl, 528, [.inl k], rfl, rfl, k, l, σ, rfl, rfl, rfl, rfl, h5, hl, hB, hM, fun I1 σ1 F1 M1 k1 => ⟨fun h => ?_, fun h => ?_⟩⟩
  · have h := w_not0 h
    obtain ⟨ek, -⟩ := i_nat h.1.1
    have hx : spWorth (moM J) k.toInt l = .inr (Dt (moM J) (k.toInt.toNat + 1), Dt (moM J) k.toInt.toNat) := if_pos h
    have hj : k.toInt.toNat ≤ tpf (moM J) l := by have := h.1.2; omega
    generalize k.toInt.toNat = j at ek hx hj
    clear h
    subst ek
    refine ⟨528, [.inl (nI j + 1), .inl (nI 2)], rfl, rfl, j + 1, 2, σ1, rfl, rfl, rfl, by rw [← nI_1 j], by omega, by decide, by decide, hB, M1, fun I2 σ2 F2 M2 k2 e2 => ?_⟩
    refine ⟨528, [.inl (nI j), .inl (nI 3)], rfl, rfl, j, 3, σ2, rfl, rfl, rfl, rfl, by omega, by decide, by decide, hB, M2, fun I3 σ3 F3 M3 k3 e3 => ?_⟩
    have q2 : σ3 2 = Dt (moM J) (j + 1) := (k3 2 (by decide) (by decide)).trans e2
    have b2 := mDb hB (k := j + 1) (by omega)
    have b3 := mDb hB (k := j) (by omega)
    have hL : Dt (moM J) j ≠ 0 := top_nz hj
    exact ⟨528, [.inl (nI 2), .inl (nI 3)], rfl, rfl, 2, 3, σ3, rfl, rfl, rfl, rfl, by decide, by decide, by decide, by decide, by decide, M3, by rw [e3]; exact hL, by rw [q2]; exact cup b2 (by decide), by rw [e3]; exact cup b3 (by decide), fun I9 σ9 F9 M9 p1 p2 p3 p4 p5 => lay_end hK hx (((F1.trans F2).trans F3).trans F9.mo) M9 p1 p2 p3 p4 p5 q2 e3 hL (cup b2 (by decide)) (cup b3 (by decide))⟩
  · exact AskM.no hK (if_neg (w_is0 h)) F1 M1 (k1 0 (by decide) (by decide)) (k1 1 (by decide) (by decide))

def ct_X5_layDeterminant (sh : mSH) (rf : mRF) : Nat → Option (Nat × Bool × mPT) := fun k => match k with
  | 134 => some (3, false, pt_in sh rf)
  | 187 => some (3, true, pt_mworth sh rf)
  | 50 => some (3, true, pt_mset sh rf)
  | 198 => some (3, true, pt_mlay sh rf)
  | _ => none
set_option maxRecDepth 20000 in
theorem ce_X5_layDeterminant : m_CE RX5 5 124 cX5_layDeterminant 2 ct_X5_layDeterminant := by
  intro p l e s m args below meth c Q D cs ad sh rf N hx hb hml hown hts hK hi hN k n vf pt h
  unfold ct_X5_layDeterminant at h
  split at h
  · cases h
    exact m_CG_S mt_X5_in hx hb hml hown hts hK hi hN (m_wck_ok (l := [(Cond.methodLink RX5 134 yX5_in, 748), (Cond.static yX5_in, 749), (Cond.initialized RX5, 62), (Cond.code yX5_in cX5_in 6 (some .boolean), 750)]) (by decide +kernel)) ⟨by decide +kernel, by decide +kernel, by decide +kernel⟩ ⟨Nat.le_of_ble_eq_true rfl, Nat.le_of_ble_eq_true rfl⟩
  · cases h
    exact m_CG_V mt_X5_worthOf hx hb hml hown hts hK hi hN (ci := 5) m_pv_rec rfl rfl (m_wck_ok (l := [(Cond.methodLink RX5 187 yX5_worthOf, 892), (Cond.instanceMethod yX5_worthOf, 894), (Cond.selects RX5 yX5_worthOf yX5_worthOf, 39), (Cond.initialized RX5, 62), (Cond.code yX5_worthOf cX5_worthOf 3 none, 895)]) (by decide +kernel)) ⟨rfl, by decide +kernel, by decide +kernel, by decide +kernel⟩ ⟨Nat.le_of_ble_eq_true rfl, Nat.le_of_ble_eq_true rfl⟩
  · cases h
    exact m_CG_V mt_X5_set hx hb hml hown hts hK hi hN (ci := 5) m_pv_rec rfl rfl (m_wck_ok (l := [(Cond.methodLink RX5 50 yX5_set, 677), (Cond.instanceMethod yX5_set, 679), (Cond.selects RX5 yX5_set yX5_set, 14), (Cond.initialized RX5, 62), (Cond.code yX5_set cX5_set 7 none, 680)]) (by decide +kernel)) ⟨rfl, by decide +kernel, by decide +kernel, by decide +kernel⟩ ⟨Nat.le_of_ble_eq_true rfl, Nat.le_of_ble_eq_true rfl⟩
  · cases h
    exact m_CG_V mt_X5_lay hx hb hml hown hts hK hi hN (ci := 5) m_pv_rec rfl rfl (m_wck_ok (l := [(Cond.methodLink RX5 198 yX5_lay, 843), (Cond.instanceMethod yX5_lay, 845), (Cond.selects RX5 yX5_lay yX5_lay, 29), (Cond.initialized RX5, 62), (Cond.code yX5_lay cX5_lay 3 (some .int), 846)]) (by decide +kernel)) ⟨rfl, by decide +kernel, by decide +kernel, by decide +kernel⟩ ⟨Nat.le_of_ble_eq_true rfl, Nat.le_of_ble_eq_true rfl⟩
  · cases h
set_option maxHeartbeats 4000000 in
set_option maxRecDepth 100000 in
theorem mt_X5_layDeterminant : m_Mt yX5_layDeterminant cX5_layDeterminant 2 (some .int) 5 124 pt_mlayDet := by
  refine m_method0 80 (fl := fl_X5) (kI := kI_X5) (kJ := kJ_X5) (ct := ct_X5_layDeterminant) (cd := cd_X5_layDeterminant) (rk := 1) (by decide +kernel) fl_X5_ok kI_X5_ok kJ_X5_ok ce_X5_layDeterminant rfl ck_X5_layDeterminant ⟨_, _, rfl, rfl⟩ ?_
  intro sh rf As I J K hpt
  obtain ⟨d, rest, rfl, hd, k, rfl, rfl, rfl, rfl, l, σ, h5, hl, hB, hM, hK⟩ := hpt
  have e0 : (0 : Int64).toInt = 0 := rfl
  have e6 : (6 : Int64).toInt = 6 := rfl
  have no : ¬ (0 ≤ k.toInt ∧ k.toInt ≤ 6 ∧ 2 * k.toInt - 2 ≤ l) → K (some (.inl (-1))) I J := fun q => AskM.no hK (if_neg q) (MO.rfl' I) hM rfl rfl
  refine ⟨Nat.le_of_ble_eq_true rfl, k.toInt64, 0, 6, rfl, fun h => ?_, fun h => ?_⟩
  · have h := w_is0 h
    rw [e0, e6, Int32.toInt_toInt64] at h
    exact no (fun q => h ⟨q.1, q.2.1⟩)
  · have h := w_not0 h
    rw [e0, e6, Int32.toInt_toInt64] at h
    obtain ⟨ek, -⟩ := i_nat h.1
    have hj : k.toInt.toNat ≤ 6 := by omega
    have ek2 : (k.toInt.toNat : Int) = k.toInt := by omega
    have et : ((2 : Int32) * k - 2).toInt = 2 * k.toInt - 2 := by
      rw [← ek2, ek]
      generalize k.toInt.toNat = j at hj
      rw [nI_toInt (by omega)]
      rcases (show j = 0 ∨ j = 1 ∨ j = 2 ∨ j = 3 ∨ j = 4 ∨ j = 5 ∨ j = 6 by omega) with e | e | e | e | e | e | e <;> subst e <;> decide
    refine ⟨rfl, fun h2 => ?_, fun h2 => ?_⟩
    · have h2 : (2 : Int32) * k - 2 ≤ I 528 5 := h2
      rw [h5, Int32.le_iff_toInt_le, et, nI_toInt (by omega)] at h2
      have hx : spDet (moM J) k.toInt l = .inr (Dt (moM J) k.toInt.toNat, 1) := if_pos ⟨h.1, h.2, h2⟩
      clear h h2 no et ek2
      generalize k.toInt.toNat = j at ek hx hj
      subst ek
      refine ⟨528, [.inl (nI j), .inl (nI 2)], rfl, rfl, j, 2, σ, rfl, rfl, rfl, rfl, hj, by decide, by decide, hB, hM, fun I2 σ2 F2 M2 k2 e2 => ?_⟩
      refine ⟨528, [.inl (nI 3), .inr (.inl 1)], rfl, rfl, 3, 1, rfl, rfl, rfl, rfl, by decide, by decide, fun I3 b1 b2' => ?_⟩
      have M3 := M2.up b1 b2'
      have q2 : up σ2 3 (1 : Int64).toInt 2 = Dt (moM J) j := by rw [up_o _ _ (by decide)]; exact e2
      have q3 : up σ2 3 (1 : Int64).toInt 3 = 1 := up_s _ _ _
      have b2 := mDb hB (k := j) hj
      exact ⟨528, [.inl (nI 2), .inl (nI 3)], rfl, rfl, 2, 3, _, rfl, rfl, rfl, rfl, by decide, by decide, by decide, by decide, by decide, M3, by rw [q3]; exact (by decide : (1 : Int) ≠ 0), by rw [q2]; exact cup b2 (by decide), by rw [q3]; exact cup one72 (by decide), fun I9 σ9 F9 M9 p1 p2 p3 p4 p5 => lay_end hK hx ((F2.trans b1.mo).trans F9.mo) M9 p1 p2 p3 p4 p5 q2 q3 (by decide : (1 : Int) ≠ 0) (cup b2 (by decide)) (cup one72 (by decide))⟩
    · have h2 : ¬ (2 : Int32) * k - 2 ≤ I 528 5 := h2
      rw [h5, Int32.le_iff_toInt_le, et, nI_toInt (by omega)] at h2
      exact no (fun q => h2 q.2.2)

def ct_X5_layNumber (sh : mSH) (rf : mRF) : Nat → Option (Nat × Bool × mPT) := fun k => match k with
  | 195 => some (2, true, pt_mhasP sh rf)
  | 204 => some (4, true, pt_mnum sh rf)
  | 187 => some (3, true, pt_mworth sh rf)
  | 198 => some (3, true, pt_mlay sh rf)
  | _ => none
set_option maxRecDepth 20000 in
theorem ce_X5_layNumber : m_CE RX5 7 167 cX5_layNumber 3 ct_X5_layNumber := by
  intro p l e s m args below meth c Q D cs ad sh rf N hx hb hml hown hts hK hi hN k n vf pt h
  unfold ct_X5_layNumber at h
  split at h
  · cases h
    exact m_CG_V mt_X5_hasPolynomial hx hb hml hown hts hK hi hN (ci := 5) m_pv_rec rfl rfl (m_wck_ok (l := [(Cond.methodLink RX5 195 yX5_hasPolynomial, 883), (Cond.instanceMethod yX5_hasPolynomial, 885), (Cond.selects RX5 yX5_hasPolynomial yX5_hasPolynomial, 37), (Cond.initialized RX5, 62), (Cond.code yX5_hasPolynomial cX5_hasPolynomial 2 (some .boolean), 886)]) (by decide +kernel)) ⟨rfl, by decide +kernel, by decide +kernel, by decide +kernel⟩ ⟨Nat.le_of_ble_eq_true rfl, Nat.le_of_ble_eq_true rfl⟩
  · cases h
    exact m_CG_V mt_X5_number hx hb hml hown hts hK hi hN (ci := 5) m_pv_rec rfl rfl (m_wck_ok (l := [(Cond.methodLink RX5 204 yX5_number, 920), (Cond.instanceMethod yX5_number, 922), (Cond.selects RX5 yX5_number yX5_number, 44), (Cond.initialized RX5, 62), (Cond.code yX5_number cX5_number 4 none, 923)]) (by decide +kernel)) ⟨rfl, by decide +kernel, by decide +kernel, by decide +kernel⟩ ⟨Nat.le_of_ble_eq_true rfl, Nat.le_of_ble_eq_true rfl⟩
  · cases h
    exact m_CG_V mt_X5_worthOf hx hb hml hown hts hK hi hN (ci := 5) m_pv_rec rfl rfl (m_wck_ok (l := [(Cond.methodLink RX5 187 yX5_worthOf, 892), (Cond.instanceMethod yX5_worthOf, 894), (Cond.selects RX5 yX5_worthOf yX5_worthOf, 39), (Cond.initialized RX5, 62), (Cond.code yX5_worthOf cX5_worthOf 3 none, 895)]) (by decide +kernel)) ⟨rfl, by decide +kernel, by decide +kernel, by decide +kernel⟩ ⟨Nat.le_of_ble_eq_true rfl, Nat.le_of_ble_eq_true rfl⟩
  · cases h
    exact m_CG_V mt_X5_lay hx hb hml hown hts hK hi hN (ci := 5) m_pv_rec rfl rfl (m_wck_ok (l := [(Cond.methodLink RX5 198 yX5_lay, 843), (Cond.instanceMethod yX5_lay, 845), (Cond.selects RX5 yX5_lay yX5_lay, 29), (Cond.initialized RX5, 62), (Cond.code yX5_lay cX5_lay 3 (some .int), 846)]) (by decide +kernel)) ⟨rfl, by decide +kernel, by decide +kernel, by decide +kernel⟩ ⟨Nat.le_of_ble_eq_true rfl, Nat.le_of_ble_eq_true rfl⟩
  · cases h
set_option maxHeartbeats 4000000 in
set_option maxRecDepth 100000 in
theorem mt_X5_layNumber : m_Mt yX5_layNumber cX5_layNumber 3 (some .int) 7 167 pt_mlayNum := by
  refine m_method0 80 (fl := fl_X5) (kI := kI_X5) (kJ := kJ_X5) (ct := ct_X5_layNumber) (cd := cd_X5_layNumber) (rk := 1) (by decide +kernel) fl_X5_ok kI_X5_ok kJ_X5_ok ce_X5_layNumber rfl ck_X5_layNumber ⟨_, _, rfl, rfl⟩ ?_
  intro sh rf As I J K hpt
  obtain ⟨d, rest, rfl, hd, k, i, rfl, rfl, rfl, rfl, l, σ, h5, hl, hB, hM, hK⟩ := hpt
  have tl := tpf_le (moM J) l
  refine ⟨Nat.le_of_ble_eq_true rfl, 528, [.inl k], rfl, rfl, k, l, σ, rfl, rfl, rfl, rfl, h5, hl, hB, hM, fun I1 σ1 F1 M1 k1 => ?_⟩
  have no : ¬ (hasP (moM J) l k.toInt ∧ 0 ≤ i.toInt) → K (some (.inl (-1))) I1 J := fun q => AskM.no hK (if_neg q) F1 M1 (k1 0 (by decide) (by decide)) (k1 1 (by decide) (by decide))
  refine ⟨fun h => no (fun q => w_is0 h q.1), fun h => ⟨fun h2 => ?_, fun h2 => no (fun q => h2 (i_le0.mpr q.2))⟩⟩
  have h := w_not0 h
  have h2 := i_le0.mp h2
  have hx : spNumM (moM J) k.toInt i.toInt l = .inr (if i.toInt ≤ k.toInt then Nm (moM J) k.toInt.toNat i.toInt.toNat else 0, Dt (moM J) k.toInt.toNat) := if_pos ⟨h, h2⟩
  obtain ⟨ek, -⟩ := i_nat h.1
  have hj : k.toInt.toNat ≤ tpf (moM J) l := by have := h.2; omega
  have ekk : k.toInt = (k.toInt.toNat : Int) := by have := h.1; omega
  rw [ekk, Int.toNat_natCast] at hx
  clear h no
  generalize k.toInt.toNat = j at ek hx hj
  clear ekk
  subst ek
  replace hx : spNumM (moM J) (nI j).toInt i.toInt l = .inr (if i.toInt ≤ (j : Int) then Nm (moM J) j i.toInt.toNat else 0, Dt (moM J) j) := by rw [nI_toInt (by omega)]; exact hx
  refine ⟨528, [.inl (nI j), .inl i, .inl (nI 2)], rfl, rfl, j, 2, i, σ1, rfl, rfl, rfl, rfl, by omega, by decide, by decide, hB, M1, fun I2 σ2 F2 M2 k2 e2 => ?_⟩
  refine ⟨528, [.inl (nI j), .inl (nI 3)], rfl, rfl, j, 3, σ2, rfl, rfl, rfl, rfl, by omega, by decide, by decide, hB, M2, fun I3 σ3 F3 M3 k3 e3 => ?_⟩
  have q2 : σ3 2 = (if i.toInt ≤ (j : Int) then Nm (moM J) j i.toInt.toNat else 0) := by
    rw [k3 2 (by decide) (by decide), e2]
    by_cases q : i.toInt ≤ j
    · rw [if_pos ⟨h2, q⟩, if_pos q]
    · rw [if_neg (fun r => q r.2), if_neg q]
  have b2 : (if i.toInt ≤ (j : Int) then Nm (moM J) j i.toInt.toNat else 0).natAbs < 2 ^ (24 * 16) := by
    split
    · exact mNb hB (by omega) (by omega)
    · decide
  have b3 := mDb hB (k := j) (by omega)
  have hL : Dt (moM J) j ≠ 0 := top_nz hj
  exact ⟨528, [.inl (nI 2), .inl (nI 3)], rfl, rfl, 2, 3, σ3, rfl, rfl, rfl, rfl, by decide, by decide, by decide, by decide, by decide, M3, by rw [e3]; exact hL, by rw [q2]; exact cup b2 (by decide), by rw [e3]; exact cup b3 (by decide), fun I9 σ9 F9 M9 p1 p2 p3 p4 p5 => lay_end hK hx (((F1.trans F2).trans F3).trans F9.mo) M9 p1 p2 p3 p4 p5 q2 e3 hL (cup b2 (by decide)) (cup b3 (by decide))⟩

def ct_X5_layShare (sh : mSH) (rf : mRF) : Nat → Option (Nat × Bool × mPT) := fun k => match k with
  | 201 => some (2, true, pt_mhasW sh rf)
  | 217 => some (2, true, pt_mwsign sh rf)
  | 214 => some (4, true, pt_mof sh rf)
  | 187 => some (3, true, pt_mworth sh rf)
  | 198 => some (3, true, pt_mlay sh rf)
  | _ => none
set_option maxRecDepth 20000 in
theorem ce_X5_layShare : m_CE RX5 8 188 cX5_layShare 3 ct_X5_layShare := by
  intro p l e s m args below meth c Q D cs ad sh rf N hx hb hml hown hts hK hi hN k n vf pt h
  unfold ct_X5_layShare at h
  split at h
  · cases h
    exact m_CG_V mt_X5_hasWorth hx hb hml hown hts hK hi hN (ci := 5) m_pv_rec rfl rfl (m_wck_ok (l := [(Cond.methodLink RX5 201 yX5_hasWorth, 879), (Cond.instanceMethod yX5_hasWorth, 881), (Cond.selects RX5 yX5_hasWorth yX5_hasWorth, 36), (Cond.initialized RX5, 62), (Cond.code yX5_hasWorth cX5_hasWorth 2 (some .boolean), 882)]) (by decide +kernel)) ⟨rfl, by decide +kernel, by decide +kernel, by decide +kernel⟩ ⟨Nat.le_of_ble_eq_true rfl, Nat.le_of_ble_eq_true rfl⟩
  · cases h
    exact m_CG_V mt_X5_worthSign hx hb hml hown hts hK hi hN (ci := 5) m_pv_rec rfl rfl (m_wck_ok (l := [(Cond.methodLink RX5 217 yX5_worthSign, 951), (Cond.instanceMethod yX5_worthSign, 953), (Cond.selects RX5 yX5_worthSign yX5_worthSign, 47), (Cond.initialized RX5, 62), (Cond.code yX5_worthSign cX5_worthSign 2 (some .int), 954)]) (by decide +kernel)) ⟨rfl, by decide +kernel, by decide +kernel, by decide +kernel⟩ ⟨Nat.le_of_ble_eq_true rfl, Nat.le_of_ble_eq_true rfl⟩
  · cases h
    exact m_CG_V mt_X5_of hx hb hml hown hts hK hi hN (ci := 5) m_pv_rec rfl rfl (m_wck_ok (l := [(Cond.methodLink RX5 214 yX5_of, 943), (Cond.instanceMethod yX5_of, 945), (Cond.selects RX5 yX5_of yX5_of, 46), (Cond.initialized RX5, 62), (Cond.code yX5_of cX5_of 5 none, 946)]) (by decide +kernel)) ⟨rfl, by decide +kernel, by decide +kernel, by decide +kernel⟩ ⟨Nat.le_of_ble_eq_true rfl, Nat.le_of_ble_eq_true rfl⟩
  · cases h
    exact m_CG_V mt_X5_worthOf hx hb hml hown hts hK hi hN (ci := 5) m_pv_rec rfl rfl (m_wck_ok (l := [(Cond.methodLink RX5 187 yX5_worthOf, 892), (Cond.instanceMethod yX5_worthOf, 894), (Cond.selects RX5 yX5_worthOf yX5_worthOf, 39), (Cond.initialized RX5, 62), (Cond.code yX5_worthOf cX5_worthOf 3 none, 895)]) (by decide +kernel)) ⟨rfl, by decide +kernel, by decide +kernel, by decide +kernel⟩ ⟨Nat.le_of_ble_eq_true rfl, Nat.le_of_ble_eq_true rfl⟩
  · cases h
    exact m_CG_V mt_X5_lay hx hb hml hown hts hK hi hN (ci := 5) m_pv_rec rfl rfl (m_wck_ok (l := [(Cond.methodLink RX5 198 yX5_lay, 843), (Cond.instanceMethod yX5_lay, 845), (Cond.selects RX5 yX5_lay yX5_lay, 29), (Cond.initialized RX5, 62), (Cond.code yX5_lay cX5_lay 3 (some .int), 846)]) (by decide +kernel)) ⟨rfl, by decide +kernel, by decide +kernel, by decide +kernel⟩ ⟨Nat.le_of_ble_eq_true rfl, Nat.le_of_ble_eq_true rfl⟩
  · cases h
set_option maxHeartbeats 4000000 in
set_option maxRecDepth 100000 in
theorem mt_X5_layShare : m_Mt yX5_layShare cX5_layShare 3 (some .int) 8 188 pt_mlayShare := by
  refine m_method0 80 (fl := fl_X5) (kI := kI_X5) (kJ := kJ_X5) (ct := ct_X5_layShare) (cd := cd_X5_layShare) (rk := 1) (by decide +kernel) fl_X5_ok kI_X5_ok kJ_X5_ok ce_X5_layShare rfl ck_X5_layShare ⟨_, _, rfl, rfl⟩ ?_
  intro sh rf As I J K hpt
  obtain ⟨d, rest, rfl, hd, e, k, rfl, rfl, rfl, rfl, l, σ, h5, hl, hB, hM, hK⟩ := hpt
  have tl := tpf_le (moM J) l
  have n0 : ¬ (hasW (moM J) l k.toInt ∧ 0 ≤ e.toInt ∧ e.toInt ≤ l - k.toInt) → ∀ I1 σ1, MO I I1 → MS I1 σ1 → σ1 0 = σ 0 → σ1 1 = σ 1 → K (some (.inl (-1))) I1 J := fun q I1 σ1 F1 M1 e0 e1 => AskM.no hK (if_neg q) F1 M1 e0 e1
  refine ⟨Nat.le_of_ble_eq_true rfl, fun h => n0 (fun q => absurd (i_lt0.mp h) (by omega)) I σ (MO.rfl' I) hM rfl rfl, fun h => ⟨528, [.inl k], rfl, rfl, k, l, σ, rfl, rfl, rfl, rfl, h5, hl, hB, hM, fun I1 σ1 F1 M1 k1 => ?_⟩⟩
  have h := mt i_lt0.mpr h
  have no : ¬ (hasW (moM J) l k.toInt ∧ 0 ≤ e.toInt ∧ e.toInt ≤ l - k.toInt) → K (some (.inl (-1))) I1 J := fun q => n0 q I1 σ1 F1 M1 (k1 0 (by decide) (by decide)) (k1 1 (by decide) (by decide))
  have e5 : I1 528 5 = nI l := by rw [F1 528 (by decide) (by decide) (by decide) (by decide)]; exact h5
  refine ⟨fun h2 => no (fun q => w_is0 h2 q.1), fun h2 => ?_⟩
  have h2 := w_not0 h2
  obtain ⟨ek, -⟩ := i_nat h2.1.1
  have hj : k.toInt.toNat ≤ tpf (moM J) l := by have := h2.1.2; omega
  have hj2 : 2 * k.toInt.toNat ≤ l := by have := h2.2; have := h2.1.1; omega
  have ekk : k.toInt = (k.toInt.toNat : Int) := by have := h2.1.1; omega
  refine ⟨rfl, fun h3 => ?_, fun h3 => ?_⟩
  · have h3 : e ≤ I1 528 5 - k := h3
    rw [e5, ek, show nI l - nI k.toInt.toNat = nI (l - k.toInt.toNat) from pk_sub (by omega), Int32.le_iff_toInt_le, nI_toInt (by omega)] at h3
    have hsp : spShare (moM J) e.toInt k.toInt l = if Dt (moM J) (k.toInt.toNat + 1) = 0 then .inl (-5) else .inr (ofN (moM J) k.toInt.toNat e.toInt.toNat (k.toInt.toNat + 1), Dt (moM J) (k.toInt.toNat + 1)) := if_pos ⟨h2, by omega, by omega⟩
    obtain ⟨ee, -⟩ := i_nat (k := e) (by omega)
    have hee : e.toInt.toNat + k.toInt.toNat ≤ l := by omega
    clear no n0 h2 h3 h
    generalize k.toInt.toNat = j at ek hsp hj hj2 ekk hee
    generalize e.toInt.toNat = f at ee hsp hee
    clear ekk
    subst ek
    subst ee
    refine ⟨528, [.inl (nI j)], rfl, rfl, j, σ1, rfl, rfl, rfl, rfl, by omega, hB, M1, fun I2 σ2 F2 M2 k2 => ⟨fun h4 => ?_, fun h4 => ?_⟩⟩
    · have h4 : ¬ sgI (Dt (moM J) (j + 1) * Dt (moM J) j) = 0 := h4
      rw [sgI_0] at h4
      have hL : Dt (moM J) (j + 1) ≠ 0 := fun q => h4 (by rw [q, Int.zero_mul])
      rw [if_neg hL] at hsp
      have hx := hsp
      refine ⟨528, [.inl (nI j), .inl (nI f), .inl (nI 2)], rfl, rfl, j, f, 2, σ2, rfl, rfl, rfl, rfl, by omega, by omega, by decide, by decide, hB, M2, fun I3 σ3 F3 M3 k3 e3 => ?_⟩
      refine ⟨528, [.inl (nI j + 1), .inl (nI 3)], rfl, rfl, j + 1, 3, σ3, rfl, rfl, rfl, by rw [← nI_1 j], by omega, by decide, by decide, hB, M3, fun I4 σ4 F4 M4 k4 e4 => ?_⟩
      have q2 : σ4 2 = ofN (moM J) j f (j + 1) := (k4 2 (by decide) (by decide)).trans e3
      have b2 : (ofN (moM J) j f (j + 1)).natAbs < 2 ^ (24 * 20) := ofN_lt (mo := moM J) hB (by omega) (by omega)
      have b3 := mDb hB (k := j + 1) (by omega)
      exact ⟨528, [.inl (nI 2), .inl (nI 3)], rfl, rfl, 2, 3, σ4, rfl, rfl, rfl, rfl, by decide, by decide, by decide, by decide, by decide, M4, by rw [e4]; exact hL, by rw [q2]; exact cup b2 (by decide), by rw [e4]; exact cup b3 (by decide), fun I9 σ9 F9 M9 p1 p2 p3 p4 p5 => lay_end hK hx ((((F1.trans F2).trans F3).trans F4).trans F9.mo) M9 p1 p2 p3 p4 p5 q2 e4 hL (cup b2 (by decide)) (cup b3 (by decide))⟩
    · have h4 : sgI (Dt (moM J) (j + 1) * Dt (moM J) j) = 0 := h4
      rw [sgI_0] at h4
      have hL : Dt (moM J) (j + 1) = 0 := (Int.mul_eq_zero.mp h4).resolve_right (top_nz hj)
      rw [if_pos hL] at hsp
      exact AskM.no hK hsp (F1.trans F2) M2 ((k2 0 (by decide) (by decide) (by decide)).trans (k1 0 (by decide) (by decide))) ((k2 1 (by decide) (by decide) (by decide)).trans (k1 1 (by decide) (by decide)))
  · have h3 : ¬ e ≤ I1 528 5 - k := h3
    rw [e5, ek, show nI l - nI k.toInt.toNat = nI (l - k.toInt.toNat) from pk_sub (by omega), Int32.le_iff_toInt_le, nI_toInt (by omega)] at h3
    exact no (fun q => h3 (by have := q.2.2; omega))

def ct_X5_layValue (sh : mSH) (rf : mRF) : Nat → Option (Nat × Bool × mPT) := fun k => match k with
  | 195 => some (2, true, pt_mhasP sh rf)
  | 207 => some (2, false, pt_mFrac sh rf)
  | 210 => some (5, true, pt_mvalue sh rf)
  | 187 => some (3, true, pt_mworth sh rf)
  | 161 => some (3, true, pt_mtimes sh rf)
  | 198 => some (3, true, pt_mlay sh rf)
  | _ => none
set_option maxRecDepth 20000 in
theorem ce_X5_layValue : m_CE RX5 7 167 cX5_layValue 5 ct_X5_layValue := by
  intro p l e s m args below meth c Q D cs ad sh rf N hx hb hml hown hts hK hi hN k n vf pt h
  unfold ct_X5_layValue at h
  split at h
  · cases h
    exact m_CG_V mt_X5_hasPolynomial hx hb hml hown hts hK hi hN (ci := 5) m_pv_rec rfl rfl (m_wck_ok (l := [(Cond.methodLink RX5 195 yX5_hasPolynomial, 883), (Cond.instanceMethod yX5_hasPolynomial, 885), (Cond.selects RX5 yX5_hasPolynomial yX5_hasPolynomial, 37), (Cond.initialized RX5, 62), (Cond.code yX5_hasPolynomial cX5_hasPolynomial 2 (some .boolean), 886)]) (by decide +kernel)) ⟨rfl, by decide +kernel, by decide +kernel, by decide +kernel⟩ ⟨Nat.le_of_ble_eq_true rfl, Nat.le_of_ble_eq_true rfl⟩
  · cases h
    exact m_CG_S mt_X5_isFraction hx hb hml hown hts hK hi hN (m_wck_ok (l := [(Cond.methodLink RX5 207 yX5_isFraction, 932), (Cond.static yX5_isFraction, 933), (Cond.initialized RX5, 62), (Cond.code yX5_isFraction cX5_isFraction 2 (some .boolean), 934)]) (by decide +kernel)) ⟨by decide +kernel, by decide +kernel, by decide +kernel⟩ ⟨Nat.le_of_ble_eq_true rfl, Nat.le_of_ble_eq_true rfl⟩
  · cases h
    exact m_CG_V mt_X5_value hx hb hml hown hts hK hi hN (ci := 5) m_pv_rec rfl rfl (m_wck_ok (l := [(Cond.methodLink RX5 210 yX5_value, 935), (Cond.instanceMethod yX5_value, 937), (Cond.selects RX5 yX5_value yX5_value, 45), (Cond.initialized RX5, 62), (Cond.code yX5_value cX5_value 8 none, 938)]) (by decide +kernel)) ⟨rfl, by decide +kernel, by decide +kernel, by decide +kernel⟩ ⟨Nat.le_of_ble_eq_true rfl, Nat.le_of_ble_eq_true rfl⟩
  · cases h
    exact m_CG_V mt_X5_worthOf hx hb hml hown hts hK hi hN (ci := 5) m_pv_rec rfl rfl (m_wck_ok (l := [(Cond.methodLink RX5 187 yX5_worthOf, 892), (Cond.instanceMethod yX5_worthOf, 894), (Cond.selects RX5 yX5_worthOf yX5_worthOf, 39), (Cond.initialized RX5, 62), (Cond.code yX5_worthOf cX5_worthOf 3 none, 895)]) (by decide +kernel)) ⟨rfl, by decide +kernel, by decide +kernel, by decide +kernel⟩ ⟨Nat.le_of_ble_eq_true rfl, Nat.le_of_ble_eq_true rfl⟩
  · cases h
    exact m_CG_V mt_X5_times hx hb hml hown hts hK hi hN (ci := 5) m_pv_rec rfl rfl (m_wck_ok (l := [(Cond.methodLink RX5 161 yX5_times, 785), (Cond.instanceMethod yX5_times, 787), (Cond.selects RX5 yX5_times yX5_times, 17), (Cond.initialized RX5, 62), (Cond.code yX5_times cX5_times 4 none, 788)]) (by decide +kernel)) ⟨rfl, by decide +kernel, by decide +kernel, by decide +kernel⟩ ⟨Nat.le_of_ble_eq_true rfl, Nat.le_of_ble_eq_true rfl⟩
  · cases h
    exact m_CG_V mt_X5_lay hx hb hml hown hts hK hi hN (ci := 5) m_pv_rec rfl rfl (m_wck_ok (l := [(Cond.methodLink RX5 198 yX5_lay, 843), (Cond.instanceMethod yX5_lay, 845), (Cond.selects RX5 yX5_lay yX5_lay, 29), (Cond.initialized RX5, 62), (Cond.code yX5_lay cX5_lay 3 (some .int), 846)]) (by decide +kernel)) ⟨rfl, by decide +kernel, by decide +kernel, by decide +kernel⟩ ⟨Nat.le_of_ble_eq_true rfl, Nat.le_of_ble_eq_true rfl⟩
  · cases h
set_option maxHeartbeats 4000000 in
set_option maxRecDepth 100000 in
theorem mt_X5_layValue : m_Mt yX5_layValue cX5_layValue 5 (some .int) 7 167 pt_mlayValue := by
  refine m_methodG (fl := fl_X5) (kI := kI_X5) (kJ := kJ_X5) (ct := ct_X5_layValue) (cd := cd_X5_layValue) (cut := [(40, [0, 1, 2, 3, 4])]) (rk := 1) (fu := 80) (by decide +kernel) fl_X5_ok kI_X5_ok kJ_X5_ok ce_X5_layValue rfl ck_X5_layValue ⟨_, _, rfl, rfl⟩ ?_
  intro sh rf As I J K hpt
  obtain ⟨d, rest, rfl, hd, k, u, v, rfl, rfl, rfl, rfl, l, σ, h5, hl, hB, hM, hK⟩ := hpt
  have tl := tpf_le (moM J) l
  refine ⟨Nat.le_of_ble_eq_true rfl, fun a9 b9 pc vs st I1 J1 => st = [] ∧ J1 = J ∧ ∃ j s σ', vs = [.inr (.inr 528), .inl (nI j), .inl u, .inl v, .inl (nI s)] ∧ a9 = j - s ∧ s ≤ j ∧ j ≤ tpf (moM J) l ∧ isFr u.toInt v.toInt ∧ spValue (moM J) k.toInt u.toInt v.toInt l = .inr (evN (moM J) j u.toInt v.toInt j, Dt (moM J) j * v.toInt ^ j) ∧ MO I I1 ∧ MS I1 σ' ∧ σ' 2 = evN (moM J) j u.toInt v.toInt j ∧ σ' 3 = Dt (moM J) j * v.toInt ^ s, ?_, ?_⟩
  · refine ⟨528, [.inl k], rfl, rfl, k, l, σ, rfl, rfl, rfl, rfl, h5, hl, hB, hM, fun I1 σ1 F1 M1 k1 => ⟨fun h => ⟨u, v, rfl, fun h2 => ?_, fun h2 => ?_⟩, fun h => ?_⟩⟩
    · have h := w_not0 h
      have hfr := w_not0 h2
      have hsp : spValue (moM J) k.toInt u.toInt v.toInt l = .inr (evN (moM J) k.toInt.toNat u.toInt v.toInt k.toInt.toNat, Dt (moM J) k.toInt.toNat * v.toInt ^ k.toInt.toNat) := by
        unfold spValue
        rw [if_pos h, if_pos hfr]
      obtain ⟨ek, -⟩ := i_nat h.1
      have hj : k.toInt.toNat ≤ tpf (moM J) l := by have := h.2; omega
      refine ⟨528, [.inl k, .inr (.inl u.toInt64), .inr (.inl v.toInt64), .inl (nI 2)], rfl, rfl, k.toInt.toNat, 2, u.toInt64, v.toInt64, σ1, rfl, rfl, rfl, by rw [← ek], by omega, by decide, by decide, by rw [Int32.toInt_toInt64]; omega, by rw [Int32.toInt_toInt64]; omega, hB, M1, fun I2 σ2 F2 M2 k2 e2 => ?_⟩
      rw [Int32.toInt_toInt64, Int32.toInt_toInt64] at e2
      refine ⟨528, [.inl k, .inl (nI 3)], rfl, rfl, k.toInt.toNat, 3, σ2, rfl, rfl, rfl, by rw [← ek], by omega, by decide, by decide, hB, M2, fun I3 σ3 F3 M3 k3 e3 => ?_⟩
      refine ⟨k.toInt.toNat - 0, 0, rfl, rfl, k.toInt.toNat, 0, σ3, by rw [← ek]; rfl, rfl, Nat.zero_le _, hj, hfr, hsp, (F1.trans F2).trans F3, M3, (k3 2 (by decide) (by decide)).trans e2, ?_⟩
      rw [e3, Int.pow_zero, Int.mul_one]
    · refine AskM.no hK ?_ F1 M1 (k1 0 (by decide) (by decide)) (k1 1 (by decide) (by decide))
      unfold spValue
      rw [if_pos (w_not0 h), if_neg (w_is0 h2)]
    · exact AskM.no hK (if_neg (w_is0 h)) F1 M1 (k1 0 (by decide) (by decide)) (k1 1 (by decide) (by decide))
  · intro pc ks a9 b9 vs st I1 J1 hc hI
    rcases m_cu1 hc with ⟨rfl, rfl⟩ | hc
    · obtain ⟨rfl, rfl, j, s, σ', rfl, rfl, hs, hj, hfr, hx, F, M, q2, q3⟩ := hI
      have vb : ∀ r, r ≤ 5 → (Dt (moM J1) j * v.toInt ^ r).natAbs < 2 ^ (24 * 21) := fun r hr => by
        refine cmul (b := 5) (mDb hB (by omega)) ?_
        rw [Int.natAbs_pow]
        refine Nat.lt_of_le_of_lt (Nat.pow_le_pow_left (show v.toInt.natAbs ≤ 2 ^ 20 by omega) r) ?_
        rw [← Nat.pow_mul]
        exact Nat.pow_lt_pow_right (by decide) (by omega)
      refine ⟨fun h => ?_, fun h => ?_⟩
      · have h : nI j ≤ nI s := h
        rw [nI_leI (by omega) (by omega)] at h
        obtain rfl : s = j := by omega
        have b2 : (evN (moM J1) s u.toInt v.toInt s).natAbs < 2 ^ (24 * 22) := Nat.lt_of_lt_of_le (evN_lt (mo := moM J1) hB (k := s) (u := u.toInt) (v := v.toInt) (by omega) (by omega) (by omega)) (Nat.pow_le_pow_right (by decide) (by decide))
        have b3 := vb s (by omega)
        have hL : Dt (moM J1) s * v.toInt ^ s ≠ 0 := Int.mul_ne_zero (top_nz hj) (Int.pow_ne_zero (by omega))
        exact ⟨528, [.inl (nI 2), .inl (nI 3)], rfl, rfl, 2, 3, σ', rfl, rfl, rfl, rfl, by decide, by decide, by decide, by decide, by decide, M, by rw [q3]; exact hL, by rw [q2]; exact cup b2 (by decide), by rw [q3]; exact cup b3 (by decide), fun I9 σ9 F9 M9 p1 p2 p3 p4 p5 => lay_end hK hx ((F).trans F9.mo) M9 p1 p2 p3 p4 p5 q2 q3 hL (cup b2 (by decide)) (cup b3 (by decide))⟩
      · have h : ¬ nI j ≤ nI s := h
        rw [nI_leI (by omega) (by omega)] at h
        refine ⟨528, [.inl (nI 3), .inr (.inl v.toInt64)], rfl, rfl, 3, 21, v.toInt64, σ', rfl, rfl, rfl, rfl, by decide, by decide, by decide, M, by rw [Int32.toInt_toInt64]; omega, by rw [q3]; exact vb s (by omega), by decide, fun I2 F2 M2 => ?_⟩
        rw [q3, Int32.toInt_toInt64] at M2
        refine ⟨j - (s + 1), 0, Or.inl (by omega), rfl, rfl, j, s + 1, _, by rw [← nI_1 s], rfl, by omega, hj, hfr, hx, F.trans F2.mo, M2, ?_, ?_⟩
        · rw [up_o _ _ (by decide), up_o _ _ (by decide), up_o _ _ (by decide)]
          exact q2
        · rw [up_s, Int.pow_succ, Int.mul_assoc]
    · cases hc

def ct_X5_layProduct (sh : mSH) (rf : mRF) : Nat → Option (Nat × Bool × mPT) := fun k => match k with
  | 195 => some (2, true, pt_mhasP sh rf)
  | 50 => some (3, true, pt_mset sh rf)
  | 214 => some (4, true, pt_mof sh rf)
  | 204 => some (4, true, pt_mnum sh rf)
  | 84 => some (4, true, pt_mmul sh rf)
  | 164 => some (5, true, pt_madd sh rf)
  | 187 => some (3, true, pt_mworth sh rf)
  | 198 => some (3, true, pt_mlay sh rf)
  | _ => none
set_option maxRecDepth 20000 in
theorem ce_X5_layProduct : m_CE RX5 7 167 cX5_layProduct 4 ct_X5_layProduct := by
  intro p l e s m args below meth c Q D cs ad sh rf N hx hb hml hown hts hK hi hN k n vf pt h
  unfold ct_X5_layProduct at h
  split at h
  · cases h
    exact m_CG_V mt_X5_hasPolynomial hx hb hml hown hts hK hi hN (ci := 5) m_pv_rec rfl rfl (m_wck_ok (l := [(Cond.methodLink RX5 195 yX5_hasPolynomial, 883), (Cond.instanceMethod yX5_hasPolynomial, 885), (Cond.selects RX5 yX5_hasPolynomial yX5_hasPolynomial, 37), (Cond.initialized RX5, 62), (Cond.code yX5_hasPolynomial cX5_hasPolynomial 2 (some .boolean), 886)]) (by decide +kernel)) ⟨rfl, by decide +kernel, by decide +kernel, by decide +kernel⟩ ⟨Nat.le_of_ble_eq_true rfl, Nat.le_of_ble_eq_true rfl⟩
  · cases h
    exact m_CG_V mt_X5_set hx hb hml hown hts hK hi hN (ci := 5) m_pv_rec rfl rfl (m_wck_ok (l := [(Cond.methodLink RX5 50 yX5_set, 677), (Cond.instanceMethod yX5_set, 679), (Cond.selects RX5 yX5_set yX5_set, 14), (Cond.initialized RX5, 62), (Cond.code yX5_set cX5_set 7 none, 680)]) (by decide +kernel)) ⟨rfl, by decide +kernel, by decide +kernel, by decide +kernel⟩ ⟨Nat.le_of_ble_eq_true rfl, Nat.le_of_ble_eq_true rfl⟩
  · cases h
    exact m_CG_V mt_X5_of hx hb hml hown hts hK hi hN (ci := 5) m_pv_rec rfl rfl (m_wck_ok (l := [(Cond.methodLink RX5 214 yX5_of, 943), (Cond.instanceMethod yX5_of, 945), (Cond.selects RX5 yX5_of yX5_of, 46), (Cond.initialized RX5, 62), (Cond.code yX5_of cX5_of 5 none, 946)]) (by decide +kernel)) ⟨rfl, by decide +kernel, by decide +kernel, by decide +kernel⟩ ⟨Nat.le_of_ble_eq_true rfl, Nat.le_of_ble_eq_true rfl⟩
  · cases h
    exact m_CG_V mt_X5_number hx hb hml hown hts hK hi hN (ci := 5) m_pv_rec rfl rfl (m_wck_ok (l := [(Cond.methodLink RX5 204 yX5_number, 920), (Cond.instanceMethod yX5_number, 922), (Cond.selects RX5 yX5_number yX5_number, 44), (Cond.initialized RX5, 62), (Cond.code yX5_number cX5_number 4 none, 923)]) (by decide +kernel)) ⟨rfl, by decide +kernel, by decide +kernel, by decide +kernel⟩ ⟨Nat.le_of_ble_eq_true rfl, Nat.le_of_ble_eq_true rfl⟩
  · cases h
    exact m_CG_V mt_X5_multiply hx hb hml hown hts hK hi hN (ci := 5) m_pv_rec rfl rfl (m_wck_ok (l := [(Cond.methodLink RX5 84 yX5_multiply, 789), (Cond.instanceMethod yX5_multiply, 791), (Cond.selects RX5 yX5_multiply yX5_multiply, 18), (Cond.initialized RX5, 62), (Cond.code yX5_multiply cX5_multiply 11 none, 792)]) (by decide +kernel)) ⟨rfl, by decide +kernel, by decide +kernel, by decide +kernel⟩ ⟨Nat.le_of_ble_eq_true rfl, Nat.le_of_ble_eq_true rfl⟩
  · cases h
    exact m_CG_V mt_X5_add hx hb hml hown hts hK hi hN (ci := 5) m_pv_rec rfl rfl (m_wck_ok (l := [(Cond.methodLink RX5 164 yX5_add, 801), (Cond.instanceMethod yX5_add, 803), (Cond.selects RX5 yX5_add yX5_add, 21), (Cond.initialized RX5, 62), (Cond.code yX5_add cX5_add 8 none, 804)]) (by decide +kernel)) ⟨rfl, by decide +kernel, by decide +kernel, by decide +kernel⟩ ⟨Nat.le_of_ble_eq_true rfl, Nat.le_of_ble_eq_true rfl⟩
  · cases h
    exact m_CG_V mt_X5_worthOf hx hb hml hown hts hK hi hN (ci := 5) m_pv_rec rfl rfl (m_wck_ok (l := [(Cond.methodLink RX5 187 yX5_worthOf, 892), (Cond.instanceMethod yX5_worthOf, 894), (Cond.selects RX5 yX5_worthOf yX5_worthOf, 39), (Cond.initialized RX5, 62), (Cond.code yX5_worthOf cX5_worthOf 3 none, 895)]) (by decide +kernel)) ⟨rfl, by decide +kernel, by decide +kernel, by decide +kernel⟩ ⟨Nat.le_of_ble_eq_true rfl, Nat.le_of_ble_eq_true rfl⟩
  · cases h
    exact m_CG_V mt_X5_lay hx hb hml hown hts hK hi hN (ci := 5) m_pv_rec rfl rfl (m_wck_ok (l := [(Cond.methodLink RX5 198 yX5_lay, 843), (Cond.instanceMethod yX5_lay, 845), (Cond.selects RX5 yX5_lay yX5_lay, 29), (Cond.initialized RX5, 62), (Cond.code yX5_lay cX5_lay 3 (some .int), 846)]) (by decide +kernel)) ⟨rfl, by decide +kernel, by decide +kernel, by decide +kernel⟩ ⟨Nat.le_of_ble_eq_true rfl, Nat.le_of_ble_eq_true rfl⟩
  · cases h
set_option maxHeartbeats 4000000 in
set_option maxRecDepth 100000 in
theorem mt_X5_layProduct : m_Mt yX5_layProduct cX5_layProduct 4 (some .int) 7 167 pt_mlayProd := by
  refine m_methodG (fl := fl_X5) (kI := kI_X5) (kJ := kJ_X5) (ct := ct_X5_layProduct) (cd := cd_X5_layProduct) (cut := [(36, [0, 1, 2, 3])]) (rk := 1) (fu := 120) (by decide +kernel) fl_X5_ok kI_X5_ok kJ_X5_ok ce_X5_layProduct rfl ck_X5_layProduct ⟨_, _, rfl, rfl⟩ ?_
  intro sh rf As I J K hpt
  obtain ⟨d, rest, rfl, hd, i, j, rfl, rfl, rfl, rfl, l, σ, h5, hl, hB, hM, hK⟩ := hpt
  have tl := tpf_le (moM J) l
  refine ⟨Nat.le_of_ble_eq_true rfl, fun a9 b9 pc vs st I1 J1 => st = [] ∧ J1 = J ∧ ∃ x y a σ', vs = [.inr (.inr 528), .inl (nI x), .inl (nI y), .inl (nI a)] ∧ a9 = x + 1 - a ∧ a ≤ x + 1 ∧ x ≤ tpf (moM J) l ∧ y ≤ tpf (moM J) l ∧ x + y ≤ l ∧ spProdM (moM J) i.toInt j.toInt l = .inr (prS (moM J) x y (x + 1), Dt (moM J) x * Dt (moM J) y) ∧ MO I I1 ∧ MS I1 σ' ∧ σ' 2 = prS (moM J) x y a ∧ (prS (moM J) x y a).natAbs ≤ a * 2 ^ 864, ?_, ?_⟩
  · refine ⟨528, [.inl i], rfl, rfl, i, l, σ, rfl, rfl, rfl, rfl, h5, hl, hB, hM, fun I1 σ1 F1 M1 k1 => ⟨fun h => ?_, fun h => ?_⟩⟩
    · exact AskM.no hK (if_neg (fun q => w_is0 h q.1)) F1 M1 (k1 0 (by decide) (by decide)) (k1 1 (by decide) (by decide))
    · have h := w_not0 h
      have e5 : I1 528 5 = nI l := by rw [F1 528 (by decide) (by decide) (by decide) (by decide)]; exact h5
      refine ⟨528, [.inl j], rfl, rfl, j, l, σ1, rfl, rfl, rfl, rfl, e5, hl, hB, M1, fun I2 σ2 F2 M2 k2 => ?_⟩
      have e52 : I2 528 5 = nI l := by rw [F2 528 (by decide) (by decide) (by decide) (by decide)]; exact e5
      have no : ¬ (hasP (moM J) l i.toInt ∧ hasP (moM J) l j.toInt ∧ i.toInt + j.toInt ≤ l) → K (some (.inl (-1))) I2 J := fun q => AskM.no hK (if_neg q) (F1.trans F2) M2 ((k2 0 (by decide) (by decide)).trans (k1 0 (by decide) (by decide))) ((k2 1 (by decide) (by decide)).trans (k1 1 (by decide) (by decide)))
      refine ⟨fun h2 => no (fun q => w_is0 h2 q.2.1), fun h2 => ?_⟩
      have h2 := w_not0 h2
      obtain ⟨ei, -⟩ := i_nat h.1
      obtain ⟨ej, -⟩ := i_nat h2.1
      have hi : i.toInt.toNat ≤ tpf (moM J) l := by have := h.2; omega
      have hj : j.toInt.toNat ≤ tpf (moM J) l := by have := h2.2; omega
      have eij : i + j = nI (i.toInt.toNat + j.toInt.toNat) := by
        rw [← nI_add, ← ei, ← ej]
      refine ⟨rfl, fun h3 => ?_, fun h3 => ?_⟩
      · have h3 : i + j ≤ I2 528 5 := h3
        rw [e52, eij, nI_leI (by omega) (by omega)] at h3
        have hx : spProdM (moM J) i.toInt j.toInt l = .inr (prS (moM J) i.toInt.toNat j.toInt.toNat (i.toInt.toNat + 1), Dt (moM J) i.toInt.toNat * Dt (moM J) j.toInt.toNat) := if_pos ⟨h, h2, by have := h.1; have := h2.1; omega⟩
        refine ⟨528, [.inl (nI 2), .inr (.inl 0)], rfl, rfl, 2, 0, rfl, rfl, rfl, rfl, by decide, by decide, fun I3 a1 a2 => ?_⟩
        refine ⟨i.toInt.toNat + 1 - 0, 0, rfl, rfl, i.toInt.toNat, j.toInt.toNat, 0, _, ?_, rfl, Nat.zero_le _, hi, hj, h3, hx, (F1.trans F2).trans a1.mo, M2.up a1 a2, up_s _ _ _, by rw [prS]; exact Nat.zero_le _⟩
        rw [← ei, ← ej]
        rfl
      · have h3 : ¬ i + j ≤ I2 528 5 := h3
        rw [e52, eij, nI_leI (by omega) (by omega)] at h3
        exact no (fun q => h3 (by have := q.2.2; have := h.1; have := h2.1; omega))
  · intro pc ks a9 b9 vs st I1 J1 hc hI
    rcases m_cu1 hc with ⟨rfl, rfl⟩ | hc
    · obtain ⟨rfl, rfl, x, y, a, σ', rfl, rfl, ha, hx5, hy5, hxy, hx, F, M, q2, hb⟩ := hI
      have b2 : (prS (moM J1) x y a).natAbs < 2 ^ (24 * 37) := by
        refine Nat.lt_of_le_of_lt hb ?_
        exact Nat.lt_of_le_of_lt (Nat.mul_le_mul_right _ (show a ≤ 6 by omega)) (by decide)
      refine ⟨fun h => ?_, fun h => ?_⟩
      · have h : nI x < nI a := h
        rw [nI_ltI (by omega) (by omega)] at h
        obtain rfl : a = x + 1 := by omega
        refine ⟨528, [.inl (nI x), .inl (nI 14)], rfl, rfl, x, 14, σ', rfl, rfl, rfl, rfl, by omega, by decide, by decide, hB, M, fun I2 σ2 F2 M2 k2 e2 => ?_⟩
        refine ⟨528, [.inl (nI y), .inl (nI 15)], rfl, rfl, y, 15, σ2, rfl, rfl, rfl, rfl, by omega, by decide, by decide, hB, M2, fun I3 σ3 F3 M3 k3 e3 => ?_⟩
        have z14 := M3 14 (by decide)
        have z15 := M3 15 (by decide)
        rw [k3 14 (by decide) (by decide), e2] at z14
        rw [e3] at z15
        have d1 := mDb hB (k := x) (by omega)
        have d2 := mDb hB (k := y) (by omega)
        refine ⟨528, [.inl (nI 14), .inl (nI 15), .inl (nI 3)], rfl, rfl, 14, 15, 3, 16, 16, _, _, rfl, rfl, rfl, rfl, by decide, by decide, by decide, by decide, by decide, z14, z15, d1, d2, by decide, fun I4 b1 b2' => ?_⟩
        have M4 := M3.up b1 b2'
        have q4 : up σ3 3 (Dt (moM J1) x * Dt (moM J1) y) 2 = prS (moM J1) x y (x + 1) := by
          rw [up_o _ _ (by decide), k3 2 (by decide) (by decide), k2 2 (by decide) (by decide)]
          exact q2
        have q3 : up σ3 3 (Dt (moM J1) x * Dt (moM J1) y) 3 = Dt (moM J1) x * Dt (moM J1) y := up_s _ _ _
        have b3 := cmul d1 d2
        have hL : Dt (moM J1) x * Dt (moM J1) y ≠ 0 := Int.mul_ne_zero (top_nz hx5) (top_nz hy5)
        exact ⟨528, [.inl (nI 2), .inl (nI 3)], rfl, rfl, 2, 3, _, rfl, rfl, rfl, rfl, by decide, by decide, by decide, by decide, by decide, M4, by rw [q3]; exact hL, by rw [q4]; exact cup b2 (by decide), by rw [q3]; exact cup b3 (by decide), fun I9 σ9 F9 M9 p1 p2 p3 p4 p5 => lay_end hK hx ((((F.trans F2).trans F3).trans b1.mo).trans F9.mo) M9 p1 p2 p3 p4 p5 q4 q3 hL (cup b2 (by decide)) (cup b3 (by decide))⟩
      · have h : ¬ nI x < nI a := h
        rw [nI_ltI (by omega) (by omega)] at h
        refine ⟨528, [.inl (nI y), .inl (nI a), .inl (nI 18)], rfl, rfl, y, a, 18, σ', rfl, rfl, rfl, rfl, by omega, by omega, by decide, by decide, hB, M, fun I2 σ2 F2 M2 k2 e2 => ?_⟩
        refine ⟨528, [.inl (nI x), .inl (nI a), .inl (nI 12)], rfl, rfl, x, 12, nI a, σ2, rfl, rfl, rfl, rfl, by omega, by decide, by decide, hB, M2, fun I3 σ3 F3 M3 k3 e3 => ?_⟩
        rw [nI_toInt (by omega), if_pos ⟨by omega, by omega⟩, Int.toNat_natCast] at e3
        have z12 := M3 12 (by decide)
        rw [e3] at z12
        have z18 := M3 18 (by decide)
        rw [k3 18 (by decide) (by decide), e2] at z18
        have nb := mNb hB (k := x) (i := a) (by omega) (by omega)
        have ob : (ofN (moM J1) y a (y + 1)).natAbs < 2 ^ (24 * 20) := ofN_lt (mo := moM J1) hB (by omega) (by omega)
        refine ⟨528, [.inl (nI 12), .inl (nI 18), .inl (nI 13)], rfl, rfl, 12, 18, 13, 16, 20, _, _, rfl, rfl, rfl, rfl, by decide, by decide, by decide, by decide, by decide, z12, z18, nb, ob, by decide, fun I4 b1 b2' => ?_⟩
        have M4 := M3.up b1 b2'
        have z13 := M4 13 (by decide)
        rw [up_s] at z13
        have z2 := M4 2 (by decide)
        have e42 : up σ3 13 (Nm (moM J1) x a * ofN (moM J1) y a (y + 1)) 2 = prS (moM J1) x y a := by
          rw [up_o _ _ (by decide), k3 2 (by decide) (by decide), k2 2 (by decide) (by decide)]
          exact q2
        rw [e42] at z2
        have pb := cmul nb ob
        refine ⟨528, [.inl (nI 2), .inl (nI 13), .inl 1, .inl (nI 2)], rfl, rfl, 2, 13, 2, 37, _, _, 1, rfl, rfl, rfl, rfl, by decide, by decide, by decide, Or.inl rfl, z2, z13, b2, cup pb (by decide), by decide, fun I5 c1 c2 => ?_⟩
        have M5 := M4.up c1 c2
        refine ⟨x + 1 - (a + 1), 0, Or.inl (by omega), rfl, rfl, x, y, a + 1, _, by rw [← nI_1 a], rfl, by omega, hx5, hy5, hxy, hx, (((F.trans F2).trans F3).trans b1.mo).trans c1.mo, M5, ?_, ?_⟩
        · rw [up_s, show (1 : Int32).toInt = 1 from rfl, Int.one_mul, prS]
        · have := Int.natAbs_add_le (prS (moM J1) x y a) (Nm (moM J1) x a * ofN (moM J1) y a (y + 1))
          have pb2 : (Nm (moM J1) x a * ofN (moM J1) y a (y + 1)).natAbs < 2 ^ 864 := pb
          rw [prS, Nat.add_mul, Nat.one_mul]
          omega
    · cases hc

