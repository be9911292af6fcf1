/-! ===== the desk: worths, determinants, numbers, the hand ===== -/
theorem CI.cur {I : mPI} {J : mPJ} {l : Nat} (h : CI I J) (h1 : I 513 1 = nI l) (hl : l ≤ 11) : 3 ≤ l ∧ (∀ k, k < 12 → (J 519 k).toInt.natAbs ≤ MB) ∧ (I 513 7 = 0 → PIs shL rfL I 504 (moC J 0) l) := by
  obtain ⟨l', b1, b2, b3, b4, b5, b6, b7⟩ := h 0 (by decide)
  obtain rfl : l' = l := by
    have e : nI l' = nI l := b1.symm.trans h1
    exact (nI_eq (by omega) (by omega)).mp e
  exact ⟨b2, b4, b6⟩
theorem lay_W0 : WSh shL rfL 513 := (lay_W (p := 0) (by decide)).1
theorem z0I : (0 : Int32).toInt = 0 := rfl
def pt_sign : mSH → mRF → mPT := m_pv 4 (fun sh rf d rest I J K => sh = shL ∧ rf = rfL ∧ d = 523 ∧ rest = [] ∧ Tel I J K (fun U L _ => sgA (U * L)))
def pt_bits : mSH → mRF → mPT := m_pv 4 (fun sh rf d rest I J K => ∃ (wh : Int32) (p q : Int), sh = shL ∧ rf = rfL ∧ d = 523 ∧ rest = [.inl wh] ∧ 0 < q ∧ Nat.gcd p.natAbs q.natAbs = 1 ∧ HIs shL rfL I 522 p q ∧ CI I J ∧ ∀ I1, Vis I I1 → CI I1 J → HIs shL rfL I1 522 p q → K (some (.inl (if wh = 0 then nI (blen p.natAbs) else if wh = 1 then nI (blen q.natAbs) else -2))) I1 J)
def pt_word : mSH → mRF → mPT := m_pv 4 (fun sh rf d rest I J K => ∃ (wh k : Int32) (p q : Int), sh = shL ∧ rf = rfL ∧ d = 523 ∧ rest = [.inl wh, .inl k] ∧ 0 < q ∧ Nat.gcd p.natAbs q.natAbs = 1 ∧ HIs shL rfL I 522 p q ∧ CI I J ∧ ∀ I1, Vis I I1 → CI I1 J → HIs shL rfL I1 522 p q → K (some (.inl (if (wh = 0 ∨ wh = 1) ∧ 0 ≤ k.toInt then nI ((if wh = 0 then p.natAbs else q.natAbs) / 2 ^ (16 * k.toInt.toNat) % 65536) else -2))) I1 J)
theorem low_unique {p q u l : Int} (hq : 0 < q) (hl : 0 < l) (g1 : Nat.gcd p.natAbs q.natAbs = 1) (g2 : Nat.gcd u.natAbs l.natAbs = 1) (h : p * l = u * q) : p = u ∧ q = l := by
  have e : p.natAbs * l.natAbs = u.natAbs * q.natAbs := by rw [← Int.natAbs_mul, ← Int.natAbs_mul, h]
  have d1 : q.natAbs ∣ l.natAbs := by
    have : q.natAbs ∣ p.natAbs * l.natAbs := ⟨u.natAbs, by rw [e, Nat.mul_comm]⟩
    exact Nat.Coprime.dvd_of_dvd_mul_left (Nat.Coprime.symm g1) this
  have d2 : l.natAbs ∣ q.natAbs := by
    have : l.natAbs ∣ u.natAbs * q.natAbs := ⟨p.natAbs, by rw [← e, Nat.mul_comm]⟩
    exact Nat.Coprime.dvd_of_dvd_mul_left (Nat.Coprime.symm g2) this
  have e2 := Nat.dvd_antisymm d1 d2
  have e3 : q = l := by omega
  subst e3
  exact ⟨Int.eq_of_mul_eq_mul_right (by omega) h, rfl⟩
def ct_X4_layWorth (sh : mSH) (rf : mRF) : Nat → Option (Nat × Bool × mPT) := fun k => match k with
  | 138 => some (1, true, pt_wpolys sh rf)
  | 142 => some (2, true, pt_phasWorth sh rf)
  | 147 => some (2, true, pt_pdet sh rf)
  | 151 => some (3, true, pt_lay sh rf)
  | _ => none
set_option maxRecDepth 20000 in
theorem ce_X4_layWorth : m_CE RX4 6 173 cX4_layWorth 3 ct_X4_layWorth := by
  intro p l e s m args below meth c Q D cs ad sh rf N hx hb hml hown hts hK hi hN k n vf pt h
  unfold ct_X4_layWorth at h
  split at h
  · cases h
    exact m_CG_V mt_X3_polys hx hb hml hown hts hK hi hN (ci := 3) m_pv_rec rfl rfl (m_wck_ok (l := [(Cond.methodLink RX4 138 yX3_polys, 420), (Cond.instanceMethod yX3_polys, 421), (Cond.selects RX3 yX3_polys yX3_polys, 422), (Cond.initialized RX3, 56), (Cond.code yX3_polys cX3_polys 1 (some (.object "MomentDesk$Polys")), 423)]) (by decide +kernel)) ⟨rfl, by decide +kernel, by decide +kernel, by decide +kernel⟩ ⟨Nat.le_of_ble_eq_true rfl, Nat.le_of_ble_eq_true rfl⟩
  · cases h
    exact m_CG_V mt_X2_hasWorth hx hb hml hown hts hK hi hN (ci := 2) m_pv_rec rfl rfl (m_wck_ok (l := [(Cond.methodLink RX4 142 yX2_hasWorth, 441), (Cond.instanceMethod yX2_hasWorth, 442), (Cond.selects RX2 yX2_hasWorth yX2_hasWorth, 443), (Cond.initialized RX2, 57), (Cond.code yX2_hasWorth cX2_hasWorth 2 (some .boolean), 444)]) (by decide +kernel)) ⟨rfl, by decide +kernel, by decide +kernel, by decide +kernel⟩ ⟨Nat.le_of_ble_eq_true rfl, Nat.le_of_ble_eq_true rfl⟩
  · cases h
    exact m_CG_V mt_X2_determinant hx hb hml hown hts hK hi hN (ci := 2) m_pv_rec rfl rfl (m_wck_ok (l := [(Cond.methodLink RX4 147 yX2_determinant, 449), (Cond.instanceMethod yX2_determinant, 438), (Cond.selects RX2 yX2_determinant yX2_determinant, 439), (Cond.initialized RX2, 57), (Cond.code yX2_determinant cX2_determinant 2 (some (.object "MomentDesk$Big")), 440)]) (by decide +kernel)) ⟨rfl, by decide +kernel, by decide +kernel, by decide +kernel⟩ ⟨Nat.le_of_ble_eq_true rfl, Nat.le_of_ble_eq_true rfl⟩
  · cases h
    exact m_CG_V mt_X1_lay hx hb hml hown hts hK hi hN (ci := 1) m_pv_rec rfl rfl (m_wck_ok (l := [(Cond.methodLink RX4 151 yX1_lay, 450), (Cond.instanceMethod yX1_lay, 451), (Cond.selects RX1 yX1_lay yX1_lay, 452), (Cond.initialized RX1, 61), (Cond.code yX1_lay cX1_lay 3 (some .int), 453)]) (by decide +kernel)) ⟨rfl, by decide +kernel, by decide +kernel, by decide +kernel⟩ ⟨Nat.le_of_ble_eq_true rfl, Nat.le_of_ble_eq_true rfl⟩
  · cases h
set_option maxHeartbeats 4000000 in
set_option maxRecDepth 100000 in
theorem mt_X4_layWorth : m_Mt yX4_layWorth cX4_layWorth 3 (some .int) 6 173 pt_layWorth := by
  refine m_method0 80 (fl := fl_X4) (kI := kI_X4) (kJ := kJ_X4) (ct := ct_X4_layWorth) (cd := cd_X4_layWorth) (rk := 1) (by decide +kernel) fl_X4_ok kI_X4_ok kJ_X4_ok ce_X4_layWorth rfl ck_X4_layWorth ⟨_, _, rfl, rfl⟩ ?_
  intro sh rf As I J K hpt
  obtain ⟨d, rest, rfl, hd, k, rfl, rfl, rfl, rfl, l, U, L, hC, hH, hL, h1, hl, hK⟩ := hpt
  obtain ⟨h3, hmo, hold⟩ := hC.cur h1 hl
  refine ⟨Nat.le_of_ble_eq_true rfl, rfl, 513, [], rfl, rfl, l, rfl, lay_W0, h1, hl, hmo, hold, fun I1 a1 a2 a3 a4 => ?_⟩
  obtain ⟨hPf, hC1, hP⟩ := polys_post (p := 0) (by decide) hC h1 hl a1 a2 a4
  have hV := hPf.vis (by decide)
  have hH1 := hH.pf (by decide) hPf
  have tl := tpf_le (moC J 0) l
  refine ⟨504, [.inl k], rfl, rfl, k, tpf (moC J 0) l, l, rfl, hP.2.1, tl.1, hP.1, hl, fun j hj h2 hk => ?_, fun hn => ?_⟩
  · subst hk
    have e : spWorth (moC J 0) (nI j).toInt l = .inr (Dt (moC J 0) (j + 1), Dt (moC J 0) j) := by
      rw [nI_toInt (by omega)]
      exact if_pos ⟨⟨by omega, by omega⟩, by omega⟩
    rw [e] at hK
    obtain ⟨d1, d2⟩ := P_det (p := 0) (k := j + 1) hP (by omega) (by omega)
    obtain ⟨d3, d4⟩ := P_det (p := 0) (k := j) hP (by omega) (by omega)
    refine ⟨fun _ => ?_, fun h => absurd h (by decide)⟩
    refine ⟨rfl, 504, [.inl (nI j + 1)], rfl, rfl, j + 1, congrArg (fun x => [Sum.inl x]) (nI_1 j), by omega, lay_P (p := 0) (by decide), 504, [.inl (nI j)], rfl, rfl, j, rfl, by omega, lay_P (p := 0) (by decide), 522, [.inr (.inr (pbg rfL 504 (2 ^ (j + 1) - 1))), .inr (.inr (pbg rfL 504 (2 ^ j - 1)))], rfl, rfl, pbg rfL 504 (2 ^ (j + 1) - 1), pbg rfL 504 (2 ^ j - 1), _, _, rfl, lay_H.1, fun i _ => ⟨pbg_nh (p := 0) (by decide) (det64 (by omega)) i, pbg_nh (p := 0) (by decide) (det64 (by omega)) i⟩, d1, d3, big_lt d2 (by decide), big_lt d4 (by decide), top_nz hj, fun I2 b1 b2 => ?_⟩
    have hf := hch_fr b1
    exact hK I2 (hV.trans hf.vis) (hC1.fr hf) b2
  · have e : spWorth (moC J 0) k.toInt l = .inl (-1) := by
      refine if_neg (fun q => ?_)
      obtain ⟨⟨q1, q2⟩, q3⟩ := q
      exact hn k.toInt.toNat (by omega) (by omega) (i_nat q1).1
    rw [e] at hK
    exact ⟨fun h => absurd rfl h, fun _ => hK I1 hV hC1 hH1⟩

def ct_X4_layDeterminant (sh : mSH) (rf : mRF) : Nat → Option (Nat × Bool × mPT) := fun k => match k with
  | 112 => some (2, true, pt_setLong sh rf)
  | 138 => some (1, true, pt_wpolys sh rf)
  | 147 => some (2, true, pt_pdet sh rf)
  | 151 => some (3, true, pt_lay sh rf)
  | _ => none
set_option maxRecDepth 20000 in
theorem ce_X4_layDeterminant : m_CE RX4 6 173 cX4_layDeterminant 2 ct_X4_layDeterminant := by
  intro p l e s m args below meth c Q D cs ad sh rf N hx hb hml hown hts hK hi hN k n vf pt h
  unfold ct_X4_layDeterminant at h
  split at h
  · cases h
    exact m_CG_V mt_X0_setLong hx hb hml hown hts hK hi hN (ci := 0) m_pv_rec rfl rfl (m_wck_ok (l := [(Cond.methodLink RX4 112 yX0_setLong, 307), (Cond.instanceMethod yX0_setLong, 176), (Cond.selects RX0 yX0_setLong yX0_setLong, 177), (Cond.initialized RX0, 58), (Cond.code yX0_setLong cX0_setLong 5 none, 178)]) (by decide +kernel)) ⟨rfl, by decide +kernel, by decide +kernel, by decide +kernel⟩ ⟨Nat.le_of_ble_eq_true rfl, Nat.le_of_ble_eq_true rfl⟩
  · cases h
    exact m_CG_V mt_X3_polys hx hb hml hown hts hK hi hN (ci := 3) m_pv_rec rfl rfl (m_wck_ok (l := [(Cond.methodLink RX4 138 yX3_polys, 420), (Cond.instanceMethod yX3_polys, 421), (Cond.selects RX3 yX3_polys yX3_polys, 422), (Cond.initialized RX3, 56), (Cond.code yX3_polys cX3_polys 1 (some (.object "MomentDesk$Polys")), 423)]) (by decide +kernel)) ⟨rfl, by decide +kernel, by decide +kernel, by decide +kernel⟩ ⟨Nat.le_of_ble_eq_true rfl, Nat.le_of_ble_eq_true rfl⟩
  · cases h
    exact m_CG_V mt_X2_determinant hx hb hml hown hts hK hi hN (ci := 2) m_pv_rec rfl rfl (m_wck_ok (l := [(Cond.methodLink RX4 147 yX2_determinant, 449), (Cond.instanceMethod yX2_determinant, 438), (Cond.selects RX2 yX2_determinant yX2_determinant, 439), (Cond.initialized RX2, 57), (Cond.code yX2_determinant cX2_determinant 2 (some (.object "MomentDesk$Big")), 440)]) (by decide +kernel)) ⟨rfl, by decide +kernel, by decide +kernel, by decide +kernel⟩ ⟨Nat.le_of_ble_eq_true rfl, Nat.le_of_ble_eq_true rfl⟩
  · cases h
    exact m_CG_V mt_X1_lay hx hb hml hown hts hK hi hN (ci := 1) m_pv_rec rfl rfl (m_wck_ok (l := [(Cond.methodLink RX4 151 yX1_lay, 450), (Cond.instanceMethod yX1_lay, 451), (Cond.selects RX1 yX1_lay yX1_lay, 452), (Cond.initialized RX1, 61), (Cond.code yX1_lay cX1_lay 3 (some .int), 453)]) (by decide +kernel)) ⟨rfl, by decide +kernel, by decide +kernel, by decide +kernel⟩ ⟨Nat.le_of_ble_eq_true rfl, Nat.le_of_ble_eq_true rfl⟩
  · cases h
set_option maxHeartbeats 4000000 in
set_option maxRecDepth 100000 in
theorem mt_X4_layDeterminant : m_Mt yX4_layDeterminant cX4_layDeterminant 2 (some .int) 6 173 pt_layDet := by
  refine m_method0 80 (fl := fl_X4) (kI := kI_X4) (kJ := kJ_X4) (ct := ct_X4_layDeterminant) (cd := cd_X4_layDeterminant) (rk := 1) (by decide +kernel) fl_X4_ok kI_X4_ok kJ_X4_ok ce_X4_layDeterminant rfl ck_X4_layDeterminant ⟨_, _, rfl, rfl⟩ ?_
  intro sh rf As I J K hpt
  obtain ⟨d, rest, rfl, hd, k, rfl, rfl, rfl, rfl, l, U, L, hC, hH, hL, h1, hl, hK⟩ := hpt
  obtain ⟨h3, hmo, hold⟩ := hC.cur h1 hl
  have k1 : ¬ (0 ≤ k.toInt ∧ k.toInt ≤ 6 ∧ 2 * k.toInt - 2 ≤ l) → K (some (.inl (-1))) I J := fun q => by
    have e : spDet (moC J 0) k.toInt l = .inl (-1) := if_neg q
    rw [e] at hK
    exact hK I (Fr.rfl' I).vis hC hH
  refine ⟨Nat.le_of_ble_eq_true rfl, fun h => ?_, fun h => ⟨fun h2 => ?_, fun h2 => ⟨rfl, rfl, fun h4 => ?_, fun h4 => ?_⟩⟩⟩
  · rw [Int32.lt_iff_toInt_lt, z0I] at h
    exact k1 (fun q => by omega)
  · have h2 : (6 : Int32) < k := h2
    have e6 : (6 : Int32).toInt = 6 := rfl
    rw [Int32.lt_iff_toInt_lt, e6] at h2
    exact k1 (fun q => by omega)
  · have h2 : ¬ (6 : Int32) < k := h2
    have e6 : (6 : Int32).toInt = 6 := rfl
    rw [Int32.lt_iff_toInt_lt, e6] at h2
    rw [Int32.lt_iff_toInt_lt, z0I] at h
    obtain ⟨ek, -⟩ := i_nat (k := k) (by omega)
    generalize hj : k.toInt.toNat = j at ek
    subst ek
    have tj : (nI j).toInt = j := nI_toInt (by omega)
    have h4 : (2 : Int32) * nI j - 2 ≤ I 513 1 := h4
    have e2 : (2 : Int32) * nI j - 2 = Int32.ofInt (2 * (j : Int) - 2) := by
      rcases (show j = 0 ∨ j = 1 ∨ j = 2 ∨ j = 3 ∨ j = 4 ∨ j = 5 ∨ j = 6 by omega) with e | e | e | e | e | e | e <;> subst e <;> decide
    have e3 : (Int32.ofInt (2 * (j : Int) - 2)).toInt = 2 * (j : Int) - 2 := Int32.toInt_ofInt_of_le (by omega) (by omega)
    rw [e2, h1, Int32.le_iff_toInt_le, e3, nI_toInt (by omega)] at h4
    have e : spDet (moC J 0) (nI j).toInt l = .inr (Dt (moC J 0) j, 1) := by
      rw [tj]
      exact if_pos ⟨by omega, by omega, by omega⟩
    rw [e] at hK
    refine ⟨rfl, 498, [.inr (.inl 1)], rfl, rfl, 40, 1, rfl, lay_40 (b := 249) (by decide) (by decide), fun I0 c1 c2 => ?_⟩
    have hw := bch_wk (b := 498) (by decide) (by decide) c1
    have hC0 := hC.fr hw.fr
    have hH0 := hH.wk hw
    have h10 : I0 513 1 = nI l := (hw.fr.vis.2 0 (by decide) 1 (by decide)).trans h1
    obtain ⟨-, hmo, hold⟩ := hC0.cur h10 hl
    refine ⟨rfl, rfl, 513, [], rfl, rfl, l, rfl, lay_W0, h10, hl, hmo, hold, fun I1 a1 a2 a3 a4 => ?_⟩
    obtain ⟨hPf, hC1, hP⟩ := polys_post (p := 0) (by decide) hC0 h10 hl a1 a2 a4
    have hV := hPf.vis (by decide)
    obtain ⟨d1, d2⟩ := P_det (p := 0) (k := j) hP (by omega) (by omega)
    have c3 : BIs shL rfL I1 498 1 := c2.keep (hPf.1 _ (by decide) (by decide) (by decide)) (hPf.1 _ (by decide) (by decide) (by decide))
    refine ⟨504, [.inl (nI j)], rfl, rfl, j, rfl, by omega, lay_P (p := 0) (by decide), rfl, 522, [.inr (.inr (pbg rfL 504 (2 ^ j - 1))), .inr (.inr 498)], rfl, rfl, pbg rfL 504 (2 ^ j - 1), 498, _, _, rfl, lay_H.1, fun i hi => ⟨pbg_nh (p := 0) (by decide) (det64 (by omega)) i, by rw [lay_H.2]; omega⟩, d1, c3, big_lt d2 (by decide), by decide, by decide, fun I2 b1 b2 => ?_⟩
    have hf := hch_fr b1
    exact hK I2 (hw.fr.vis.trans (hV.trans hf.vis)) (hC1.fr hf) b2
  · have h2 : ¬ (6 : Int32) < k := h2
    have e6 : (6 : Int32).toInt = 6 := rfl
    rw [Int32.lt_iff_toInt_lt, e6] at h2
    rw [Int32.lt_iff_toInt_lt, z0I] at h
    obtain ⟨ek, -⟩ := i_nat (k := k) (by omega)
    generalize hj : k.toInt.toNat = j at ek
    subst ek
    have tj : (nI j).toInt = j := nI_toInt (by omega)
    have h4 : ¬ (2 : Int32) * nI j - 2 ≤ I 513 1 := h4
    have e2 : (2 : Int32) * nI j - 2 = Int32.ofInt (2 * (j : Int) - 2) := by
      rcases (show j = 0 ∨ j = 1 ∨ j = 2 ∨ j = 3 ∨ j = 4 ∨ j = 5 ∨ j = 6 by omega) with e | e | e | e | e | e | e <;> subst e <;> decide
    have e3 : (Int32.ofInt (2 * (j : Int) - 2)).toInt = 2 * (j : Int) - 2 := Int32.toInt_ofInt_of_le (by omega) (by omega)
    rw [e2, h1, Int32.le_iff_toInt_le, e3, nI_toInt (by omega)] at h4
    exact k1 (fun q => by omega)

def ct_X4_layNumber (sh : mSH) (rf : mRF) : Nat → Option (Nat × Bool × mPT) := fun k => match k with
  | 138 => some (1, true, pt_wpolys sh rf)
  | 155 => some (2, true, pt_phas sh rf)
  | 134 => some (2, true, pt_layWhole sh rf)
  | 158 => some (3, true, pt_pnum sh rf)
  | 147 => some (2, true, pt_pdet sh rf)
  | 151 => some (3, true, pt_lay sh rf)
  | _ => none
set_option maxRecDepth 20000 in
theorem ce_X4_layNumber : m_CE RX4 6 173 cX4_layNumber 4 ct_X4_layNumber := by
  intro p l e s m args below meth c Q D cs ad sh rf N hx hb hml hown hts hK hi hN k n vf pt h
  unfold ct_X4_layNumber at h
  split at h
  · cases h
    exact m_CG_V mt_X3_polys hx hb hml hown hts hK hi hN (ci := 3) m_pv_rec rfl rfl (m_wck_ok (l := [(Cond.methodLink RX4 138 yX3_polys, 420), (Cond.instanceMethod yX3_polys, 421), (Cond.selects RX3 yX3_polys yX3_polys, 422), (Cond.initialized RX3, 56), (Cond.code yX3_polys cX3_polys 1 (some (.object "MomentDesk$Polys")), 423)]) (by decide +kernel)) ⟨rfl, by decide +kernel, by decide +kernel, by decide +kernel⟩ ⟨Nat.le_of_ble_eq_true rfl, Nat.le_of_ble_eq_true rfl⟩
  · cases h
    exact m_CG_V mt_X2_has hx hb hml hown hts hK hi hN (ci := 2) m_pv_rec rfl rfl (m_wck_ok (l := [(Cond.methodLink RX4 155 yX2_has, 467), (Cond.instanceMethod yX2_has, 446), (Cond.selects RX2 yX2_has yX2_has, 447), (Cond.initialized RX2, 57), (Cond.code yX2_has cX2_has 2 (some .boolean), 448)]) (by decide +kernel)) ⟨rfl, by decide +kernel, by decide +kernel, by decide +kernel⟩ ⟨Nat.le_of_ble_eq_true rfl, Nat.le_of_ble_eq_true rfl⟩
  · cases h
    exact m_CG_V mt_X1_layWhole hx hb hml hown hts hK hi hN (ci := 1) m_pv_rec rfl rfl (m_wck_ok (l := [(Cond.methodLink RX4 134 yX1_layWhole, 404), (Cond.instanceMethod yX1_layWhole, 405), (Cond.selects RX1 yX1_layWhole yX1_layWhole, 406), (Cond.initialized RX1, 61), (Cond.code yX1_layWhole cX1_layWhole 3 (some .int), 407)]) (by decide +kernel)) ⟨rfl, by decide +kernel, by decide +kernel, by decide +kernel⟩ ⟨Nat.le_of_ble_eq_true rfl, Nat.le_of_ble_eq_true rfl⟩
  · cases h
    exact m_CG_V mt_X2_number hx hb hml hown hts hK hi hN (ci := 2) m_pv_rec rfl rfl (m_wck_ok (l := [(Cond.methodLink RX4 158 yX2_number, 468), (Cond.instanceMethod yX2_number, 469), (Cond.selects RX2 yX2_number yX2_number, 470), (Cond.initialized RX2, 57), (Cond.code yX2_number cX2_number 3 (some (.object "MomentDesk$Big")), 471)]) (by decide +kernel)) ⟨rfl, by decide +kernel, by decide +kernel, by decide +kernel⟩ ⟨Nat.le_of_ble_eq_true rfl, Nat.le_of_ble_eq_true rfl⟩
  · cases h
    exact m_CG_V mt_X2_determinant hx hb hml hown hts hK hi hN (ci := 2) m_pv_rec rfl rfl (m_wck_ok (l := [(Cond.methodLink RX4 147 yX2_determinant, 449), (Cond.instanceMethod yX2_determinant, 438), (Cond.selects RX2 yX2_determinant yX2_determinant, 439), (Cond.initialized RX2, 57), (Cond.code yX2_determinant cX2_determinant 2 (some (.object "MomentDesk$Big")), 440)]) (by decide +kernel)) ⟨rfl, by decide +kernel, by decide +kernel, by decide +kernel⟩ ⟨Nat.le_of_ble_eq_true rfl, Nat.le_of_ble_eq_true rfl⟩
  · cases h
    exact m_CG_V mt_X1_lay hx hb hml hown hts hK hi hN (ci := 1) m_pv_rec rfl rfl (m_wck_ok (l := [(Cond.methodLink RX4 151 yX1_lay, 450), (Cond.instanceMethod yX1_lay, 451), (Cond.selects RX1 yX1_lay yX1_lay, 452), (Cond.initialized RX1, 61), (Cond.code yX1_lay cX1_lay 3 (some .int), 453)]) (by decide +kernel)) ⟨rfl, by decide +kernel, by decide +kernel, by decide +kernel⟩ ⟨Nat.le_of_ble_eq_true rfl, Nat.le_of_ble_eq_true rfl⟩
  · cases h
set_option maxHeartbeats 4000000 in
set_option maxRecDepth 100000 in
theorem mt_X4_layNumber : m_Mt yX4_layNumber cX4_layNumber 4 (some .int) 6 173 pt_layNum := by
  refine m_method0 80 (fl := fl_X4) (kI := kI_X4) (kJ := kJ_X4) (ct := ct_X4_layNumber) (cd := cd_X4_layNumber) (rk := 1) (by decide +kernel) fl_X4_ok kI_X4_ok kJ_X4_ok ce_X4_layNumber rfl ck_X4_layNumber ⟨_, _, rfl, rfl⟩ ?_
  intro sh rf As I J K hpt
  obtain ⟨d, rest, rfl, hd, k, i, rfl, rfl, rfl, rfl, l, U, L, hC, hH, hL, h1, hl, hK⟩ := hpt
  obtain ⟨h3, hmo, hold⟩ := hC.cur h1 hl
  refine ⟨Nat.le_of_ble_eq_true rfl, rfl, 513, [], rfl, rfl, l, rfl, lay_W0, h1, hl, hmo, hold, fun I1 a1 a2 a3 a4 => ?_⟩
  obtain ⟨hPf, hC1, hP⟩ := polys_post (p := 0) (by decide) hC h1 hl a1 a2 a4
  have hV := hPf.vis (by decide)
  have hH1 := hH.pf (by decide) hPf
  have tl := tpf_le (moC J 0) l
  have k1 : ¬ (hasP (moC J 0) l k.toInt ∧ 0 ≤ i.toInt) → K (some (.inl (-1))) I1 J := fun q => by
    have e : spNum (moC J 0) k.toInt i.toInt l = .inl (-1) := if_neg q
    rw [e] at hK
    exact hK I1 hV hC1 hH1
  refine ⟨504, [.inl k], rfl, rfl, k, tpf (moC J 0) l, rfl, hP.2.1, tl.1, fun j hj hk => ?_, fun hn => ?_⟩
  · refine ⟨fun h => absurd h (by decide), fun _ => ⟨fun h => ?_, fun h => ?_⟩⟩
    · have h : 0 ≤ i := h
      rw [Int32.le_iff_toInt_le, z0I] at h
      subst hk
      have tj : (nI j).toInt = j := nI_toInt (by omega)
      refine ⟨fun h4 => ?_, fun h4 => ?_⟩
      · have h4 : i ≤ nI j := h4
        rw [Int32.le_iff_toInt_le, tj] at h4
        obtain ⟨ei, em⟩ := i_nat h
        have e : spNum (moC J 0) (nI j).toInt i.toInt l = .inr (Nm (moC J 0) j i.toInt.toNat, Dt (moC J 0) j) := by
          rw [tj]
          unfold spNum
          rw [if_pos ⟨⟨by omega, by omega⟩, h⟩, if_neg (by omega)]
          rfl
        rw [e] at hK
        generalize i.toInt.toNat = m at ei em hK
        subst ei
        have tm : m ≤ j := by
          rw [nI_toInt] at h4
          · omega
          · omega
        obtain ⟨d1, d2⟩ := P_num (p := 0) (k := j) (i := m) hP (by omega) tm (by omega)
        obtain ⟨d3, d4⟩ := P_det (p := 0) (k := j) hP (by omega) (by omega)
        refine ⟨rfl, 504, [.inl (nI j), .inl (nI m)], rfl, rfl, j, m, rfl, by omega, tm, lay_P (p := 0) (by decide), 504, [.inl (nI j)], rfl, rfl, j, rfl, by omega, lay_P (p := 0) (by decide), 522, [.inr (.inr (pbg rfL 504 ((2 ^ (j + 1) - 1) ^^^ 2 ^ m))), .inr (.inr (pbg rfL 504 (2 ^ j - 1)))], rfl, rfl, pbg rfL 504 ((2 ^ (j + 1) - 1) ^^^ 2 ^ m), pbg rfL 504 (2 ^ j - 1), _, _, rfl, lay_H.1, fun i _ => ⟨pbg_nh (p := 0) (by decide) (num64 (by omega) tm) i, pbg_nh (p := 0) (by decide) (det64 (by omega)) i⟩, d1, d3, big_lt d2 (by decide), big_lt d4 (by decide), top_nz hj, fun I2 b1 b2 => ?_⟩
        have hf := hch_fr b1
        exact hK I2 (hV.trans hf.vis) (hC1.fr hf) b2
      · have h4 : ¬ i ≤ nI j := h4
        rw [Int32.le_iff_toInt_le, tj] at h4
        have e : spNum (moC J 0) (nI j).toInt i.toInt l = .inr (0, 1) := by
          rw [tj]
          unfold spNum
          rw [if_pos ⟨⟨by omega, by omega⟩, h⟩, if_pos (by omega)]
        rw [e] at hK
        refine ⟨rfl, 522, [.inr (.inl 0)], rfl, rfl, 0, rfl, lay_H.1, fun I2 b1 b2 => ?_⟩
        have hf := hch_fr b1
        exact hK I2 (hV.trans hf.vis) (hC1.fr hf) b2
    · have h : ¬ 0 ≤ i := h
      rw [Int32.le_iff_toInt_le, z0I] at h
      exact k1 (fun q => h q.2)
  · refine ⟨fun _ => k1 (fun q => ?_), fun h => absurd rfl h⟩
    obtain ⟨⟨q1, q2⟩, q3⟩ := q
    exact hn k.toInt.toNat (by omega) (i_nat q1).1

def ct_X4_sign (sh : mSH) (rf : mRF) : Nat → Option (Nat × Bool × mPT) := fun k => match k with
  | 209 => some (1, true, pt_signAnswer sh rf)
  | _ => none
set_option maxRecDepth 20000 in
theorem ce_X4_sign : m_CE RX4 2 41 cX4_sign 1 ct_X4_sign := by
  intro p l e s m args below meth c Q D cs ad sh rf N hx hb hml hown hts hK hi hN k n vf pt h
  unfold ct_X4_sign at h
  split at h
  · cases h
    exact m_CG_V mt_X1_signAnswer hx hb hml hown hts hK hi hN (ci := 1) m_pv_rec rfl rfl (m_wck_ok (l := [(Cond.methodLink RX4 209 yX1_signAnswer, 572), (Cond.instanceMethod yX1_signAnswer, 409), (Cond.selects RX1 yX1_signAnswer yX1_signAnswer, 410), (Cond.initialized RX1, 61), (Cond.code yX1_signAnswer cX1_signAnswer 2 (some .int), 411)]) (by decide +kernel)) ⟨rfl, by decide +kernel, by decide +kernel, by decide +kernel⟩ ⟨Nat.le_of_ble_eq_true rfl, Nat.le_of_ble_eq_true rfl⟩
  · cases h
set_option maxHeartbeats 4000000 in
set_option maxRecDepth 100000 in
theorem mt_X4_sign : m_Mt yX4_sign cX4_sign 1 (some .int) 2 41 pt_sign := by
  refine m_method0 80 (fl := fl_X4) (kI := kI_X4) (kJ := kJ_X4) (ct := ct_X4_sign) (cd := cd_X4_sign) (rk := 1) (by decide +kernel) fl_X4_ok kI_X4_ok kJ_X4_ok ce_X4_sign rfl ck_X4_sign ⟨_, _, rfl, rfl⟩ ?_
  intro sh rf As I J K hpt
  obtain ⟨d, rest, rfl, hd, rfl, rfl, rfl, rfl, l, U, L, hC, hH, hL, h1, hl, hK⟩ := hpt
  obtain ⟨u, v, b1, b2, b3, b4, b5⟩ := id hH
  refine ⟨Nat.le_of_ble_eq_true rfl, rfl, 522, [], rfl, rfl, u, rfl, lay_H.1, b1, ?_⟩
  have := hK I (Fr.rfl' I).vis hC hH
  have e : sgA u = sgA (U * L) := by
    have hv : v ≠ 0 := by omega
    have e1 : u * L * L = U * L * v := by rw [b4, Int.mul_assoc, Int.mul_comm v L, ← Int.mul_assoc]
    have l2 : 0 < L * L := by
      rcases Int.lt_or_gt_of_ne hL with q | q
      · exact Int.mul_pos_of_neg_of_neg q q
      · exact Int.mul_pos q q
    rw [Int.mul_assoc] at e1
    unfold sgA
    rcases Int.lt_trichotomy u 0 with q | q | q
    · have a1 : u * (L * L) < 0 := Int.mul_neg_of_neg_of_pos q l2
      have a2 : U * L < 0 := by
        rcases (show U * L < 0 ∨ 0 ≤ U * L by omega) with r | r
        · exact r
        · have := Int.mul_nonneg r (Int.le_of_lt b3)
          omega
      rw [if_pos q, if_pos a2]
    · rw [q, Int.zero_mul] at e1
      have a2 : U * L = 0 := by
        rcases Int.mul_eq_zero.mp e1.symm with r | r
        · exact r
        · exact absurd r hv
      rw [q, a2]
    · have a1 : 0 < u * (L * L) := Int.mul_pos q l2
      have a2 : 0 < U * L := by
        rcases (show 0 < U * L ∨ U * L ≤ 0 by omega) with r | r
        · exact r
        · have := Int.mul_nonneg (a := -(U * L)) (b := v) (by omega) (by omega)
          rw [Int.neg_mul] at this
          omega
      rw [if_neg (by omega), if_neg (by omega), if_neg (by omega), if_neg (by omega)]
  rw [e]
  exact this

def ct_X4_bits (sh : mSH) (rf : mRF) : Nat → Option (Nat × Bool × mPT) := fun k => match k with
  | 212 => some (2, true, pt_lowestPart sh rf)
  | 215 => some (1, true, pt_bitLength sh rf)
  | _ => none
set_option maxRecDepth 20000 in
theorem ce_X4_bits : m_CE RX4 5 124 cX4_bits 2 ct_X4_bits := by
  intro p l e s m args below meth c Q D cs ad sh rf N hx hb hml hown hts hK hi hN k n vf pt h
  unfold ct_X4_bits at h
  split at h
  · cases h
    exact m_CG_V mt_X1_lowestPart hx hb hml hown hts hK hi hN (ci := 1) m_pv_rec rfl rfl (m_wck_ok (l := [(Cond.methodLink RX4 212 yX1_lowestPart, 577), (Cond.instanceMethod yX1_lowestPart, 578), (Cond.selects RX1 yX1_lowestPart yX1_lowestPart, 579), (Cond.initialized RX1, 61), (Cond.code yX1_lowestPart cX1_lowestPart 2 (some (.object "MomentDesk$Big")), 580)]) (by decide +kernel)) ⟨rfl, by decide +kernel, by decide +kernel, by decide +kernel⟩ ⟨Nat.le_of_ble_eq_true rfl, Nat.le_of_ble_eq_true rfl⟩
  · cases h
    exact m_CG_V mt_X0_bitLength hx hb hml hown hts hK hi hN (ci := 0) m_pv_rec rfl rfl (m_wck_ok (l := [(Cond.methodLink RX4 215 yX0_bitLength, 379), (Cond.instanceMethod yX0_bitLength, 380), (Cond.selects RX0 yX0_bitLength yX0_bitLength, 381), (Cond.initialized RX0, 58), (Cond.code yX0_bitLength cX0_bitLength 1 (some .int), 382)]) (by decide +kernel)) ⟨rfl, by decide +kernel, by decide +kernel, by decide +kernel⟩ ⟨Nat.le_of_ble_eq_true rfl, Nat.le_of_ble_eq_true rfl⟩
  · cases h
set_option maxHeartbeats 4000000 in
set_option maxRecDepth 100000 in
theorem mt_X4_bits : m_Mt yX4_bits cX4_bits 2 (some .int) 5 124 pt_bits := by
  refine m_method0 80 (fl := fl_X4) (kI := kI_X4) (kJ := kJ_X4) (ct := ct_X4_bits) (cd := cd_X4_bits) (rk := 1) (by decide +kernel) fl_X4_ok kI_X4_ok kJ_X4_ok ce_X4_bits rfl ck_X4_bits ⟨_, _, rfl, rfl⟩ ?_
  intro sh rf As I J K hpt
  obtain ⟨d, rest, rfl, hd, wh, p, q, rfl, rfl, rfl, rfl, hq, hg, hH, hC, hK⟩ := hpt
  have lp : wh = 0 ∨ wh = 1 → pt_lowestPart shL rfL [.inr (.inr 522), .inl wh] I J (fun r I1 J1 => ∃ b, r = some (.inr (.inr b)) ∧ J1 = J ∧ b = (if wh = 0 then 468 else 470) ∧ BIs shL rfL I1 b (if wh = 0 then p else q) ∧ K (some (.inl (if wh = 0 then nI (blen p.natAbs) else if wh = 1 then nI (blen q.natAbs) else -2))) I1 J) := by
    intro hw
    refine ⟨522, [.inl wh], rfl, rfl, wh, p, q, rfl, lay_H.1, by omega, hH, fun I1 p' q' c1 c2 c3 c4 c5 c6 c7 => ?_⟩
    obtain ⟨rfl, rfl⟩ := low_unique c5 hq c6 hg c7
    have hf := hch_fr c1
    refine ⟨if wh = 0 then 468 else 470, ?_, rfl, rfl, ?_, hK I1 hf.vis (hC.fr hf) c2⟩
    · rcases hw with rfl | rfl <;> rfl
    · rcases hw with rfl | rfl
      · exact c3
      · exact c4
  have lq : wh = 0 ∨ wh = 1 → pt_lowestPart shL rfL [.inr (.inr 522), .inl wh] I J (fun r I1 J1 => ∃ b, r = some (.inr (.inr b)) ∧ pt_bitLength shL rfL [.inr (.inr b)] I1 J1 K) := by
    intro hw
    obtain ⟨h, rest, e1, e2, wh', U, L, e3, e4, e5, e6, e7⟩ := lp hw
    refine ⟨h, rest, e1, e2, wh', U, L, e3, e4, e5, e6, fun I1 p' q' c1 c2 c3 c4 c5 c6 c7 => ?_⟩
    obtain ⟨b, f1, f2, f3, f4, f5⟩ := e7 I1 p' q' c1 c2 c3 c4 c5 c6 c7
    refine ⟨b, f1, b, [], rfl, by rw [f3]; rcases hw with rfl | rfl <;> rfl, _, rfl, f4, ?_⟩
    rcases hw with rfl | rfl <;> exact f5
  refine ⟨Nat.le_of_ble_eq_true rfl, fun h => ?_, fun h => ⟨fun h2 => ?_, fun h2 => ?_⟩⟩
  · have h : wh = 0 := h
    obtain ⟨h, rest, e1, e2, wh', U, L, e3, e4, e5, e6, e7⟩ := lq (Or.inl h)
    refine ⟨rfl, h, rest, e1, e2, wh', U, L, e3, e4, e5, e6, fun I1 p' q' c1 c2 c3 c4 c5 c6 c7 => ?_⟩
    obtain ⟨b, f1, f2⟩ := e7 I1 p' q' c1 c2 c3 c4 c5 c6 c7
    cases f1
    exact f2
  · have h2 : wh = 1 := h2
    obtain ⟨h, rest, e1, e2, wh', U, L, e3, e4, e5, e6, e7⟩ := lq (Or.inr h2)
    refine ⟨rfl, h, rest, e1, e2, wh', U, L, e3, e4, e5, e6, fun I1 p' q' c1 c2 c3 c4 c5 c6 c7 => ?_⟩
    obtain ⟨b, f1, f2⟩ := e7 I1 p' q' c1 c2 c3 c4 c5 c6 c7
    cases f1
    exact f2
  · have h : ¬ wh = 0 := h
    have h2 : ¬ wh = 1 := h2
    have := hK I (Fr.rfl' I).vis hC hH
    rw [if_neg h, if_neg h2] at this
    exact this

