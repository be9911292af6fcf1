/-! ===== the desk: values, products, shares, roots, few ===== -/
theorem evN_lt {mo : Nat → Int} (hm : ∀ k, k < 12 → (mo k).natAbs ≤ MB) {k : Nat} {u v : Int} (hk : k ≤ 5) (hu : u.natAbs ≤ 2 ^ 20) (hv : v.natAbs ≤ 2 ^ 20) : (evN mo k u v k).natAbs < 2 ^ (32 * 16) := by
  have h := evN_le hm hk hu hv (t := k) (Nat.le_refl k)
  have h2 : (k + 1) * (2 ^ (32 * 12) * 2 ^ (20 * k)) ≤ 6 * (2 ^ (32 * 12) * 2 ^ (20 * 5)) := Nat.mul_le_mul (by omega) (Nat.mul_le_mul_left _ (Nat.pow_le_pow_right (by decide) (by omega)))
  have h3 : 6 * (2 ^ (32 * 12) * 2 ^ (20 * 5)) < 2 ^ (32 * 16) := by decide
  exact Nat.lt_of_le_of_lt (Nat.le_trans h h2) h3
theorem ofN_lt {mo : Nat → Int} (hm : ∀ k, k < 12 → (mo k).natAbs ≤ MB) {k i : Nat} (hk : k ≤ 5) (hi : i + k ≤ 11) : (ofN mo k i (k + 1)).natAbs < 2 ^ (32 * 15) := by
  have h := ofN_le hm hk hi (j := k + 1) (Nat.le_refl _)
  have h2 : (k + 1) * 2 ^ 446 ≤ 6 * 2 ^ 446 := Nat.mul_le_mul_right _ (by omega)
  have h3 : 6 * 2 ^ 446 < 2 ^ (32 * 15) := by decide
  exact Nat.lt_of_le_of_lt (Nat.le_trans h h2) h3
theorem dtv_lt {z v : Int} (hz : z.natAbs < 2 ^ (32 * 12)) (hv : v.natAbs < 2 ^ (32 * 1)) : ∀ t : Nat, (z * v ^ t).natAbs < 2 ^ (32 * (12 + t))
  | 0 => by rw [Int.pow_zero, Int.mul_one]; exact hz
  | t + 1 => by
    rw [Int.pow_succ, ← Int.mul_assoc]
    have h := bmul (a := 12 + t) (b := 1) (dtv_lt hz hv t) hv
    rwa [Nat.add_assoc] at h
theorem gwF_le (mo : Nat → Int) (l : Nat) : ∀ n k, gwF mo l n k ≤ k + n
  | 0, k => Nat.le_refl k
  | n + 1, k => by
    rw [gwF]
    split
    · have := gwF_le mo l n (k + 1)
      omega
    · omega
theorem gwf_le (mo : Nat → Int) (l : Nat) : gwf mo l ≤ 7 := by
  have := gwF_le mo l 7 0
  unfold gwf
  omega
def Bse (I I1 : mPI) (J : mPJ) (l : Nat) : Prop := Pf 0 I I1 ∧ CI I1 J ∧ PIs shL rfL I1 504 (moC J 0) l
def rbF (mo : Nat → Int) (u v : Int) : Nat → Nat × Int32 × Int32
  | 0 => (0, 1, 1)
  | i + 1 => if sgI (evN mo (i + 1) u v (i + 1)) = -(rbF mo u v i).2.1 then ((rbF mo u v i).1 + 1, sgI (evN mo (i + 1) u v (i + 1)), sgI (evN mo (i + 1) u v (i + 1))) else ((rbF mo u v i).1, (rbF mo u v i).2.1, sgI (evN mo (i + 1) u v (i + 1)))
def rbR (mo : Nat → Int) (k : Nat) (u v : Int) : Int32 := nI k - nI (rbF mo u v k).1 - (if (rbF mo u v k).2.2 = 0 then 1 else 0)
def pt_rootsBelow : mSH → mRF → mPT := m_pv 4 (fun sh rf d rest I J K => ∃ (k l : Nat) (u v : Int32) (mo : Nat → Int), sh = shL ∧ rf = rfL ∧ d = 523 ∧ rest = [.inr (.inr 504), .inl (nI k), .inl u, .inl v] ∧ PIs shL rfL I 504 mo l ∧ k ≤ tpf mo l ∧ u.toInt.natAbs ≤ 2 ^ 20 ∧ v.toInt.natAbs ≤ 2 ^ 20 ∧ ∀ I1, Wk I I1 → K (some (.inl (rbR mo k u.toInt v.toInt))) I1 J)
def spBelow (mo : Nat → Int) (k u v : Int) (l : Nat) : Int32 := if hasP mo l k then (if isFr u v then (if (gwf mo l : Int) < k then -5 else rbR mo k.toNat u v) else -2) else -1
def pt_below : mSH → mRF → mPT := m_pv 4 (fun sh rf d rest I J K => ∃ k u v : Int32, sh = shL ∧ rf = rfL ∧ d = 523 ∧ rest = [.inl k, .inl u, .inl v] ∧ Tel I J K (fun _ _ l => spBelow (moC J 0) k.toInt u.toInt v.toInt l))
abbrev fewP (mo : Nat → Int) (l k : Nat) : Prop := (k ≤ tpf mo l ∧ 2 * k ≤ l) ∧ Dt mo (k + 1) = 0 ∧ ∀ i, i < l - k + 1 → ofN mo k i (k + 1) = 0
def spFew (mo : Nat → Int) (l : Nat) : Int32 := if fewP mo l (gwf mo l) then nI (gwf mo l) else -6
def pt_few : mSH → mRF → mPT := m_pv 4 (fun sh rf d rest I J K => sh = shL ∧ rf = rfL ∧ d = 523 ∧ rest = [] ∧ Tel I J K (fun _ _ l => spFew (moC J 0) l))
def pt_isSame : mSH → mRF → mPT := m_pv 4 (fun sh rf d rest I J K => ∃ (p1 p2 k l1 l2 : Nat) (m1 m2 : Nat → Int), sh = shL ∧ rf = rfL ∧ d = 523 ∧ rest = [.inr (.inr (504 + p1)), .inr (.inr (504 + p2)), .inl (nI k)] ∧ p1 < 3 ∧ p2 < 3 ∧ PIs shL rfL I (504 + p1) m1 l1 ∧ PIs shL rfL I (504 + p2) m2 l2 ∧ k ≤ 5 ∧ 2 * k ≤ l1 + 1 ∧ 2 * k ≤ l2 + 1 ∧ ∀ I1, Wk I I1 → K (some (.inl (if ∀ i, i < k → Nm m1 k i * Dt m2 k = Nm m2 k i * Dt m1 k then 1 else 0))) I1 J)

def ct_X4_layValue (sh : mSH) (rf : mRF) : Nat → Option (Nat × Bool × mPT) := fun k => match k with
  | 138 => some (1, true, pt_wpolys sh rf)
  | 155 => some (2, true, pt_phas sh rf)
  | 172 => some (2, false, pt_isFraction sh rf)
  | 175 => some (5, true, pt_peval sh rf)
  | 147 => some (2, true, pt_pdet sh rf)
  | 179 => some (2, true, pt_setBig sh rf)
  | 183 => some (2, true, pt_timesInt sh rf)
  | 151 => some (3, true, pt_lay sh rf)
  | _ => none
set_option maxRecDepth 20000 in
theorem ce_X4_layValue : m_CE RX4 6 173 cX4_layValue 6 ct_X4_layValue := by
  intro p l e s m args below meth c Q D cs ad sh rf N hx hb hml hown hts hK hi hN k n vf pt h
  unfold ct_X4_layValue at h
  split at h
  · cases h
    exact m_CG_V mt_X3_polys hx hb hml hown hts hK hi hN (ci := 3) m_pv_rec rfl rfl (m_wck_ok (l := [(Cond.methodLink RX4 138 yX3_polys, 420), (Cond.instanceMethod yX3_polys, 421), (Cond.selects RX3 yX3_polys yX3_polys, 422), (Cond.initialized RX3, 56), (Cond.code yX3_polys cX3_polys 1 (some (.object "MomentDesk$Polys")), 423)]) (by decide +kernel)) ⟨rfl, by decide +kernel, by decide +kernel, by decide +kernel⟩ ⟨Nat.le_of_ble_eq_true rfl, Nat.le_of_ble_eq_true rfl⟩
  · cases h
    exact m_CG_V mt_X2_has hx hb hml hown hts hK hi hN (ci := 2) m_pv_rec rfl rfl (m_wck_ok (l := [(Cond.methodLink RX4 155 yX2_has, 467), (Cond.instanceMethod yX2_has, 446), (Cond.selects RX2 yX2_has yX2_has, 447), (Cond.initialized RX2, 57), (Cond.code yX2_has cX2_has 2 (some .boolean), 448)]) (by decide +kernel)) ⟨rfl, by decide +kernel, by decide +kernel, by decide +kernel⟩ ⟨Nat.le_of_ble_eq_true rfl, Nat.le_of_ble_eq_true rfl⟩
  · cases h
    exact m_CG_S mt_X4_isFraction hx hb hml hown hts hK hi hN (m_wck_ok (l := [(Cond.methodLink RX4 172 yX4_isFraction, 493), (Cond.static yX4_isFraction, 494), (Cond.initialized RX4, 55), (Cond.code yX4_isFraction cX4_isFraction 2 (some .boolean), 495)]) (by decide +kernel)) ⟨by decide +kernel, by decide +kernel, by decide +kernel⟩ ⟨Nat.le_of_ble_eq_true rfl, Nat.le_of_ble_eq_true rfl⟩
  · cases h
    exact m_CG_V mt_X2_evaluate hx hb hml hown hts hK hi hN (ci := 2) m_pv_rec rfl rfl (m_wck_ok (l := [(Cond.methodLink RX4 175 yX2_evaluate, 496), (Cond.instanceMethod yX2_evaluate, 497), (Cond.selects RX2 yX2_evaluate yX2_evaluate, 498), (Cond.initialized RX2, 57), (Cond.code yX2_evaluate cX2_evaluate 6 none, 499)]) (by decide +kernel)) ⟨rfl, by decide +kernel, by decide +kernel, by decide +kernel⟩ ⟨Nat.le_of_ble_eq_true rfl, Nat.le_of_ble_eq_true rfl⟩
  · cases h
    exact m_CG_V mt_X2_determinant hx hb hml hown hts hK hi hN (ci := 2) m_pv_rec rfl rfl (m_wck_ok (l := [(Cond.methodLink RX4 147 yX2_determinant, 449), (Cond.instanceMethod yX2_determinant, 438), (Cond.selects RX2 yX2_determinant yX2_determinant, 439), (Cond.initialized RX2, 57), (Cond.code yX2_determinant cX2_determinant 2 (some (.object "MomentDesk$Big")), 440)]) (by decide +kernel)) ⟨rfl, by decide +kernel, by decide +kernel, by decide +kernel⟩ ⟨Nat.le_of_ble_eq_true rfl, Nat.le_of_ble_eq_true rfl⟩
  · cases h
    exact m_CG_V mt_X0_setBig hx hb hml hown hts hK hi hN (ci := 0) m_pv_rec rfl rfl (m_wck_ok (l := [(Cond.methodLink RX4 179 yX0_setBig, 510), (Cond.instanceMethod yX0_setBig, 352), (Cond.selects RX0 yX0_setBig yX0_setBig, 353), (Cond.initialized RX0, 58), (Cond.code yX0_setBig cX0_setBig 2 none, 354)]) (by decide +kernel)) ⟨rfl, by decide +kernel, by decide +kernel, by decide +kernel⟩ ⟨Nat.le_of_ble_eq_true rfl, Nat.le_of_ble_eq_true rfl⟩
  · cases h
    exact m_CG_V mt_X0_timesInt hx hb hml hown hts hK hi hN (ci := 0) m_pv_rec rfl rfl (m_wck_ok (l := [(Cond.methodLink RX4 183 yX0_timesInt, 511), (Cond.instanceMethod yX0_timesInt, 502), (Cond.selects RX0 yX0_timesInt yX0_timesInt, 503), (Cond.initialized RX0, 58), (Cond.code yX0_timesInt cX0_timesInt 7 none, 504)]) (by decide +kernel)) ⟨rfl, by decide +kernel, by decide +kernel, by decide +kernel⟩ ⟨Nat.le_of_ble_eq_true rfl, Nat.le_of_ble_eq_true rfl⟩
  · cases h
    exact m_CG_V mt_X1_lay hx hb hml hown hts hK hi hN (ci := 1) m_pv_rec rfl rfl (m_wck_ok (l := [(Cond.methodLink RX4 151 yX1_lay, 450), (Cond.instanceMethod yX1_lay, 451), (Cond.selects RX1 yX1_lay yX1_lay, 452), (Cond.initialized RX1, 61), (Cond.code yX1_lay cX1_lay 3 (some .int), 453)]) (by decide +kernel)) ⟨rfl, by decide +kernel, by decide +kernel, by decide +kernel⟩ ⟨Nat.le_of_ble_eq_true rfl, Nat.le_of_ble_eq_true rfl⟩
  · cases h
set_option maxHeartbeats 4000000 in
set_option maxRecDepth 100000 in
theorem mt_X4_layValue : m_Mt yX4_layValue cX4_layValue 6 (some .int) 6 173 pt_layValue := by
  refine m_methodG (fl := fl_X4) (kI := kI_X4) (kJ := kJ_X4) (ct := ct_X4_layValue) (cd := cd_X4_layValue) (cut := [(59, [0, 1, 2, 3, 4, 5])]) (rk := 1) (fu := 80) (by decide +kernel) fl_X4_ok kI_X4_ok kJ_X4_ok ce_X4_layValue rfl ck_X4_layValue ⟨_, _, rfl, rfl⟩ ?_
  intro sh rf As I J K hpt
  obtain ⟨d, rest, rfl, hd, k, u, v, rfl, rfl, rfl, rfl, l, U, L, hC, hH, hL, h1, hl, hK⟩ := hpt
  obtain ⟨h3, hmo, hold⟩ := hC.cur h1 hl
  refine ⟨Nat.le_of_ble_eq_true rfl, fun a9 b9 pc vs st I2 J2 => ∃ (I1 : mPI) (j t : Nat), vs = [.inr (.inr 523), .inl (nI j), .inl u, .inl v, .inr (.inr 504), .inl (nI t)] ∧ st = [] ∧ J2 = J ∧ a9 = j - t ∧ t ≤ j ∧ k = nI j ∧ j ≤ tpf (moC J 0) l ∧ isFr u.toInt v.toInt ∧ Bse I I1 J l ∧ Wk I1 I2 ∧ BIs shL rfL I2 498 (evN (moC J 0) j u.toInt v.toInt j) ∧ BIs shL rfL I2 500 (Dt (moC J 0) j * v.toInt ^ t), ?_, ?_⟩
  · refine ⟨rfl, 513, [], rfl, rfl, l, rfl, lay_W0, h1, hl, hmo, hold, fun I1 a1 a2 a3 a4 => ?_⟩
    obtain ⟨hPf, hC1, hP⟩ := polys_post (p := 0) (by decide) hC h1 hl a1 a2 a4
    have hV := hPf.vis (by decide)
    have hH1 := hH.pf (by decide) hPf
    have tl := tpf_le (moC J 0) l
    have h11 : I1 513 1 = nI l := (hV.2 0 (by decide) 1 (by decide)).trans h1
    refine ⟨504, [.inl k], rfl, rfl, k, tpf (moC J 0) l, rfl, hP.2.1, tl.1, fun j hj hk => ?_, fun hn => ?_⟩
    · refine ⟨fun _ => ⟨u, v, rfl, fun h => ?_, fun h => ?_⟩, fun h => absurd h (by decide)⟩
      · have h : ¬ (if (-1000000 ≤ u ∧ u ≤ 1000000) ∧ 1 ≤ v ∧ v ≤ 1000000 then (1 : Int32) else 0) = 0 := h
        have hfr : isFr u.toInt v.toInt := by
          by_cases q : (-1000000 ≤ u ∧ u ≤ 1000000) ∧ 1 ≤ v ∧ v ≤ 1000000
          · exact isFr_i.mp q
          · rw [if_neg q] at h
            exact absurd rfl h
        subst hk
        refine ⟨rfl, 504, [.inr (.inr 498), .inl (nI j), .inl u, .inl v], rfl, rfl, 498, j, l, u, v, moC J 0, rfl, lay_P (p := 0) (by decide), hP, by omega, by omega, by omega, by omega, L40 (b := 249) (by decide) (by decide), fun j hj => (pbg_ne (p := 0) (by decide) hj (by decide)).symm, fun I2 c1 c2 => ?_⟩
        have w1 := peval_wk (p := 0) (by decide) (by decide) (by decide) c1
        have hP2 := PIs.fr (p := 0) (by decide) hP w1.fr
        obtain ⟨d1, d2⟩ := P_det (p := 0) (k := j) hP2 (by omega) (by omega)
        refine ⟨rfl, 504, [.inl (nI j)], rfl, rfl, j, rfl, by omega, lay_P (p := 0) (by decide), 500, [.inr (.inr (pbg rfL 504 (2 ^ j - 1)))], rfl, rfl, 40, pbg rfL 504 (2 ^ j - 1), Dt (moC J 0) j, rfl, L40 (b := 250) (by decide) (by decide), lay_BL, pbg_ne (p := 0) (by decide) (det64 (by omega)) (by decide), d1, bup d2 (by decide), fun I3 c3 c4 => ?_⟩
        refine ⟨j - 0, 0, I1, j, 0, rfl, rfl, rfl, rfl, Nat.zero_le _, rfl, hj, hfr, ⟨hPf, hC1, hP⟩, w1.trans (bch_wk (b := 500) (by decide) (by decide) c3), c2.other lay_BL (L40 (b := 250) (by decide) (by decide)) (by decide) c3, ?_⟩
        rw [Int.pow_zero, Int.mul_one]
        exact c4
      · have h : (if (-1000000 ≤ u ∧ u ≤ 1000000) ∧ 1 ≤ v ∧ v ≤ 1000000 then (1 : Int32) else 0) = 0 := h
        have hp : hasP (moC J 0) l k.toInt := by
          rw [hk, nI_toInt (by omega)]
          exact ⟨by omega, by omega⟩
        have e : spValue (moC J 0) k.toInt u.toInt v.toInt l = .inl (-2) := by
          unfold spValue
          rw [if_pos hp, if_neg (fun q => ?_)]
          rw [if_pos (isFr_i.mpr q)] at h
          exact absurd h (by decide)
        rw [e] at hK
        exact hK I1 hV hC1 hH1
    · refine ⟨fun h => absurd rfl h, fun _ => ?_⟩
      have e : spValue (moC J 0) k.toInt u.toInt v.toInt l = .inl (-1) := by
        refine if_neg (fun q => ?_)
        exact hn k.toInt.toNat (by have := q.2; omega) (i_nat q.1).1
      rw [e] at hK
      exact hK I1 hV hC1 hH1
  · intro pc ks a9 b9 vs st I2 J2 hc hI
    rcases m_cu1 hc with ⟨rfl, rfl⟩ | hc
    · obtain ⟨I1, j, t, rfl, rfl, rfl, rfl, ht, hk, hj, hfr, ⟨hPf, hC1, hP⟩, w1, ho, hz⟩ := hI
      have tl := tpf_le (moC J2 0) l
      have hP2 := PIs.fr (p := 0) (by decide) hP w1.fr
      obtain ⟨d1, d2⟩ := P_det (p := 0) (k := j) hP2 (by omega) (by omega)
      have hv1 : v.toInt.natAbs < 2 ^ (32 * 1) := by omega
      have hb := dtv_lt d2 hv1 t
      refine ⟨fun h => ?_, fun h => ?_⟩
      · have h : nI j ≤ nI t := h
        have h := (nI_leI (by omega) (by omega)).mp h
        obtain rfl : t = j := by omega
        have ev := evN_lt hP.2.2.2.1 (k := t) (u := u.toInt) (v := v.toInt) (by omega) (by omega) (by omega)
        have e : spValue (moC J2 0) k.toInt u.toInt v.toInt l = .inr (evN (moC J2 0) t u.toInt v.toInt t, Dt (moC J2 0) t * v.toInt ^ t) := by
          have e2 : k.toInt = t := by rw [hk, nI_toInt (by omega)]
          unfold spValue
          rw [if_pos (by rw [e2]; exact ⟨by omega, by omega⟩), if_pos hfr, e2]
          rfl
        rw [e] at hK
        refine ⟨rfl, rfl, rfl, 522, [.inr (.inr 498), .inr (.inr 500)], rfl, rfl, 498, 500, _, _, rfl, lay_H.1, fun i hi => by rw [lay_H.2]; omega, ho, hz, bup ev (by decide), bup hb (by omega), ?_, fun I5 b1 b2 => ?_⟩
        · exact Int.mul_ne_zero (top_nz hj) (Int.pow_ne_zero (by omega))
        · have hf := w1.fr.trans (hch_fr b1)
          exact hK I5 ((hPf.vis (by decide)).trans hf.vis) (hC1.fr hf) b2
      · have h : ¬ nI j ≤ nI t := h
        have htj : t < j := by
          rcases Nat.lt_or_ge t j with q | q
          · exact q
          · exact absurd ((nI_leI (by omega) (by omega)).mpr q) h
        refine ⟨rfl, 500, [.inl v], rfl, rfl, 40, 12 + t, _, v, rfl, L40 (b := 250) (by decide) (by decide), hz, hb, by omega, fun I3 c1 c2 => ?_⟩
        refine ⟨j - (t + 1), 0, Or.inl (by omega), I1, j, t + 1, by rw [← nI_1], rfl, rfl, rfl, by omega, hk, hj, hfr, ⟨hPf, hC1, hP⟩, w1.trans (bch_wk (b := 500) (by decide) (by decide) c1), ho.other lay_BL (L40 (b := 250) (by decide) (by decide)) (by decide) c1, ?_⟩
        rw [Int.pow_succ, ← Int.mul_assoc]
        exact c2
    · cases hc

def ct_X4_layProduct (sh : mSH) (rf : mRF) : Nat → Option (Nat × Bool × mPT) := fun k => match k with
  | 138 => some (1, true, pt_wpolys sh rf)
  | 155 => some (2, true, pt_phas sh rf)
  | 147 => some (2, true, pt_pdet sh rf)
  | 151 => some (3, true, pt_lay sh rf)
  | 134 => some (2, true, pt_layWhole sh rf)
  | _ => none
set_option maxRecDepth 20000 in
theorem ce_X4_layProduct : m_CE RX4 6 173 cX4_layProduct 4 ct_X4_layProduct := by
  intro p l e s m args below meth c Q D cs ad sh rf N hx hb hml hown hts hK hi hN k n vf pt h
  unfold ct_X4_layProduct at h
  split at h
  · cases h
    exact m_CG_V mt_X3_polys hx hb hml hown hts hK hi hN (ci := 3) m_pv_rec rfl rfl (m_wck_ok (l := [(Cond.methodLink RX4 138 yX3_polys, 420), (Cond.instanceMethod yX3_polys, 421), (Cond.selects RX3 yX3_polys yX3_polys, 422), (Cond.initialized RX3, 56), (Cond.code yX3_polys cX3_polys 1 (some (.object "MomentDesk$Polys")), 423)]) (by decide +kernel)) ⟨rfl, by decide +kernel, by decide +kernel, by decide +kernel⟩ ⟨Nat.le_of_ble_eq_true rfl, Nat.le_of_ble_eq_true rfl⟩
  · cases h
    exact m_CG_V mt_X2_has hx hb hml hown hts hK hi hN (ci := 2) m_pv_rec rfl rfl (m_wck_ok (l := [(Cond.methodLink RX4 155 yX2_has, 467), (Cond.instanceMethod yX2_has, 446), (Cond.selects RX2 yX2_has yX2_has, 447), (Cond.initialized RX2, 57), (Cond.code yX2_has cX2_has 2 (some .boolean), 448)]) (by decide +kernel)) ⟨rfl, by decide +kernel, by decide +kernel, by decide +kernel⟩ ⟨Nat.le_of_ble_eq_true rfl, Nat.le_of_ble_eq_true rfl⟩
  · cases h
    exact m_CG_V mt_X2_determinant hx hb hml hown hts hK hi hN (ci := 2) m_pv_rec rfl rfl (m_wck_ok (l := [(Cond.methodLink RX4 147 yX2_determinant, 449), (Cond.instanceMethod yX2_determinant, 438), (Cond.selects RX2 yX2_determinant yX2_determinant, 439), (Cond.initialized RX2, 57), (Cond.code yX2_determinant cX2_determinant 2 (some (.object "MomentDesk$Big")), 440)]) (by decide +kernel)) ⟨rfl, by decide +kernel, by decide +kernel, by decide +kernel⟩ ⟨Nat.le_of_ble_eq_true rfl, Nat.le_of_ble_eq_true rfl⟩
  · cases h
    exact m_CG_V mt_X1_lay hx hb hml hown hts hK hi hN (ci := 1) m_pv_rec rfl rfl (m_wck_ok (l := [(Cond.methodLink RX4 151 yX1_lay, 450), (Cond.instanceMethod yX1_lay, 451), (Cond.selects RX1 yX1_lay yX1_lay, 452), (Cond.initialized RX1, 61), (Cond.code yX1_lay cX1_lay 3 (some .int), 453)]) (by decide +kernel)) ⟨rfl, by decide +kernel, by decide +kernel, by decide +kernel⟩ ⟨Nat.le_of_ble_eq_true rfl, Nat.le_of_ble_eq_true rfl⟩
  · cases h
    exact m_CG_V mt_X1_layWhole hx hb hml hown hts hK hi hN (ci := 1) m_pv_rec rfl rfl (m_wck_ok (l := [(Cond.methodLink RX4 134 yX1_layWhole, 404), (Cond.instanceMethod yX1_layWhole, 405), (Cond.selects RX1 yX1_layWhole yX1_layWhole, 406), (Cond.initialized RX1, 61), (Cond.code yX1_layWhole cX1_layWhole 3 (some .int), 407)]) (by decide +kernel)) ⟨rfl, by decide +kernel, by decide +kernel, by decide +kernel⟩ ⟨Nat.le_of_ble_eq_true rfl, Nat.le_of_ble_eq_true rfl⟩
  · cases h
set_option maxHeartbeats 4000000 in
set_option maxRecDepth 100000 in
theorem mt_X4_layProduct : m_Mt yX4_layProduct cX4_layProduct 4 (some .int) 6 173 pt_layProduct := by
  refine m_method0 80 (fl := fl_X4) (kI := kI_X4) (kJ := kJ_X4) (ct := ct_X4_layProduct) (cd := cd_X4_layProduct) (rk := 1) (by decide +kernel) fl_X4_ok kI_X4_ok kJ_X4_ok ce_X4_layProduct rfl ck_X4_layProduct ⟨_, _, rfl, rfl⟩ ?_
  intro sh rf As I J K hpt
  obtain ⟨d, rest, rfl, hd, i, j, rfl, rfl, rfl, rfl, l, U, L, hC, hH, hL, h1, hl, hK⟩ := hpt
  obtain ⟨h3, hmo, hold⟩ := hC.cur h1 hl
  refine ⟨Nat.le_of_ble_eq_true rfl, rfl, 513, [], rfl, rfl, l, rfl, lay_W0, h1, hl, hmo, hold, fun I1 a1 a2 a3 a4 => ?_⟩
  obtain ⟨hPf, hC1, hP⟩ := polys_post (p := 0) (by decide) hC h1 hl a1 a2 a4
  have hV := hPf.vis (by decide)
  have hH1 := hH.pf (by decide) hPf
  have tl := tpf_le (moC J 0) l
  have h11 : I1 513 1 = nI l := (hV.2 0 (by decide) 1 (by decide)).trans h1
  have k1 : ¬ (hasP (moC J 0) l i.toInt ∧ hasP (moC J 0) l j.toInt ∧ i.toInt + j.toInt ≤ l) → K (some (.inl (-1))) I1 J := fun q => by
    have e : spProduct (moC J 0) i.toInt j.toInt l = .inl (-1) := if_neg q
    rw [e] at hK
    exact hK I1 hV hC1 hH1
  refine ⟨504, [.inl i], rfl, rfl, i, tpf (moC J 0) l, rfl, hP.2.1, tl.1, fun a ha hi => ?_, fun hn => ?_⟩
  · refine ⟨fun h => absurd h (by decide), fun _ => ⟨504, [.inl j], rfl, rfl, j, tpf (moC J 0) l, rfl, hP.2.1, tl.1, fun b hb hj => ?_, fun hn => ?_⟩⟩
    · refine ⟨fun h => absurd h (by decide), fun _ => ⟨rfl, rfl, fun h => ?_, fun h => ?_⟩⟩
      · subst hi
        subst hj
        have h : nI a + nI b ≤ I1 513 1 := h
        rw [nI_add, h11, nI_leI (by omega) (by omega)] at h
        have e1 : (nI a).toInt = a := nI_toInt (by omega)
        have e2 : (nI b).toInt = b := nI_toInt (by omega)
        rw [e1, e2] at hK
        have sp : spProduct (moC J 0) a b l = if (a : Int) = b then .inr (Dt (moC J 0) (a + 1), Dt (moC J 0) a) else .inr (0, 1) := if_pos ⟨⟨by omega, by omega⟩, ⟨by omega, by omega⟩, by omega⟩
        refine ⟨fun h5 => ?_, fun h5 => ?_⟩
        · have h5 : ¬ nI a = nI b := h5
          rw [nI_eq (by omega) (by omega)] at h5
          rw [if_neg (by omega)] at sp
          rw [sp] at hK
          refine ⟨rfl, 522, [.inr (.inl 0)], rfl, rfl, 0, rfl, lay_H.1, fun I2 b1 b2 => ?_⟩
          have hf := hch_fr b1
          exact hK I2 (hV.trans hf.vis) (hC1.fr hf) b2
        · have h5 : nI a = nI b := h5
          rw [nI_eq (by omega) (by omega)] at h5
          subst h5
          rw [if_pos rfl] at sp
          rw [sp] at hK
          obtain ⟨d1, d2⟩ := P_det (p := 0) (k := a + 1) hP (by omega) (by omega)
          obtain ⟨d3, d4⟩ := P_det (p := 0) (k := a) hP (by omega) (by omega)
          refine ⟨rfl, 504, [.inl (nI a + 1)], rfl, rfl, a + 1, congrArg (fun x => [Sum.inl x]) (nI_1 a), by omega, lay_P (p := 0) (by decide), 504, [.inl (nI a)], rfl, rfl, a, rfl, by omega, lay_P (p := 0) (by decide), 522, [.inr (.inr (pbg rfL 504 (2 ^ (a + 1) - 1))), .inr (.inr (pbg rfL 504 (2 ^ a - 1)))], rfl, rfl, pbg rfL 504 (2 ^ (a + 1) - 1), pbg rfL 504 (2 ^ a - 1), _, _, rfl, lay_H.1, fun i _ => ⟨pbg_nh (p := 0) (by decide) (det64 (by omega)) i, pbg_nh (p := 0) (by decide) (det64 (by omega)) i⟩, d1, d3, big_lt d2 (by decide), big_lt d4 (by decide), top_nz ha, fun I2 b1 b2 => ?_⟩
          have hf := hch_fr b1
          exact hK I2 (hV.trans hf.vis) (hC1.fr hf) b2
      · subst hi
        subst hj
        have h : ¬ nI a + nI b ≤ I1 513 1 := h
        rw [nI_add, h11, nI_leI (by omega) (by omega)] at h
        refine k1 (fun q => ?_)
        have q3 := q.2.2
        rw [nI_toInt (by omega), nI_toInt (by omega)] at q3
        omega
    · refine ⟨fun _ => k1 (fun q => ?_), fun h => absurd rfl h⟩
      exact hn j.toInt.toNat (by have := q.2.1.2; omega) (i_nat q.2.1.1).1
  · refine ⟨fun _ => k1 (fun q => ?_), fun h => absurd rfl h⟩
    exact hn i.toInt.toNat (by have := q.1.2; omega) (i_nat q.1.1).1

def ct_X4_layShare (sh : mSH) (rf : mRF) : Nat → Option (Nat × Bool × mPT) := fun k => match k with
  | 138 => some (1, true, pt_wpolys sh rf)
  | 142 => some (2, true, pt_phasWorth sh rf)
  | 186 => some (2, true, pt_pwsign sh rf)
  | 190 => some (4, true, pt_psetOf sh rf)
  | 147 => some (2, true, pt_pdet sh rf)
  | 151 => some (3, true, pt_lay sh rf)
  | _ => none
set_option maxRecDepth 20000 in
theorem ce_X4_layShare : m_CE RX4 6 173 cX4_layShare 4 ct_X4_layShare := by
  intro p l e s m args below meth c Q D cs ad sh rf N hx hb hml hown hts hK hi hN k n vf pt h
  unfold ct_X4_layShare at h
  split at h
  · cases h
    exact m_CG_V mt_X3_polys hx hb hml hown hts hK hi hN (ci := 3) m_pv_rec rfl rfl (m_wck_ok (l := [(Cond.methodLink RX4 138 yX3_polys, 420), (Cond.instanceMethod yX3_polys, 421), (Cond.selects RX3 yX3_polys yX3_polys, 422), (Cond.initialized RX3, 56), (Cond.code yX3_polys cX3_polys 1 (some (.object "MomentDesk$Polys")), 423)]) (by decide +kernel)) ⟨rfl, by decide +kernel, by decide +kernel, by decide +kernel⟩ ⟨Nat.le_of_ble_eq_true rfl, Nat.le_of_ble_eq_true rfl⟩
  · cases h
    exact m_CG_V mt_X2_hasWorth hx hb hml hown hts hK hi hN (ci := 2) m_pv_rec rfl rfl (m_wck_ok (l := [(Cond.methodLink RX4 142 yX2_hasWorth, 441), (Cond.instanceMethod yX2_hasWorth, 442), (Cond.selects RX2 yX2_hasWorth yX2_hasWorth, 443), (Cond.initialized RX2, 57), (Cond.code yX2_hasWorth cX2_hasWorth 2 (some .boolean), 444)]) (by decide +kernel)) ⟨rfl, by decide +kernel, by decide +kernel, by decide +kernel⟩ ⟨Nat.le_of_ble_eq_true rfl, Nat.le_of_ble_eq_true rfl⟩
  · cases h
    exact m_CG_V mt_X2_worthSign hx hb hml hown hts hK hi hN (ci := 2) m_pv_rec rfl rfl (m_wck_ok (l := [(Cond.methodLink RX4 186 yX2_worthSign, 520), (Cond.instanceMethod yX2_worthSign, 521), (Cond.selects RX2 yX2_worthSign yX2_worthSign, 522), (Cond.initialized RX2, 57), (Cond.code yX2_worthSign cX2_worthSign 2 (some .int), 523)]) (by decide +kernel)) ⟨rfl, by decide +kernel, by decide +kernel, by decide +kernel⟩ ⟨Nat.le_of_ble_eq_true rfl, Nat.le_of_ble_eq_true rfl⟩
  · cases h
    exact m_CG_V mt_X2_setOf hx hb hml hown hts hK hi hN (ci := 2) m_pv_rec rfl rfl (m_wck_ok (l := [(Cond.methodLink RX4 190 yX2_setOf, 524), (Cond.instanceMethod yX2_setOf, 525), (Cond.selects RX2 yX2_setOf yX2_setOf, 526), (Cond.initialized RX2, 57), (Cond.code yX2_setOf cX2_setOf 5 none, 527)]) (by decide +kernel)) ⟨rfl, by decide +kernel, by decide +kernel, by decide +kernel⟩ ⟨Nat.le_of_ble_eq_true rfl, Nat.le_of_ble_eq_true rfl⟩
  · cases h
    exact m_CG_V mt_X2_determinant hx hb hml hown hts hK hi hN (ci := 2) m_pv_rec rfl rfl (m_wck_ok (l := [(Cond.methodLink RX4 147 yX2_determinant, 449), (Cond.instanceMethod yX2_determinant, 438), (Cond.selects RX2 yX2_determinant yX2_determinant, 439), (Cond.initialized RX2, 57), (Cond.code yX2_determinant cX2_determinant 2 (some (.object "MomentDesk$Big")), 440)]) (by decide +kernel)) ⟨rfl, by decide +kernel, by decide +kernel, by decide +kernel⟩ ⟨Nat.le_of_ble_eq_true rfl, Nat.le_of_ble_eq_true rfl⟩
  · cases h
    exact m_CG_V mt_X1_lay hx hb hml hown hts hK hi hN (ci := 1) m_pv_rec rfl rfl (m_wck_ok (l := [(Cond.methodLink RX4 151 yX1_lay, 450), (Cond.instanceMethod yX1_lay, 451), (Cond.selects RX1 yX1_lay yX1_lay, 452), (Cond.initialized RX1, 61), (Cond.code yX1_lay cX1_lay 3 (some .int), 453)]) (by decide +kernel)) ⟨rfl, by decide +kernel, by decide +kernel, by decide +kernel⟩ ⟨Nat.le_of_ble_eq_true rfl, Nat.le_of_ble_eq_true rfl⟩
  · cases h
set_option maxHeartbeats 4000000 in
set_option maxRecDepth 100000 in
theorem mt_X4_layShare : m_Mt yX4_layShare cX4_layShare 4 (some .int) 6 173 pt_layShare := by
  refine m_method0 80 (fl := fl_X4) (kI := kI_X4) (kJ := kJ_X4) (ct := ct_X4_layShare) (cd := cd_X4_layShare) (rk := 1) (by decide +kernel) fl_X4_ok kI_X4_ok kJ_X4_ok ce_X4_layShare rfl ck_X4_layShare ⟨_, _, rfl, rfl⟩ ?_
  intro sh rf As I J K hpt
  obtain ⟨d, rest, rfl, hd, e, k, rfl, rfl, rfl, rfl, l, U, L, hC, hH, hL, h1, hl, hK⟩ := hpt
  obtain ⟨h3, hmo, hold⟩ := hC.cur h1 hl
  refine ⟨Nat.le_of_ble_eq_true rfl, rfl, 513, [], rfl, rfl, l, rfl, lay_W0, h1, hl, hmo, hold, fun I1 a1 a2 a3 a4 => ?_⟩
  obtain ⟨hPf, hC1, hP⟩ := polys_post (p := 0) (by decide) hC h1 hl a1 a2 a4
  have hV := hPf.vis (by decide)
  have hH1 := hH.pf (by decide) hPf
  have tl := tpf_le (moC J 0) l
  have h11 : I1 513 1 = nI l := (hV.2 0 (by decide) 1 (by decide)).trans h1
  have k1 : ¬ (hasW (moC J 0) l k.toInt ∧ 0 ≤ e.toInt ∧ e.toInt ≤ l - k.toInt) → K (some (.inl (-1))) I1 J := fun q => by
    have e : spShare (moC J 0) e.toInt k.toInt l = .inl (-1) := if_neg q
    rw [e] at hK
    exact hK I1 hV hC1 hH1
  refine ⟨504, [.inl k], rfl, rfl, k, tpf (moC J 0) l, l, rfl, hP.2.1, tl.1, hP.1, hl, fun a ha ha2 hk => ?_, fun hn => ?_⟩
  · subst hk
    have ea : (nI a).toInt = a := nI_toInt (by omega)
    refine ⟨fun h => absurd h (by decide), fun _ => ⟨fun h => ?_, fun h => ⟨rfl, rfl, fun h2 => ?_, fun h2 => ?_⟩⟩⟩
    · exact k1 (fun q => absurd (i_lt0.mp h) (by omega))
    · have h2 : e ≤ I1 513 1 - nI a := h2
      rw [h11, show nI l - nI a = nI (l - a) from pk_sub (by omega), Int32.le_iff_toInt_le, nI_toInt (by omega)] at h2
      have h0 : 0 ≤ e.toInt := by
        have := mt i_lt0.mpr h
        omega
      obtain ⟨ee, he⟩ := i_nat h0
      have sp : spShare (moC J 0) e.toInt (nI a).toInt l = if Dt (moC J 0) (a + 1) = 0 then .inl (-5) else .inr (ofN (moC J 0) a e.toInt.toNat (a + 1), Dt (moC J 0) (a + 1)) := by
        rw [ea]
        exact if_pos ⟨⟨⟨by omega, by omega⟩, by omega⟩, h0, by omega⟩
      have hd : e.toInt.toNat + a ≤ l := by omega
      clear h2 h
      generalize e.toInt.toNat = f at sp hd ee
      subst ee
      obtain ⟨d1, d2⟩ := P_det (p := 0) (k := a + 1) hP (by omega) (by omega)
      obtain ⟨d3, d4⟩ := P_det (p := 0) (k := a) hP (by omega) (by omega)
      refine ⟨504, [.inl (nI a)], rfl, rfl, a, _, _, rfl, by omega, lay_P (p := 0) (by decide), d1, d3, fun h5 => ?_, fun h5 => ?_⟩
      · have h5 : ¬ sgI (Dt (moC J 0) (a + 1)) * sgI (Dt (moC J 0) a) = 0 := h5
        rw [sgI_x, sgI_0] at h5
        have n1 : Dt (moC J 0) (a + 1) ≠ 0 := fun q => h5 (by rw [q, Int.zero_mul])
        rw [if_neg n1] at sp
        rw [sp] at hK
        refine ⟨rfl, 504, [.inr (.inr 496), .inl (nI a), .inl (nI f)], rfl, rfl, 496, a, f, l, moC J 0, rfl, lay_P (p := 0) (by decide), hP, by omega, by omega, by omega, L40 (b := 248) (by decide) (by decide), fun j hj => (pbg_ne (p := 0) (by decide) hj (by decide)).symm, fun I2 c1 c2 => ?_⟩
        have w1 := bch2_wkp (p := 0) (by decide) (by decide) (by decide) c1
        have hP2 := PIs.fr (p := 0) (by decide) hP w1.fr
        obtain ⟨e1, e2⟩ := P_det (p := 0) (k := a + 1) hP2 (by omega) (by omega)
        have ev := ofN_lt hP.2.2.2.1 (k := a) (i := f) (by omega) (by omega)
        refine ⟨rfl, rfl, 504, [.inl (nI a + 1)], rfl, rfl, a + 1, congrArg (fun x => [Sum.inl x]) (nI_1 a), by omega, lay_P (p := 0) (by decide), 522, [.inr (.inr 496), .inr (.inr (pbg rfL 504 (2 ^ (a + 1) - 1)))], rfl, rfl, 496, pbg rfL 504 (2 ^ (a + 1) - 1), _, _, rfl, lay_H.1, fun i hi => ⟨by rw [lay_H.2]; omega, pbg_nh (p := 0) (by decide) (det64 (by omega)) i⟩, c2, e1, bup ev (by decide), bup e2 (by decide), n1, fun I3 b1 b2 => ?_⟩
        have hf := w1.fr.trans (hch_fr b1)
        exact hK I3 (hV.trans hf.vis) (hC1.fr hf) b2
      · have h5 : sgI (Dt (moC J 0) (a + 1)) * sgI (Dt (moC J 0) a) = 0 := h5
        rw [sgI_x, sgI_0] at h5
        have n1 : Dt (moC J 0) (a + 1) = 0 := (Int.mul_eq_zero.mp h5).resolve_right (top_nz ha)
        rw [if_pos n1] at sp
        rw [sp] at hK
        exact hK I1 hV hC1 hH1
    · have h2 : ¬ e ≤ I1 513 1 - nI a := h2
      rw [h11, show nI l - nI a = nI (l - a) from pk_sub (by omega), Int32.le_iff_toInt_le, nI_toInt (by omega)] at h2
      refine k1 (fun q => h2 ?_)
      have q2 := q.2.2
      rw [ea] at q2
      omega
  · refine ⟨fun _ => k1 (fun q => ?_), fun h => absurd rfl h⟩
    exact hn k.toInt.toNat (by have := q.1.1.2; omega) (by have := q.1.2; omega) (i_nat q.1.1.1).1

def ct_X4_rootsBelow (sh : mSH) (rf : mRF) : Nat → Option (Nat × Bool × mPT) := fun k => match k with
  | 175 => some (5, true, pt_peval sh rf)
  | 230 => some (1, true, pt_signum sh rf)
  | _ => none
set_option maxRecDepth 20000 in
theorem ce_X4_rootsBelow : m_CE RX4 5 151 cX4_rootsBelow 9 ct_X4_rootsBelow := by
  intro p l e s m args below meth c Q D cs ad sh rf N hx hb hml hown hts hK hi hN k n vf pt h
  unfold ct_X4_rootsBelow at h
  split at h
  · cases h
    exact m_CG_V mt_X2_evaluate hx hb hml hown hts hK hi hN (ci := 2) m_pv_rec rfl rfl (m_wck_ok (l := [(Cond.methodLink RX4 175 yX2_evaluate, 496), (Cond.instanceMethod yX2_evaluate, 497), (Cond.selects RX2 yX2_evaluate yX2_evaluate, 498), (Cond.initialized RX2, 57), (Cond.code yX2_evaluate cX2_evaluate 6 none, 499)]) (by decide +kernel)) ⟨rfl, by decide +kernel, by decide +kernel, by decide +kernel⟩ ⟨Nat.le_of_ble_eq_true rfl, Nat.le_of_ble_eq_true rfl⟩
  · cases h
    exact m_CG_V mt_X0_signum hx hb hml hown hts hK hi hN (ci := 0) m_pv_rec rfl rfl (m_wck_ok (l := [(Cond.methodLink RX4 230 yX0_signum, 612), (Cond.instanceMethod yX0_signum, 413), (Cond.selects RX0 yX0_signum yX0_signum, 414), (Cond.initialized RX0, 58), (Cond.code yX0_signum cX0_signum 1 (some .int), 415)]) (by decide +kernel)) ⟨rfl, by decide +kernel, by decide +kernel, by decide +kernel⟩ ⟨Nat.le_of_ble_eq_true rfl, Nat.le_of_ble_eq_true rfl⟩
  · cases h
set_option maxHeartbeats 4000000 in
set_option maxRecDepth 100000 in
theorem mt_X4_rootsBelow : m_Mt yX4_rootsBelow cX4_rootsBelow 9 (some .int) 5 151 pt_rootsBelow := by
  refine m_methodG (fl := fl_X4) (kI := kI_X4) (kJ := kJ_X4) (ct := ct_X4_rootsBelow) (cd := cd_X4_rootsBelow) (cut := [(12, [0, 1, 2, 3, 4, 5, 6, 7, 8])]) (rk := 1) (fu := 80) (by decide +kernel) fl_X4_ok kI_X4_ok kJ_X4_ok ce_X4_rootsBelow rfl ck_X4_rootsBelow ⟨_, _, rfl, rfl⟩ ?_
  intro sh rf As I J K hpt
  obtain ⟨d, rest, rfl, hd, k, l, u, v, mo, rfl, rfl, rfl, rfl, hP, hk, hu, hv, hK⟩ := hpt
  have tl := tpf_le mo l
  have hl := hP.2.2.1
  refine ⟨Nat.le_of_ble_eq_true rfl, fun a9 b9 pc vs st I1 J1 => ∃ i, vs = [.inr (.inr 523), .inr (.inr 504), .inl (nI k), .inl u, .inl v, .inl (nI (rbF mo u.toInt v.toInt i).1), .inl (rbF mo u.toInt v.toInt i).2.1, .inl (rbF mo u.toInt v.toInt i).2.2, .inl (nI (i + 1))] ∧ st = [] ∧ J1 = J ∧ a9 = k - i ∧ i ≤ k ∧ Wk I I1, ?_, ?_⟩
  · exact ⟨k - 0, 0, 0, rfl, rfl, rfl, rfl, Nat.zero_le _, Wk.rfl' I⟩
  · intro pc ks a9 b9 vs st I1 J1 hc hI
    rcases m_cu1 hc with ⟨rfl, rfl⟩ | hc
    · obtain ⟨i, rfl, rfl, rfl, rfl, hi, w1⟩ := hI
      refine ⟨fun h => ?_, fun h => ?_⟩
      · have h : nI k < nI (i + 1) := h
        have h := (nI_ltI (by omega) (by omega)).mp h
        obtain rfl : i = k := by omega
        have := hK I1 w1
        unfold rbR at this
        refine ⟨fun h2 => ?_, fun h2 => ?_⟩
        · have h2 : ¬ (rbF mo u.toInt v.toInt i).2.2 = 0 := h2
          rw [if_neg h2] at this
          exact this
        · have h2 : (rbF mo u.toInt v.toInt i).2.2 = 0 := h2
          rw [if_pos h2] at this
          exact this
      · have h : ¬ nI k < nI (i + 1) := h
        have hik : i + 1 ≤ k := by
          rcases Nat.lt_or_ge k (i + 1) with q | q
          · exact absurd ((nI_ltI (by omega) (by omega)).mpr q) h
          · exact q
        have hP1 := PIs.fr (p := 0) (by decide) hP w1.fr
        refine ⟨rfl, 504, [.inr (.inr 498), .inl (nI (i + 1)), .inl u, .inl v], rfl, rfl, 498, i + 1, l, u, v, mo, rfl, lay_P (p := 0) (by decide), hP1, by omega, by omega, hu, hv, L40 (b := 249) (by decide) (by decide), fun j hj => (pbg_ne (p := 0) (by decide) hj (by decide)).symm, fun I2 c1 c2 => ?_⟩
        have w2 := w1.trans (peval_wk (p := 0) (by decide) (by decide) (by decide) c1)
        refine ⟨rfl, 498, [], rfl, rfl, _, rfl, c2, fun h2 => ?_, fun h2 => ?_⟩
        · have h2 : ¬ sgI (evN mo (i + 1) u.toInt v.toInt (i + 1)) = -(rbF mo u.toInt v.toInt i).2.1 := h2
          have e : rbF mo u.toInt v.toInt (i + 1) = ((rbF mo u.toInt v.toInt i).1, (rbF mo u.toInt v.toInt i).2.1, sgI (evN mo (i + 1) u.toInt v.toInt (i + 1))) := if_neg h2
          exact ⟨k - (i + 1), 0, Or.inl (by omega), i + 1, by rw [e, ← nI_1 (i + 1)], rfl, rfl, rfl, hik, w2⟩
        · have h2 : sgI (evN mo (i + 1) u.toInt v.toInt (i + 1)) = -(rbF mo u.toInt v.toInt i).2.1 := h2
          have e : rbF mo u.toInt v.toInt (i + 1) = ((rbF mo u.toInt v.toInt i).1 + 1, sgI (evN mo (i + 1) u.toInt v.toInt (i + 1)), sgI (evN mo (i + 1) u.toInt v.toInt (i + 1))) := if_pos h2
          exact ⟨k - (i + 1), 0, Or.inl (by omega), i + 1, by rw [e, ← nI_1 (i + 1), ← nI_1 (rbF mo u.toInt v.toInt i).1], rfl, rfl, rfl, hik, w2⟩
    · cases hc

def ct_X4_below (sh : mSH) (rf : mRF) : Nat → Option (Nat × Bool × mPT) := fun k => match k with
  | 138 => some (1, true, pt_wpolys sh rf)
  | 155 => some (2, true, pt_phas sh rf)
  | 172 => some (2, false, pt_isFraction sh rf)
  | 233 => some (1, true, pt_pgood sh rf)
  | 236 => some (5, true, pt_rootsBelow sh rf)
  | _ => none
set_option maxRecDepth 20000 in
theorem ce_X4_below : m_CE RX4 6 179 cX4_below 5 ct_X4_below := by
  intro p l e s m args below meth c Q D cs ad sh rf N hx hb hml hown hts hK hi hN k n vf pt h
  unfold ct_X4_below at h
  split at h
  · cases h
    exact m_CG_V mt_X3_polys hx hb hml hown hts hK hi hN (ci := 3) m_pv_rec rfl rfl (m_wck_ok (l := [(Cond.methodLink RX4 138 yX3_polys, 420), (Cond.instanceMethod yX3_polys, 421), (Cond.selects RX3 yX3_polys yX3_polys, 422), (Cond.initialized RX3, 56), (Cond.code yX3_polys cX3_polys 1 (some (.object "MomentDesk$Polys")), 423)]) (by decide +kernel)) ⟨rfl, by decide +kernel, by decide +kernel, by decide +kernel⟩ ⟨Nat.le_of_ble_eq_true rfl, Nat.le_of_ble_eq_true rfl⟩
  · cases h
    exact m_CG_V mt_X2_has hx hb hml hown hts hK hi hN (ci := 2) m_pv_rec rfl rfl (m_wck_ok (l := [(Cond.methodLink RX4 155 yX2_has, 467), (Cond.instanceMethod yX2_has, 446), (Cond.selects RX2 yX2_has yX2_has, 447), (Cond.initialized RX2, 57), (Cond.code yX2_has cX2_has 2 (some .boolean), 448)]) (by decide +kernel)) ⟨rfl, by decide +kernel, by decide +kernel, by decide +kernel⟩ ⟨Nat.le_of_ble_eq_true rfl, Nat.le_of_ble_eq_true rfl⟩
  · cases h
    exact m_CG_S mt_X4_isFraction hx hb hml hown hts hK hi hN (m_wck_ok (l := [(Cond.methodLink RX4 172 yX4_isFraction, 493), (Cond.static yX4_isFraction, 494), (Cond.initialized RX4, 55), (Cond.code yX4_isFraction cX4_isFraction 2 (some .boolean), 495)]) (by decide +kernel)) ⟨by decide +kernel, by decide +kernel, by decide +kernel⟩ ⟨Nat.le_of_ble_eq_true rfl, Nat.le_of_ble_eq_true rfl⟩
  · cases h
    exact m_CG_V mt_X2_goodWorths hx hb hml hown hts hK hi hN (ci := 2) m_pv_rec rfl rfl (m_wck_ok (l := [(Cond.methodLink RX4 233 yX2_goodWorths, 617), (Cond.instanceMethod yX2_goodWorths, 618), (Cond.selects RX2 yX2_goodWorths yX2_goodWorths, 619), (Cond.initialized RX2, 57), (Cond.code yX2_goodWorths cX2_goodWorths 2 (some .int), 620)]) (by decide +kernel)) ⟨rfl, by decide +kernel, by decide +kernel, by decide +kernel⟩ ⟨Nat.le_of_ble_eq_true rfl, Nat.le_of_ble_eq_true rfl⟩
  · cases h
    exact m_CG_V mt_X4_rootsBelow hx hb hml hown hts hK hi hN (ci := 4) m_pv_rec rfl rfl (m_wck_ok (l := [(Cond.methodLink RX4 236 yX4_rootsBelow, 623), (Cond.instanceMethod yX4_rootsBelow, 625), (Cond.selects RX4 yX4_rootsBelow yX4_rootsBelow, 11), (Cond.initialized RX4, 55), (Cond.code yX4_rootsBelow cX4_rootsBelow 9 (some .int), 626)]) (by decide +kernel)) ⟨rfl, by decide +kernel, by decide +kernel, by decide +kernel⟩ ⟨Nat.le_of_ble_eq_true rfl, Nat.le_of_ble_eq_true rfl⟩
  · cases h
set_option maxHeartbeats 4000000 in
set_option maxRecDepth 100000 in
theorem mt_X4_below : m_Mt yX4_below cX4_below 5 (some .int) 6 179 pt_below := by
  refine m_method0 80 (fl := fl_X4) (kI := kI_X4) (kJ := kJ_X4) (ct := ct_X4_below) (cd := cd_X4_below) (rk := 1) (by decide +kernel) fl_X4_ok kI_X4_ok kJ_X4_ok ce_X4_below rfl ck_X4_below ⟨_, _, rfl, rfl⟩ ?_
  intro sh rf As I J K hpt
  obtain ⟨d, rest, rfl, hd, k, u, v, rfl, rfl, rfl, rfl, l, U, L, hC, hH, hL, h1, hl, hK⟩ := hpt
  obtain ⟨h3, hmo, hold⟩ := hC.cur h1 hl
  refine ⟨Nat.le_of_ble_eq_true rfl, rfl, 513, [], rfl, rfl, l, rfl, lay_W0, h1, hl, hmo, hold, fun I1 a1 a2 a3 a4 => ?_⟩
  obtain ⟨hPf, hC1, hP⟩ := polys_post (p := 0) (by decide) hC h1 hl a1 a2 a4
  have hV := hPf.vis (by decide)
  have hH1 := hH.pf (by decide) hPf
  have tl := tpf_le (moC J 0) l
  have h11 : I1 513 1 = nI l := (hV.2 0 (by decide) 1 (by decide)).trans h1
  have kk : ∀ I2, Wk I1 I2 → K (some (.inl (spBelow (moC J 0) k.toInt u.toInt v.toInt l))) I2 J := fun I2 f => hK I2 (hV.trans f.fr.vis) (hC1.fr f.fr) (hH1.wk f)
  have k0 := kk I1 (Wk.rfl' I1)
  refine ⟨504, [.inl k], rfl, rfl, k, tpf (moC J 0) l, rfl, hP.2.1, tl.1, fun j hj hk => ?_, fun hn => ?_⟩
  · have ek : k.toInt = j := by rw [hk, nI_toInt (by omega)]
    have hp : hasP (moC J 0) l k.toInt := by
      rw [ek]
      exact ⟨by omega, by omega⟩
    refine ⟨fun _ => ⟨u, v, rfl, fun h => ?_, fun h => ?_⟩, fun h => absurd h (by decide)⟩
    · have h : ¬ (if (-1000000 ≤ u ∧ u ≤ 1000000) ∧ 1 ≤ v ∧ v ≤ 1000000 then (1 : Int32) else 0) = 0 := h
      have hfr : isFr u.toInt v.toInt := by
        by_cases q : (-1000000 ≤ u ∧ u ≤ 1000000) ∧ 1 ≤ v ∧ v ≤ 1000000
        · exact isFr_i.mp q
        · rw [if_neg q] at h
          exact absurd rfl h
      have sp : spBelow (moC J 0) k.toInt u.toInt v.toInt l = if (gwf (moC J 0) l : Int) < j then -5 else rbR (moC J 0) j u.toInt v.toInt := by
        unfold spBelow
        rw [if_pos hp, if_pos hfr, ek]
        rfl
      refine ⟨504, [], rfl, rfl, moC J 0, l, rfl, lay_P (p := 0) (by decide), hP, fun h2 => ?_, fun h2 => ?_⟩
      · subst hk
        have h2 : nI j ≤ nI (gwf (moC J 0) l) := h2
        rw [nI_leI (by omega) (by have := gwf_le (moC J 0) l; omega)] at h2
        rw [if_neg (by omega)] at sp
        rw [sp] at kk
        exact ⟨523, [.inr (.inr 504), .inl (nI j), .inl u, .inl v], rfl, rfl, j, l, u, v, moC J 0, rfl, rfl, rfl, rfl, hP, hj, by omega, by omega, kk⟩
      · subst hk
        have h2 : ¬ nI j ≤ nI (gwf (moC J 0) l) := h2
        rw [nI_leI (by omega) (by have := gwf_le (moC J 0) l; omega)] at h2
        rw [if_pos (by omega)] at sp
        rw [sp] at k0
        exact k0
    · have h : (if (-1000000 ≤ u ∧ u ≤ 1000000) ∧ 1 ≤ v ∧ v ≤ 1000000 then (1 : Int32) else 0) = 0 := h
      have e : spBelow (moC J 0) k.toInt u.toInt v.toInt l = -2 := by
        unfold spBelow
        rw [if_pos hp, if_neg (fun q => ?_)]
        rw [if_pos (isFr_i.mpr q)] at h
        exact absurd h (by decide)
      rw [e] at k0
      exact k0
  · refine ⟨fun h => absurd rfl h, fun _ => ?_⟩
    have e : spBelow (moC J 0) k.toInt u.toInt v.toInt l = -1 := by
      refine if_neg (fun q => ?_)
      exact hn k.toInt.toNat (by have := q.2; omega) (i_nat q.1).1
    rw [e] at k0
    exact k0

def ct_X4_few (sh : mSH) (rf : mRF) : Nat → Option (Nat × Bool × mPT) := fun k => match k with
  | 138 => some (1, true, pt_wpolys sh rf)
  | 233 => some (1, true, pt_pgood sh rf)
  | 142 => some (2, true, pt_phasWorth sh rf)
  | 186 => some (2, true, pt_pwsign sh rf)
  | 190 => some (4, true, pt_psetOf sh rf)
  | 230 => some (1, true, pt_signum sh rf)
  | _ => none
set_option maxRecDepth 20000 in
theorem ce_X4_few : m_CE RX4 6 173 cX4_few 4 ct_X4_few := by
  intro p l e s m args below meth c Q D cs ad sh rf N hx hb hml hown hts hK hi hN k n vf pt h
  unfold ct_X4_few at h
  split at h
  · cases h
    exact m_CG_V mt_X3_polys hx hb hml hown hts hK hi hN (ci := 3) m_pv_rec rfl rfl (m_wck_ok (l := [(Cond.methodLink RX4 138 yX3_polys, 420), (Cond.instanceMethod yX3_polys, 421), (Cond.selects RX3 yX3_polys yX3_polys, 422), (Cond.initialized RX3, 56), (Cond.code yX3_polys cX3_polys 1 (some (.object "MomentDesk$Polys")), 423)]) (by decide +kernel)) ⟨rfl, by decide +kernel, by decide +kernel, by decide +kernel⟩ ⟨Nat.le_of_ble_eq_true rfl, Nat.le_of_ble_eq_true rfl⟩
  · cases h
    exact m_CG_V mt_X2_goodWorths hx hb hml hown hts hK hi hN (ci := 2) m_pv_rec rfl rfl (m_wck_ok (l := [(Cond.methodLink RX4 233 yX2_goodWorths, 617), (Cond.instanceMethod yX2_goodWorths, 618), (Cond.selects RX2 yX2_goodWorths yX2_goodWorths, 619), (Cond.initialized RX2, 57), (Cond.code yX2_goodWorths cX2_goodWorths 2 (some .int), 620)]) (by decide +kernel)) ⟨rfl, by decide +kernel, by decide +kernel, by decide +kernel⟩ ⟨Nat.le_of_ble_eq_true rfl, Nat.le_of_ble_eq_true rfl⟩
  · cases h
    exact m_CG_V mt_X2_hasWorth hx hb hml hown hts hK hi hN (ci := 2) m_pv_rec rfl rfl (m_wck_ok (l := [(Cond.methodLink RX4 142 yX2_hasWorth, 441), (Cond.instanceMethod yX2_hasWorth, 442), (Cond.selects RX2 yX2_hasWorth yX2_hasWorth, 443), (Cond.initialized RX2, 57), (Cond.code yX2_hasWorth cX2_hasWorth 2 (some .boolean), 444)]) (by decide +kernel)) ⟨rfl, by decide +kernel, by decide +kernel, by decide +kernel⟩ ⟨Nat.le_of_ble_eq_true rfl, Nat.le_of_ble_eq_true rfl⟩
  · cases h
    exact m_CG_V mt_X2_worthSign hx hb hml hown hts hK hi hN (ci := 2) m_pv_rec rfl rfl (m_wck_ok (l := [(Cond.methodLink RX4 186 yX2_worthSign, 520), (Cond.instanceMethod yX2_worthSign, 521), (Cond.selects RX2 yX2_worthSign yX2_worthSign, 522), (Cond.initialized RX2, 57), (Cond.code yX2_worthSign cX2_worthSign 2 (some .int), 523)]) (by decide +kernel)) ⟨rfl, by decide +kernel, by decide +kernel, by decide +kernel⟩ ⟨Nat.le_of_ble_eq_true rfl, Nat.le_of_ble_eq_true rfl⟩
  · cases h
    exact m_CG_V mt_X2_setOf hx hb hml hown hts hK hi hN (ci := 2) m_pv_rec rfl rfl (m_wck_ok (l := [(Cond.methodLink RX4 190 yX2_setOf, 524), (Cond.instanceMethod yX2_setOf, 525), (Cond.selects RX2 yX2_setOf yX2_setOf, 526), (Cond.initialized RX2, 57), (Cond.code yX2_setOf cX2_setOf 5 none, 527)]) (by decide +kernel)) ⟨rfl, by decide +kernel, by decide +kernel, by decide +kernel⟩ ⟨Nat.le_of_ble_eq_true rfl, Nat.le_of_ble_eq_true rfl⟩
  · cases h
    exact m_CG_V mt_X0_signum hx hb hml hown hts hK hi hN (ci := 0) m_pv_rec rfl rfl (m_wck_ok (l := [(Cond.methodLink RX4 230 yX0_signum, 612), (Cond.instanceMethod yX0_signum, 413), (Cond.selects RX0 yX0_signum yX0_signum, 414), (Cond.initialized RX0, 58), (Cond.code yX0_signum cX0_signum 1 (some .int), 415)]) (by decide +kernel)) ⟨rfl, by decide +kernel, by decide +kernel, by decide +kernel⟩ ⟨Nat.le_of_ble_eq_true rfl, Nat.le_of_ble_eq_true rfl⟩
  · cases h
set_option maxHeartbeats 4000000 in
set_option maxRecDepth 100000 in
theorem mt_X4_few : m_Mt yX4_few cX4_few 4 (some .int) 6 173 pt_few := by
  refine m_methodG (fl := fl_X4) (kI := kI_X4) (kJ := kJ_X4) (ct := ct_X4_few) (cd := cd_X4_few) (cut := [(34, [0, 1, 2, 3])]) (rk := 1) (fu := 80) (by decide +kernel) fl_X4_ok kI_X4_ok kJ_X4_ok ce_X4_few rfl ck_X4_few ⟨_, _, rfl, rfl⟩ ?_
  intro sh rf As I J K hpt
  obtain ⟨d, rest, rfl, hd, rfl, rfl, rfl, rfl, l, U, L, hC, hH, hL, h1, hl, hK⟩ := hpt
  obtain ⟨h3, hmo, hold⟩ := hC.cur h1 hl
  have gl := gwf_le (moC J 0) l
  refine ⟨Nat.le_of_ble_eq_true rfl, fun a9 b9 pc vs st I2 J2 => ∃ (I1 : mPI) (i : Nat), vs = [.inr (.inr 523), .inr (.inr 504), .inl (nI (gwf (moC J 0) l)), .inl (nI i)] ∧ st = [] ∧ J2 = J ∧ a9 = l + 1 - i ∧ i ≤ l - gwf (moC J 0) l + 1 ∧ Bse I I1 J l ∧ Wk I1 I2 ∧ (gwf (moC J 0) l ≤ tpf (moC J 0) l ∧ 2 * gwf (moC J 0) l ≤ l) ∧ Dt (moC J 0) (gwf (moC J 0) l + 1) = 0 ∧ ∀ j, j < i → ofN (moC J 0) (gwf (moC J 0) l) j (gwf (moC J 0) l + 1) = 0, ?_, ?_⟩
  · refine ⟨rfl, 513, [], rfl, rfl, l, rfl, lay_W0, h1, hl, hmo, hold, fun I1 a1 a2 a3 a4 => ?_⟩
    obtain ⟨hPf, hC1, hP⟩ := polys_post (p := 0) (by decide) hC h1 hl a1 a2 a4
    have hV := hPf.vis (by decide)
    have hH1 := hH.pf (by decide) hPf
    have tl := tpf_le (moC J 0) l
    have h11 : I1 513 1 = nI l := (hV.2 0 (by decide) 1 (by decide)).trans h1
    have k1 : ¬ fewP (moC J 0) l (gwf (moC J 0) l) → K (some (.inl (-6))) I1 J := fun q => by
      have : K (some (.inl (spFew (moC J 0) l))) I1 J := hK I1 hV hC1 hH1
      unfold spFew at this
      rw [if_neg q] at this
      exact this
    refine ⟨504, [], rfl, rfl, moC J 0, l, rfl, lay_P (p := 0) (by decide), hP, ?_⟩
    generalize hg : gwf (moC J 0) l = g at gl k1
    refine ⟨504, [.inl (nI g)], rfl, rfl, nI g, tpf (moC J 0) l, l, rfl, hP.2.1, tl.1, hP.1, hl, fun a ha ha2 hk => ?_, fun hn => ?_⟩
    · obtain rfl : g = a := (nI_eq (by omega) (by omega)).mp hk
      refine ⟨fun h => absurd h (by decide), fun _ => ?_⟩
      obtain ⟨d1, d2⟩ := P_det (p := 0) (k := g + 1) hP (by omega) (by omega)
      obtain ⟨d3, d4⟩ := P_det (p := 0) (k := g) hP (by omega) (by omega)
      refine ⟨504, [.inl (nI g)], rfl, rfl, g, _, _, rfl, by omega, lay_P (p := 0) (by decide), d1, d3, fun h5 => ?_, fun h5 => ?_⟩
      · have h5 : sgI (Dt (moC J 0) (g + 1)) * sgI (Dt (moC J 0) g) = 0 := h5
        rw [sgI_x, sgI_0] at h5
        have n1 : Dt (moC J 0) (g + 1) = 0 := (Int.mul_eq_zero.mp h5).resolve_right (top_nz ha)
        exact ⟨l + 1 - 0, 0, I1, 0, rfl, rfl, rfl, rfl, Nat.zero_le _, ⟨hPf, hC1, hP⟩, Wk.rfl' I1, ⟨ha, ha2⟩, n1, fun j hj => absurd hj (Nat.not_lt_zero j)⟩
      · have h5 : ¬ sgI (Dt (moC J 0) (g + 1)) * sgI (Dt (moC J 0) g) = 0 := h5
        rw [sgI_x, sgI_0] at h5
        exact k1 (fun q => h5 (by rw [q.2.1, Int.zero_mul]))
    · exact ⟨fun _ => k1 (fun q => hn g q.1.1 q.1.2 rfl), fun h => absurd rfl h⟩
  · intro pc ks a9 b9 vs st I2 J2 hc hI
    rcases m_cu1 hc with ⟨rfl, rfl⟩ | hc
    · obtain ⟨I1, i, rfl, rfl, rfl, rfl, hi, ⟨hPf, hC1, hP⟩, w1, hg1, hg2, hz⟩ := hI
      have tl := tpf_le (moC J2 0) l
      have kk : ∀ I3, Wk I1 I3 → K (some (.inl (spFew (moC J2 0) l))) I3 J2 := fun I3 f => hK I3 ((hPf.vis (by decide)).trans f.fr.vis) (hC1.fr f.fr) ((hH.pf (by decide) hPf).wk f)
      unfold spFew at kk
      generalize gwf (moC J2 0) l = g at gl hi hg1 hg2 hz kk
      have h11 : I2 513 1 = nI l := ((congrFun (w1 513 (by unfold wkA; omega)) 1).trans ((hPf.vis (by decide)).2 0 (by decide) 1 (by decide))).trans h1
      have es : I2 513 1 - nI g = nI (l - g) := by
        rw [h11]
        exact pk_sub (by omega)
      refine ⟨rfl, rfl, fun h => ?_, fun h => ?_⟩
      · have h : I2 513 1 - nI g < nI i := h
        rw [es, nI_ltI (by omega) (by omega)] at h
        have := kk I2 w1
        rw [if_pos ⟨hg1, hg2, fun j hj => hz j (by omega)⟩] at this
        exact this
      · have h : ¬ I2 513 1 - nI g < nI i := h
        rw [es, nI_ltI (by omega) (by omega)] at h
        have hP1 := PIs.fr (p := 0) (by decide) hP w1.fr
        refine ⟨rfl, 504, [.inr (.inr 496), .inl (nI g), .inl (nI i)], rfl, rfl, 496, g, i, l, moC J2 0, rfl, lay_P (p := 0) (by decide), hP1, by omega, by omega, by omega, L40 (b := 248) (by decide) (by decide), fun j hj => (pbg_ne (p := 0) (by decide) hj (by decide)).symm, fun I3 c1 c2 => ?_⟩
        have w2 := w1.trans (bch2_wkp (p := 0) (by decide) (by decide) (by decide) c1)
        refine ⟨rfl, 496, [], rfl, rfl, _, rfl, c2, fun h2 => ?_, fun h2 => ?_⟩
        · have h2 : sgI (ofN (moC J2 0) g i (g + 1)) = 0 := h2
          rw [sgI_0] at h2
          refine ⟨l + 1 - (i + 1), 0, Or.inl (by omega), I1, i + 1, by rw [← nI_1 i], rfl, rfl, rfl, by omega, ⟨hPf, hC1, hP⟩, w2, hg1, hg2, fun j hj => ?_⟩
          rcases Nat.lt_or_ge j i with q | q
          · exact hz j q
          · obtain rfl : j = i := by omega
            exact h2
        · have h2 : ¬ sgI (ofN (moC J2 0) g i (g + 1)) = 0 := h2
          rw [sgI_0] at h2
          have := kk I3 w2
          rw [if_neg (fun q => h2 (q.2.2 i (by omega)))] at this
          exact this
    · cases hc

def ct_X4_isSamePoly (sh : mSH) (rf : mRF) : Nat → Option (Nat × Bool × mPT) := fun k => match k with
  | 158 => some (3, true, pt_pnum sh rf)
  | 147 => some (2, true, pt_pdet sh rf)
  | 259 => some (3, true, pt_setProduct sh rf)
  | 227 => some (2, true, pt_take sh rf)
  | 230 => some (1, true, pt_signum sh rf)
  | _ => none
set_option maxRecDepth 20000 in
theorem ce_X4_isSamePoly : m_CE RX4 4 124 cX4_isSamePoly 5 ct_X4_isSamePoly := by
  intro p l e s m args below meth c Q D cs ad sh rf N hx hb hml hown hts hK hi hN k n vf pt h
  unfold ct_X4_isSamePoly at h
  split at h
  · cases h
    exact m_CG_V mt_X2_number hx hb hml hown hts hK hi hN (ci := 2) m_pv_rec rfl rfl (m_wck_ok (l := [(Cond.methodLink RX4 158 yX2_number, 468), (Cond.instanceMethod yX2_number, 469), (Cond.selects RX2 yX2_number yX2_number, 470), (Cond.initialized RX2, 57), (Cond.code yX2_number cX2_number 3 (some (.object "MomentDesk$Big")), 471)]) (by decide +kernel)) ⟨rfl, by decide +kernel, by decide +kernel, by decide +kernel⟩ ⟨Nat.le_of_ble_eq_true rfl, Nat.le_of_ble_eq_true rfl⟩
  · cases h
    exact m_CG_V mt_X2_determinant hx hb hml hown hts hK hi hN (ci := 2) m_pv_rec rfl rfl (m_wck_ok (l := [(Cond.methodLink RX4 147 yX2_determinant, 449), (Cond.instanceMethod yX2_determinant, 438), (Cond.selects RX2 yX2_determinant yX2_determinant, 439), (Cond.initialized RX2, 57), (Cond.code yX2_determinant cX2_determinant 2 (some (.object "MomentDesk$Big")), 440)]) (by decide +kernel)) ⟨rfl, by decide +kernel, by decide +kernel, by decide +kernel⟩ ⟨Nat.le_of_ble_eq_true rfl, Nat.le_of_ble_eq_true rfl⟩
  · cases h
    exact m_CG_V mt_X0_setProduct hx hb hml hown hts hK hi hN (ci := 0) m_pv_rec rfl rfl (m_wck_ok (l := [(Cond.methodLink RX4 259 yX0_setProduct, 480), (Cond.instanceMethod yX0_setProduct, 317), (Cond.selects RX0 yX0_setProduct yX0_setProduct, 318), (Cond.initialized RX0, 58), (Cond.code yX0_setProduct cX0_setProduct 10 none, 319)]) (by decide +kernel)) ⟨rfl, by decide +kernel, by decide +kernel, by decide +kernel⟩ ⟨Nat.le_of_ble_eq_true rfl, Nat.le_of_ble_eq_true rfl⟩
  · cases h
    exact m_CG_V mt_X0_take hx hb hml hown hts hK hi hN (ci := 0) m_pv_rec rfl rfl (m_wck_ok (l := [(Cond.methodLink RX4 227 yX0_take, 481), (Cond.instanceMethod yX0_take, 482), (Cond.selects RX0 yX0_take yX0_take, 483), (Cond.initialized RX0, 58), (Cond.code yX0_take cX0_take 2 none, 484)]) (by decide +kernel)) ⟨rfl, by decide +kernel, by decide +kernel, by decide +kernel⟩ ⟨Nat.le_of_ble_eq_true rfl, Nat.le_of_ble_eq_true rfl⟩
  · cases h
    exact m_CG_V mt_X0_signum hx hb hml hown hts hK hi hN (ci := 0) m_pv_rec rfl rfl (m_wck_ok (l := [(Cond.methodLink RX4 230 yX0_signum, 612), (Cond.instanceMethod yX0_signum, 413), (Cond.selects RX0 yX0_signum yX0_signum, 414), (Cond.initialized RX0, 58), (Cond.code yX0_signum cX0_signum 1 (some .int), 415)]) (by decide +kernel)) ⟨rfl, by decide +kernel, by decide +kernel, by decide +kernel⟩ ⟨Nat.le_of_ble_eq_true rfl, Nat.le_of_ble_eq_true rfl⟩
  · cases h
set_option maxHeartbeats 4000000 in
set_option maxRecDepth 100000 in
theorem mt_X4_isSamePoly : m_Mt yX4_isSamePoly cX4_isSamePoly 5 (some .boolean) 4 124 pt_isSame := by
  refine m_methodG (fl := fl_X4) (kI := kI_X4) (kJ := kJ_X4) (ct := ct_X4_isSamePoly) (cd := cd_X4_isSamePoly) (cut := [(3, [0, 1, 2, 3, 4])]) (rk := 3) (fu := 80) (by decide +kernel) fl_X4_ok kI_X4_ok kJ_X4_ok ce_X4_isSamePoly rfl ck_X4_isSamePoly ⟨_, _, rfl, rfl⟩ ?_
  intro sh rf As I J K hpt
  obtain ⟨d, rest, rfl, hd, p1, p2, k, l1, l2, m1, m2, rfl, rfl, rfl, rfl, hp1, hp2, hP1, hP2, hk, hk1, hk2, hK⟩ := hpt
  refine ⟨Nat.le_of_ble_eq_true rfl, fun a9 b9 pc vs st I1 J1 => ∃ i, vs = [.inr (.inr 523), .inr (.inr (504 + p1)), .inr (.inr (504 + p2)), .inl (nI k), .inl (nI i)] ∧ st = [] ∧ J1 = J ∧ a9 = k - i ∧ i ≤ k ∧ Wk I I1 ∧ ∀ j, j < i → Nm m1 k j * Dt m2 k = Nm m2 k j * Dt m1 k, ?_, ?_⟩
  · exact ⟨k - 0, 0, 0, rfl, rfl, rfl, rfl, Nat.zero_le _, Wk.rfl' I, fun j hj => absurd hj (Nat.not_lt_zero j)⟩
  · intro pc ks a9 b9 vs st I1 J1 hc hI
    rcases m_cu1 hc with ⟨rfl, rfl⟩ | hc
    · obtain ⟨i, rfl, rfl, rfl, rfl, hi, w1, hz⟩ := hI
      refine ⟨fun h => ?_, fun h => ?_⟩
      · have h : nI k ≤ nI i := h
        have h := (nI_leI (by omega) (by omega)).mp h
        have := hK I1 w1
        rw [if_pos (fun j hj => hz j (by omega))] at this
        exact ⟨Or.inr rfl, this⟩
      · have h : ¬ nI k ≤ nI i := h
        have hik : i < k := by
          rcases Nat.lt_or_ge i k with q | q
          · exact q
          · exact absurd ((nI_leI (by omega) (by omega)).mpr q) h
        have hA := PIs.fr hp1 hP1 w1.fr
        have hB := PIs.fr hp2 hP2 w1.fr
        obtain ⟨a1, a2⟩ := P_num (k := k) (i := i) hA (by omega) (by omega) (by omega)
        obtain ⟨b1, b2⟩ := P_det (k := k) hB (by omega) (by omega)
        refine ⟨rfl, 504 + p1, [.inl (nI k), .inl (nI i)], rfl, (lay_P hp1).1, k, i, rfl, by omega, by omega, lay_P hp1, 504 + p2, [.inl (nI k)], rfl, (lay_P hp2).1, k, rfl, by omega, lay_P hp2, 498, [.inr (.inr (pbg rfL (504 + p1) ((2 ^ (k + 1) - 1) ^^^ 2 ^ i))), .inr (.inr (pbg rfL (504 + p2) (2 ^ k - 1)))], rfl, rfl, 40, pbg rfL (504 + p1) ((2 ^ (k + 1) - 1) ^^^ 2 ^ i), pbg rfL (504 + p2) (2 ^ k - 1), 12, 12, _, _, rfl, L40 (b := 249) (by decide) (by decide), lay_BL, pbg_ne hp1 (num64 (by omega) (by omega)) (by decide), pbg_ne hp2 (det64 (by omega)) (by decide), a1, b1, a2, b2, by decide, fun I2 c1 c2 => ?_⟩
        have w2 := w1.trans (bch_wk (b := 498) (by decide) (by decide) c1)
        have hA2 := PIs.fr hp1 hP1 w2.fr
        have hB2 := PIs.fr hp2 hP2 w2.fr
        obtain ⟨e1, e2⟩ := P_num (k := k) (i := i) hB2 (by omega) (by omega) (by omega)
        obtain ⟨f1, f2⟩ := P_det (k := k) hA2 (by omega) (by omega)
        refine ⟨rfl, 504 + p2, [.inl (nI k), .inl (nI i)], rfl, (lay_P hp2).1, k, i, rfl, by omega, by omega, lay_P hp2, 504 + p1, [.inl (nI k)], rfl, (lay_P hp1).1, k, rfl, by omega, lay_P hp1, 500, [.inr (.inr (pbg rfL (504 + p2) ((2 ^ (k + 1) - 1) ^^^ 2 ^ i))), .inr (.inr (pbg rfL (504 + p1) (2 ^ k - 1)))], rfl, rfl, 40, pbg rfL (504 + p2) ((2 ^ (k + 1) - 1) ^^^ 2 ^ i), pbg rfL (504 + p1) (2 ^ k - 1), 12, 12, _, _, rfl, L40 (b := 250) (by decide) (by decide), lay_BL, pbg_ne hp2 (num64 (by omega) (by omega)) (by decide), pbg_ne hp1 (det64 (by omega)) (by decide), e1, f1, e2, f2, by decide, fun I3 c3 c4 => ?_⟩
        have w3 := w2.trans (bch_wk (b := 500) (by decide) (by decide) c3)
        have c5 := c2.other lay_BL (L40 (b := 250) (by decide) (by decide)) (by decide) c3
        refine ⟨rfl, rfl, 498, [.inr (.inr 500)], rfl, rfl, 40, 500, 24, _, _, rfl, L40 (b := 249) (by decide) (by decide), lay_BL, by decide, c5, c4, bmul a2 b2, bmul e2 f2, by decide, fun I4 c6 c7 => ?_⟩
        have w4 := w3.trans (bch_wk (b := 498) (by decide) (by decide) c6)
        refine ⟨rfl, 498, [], rfl, rfl, _, rfl, c7, fun h2 => ?_, fun h2 => ?_⟩
        · have h2 : sgI (Nm m1 k i * Dt m2 k - Nm m2 k i * Dt m1 k) = 0 := h2
          rw [sgI_0] at h2
          refine ⟨k - (i + 1), 0, Or.inl (by omega), i + 1, by rw [← nI_1 i], rfl, rfl, rfl, by omega, w4, fun j hj => ?_⟩
          rcases Nat.lt_or_ge j i with q | q
          · exact hz j q
          · obtain rfl : j = i := by omega
            omega
        · have h2 : ¬ sgI (Nm m1 k i * Dt m2 k - Nm m2 k i * Dt m1 k) = 0 := h2
          rw [sgI_0] at h2
          have := hK I4 w4
          rw [if_neg (fun q => h2 (by have := q i hik; omega))] at this
          exact ⟨Or.inl rfl, this⟩
    · cases hc

