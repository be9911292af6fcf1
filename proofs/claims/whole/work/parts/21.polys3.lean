/-! ===== Polys: setOf, evaluate ===== -/
/-- the columns 0 to k without i -/
def cm (k i : Nat) : Nat := (2 ^ (k + 1) - 1) ^^^ 2 ^ i
theorem cm_t : ∀ k, k < 6 → ∀ i, i < k + 1 → cm k i < 2 ^ (k + 1) ∧ cm k i < 64 ∧ popc (cm k i) = k ∧ (1 ≤ k → cm k i ≠ 0) := by decide +kernel
def ofN (mo : Nat → Int) (k i : Nat) : Nat → Int
  | 0 => 0
  | j + 1 => ofN mo k i j + mn mo (cm k j) * mo (i + j)
def evN (mo : Nat → Int) (k : Nat) (u v : Int) : Nat → Int
  | 0 => mn mo (2 ^ k - 1)
  | t + 1 => evN mo k u v t * u + mn mo (cm k (k - 1 - t)) * v ^ (t + 1)
theorem ofN_le {mo : Nat → Int} (hm : ∀ k, k < 12 → (mo k).natAbs ≤ MB) {k i : Nat} (hk : k ≤ 5) (hi : i + k ≤ 11) : ∀ {j : Nat}, j ≤ k + 1 → (ofN mo k i j).natAbs ≤ j * 2 ^ 446
  | 0, _ => by simp [ofN]
  | j + 1, hj => by
    have ih := ofN_le hm hk hi (j := j) (by omega)
    have a1 := (mn_lt hm (cm_t k (by omega) j (by omega)).2.1).1
    have a2 := hm (i + j) (by omega)
    rw [ofN]
    have a3 : (mn mo (cm k j) * mo (i + j)).natAbs ≤ 2 ^ (32 * 12) * 2 ^ 62 := by
      rw [Int.natAbs_mul]
      exact Nat.mul_le_mul (by omega) (by unfold MB at a2; omega)
    rw [← Nat.pow_add] at a3
    have := Int.natAbs_add_le (ofN mo k i j) (mn mo (cm k j) * mo (i + j))
    rw [Nat.add_mul, Nat.one_mul]
    omega
theorem evN_le {mo : Nat → Int} (hm : ∀ k, k < 12 → (mo k).natAbs ≤ MB) {k : Nat} {u v : Int} (hk : k ≤ 5) (hu : u.natAbs ≤ 2 ^ 20) (hv : v.natAbs ≤ 2 ^ 20) : ∀ {t : Nat}, t ≤ k → (evN mo k u v t).natAbs ≤ (t + 1) * (2 ^ (32 * 12) * 2 ^ (20 * t))
  | 0, _ => by
    have a1 := (mn_lt hm (c := 2 ^ k - 1) (by have := (shl_det k (by omega)).2; omega)).1
    rw [evN]
    omega
  | t + 1, ht => by
    have ih := evN_le hm hk hu hv (t := t) (by omega)
    have a1 := (mn_lt hm (cm_t k (by omega) (k - 1 - t) (by omega)).2.1).1
    have a2 : (v ^ (t + 1)).natAbs ≤ 2 ^ (20 * (t + 1)) := by
      rw [Int.natAbs_pow, Nat.pow_mul]
      exact Nat.pow_le_pow_left hv (t + 1)
    have a3 : (evN mo k u v t * u).natAbs ≤ (t + 1) * (2 ^ (32 * 12) * 2 ^ (20 * t)) * 2 ^ 20 := by
      rw [Int.natAbs_mul]
      exact Nat.mul_le_mul ih hu
    have a4 : (mn mo (cm k (k - 1 - t)) * v ^ (t + 1)).natAbs ≤ 2 ^ (32 * 12) * 2 ^ (20 * (t + 1)) := by
      rw [Int.natAbs_mul]
      exact Nat.mul_le_mul (by omega) a2
    have a5 : (t + 1) * (2 ^ (32 * 12) * 2 ^ (20 * t)) * 2 ^ 20 = (t + 1) * (2 ^ (32 * 12) * 2 ^ (20 * (t + 1))) := by
      rw [show 20 * (t + 1) = 20 * t + 20 by omega, Nat.pow_add, Nat.mul_assoc, Nat.mul_assoc]
    rw [evN]
    have := Int.natAbs_add_le (evN mo k u v t * u) (mn mo (cm k (k - 1 - t)) * v ^ (t + 1))
    rw [Nat.add_mul (t + 1) 1, Nat.one_mul]
    omega
def pt_psetOf : mSH → mRF → mPT := m_pv 2 (fun sh rf p rest I J K => ∃ (b k i last : Nat) (mo : Nat → Int), rest = [.inr (.inr b), .inl (nI k), .inl (nI i)] ∧ PSh sh rf p ∧ PIs sh rf I p mo last ∧ k ≤ 5 ∧ 2 * k ≤ last + 1 ∧ i + k ≤ 11 ∧ BSh sh rf b 40 ∧ (∀ j, j < 78 → b ≠ pbg rf p j) ∧ ∀ I1, BCh2 rf I I1 b (pbg rf p 76) → BIs sh rf I1 b (ofN mo k i (k + 1)) → K none I1 J)
def pt_peval : mSH → mRF → mPT := m_pv 2 (fun sh rf p rest I J K => ∃ (b k last : Nat) (u v : Int32) (mo : Nat → Int), rest = [.inr (.inr b), .inl (nI k), .inl u, .inl v] ∧ PSh sh rf p ∧ PIs sh rf I p mo last ∧ k ≤ 5 ∧ 2 * k ≤ last + 1 ∧ u.toInt.natAbs ≤ 2 ^ 20 ∧ v.toInt.natAbs ≤ 2 ^ 20 ∧ BSh sh rf b 40 ∧ (∀ j, j < 78 → b ≠ pbg rf p j) ∧ ∀ I1, (∀ a, a ≠ b → a ≠ rf b 0 → a ≠ pbg rf p 76 → a ≠ rf (pbg rf p 76) 0 → a ≠ pbg rf p 77 → a ≠ rf (pbg rf p 77) 0 → I1 a = I a) → BIs sh rf I1 b (evN mo k u.toInt v.toInt k) → K none I1 J)
theorem pw_cm {last k i : Nat} (hk : k ≤ 5) (hl : 2 * k ≤ last + 1) (hi : i ≤ k) : cm k i < 2 ^ pw last := by
  have h1 := (cm_t k (by omega) i (by omega)).1
  have h2 : 2 ^ (k + 1) ≤ 2 ^ pw last := Nat.pow_le_pow_right (by decide) (by unfold pw; omega)
  omega
def ct_X2_setOf (sh : mSH) (rf : mRF) : Nat → Option (Nat × Bool × mPT) := fun k => match k with
  | 40 => some (2, true, pt_setLong sh rf)
  | 86 => some (3, true, pt_pnum sh rf)
  | 90 => some (4, true, pt_addProduct sh rf)
  | _ => none
set_option maxRecDepth 20000 in
theorem ce_X2_setOf : m_CE RX2 4 126 cX2_setOf 5 ct_X2_setOf := by
  intro p l e s m args below meth c Q D cs ad sh rf N hx hb hml hown hts hK hi hN k n vf pt h
  unfold ct_X2_setOf at h
  split at h
  · cases h
    exact m_CG_V mt_X0_setLong hx hb hml hown hts hK hi hN (ci := 0) m_pv_rec rfl rfl (m_wck_ok (l := [(Cond.methodLink RX2 40 yX0_setLong, 428), (Cond.instanceMethod yX0_setLong, 176), (Cond.selects RX0 yX0_setLong yX0_setLong, 177), (Cond.initialized RX0, 58), (Cond.code yX0_setLong cX0_setLong 5 none, 178)]) (by decide +kernel)) ⟨rfl, by decide +kernel, by decide +kernel, by decide +kernel⟩ ⟨Nat.le_of_ble_eq_true rfl, Nat.le_of_ble_eq_true rfl⟩
  · cases h
    exact m_CG_V mt_X2_number hx hb hml hown hts hK hi hN (ci := 2) m_pv_rec rfl rfl (m_wck_ok (l := [(Cond.methodLink RX2 86 yX2_number, 508), (Cond.instanceMethod yX2_number, 469), (Cond.selects RX2 yX2_number yX2_number, 470), (Cond.initialized RX2, 57), (Cond.code yX2_number cX2_number 3 (some (.object "MomentDesk$Big")), 471)]) (by decide +kernel)) ⟨rfl, by decide +kernel, by decide +kernel, by decide +kernel⟩ ⟨Nat.le_of_ble_eq_true rfl, Nat.le_of_ble_eq_true rfl⟩
  · cases h
    exact m_CG_V mt_X0_addProduct hx hb hml hown hts hK hi hN (ci := 0) m_pv_rec rfl rfl (m_wck_ok (l := [(Cond.methodLink RX2 90 yX0_addProduct, 509), (Cond.instanceMethod yX0_addProduct, 313), (Cond.selects RX0 yX0_addProduct yX0_addProduct, 314), (Cond.initialized RX0, 58), (Cond.code yX0_addProduct cX0_addProduct 4 none, 315)]) (by decide +kernel)) ⟨rfl, by decide +kernel, by decide +kernel, by decide +kernel⟩ ⟨Nat.le_of_ble_eq_true rfl, Nat.le_of_ble_eq_true rfl⟩
  · cases h
set_option maxHeartbeats 4000000 in
set_option maxRecDepth 100000 in
theorem mt_X2_setOf : m_Mt yX2_setOf cX2_setOf 5 none 4 126 pt_psetOf := by
  refine m_methodG (fl := fl_X2) (kI := kI_X2) (kJ := kJ_X2) (ct := ct_X2_setOf) (cd := cd_X2_setOf) (cut := [(8, [0, 1, 2, 3, 4])]) (rk := 0) (fu := 80) (by decide +kernel) fl_X2_ok kI_X2_ok kJ_X2_ok ce_X2_setOf rfl ck_X2_setOf ⟨_, _, rfl, rfl⟩ ?_
  intro sh rf As I J K hpt
  obtain ⟨p, rest, rfl, hp, b, k, i, last, mo, rfl, hP, hI0, hk, hkl, hik, hb, hbn, hK⟩ := hpt
  obtain ⟨i4, i5, i6, hmo, i8, i9⟩ := id hI0
  obtain ⟨-, hsA, hsB, hBS, hinj, hBL⟩ := id hP
  have hsp := hBS 76 (by decide)
  have nb := hbn 76 (by decide)
  refine ⟨Nat.le_of_ble_eq_true rfl, fun a9 b9 pc vs st I1 J1 => ∃ j, vs = [.inr (.inr p), .inr (.inr b), .inl (nI k), .inl (nI i), .inl (nI j)] ∧ st = [] ∧ J1 = J ∧ a9 = k + 1 - j ∧ j ≤ k + 1 ∧ BCh2 rf I I1 b (pbg rf p 76) ∧ BIs sh rf I1 b (ofN mo k i j), ?_, ?_⟩
  · refine ⟨b, _, rfl, hb.1, 40, 0, rfl, hb, fun I1 k1 k2 => ?_⟩
    exact ⟨k + 1 - 0, 0, 0, rfl, rfl, rfl, rfl, Nat.zero_le _, fun x a1 a2 _ _ => k1 x a1 a2, k2⟩
  · intro pc ks a9 b9 vs st I1 J1 hc hI
    rcases m_cu1 hc with ⟨rfl, rfl⟩ | hc
    · obtain ⟨j, rfl, rfl, rfl, rfl, hj, hch, hz⟩ := hI
      refine ⟨fun h => ?_, fun h => ?_⟩
      · have h : nI k < nI j := h
        have := (nI_ltI (by omega) (by omega)).mp h
        obtain rfl : j = k + 1 := by omega
        exact hK I1 hch hz
      · have h : ¬ nI k < nI j := h
        have hjk : j ≤ k := by
          rcases Nat.lt_or_ge k j with q | q
          · exact absurd ((nI_ltI (by omega) (by omega)).mpr q) h
          · exact q
        have ct := cm_t k (by omega) j (by omega)
        have hn := i9 (cm k j) (pw_cm hk hkl hjk)
        have hm := i8 (i + j) (by omega)
        have hnS := hBS (cm k j) (by omega)
        have n1 : pbg rf p (cm k j) ≠ pbg rf p 76 := fun e => absurd (hinj _ 76 (by omega) (by decide) e) (by omega)
        have n2 : pbg rf p (64 + (i + j)) ≠ pbg rf p 76 := fun e => absurd (hinj _ 76 (by omega) (by decide) e) (by omega)
        have hn1 := hn.other2 hBL hb hsp (fun e => hbn (cm k j) (by omega) e.symm) n1 hch
        have hm1 := hm.other2 hBL hb hsp (fun e => hbn (64 + (i + j)) (by omega) e.symm) n2 hch
        have eij : nI i + nI j = nI (i + j) := nI_add i j
        have emo : pbg rf p (64 + (i + j)) = rf (rf p 1) (i + j) := by
          unfold pbg
          rw [if_neg (by omega), if_pos (by omega), show 64 + (i + j) - 64 = i + j by omega]
        have hlim := (mn_lt hmo ct.2.1).1
        have hlm := hmo (i + j) (by omega)
        have hpr : (mn mo (cm k j) * mo (i + j)).natAbs ≤ 2 ^ (32 * 12) * 2 ^ 62 := by
          rw [Int.natAbs_mul]
          exact Nat.mul_le_mul (by omega) (by unfold MB at hlm; omega)
        have hs := ofN_le hmo hk hik (j := j) (by omega)
        have hs2 : j * 2 ^ 446 ≤ 6 * 2 ^ 446 := Nat.mul_le_mul_right _ (by omega)
        refine ⟨p, [.inl (nI k), .inl (nI j)], rfl, hp, k, j, rfl, hk, hjk, hP, hp, ?_, hp, b, [.inr (.inr (pbg rf p (cm k j))), .inr (.inr (pbg rf p (64 + (i + j)))), .inr (.inr (pbg rf p 76))], ?_, hb.1, 40, pbg rf p (cm k j), pbg rf p (64 + (i + j)), pbg rf p 76, 14, 12, 2, 15, ofN mo k i j, mn mo (cm k j), mo (i + j), rfl, hb, hsp, hBL, n1, n2, nb, hz, hn1, hm1, hlim, by unfold MB at hlm; omega, by omega, by omega, by omega, by omega, fun I2 k1 k2 => ?_⟩
        · show m_inr sh (rf p 1) (nI i + nI j)
          rw [eij]
          exact m_inr_i hsB (Or.inl rfl) (vp_in_nI (by omega) (by decide))
        · show ([.inr (.inr b), .inr (.inr (pbg rf p (cm k j))), .inr (.inr (rf (rf p 1) (nI i + nI j).toNatClampNeg)), .inr (.inr (rf p 2))] : List mPV) = _
          rw [eij, nI_clamp (by omega), emo]
          rfl
        · exact ⟨k + 1 - (j + 1), 0, Or.inl (by omega), j + 1, by rw [← nI_1], rfl, rfl, rfl, by omega, fun x a1 a2 a3 a4 => by rw [k1 x a1 a2 a3 a4, hch x a1 a2 a3 a4], k2⟩
    · cases hc

def ct_X2_evaluate (sh : mSH) (rf : mRF) : Nat → Option (Nat × Bool × mPT) := fun k => match k with
  | 56 => some (2, true, pt_pdet sh rf)
  | 94 => some (2, true, pt_setBig sh rf)
  | 40 => some (2, true, pt_setLong sh rf)
  | 98 => some (2, true, pt_timesInt sh rf)
  | 86 => some (3, true, pt_pnum sh rf)
  | 90 => some (4, true, pt_addProduct sh rf)
  | _ => none
set_option maxRecDepth 20000 in
theorem ce_X2_evaluate : m_CE RX2 4 126 cX2_evaluate 6 ct_X2_evaluate := by
  intro p l e s m args below meth c Q D cs ad sh rf N hx hb hml hown hts hK hi hN k n vf pt h
  unfold ct_X2_evaluate at h
  split at h
  · cases h
    exact m_CG_V mt_X2_determinant hx hb hml hown hts hK hi hN (ci := 2) m_pv_rec rfl rfl (m_wck_ok (l := [(Cond.methodLink RX2 56 yX2_determinant, 437), (Cond.instanceMethod yX2_determinant, 438), (Cond.selects RX2 yX2_determinant yX2_determinant, 439), (Cond.initialized RX2, 57), (Cond.code yX2_determinant cX2_determinant 2 (some (.object "MomentDesk$Big")), 440)]) (by decide +kernel)) ⟨rfl, by decide +kernel, by decide +kernel, by decide +kernel⟩ ⟨Nat.le_of_ble_eq_true rfl, Nat.le_of_ble_eq_true rfl⟩
  · cases h
    exact m_CG_V mt_X0_setBig hx hb hml hown hts hK hi hN (ci := 0) m_pv_rec rfl rfl (m_wck_ok (l := [(Cond.methodLink RX2 94 yX0_setBig, 500), (Cond.instanceMethod yX0_setBig, 352), (Cond.selects RX0 yX0_setBig yX0_setBig, 353), (Cond.initialized RX0, 58), (Cond.code yX0_setBig cX0_setBig 2 none, 354)]) (by decide +kernel)) ⟨rfl, by decide +kernel, by decide +kernel, by decide +kernel⟩ ⟨Nat.le_of_ble_eq_true rfl, Nat.le_of_ble_eq_true rfl⟩
  · cases h
    exact m_CG_V mt_X0_setLong hx hb hml hown hts hK hi hN (ci := 0) m_pv_rec rfl rfl (m_wck_ok (l := [(Cond.methodLink RX2 40 yX0_setLong, 428), (Cond.instanceMethod yX0_setLong, 176), (Cond.selects RX0 yX0_setLong yX0_setLong, 177), (Cond.initialized RX0, 58), (Cond.code yX0_setLong cX0_setLong 5 none, 178)]) (by decide +kernel)) ⟨rfl, by decide +kernel, by decide +kernel, by decide +kernel⟩ ⟨Nat.le_of_ble_eq_true rfl, Nat.le_of_ble_eq_true rfl⟩
  · cases h
    exact m_CG_V mt_X0_timesInt hx hb hml hown hts hK hi hN (ci := 0) m_pv_rec rfl rfl (m_wck_ok (l := [(Cond.methodLink RX2 98 yX0_timesInt, 501), (Cond.instanceMethod yX0_timesInt, 502), (Cond.selects RX0 yX0_timesInt yX0_timesInt, 503), (Cond.initialized RX0, 58), (Cond.code yX0_timesInt cX0_timesInt 7 none, 504)]) (by decide +kernel)) ⟨rfl, by decide +kernel, by decide +kernel, by decide +kernel⟩ ⟨Nat.le_of_ble_eq_true rfl, Nat.le_of_ble_eq_true rfl⟩
  · cases h
    exact m_CG_V mt_X2_number hx hb hml hown hts hK hi hN (ci := 2) m_pv_rec rfl rfl (m_wck_ok (l := [(Cond.methodLink RX2 86 yX2_number, 508), (Cond.instanceMethod yX2_number, 469), (Cond.selects RX2 yX2_number yX2_number, 470), (Cond.initialized RX2, 57), (Cond.code yX2_number cX2_number 3 (some (.object "MomentDesk$Big")), 471)]) (by decide +kernel)) ⟨rfl, by decide +kernel, by decide +kernel, by decide +kernel⟩ ⟨Nat.le_of_ble_eq_true rfl, Nat.le_of_ble_eq_true rfl⟩
  · cases h
    exact m_CG_V mt_X0_addProduct hx hb hml hown hts hK hi hN (ci := 0) m_pv_rec rfl rfl (m_wck_ok (l := [(Cond.methodLink RX2 90 yX0_addProduct, 509), (Cond.instanceMethod yX0_addProduct, 313), (Cond.selects RX0 yX0_addProduct yX0_addProduct, 314), (Cond.initialized RX0, 58), (Cond.code yX0_addProduct cX0_addProduct 4 none, 315)]) (by decide +kernel)) ⟨rfl, by decide +kernel, by decide +kernel, by decide +kernel⟩ ⟨Nat.le_of_ble_eq_true rfl, Nat.le_of_ble_eq_true rfl⟩
  · cases h
set_option maxHeartbeats 4000000 in
set_option maxRecDepth 100000 in
theorem mt_X2_evaluate : m_Mt yX2_evaluate cX2_evaluate 6 none 4 126 pt_peval := by
  refine m_methodG (fl := fl_X2) (kI := kI_X2) (kJ := kJ_X2) (ct := ct_X2_evaluate) (cd := cd_X2_evaluate) (cut := [(22, [0, 1, 2, 3, 4, 5])]) (rk := 0) (fu := 80) (by decide +kernel) fl_X2_ok kI_X2_ok kJ_X2_ok ce_X2_evaluate rfl ck_X2_evaluate ⟨_, _, rfl, rfl⟩ ?_
  intro sh rf As I J K hpt
  obtain ⟨p, rest, rfl, hp, b, k, last, u, v, mo, rfl, hP, hI0, hk, hkl, hu, hv, hb, hbn, hK⟩ := hpt
  obtain ⟨i4, i5, i6, hmo, i8, i9⟩ := id hI0
  obtain ⟨-, hsA, hsB, hBS, hinj, hBL⟩ := id hP
  have hsp := hBS 76 (by decide)
  have hpa := hBS 77 (by decide)
  have nb := hbn 76 (by decide)
  have nb7 := hbn 77 (by decide)
  have nsp : pbg rf p 77 ≠ pbg rf p 76 := fun e => absurd (hinj 77 76 (by decide) (by decide) e) (by decide)
  have hdk := i9 (2 ^ k - 1) (pw_det (mo := mo) (by omega) (by omega))
  have hdl := (mn_lt hmo (c := 2 ^ k - 1) (by have := (shl_det k (by omega)).2; omega)).1
  have hdn := hbn (2 ^ k - 1) (by have := (shl_det k (by omega)).2; omega)
  refine ⟨Nat.le_of_ble_eq_true rfl, fun a9 b9 pc vs st I1 J1 => ∃ t, vs = [.inr (.inr p), .inr (.inr b), .inl (nI k), .inl u, .inl v, .inl (nI (k - t) - 1)] ∧ st = [] ∧ J1 = J ∧ a9 = k - t ∧ t ≤ k ∧ (∀ a, a ≠ b → a ≠ rf b 0 → a ≠ pbg rf p 76 → a ≠ rf (pbg rf p 76) 0 → a ≠ pbg rf p 77 → a ≠ rf (pbg rf p 77) 0 → I1 a = I a) ∧ BIs sh rf I1 b (evN mo k u.toInt v.toInt t) ∧ BIs sh rf I1 (pbg rf p 77) (v.toInt ^ t), ?_, ?_⟩
  · refine ⟨p, [.inl (nI k)], rfl, hp, k, rfl, by omega, hP, b, _, rfl, hb.1, 40, pbg rf p (2 ^ k - 1), mn mo (2 ^ k - 1), rfl, hb, hBL, hdn.symm, hdk, Nat.lt_of_lt_of_le hdl (Nat.pow_le_pow_right (by decide) (by decide)), fun I1 k1 k2 => ?_⟩
    refine ⟨hp, pbg rf p 77, _, rfl, hpa.1, 14, 1, rfl, hpa, fun I2 k3 k4 => ?_⟩
    refine ⟨k - 0, 0, 0, rfl, rfl, rfl, rfl, Nat.zero_le _, fun x a1 a2 a3 a4 a5 a6 => by rw [k3 x a5 a6, k1 x a1 a2], k2.other hBL hpa nb7 k3, by rw [Int.pow_zero, ← show (1 : Int64).toInt = 1 by decide]; exact k4⟩
  · intro pc ks a9 b9 vs st I1 J1 hc hI
    rcases m_cu1 hc with ⟨rfl, rfl⟩ | hc
    · obtain ⟨t, rfl, rfl, rfl, rfl, ht, hch, hz, hpt⟩ := hI
      refine ⟨fun h => ?_, fun h => ?_⟩
      · have ht0 : t = k := by
          rcases Nat.eq_or_lt_of_le ht with e | e
          · exact e
          · have h : nI (k - t) - nI 1 < 0 := h
            rw [pk_sub (by omega)] at h
            exact absurd h (nI_pos (by omega))
        subst ht0
        exact hK I1 hch hz
      · have htk : t < k := by
          rcases Nat.lt_or_ge t k with e | e
          · exact e
          · rw [show k - t = 0 by omega] at h; exact absurd (by decide) h
        have e6 : nI (k - t) - 1 = nI (k - 1 - t) := by
          rw [show k - 1 - t = k - t - 1 by omega]
          exact pk_sub (b := 1) (by omega)
        have ct := cm_t k (by omega) (k - 1 - t) (by omega)
        have hn := i9 (cm k (k - 1 - t)) (pw_cm hk hkl (by omega))
        have hnS := hBS (cm k (k - 1 - t)) (by omega)
        have n0 : pbg rf p (cm k (k - 1 - t)) ≠ b := fun e => hbn _ (by omega) e.symm
        have n1 : pbg rf p (cm k (k - 1 - t)) ≠ pbg rf p 76 := fun e => absurd (hinj _ 76 (by omega) (by decide) e) (by omega)
        have n2 : pbg rf p (cm k (k - 1 - t)) ≠ pbg rf p 77 := fun e => absurd (hinj _ 77 (by omega) (by decide) e) (by omega)
        have hn1 : BIs sh rf I1 (pbg rf p (cm k (k - 1 - t))) (mn mo (cm k (k - 1 - t))) := by
          refine hn.keep (hch _ n0 (hnS.nex hb) n1 (hnS.nex hsp) n2 (hnS.nex hpa)) (hch _ (fun e => hb.nex hnS e.symm) (fun e => n0 (hBL _ _ hnS.1 hb.1 e)) (fun e => hsp.nex hnS e.symm) (fun e => n1 (hBL _ _ hnS.1 hsp.1 e)) (fun e => hpa.nex hnS e.symm) (fun e => n2 (hBL _ _ hnS.1 hpa.1 e)))
        have hs := evN_le hmo hk hu hv (t := t) (by omega)
        have hs3 : (t + 1) * (2 ^ (32 * 12) * 2 ^ (20 * t)) ≤ 6 * (2 ^ (32 * 12) * 2 ^ 100) := Nat.mul_le_mul (by omega) (Nat.mul_le_mul_left _ (Nat.pow_le_pow_right (by decide) (by omega)))
        have hvt : ∀ s, s ≤ 5 → (v.toInt ^ s).natAbs ≤ 2 ^ 100 := by
          intro s hs5
          rw [Int.natAbs_pow]
          refine Nat.le_trans (Nat.pow_le_pow_left hv s) ?_
          rw [← Nat.pow_mul]
          exact Nat.pow_le_pow_right (by decide) (by omega)
        refine ⟨b, _, rfl, hb.1, 40, 16, evN mo k u.toInt v.toInt t, u, rfl, hb, hz, by omega, by omega, fun I2 k1 k2 => ?_⟩
        have hp2 := hpt.other hBL hb nb7.symm k1
        have hn2 := hn1.other hBL hb n0 k1
        refine ⟨hp, pbg rf p 77, _, rfl, hpa.1, 14, 4, v.toInt ^ t, v, rfl, hpa, hp2, by have := hvt t (by omega); omega, by omega, fun I3 k3 k4 => ?_⟩
        have hz3 := k2.other hBL hpa nb7 k3
        have hn3 := hn2.other hBL hpa n2 k3
        rw [← Int.pow_succ] at k4
        have hpr1 : (evN mo k u.toInt v.toInt t * u.toInt).natAbs ≤ 6 * (2 ^ (32 * 12) * 2 ^ 100) * 2 ^ 20 := by
          rw [Int.natAbs_mul]
          exact Nat.mul_le_mul (Nat.le_trans hs hs3) hu
        have hlim := (mn_lt hmo ct.2.1).2 (ct.2.2.2 (by omega))
        rw [ct.2.2.1] at hlim
        have hl10 : (mn mo (cm k (k - 1 - t))).natAbs < 2 ^ (32 * 10) := Nat.lt_of_lt_of_le hlim (Nat.pow_le_pow_right (by decide) (by omega))
        have hv1 := hvt (t + 1) (by omega)
        have hpr2 : (mn mo (cm k (k - 1 - t)) * v.toInt ^ (t + 1)).natAbs ≤ 2 ^ (32 * 10) * 2 ^ 100 := by
          rw [Int.natAbs_mul]
          exact Nat.mul_le_mul (by omega) hv1
        refine ⟨p, [.inl (nI k), .inl (nI (k - t) - 1)], rfl, hp, k, k - 1 - t, by rw [e6], hk, by omega, hP, hp, hp, b, [.inr (.inr (pbg rf p (cm k (k - 1 - t)))), .inr (.inr (pbg rf p 77)), .inr (.inr (pbg rf p 76))], rfl, hb.1, 40, pbg rf p (cm k (k - 1 - t)), pbg rf p 77, pbg rf p 76, 14, 10, 4, 17, evN mo k u.toInt v.toInt t * u.toInt, mn mo (cm k (k - 1 - t)), v.toInt ^ (t + 1), rfl, hb, hsp, hBL, n1, nsp, nb, hz3, hn3, k4, hl10, by omega, by omega, by omega, by omega, by omega, fun I4 k5 k6 => ?_⟩
        refine ⟨k - (t + 1), 0, Or.inl (by omega), t + 1, ?_, rfl, rfl, rfl, by omega, fun x a1 a2 a3 a4 a5 a6 => by rw [k5 x a1 a2 a3 a4, k3 x a5 a6, k1 x a1 a2, hch x a1 a2 a3 a4 a5 a6], k6, k4.other2 hBL hb hsp nb7.symm nsp k5⟩
        rw [e6, show k - 1 - t = k - (t + 1) by omega, Int32.sub_eq_add_neg]
    · cases hc

