/-! ===== the reference: isOther, differs ===== -/
def moH (J : mPJ) : Nat → Int := fun k => (J 541 k).toInt
def moK (J : mPJ) (p : Nat) : Nat → Int := fun k => (J 537 (12 * p + k)).toInt
def pt_misOther : mSH → mRF → mPT := m_pv 5 (fun sh rf d rest I J K => ∃ (p k : Nat) (σ : Nat → Int), sh = shL ∧ rf = rfL ∧ d = 528 ∧ rest = [.inl (nI p), .inl (nI k)] ∧ p < 2 ∧ k ≤ 5 ∧ BM J ∧ (∀ j, j < 12 → (J 541 j).toInt.natAbs ≤ MB) ∧ MS I σ ∧ ∀ I1 J1 σ', MO I I1 → MS I1 σ' → σ' 0 = σ 0 → σ' 1 = σ 1 → (∀ a, a ≠ 532 → J1 a = J a) → (∀ j, j < 12 → J1 532 j = J 537 (12 * p + j)) → (smP (moH J) (moM J) k → K (some (.inl 0)) I1 J1) ∧ (¬ smP (moH J) (moM J) k → K (some (.inl 1)) I1 J1))
def oT (mo : Nat → Int) (k : Nat) (σ' : Nat → Int) : Prop := (∀ j, j ≤ k → σ' (20 + j) = Nm mo k j) ∧ σ' 26 = Dt mo k
def oI (I : mPI) (J : mPJ) (p k : Nat) (σ : Nat → Int) (a9 pc : Nat) (vs : List mPV) (I1 : mPI) (J1 : mPJ) : Prop := ∃ σ', MO I I1 ∧ MS I1 σ' ∧ σ' 0 = σ 0 ∧ σ' 1 = σ 1 ∧ (∀ a, a ≠ 532 → J1 a = J a) ∧ ((pc = 2 ∧ J1 = J ∧ ∃ i, i ≤ k + 1 ∧ a9 = 100 - i ∧ vs = [.inr (.inr 528), .inl (nI p), .inl (nI k), .inl (nI i)] ∧ ∀ j, j < i → σ' (20 + j) = Nm (moM J) k j) ∨ (pc = 32 ∧ ∃ i, i ≤ 12 ∧ a9 = 80 - i ∧ vs = [.inr (.inr 528), .inl (nI p), .inl (nI k), .inl (nI i)] ∧ oT (moM J) k σ' ∧ ∀ j, j < i → J1 532 j = J 541 j) ∨ (pc = 68 ∧ ∃ i f, i ≤ k ∧ a9 = 50 - i ∧ vs = [.inr (.inr 528), .inl (nI p), .inl (nI k), .inl f, .inl (nI i)] ∧ oT (moM J) k σ' ∧ σ' 15 = Dt (moH J) k ∧ (∀ j, j < 12 → J1 532 j = J 541 j) ∧ ((f = 0 ∧ ∀ j, j < i → Nm (moH J) k j * Dt (moM J) k = Nm (moM J) k j * Dt (moH J) k) ∨ (f = 1 ∧ ¬ smP (moH J) (moM J) k))) ∨ (pc = 140 ∧ ∃ i f, i ≤ 12 ∧ a9 = 20 - i ∧ vs = [.inr (.inr 528), .inl (nI p), .inl (nI k), .inl f, .inl (nI i)] ∧ ((f = 0 ∧ smP (moH J) (moM J) k) ∨ (f = 1 ∧ ¬ smP (moH J) (moM J) k)) ∧ ∀ j, j < i → J1 532 j = J 537 (12 * p + j)))
theorem oT.keep {mo : Nat → Int} {k : Nat} {σ σ' : Nat → Int} (h : oT mo k σ) (hk : k ≤ 5) (e : ∀ q, 20 ≤ q → σ' q = σ q) : oT mo k σ' := ⟨fun j hj => by rw [e _ (by omega)]; exact h.1 j hj, by rw [e _ (by omega)]; exact h.2⟩

def ct_X5_isOther (sh : mSH) (rf : mRF) : Nat → Option (Nat × Bool × mPT) := fun k => match k with
  | 204 => some (4, true, pt_mnum sh rf)
  | 187 => some (3, true, pt_mworth sh rf)
  | 84 => some (4, true, pt_mmul sh rf)
  | 164 => some (5, true, pt_madd sh rf)
  | _ => none
set_option maxRecDepth 20000 in
theorem ce_X5_isOther : m_CE RX5 5 125 cX5_isOther 5 ct_X5_isOther := by
  intro p l e s m args below meth c Q D cs ad sh rf N hx hb hml hown hts hK hi hN k n vf pt h
  unfold ct_X5_isOther at h
  split at h
  · cases h
    exact m_CG_V mt_X5_number hx hb hml hown hts hK hi hN (ci := 5) m_pv_rec rfl rfl (m_wck_ok (l := [(Cond.methodLink RX5 204 yX5_number, 920), (Cond.instanceMethod yX5_number, 922), (Cond.selects RX5 yX5_number yX5_number, 44), (Cond.initialized RX5, 62), (Cond.code yX5_number cX5_number 4 none, 923)]) (by decide +kernel)) ⟨rfl, by decide +kernel, by decide +kernel, by decide +kernel⟩ ⟨Nat.le_of_ble_eq_true rfl, Nat.le_of_ble_eq_true rfl⟩
  · cases h
    exact m_CG_V mt_X5_worthOf hx hb hml hown hts hK hi hN (ci := 5) m_pv_rec rfl rfl (m_wck_ok (l := [(Cond.methodLink RX5 187 yX5_worthOf, 892), (Cond.instanceMethod yX5_worthOf, 894), (Cond.selects RX5 yX5_worthOf yX5_worthOf, 39), (Cond.initialized RX5, 62), (Cond.code yX5_worthOf cX5_worthOf 3 none, 895)]) (by decide +kernel)) ⟨rfl, by decide +kernel, by decide +kernel, by decide +kernel⟩ ⟨Nat.le_of_ble_eq_true rfl, Nat.le_of_ble_eq_true rfl⟩
  · cases h
    exact m_CG_V mt_X5_multiply hx hb hml hown hts hK hi hN (ci := 5) m_pv_rec rfl rfl (m_wck_ok (l := [(Cond.methodLink RX5 84 yX5_multiply, 789), (Cond.instanceMethod yX5_multiply, 791), (Cond.selects RX5 yX5_multiply yX5_multiply, 18), (Cond.initialized RX5, 62), (Cond.code yX5_multiply cX5_multiply 11 none, 792)]) (by decide +kernel)) ⟨rfl, by decide +kernel, by decide +kernel, by decide +kernel⟩ ⟨Nat.le_of_ble_eq_true rfl, Nat.le_of_ble_eq_true rfl⟩
  · cases h
    exact m_CG_V mt_X5_add hx hb hml hown hts hK hi hN (ci := 5) m_pv_rec rfl rfl (m_wck_ok (l := [(Cond.methodLink RX5 164 yX5_add, 801), (Cond.instanceMethod yX5_add, 803), (Cond.selects RX5 yX5_add yX5_add, 21), (Cond.initialized RX5, 62), (Cond.code yX5_add cX5_add 8 none, 804)]) (by decide +kernel)) ⟨rfl, by decide +kernel, by decide +kernel, by decide +kernel⟩ ⟨Nat.le_of_ble_eq_true rfl, Nat.le_of_ble_eq_true rfl⟩
  · cases h
set_option maxHeartbeats 4000000 in
set_option maxRecDepth 100000 in
theorem mt_X5_isOther : m_Mt yX5_isOther cX5_isOther 5 (some .boolean) 5 125 pt_misOther := by
  refine m_methodG (fl := fl_X5) (kI := kI_X5) (kJ := kJ_X5) (ct := ct_X5_isOther) (cd := cd_X5_isOther) (cut := [(2, [0, 1, 2, 3]), (32, [0, 1, 2, 3]), (68, [0, 1, 2, 3, 4]), (140, [0, 1, 2, 3, 4])]) (rk := 3) (fu := 120) (by decide +kernel) fl_X5_ok kI_X5_ok kJ_X5_ok ce_X5_isOther rfl ck_X5_isOther ⟨_, _, rfl, rfl⟩ ?_
  intro sh rf As I J K hpt
  obtain ⟨d, rest, rfl, hd, p, k, σ, rfl, rfl, rfl, rfl, hp, hk, hB, hH, hM, hK⟩ := hpt
  refine ⟨Nat.le_of_ble_eq_true rfl, fun a9 b9 pc vs st I1 J1 => st = [] ∧ oI I J p k σ a9 pc vs I1 J1, ?_, ?_⟩
  · exact ⟨100 - 0, 0, rfl, σ, MO.rfl' I, hM, rfl, rfl, fun _ _ => rfl, Or.inl ⟨rfl, rfl, 0, by omega, rfl, rfl, fun j hj => absurd hj (Nat.not_lt_zero j)⟩⟩
  · intro pc ks a9 b9 vs st I1 J1 hc hI
    obtain ⟨rfl, σ', F, M, e0, e1, hj, hI⟩ := hI
    rcases m_cu1 hc with ⟨rfl, rfl⟩ | hc
    · obtain ⟨rfl, i, hi, rfl, rfl, h6⟩ : J1 = J ∧ ∃ i, i ≤ k + 1 ∧ a9 = 100 - i ∧ vs = [.inr (.inr 528), .inl (nI p), .inl (nI k), .inl (nI i)] ∧ ∀ j, j < i → σ' (20 + j) = Nm (moM J) k j := by
        rcases hI with ⟨-, q⟩ | ⟨q, -⟩ | ⟨q, -⟩ | ⟨q, -⟩
        · exact q
        · exact absurd q (by decide)
        · exact absurd q (by decide)
        · exact absurd q (by decide)
      clear hI
      refine ⟨fun h => ?_, fun h => ?_⟩
      · have h : nI k < nI i := h
        rw [nI_ltI (by omega) (by omega)] at h
        obtain rfl : i = k + 1 := by omega
        refine ⟨528, [.inl (nI k), .inl (nI 26)], rfl, rfl, k, 26, σ', rfl, rfl, rfl, rfl, by omega, by decide, by decide, hB, M, fun I2 σ2 F2 M2 k2 e2 => ?_⟩
        exact ⟨80 - 0, 0, Or.inl (by omega), rfl, σ2, F.trans F2, M2, (k2 0 (by decide) (by decide)).trans e0, (k2 1 (by decide) (by decide)).trans e1, hj, Or.inr (Or.inl ⟨rfl, 0, by decide, rfl, rfl, ⟨fun j hj2 => by rw [k2 (20 + j) (by unfold nD; omega) (by omega)]; exact h6 j (by omega), e2⟩, fun j hj => absurd hj (Nat.not_lt_zero j)⟩)⟩
      · have h : ¬ nI k < nI i := h
        rw [nI_ltI (by omega) (by omega)] at h
        refine ⟨528, [.inl (nI k), .inl (nI i), .inl (nI 20 + nI i)], rfl, rfl, k, 20 + i, nI i, σ', rfl, rfl, rfl, by rw [nI_add], hk, by omega, by unfold nD; omega, hB, M, fun I2 σ2 F2 M2 k2 e2 => ?_⟩
        rw [nI_toInt (by omega), if_pos (by omega), show ((i : Nat) : Int).toNat = i by omega] at e2
        refine ⟨100 - (i + 1), 0, Or.inl (by omega), rfl, σ2, F.trans F2, M2, (k2 0 (by decide) (by omega)).trans e0, (k2 1 (by decide) (by omega)).trans e1, hj, Or.inl ⟨rfl, rfl, i + 1, by omega, rfl, by rw [← nI_1 i], fun j hj2 => ?_⟩⟩
        by_cases q : j = i
        · rw [q]
          exact e2
        · rw [k2 (20 + j) (by unfold nD; omega) (by omega)]
          exact h6 j (by omega)
    rcases m_cu1 hc with ⟨rfl, rfl⟩ | hc
    · obtain ⟨i, hi, rfl, rfl, hT, h6⟩ : ∃ i, i ≤ 12 ∧ a9 = 80 - i ∧ vs = [.inr (.inr 528), .inl (nI p), .inl (nI k), .inl (nI i)] ∧ oT (moM J) k σ' ∧ ∀ j, j < i → J1 532 j = J 541 j := by
        rcases hI with ⟨q, -⟩ | ⟨-, q⟩ | ⟨q, -⟩ | ⟨q, -⟩
        · exact absurd q (by decide)
        · exact q
        · exact absurd q (by decide)
        · exact absurd q (by decide)
      clear hI
      refine ⟨fun h => ?_, fun h => ?_⟩
      · have h : nI 11 < nI i := h
        rw [nI_ltI (by omega) (by omega)] at h
        obtain rfl : i = 12 := by omega
        have hB1 : BM J1 := fun j hj2 => by rw [h6 j hj2]; exact hH j hj2
        have hT1 : eqT 11 (moM J1) (moH J) := fun j hj2 => by
          unfold moM moH
          rw [h6 j (by omega)]
        refine ⟨528, [.inl (nI k), .inl (nI 15)], rfl, rfl, k, 15, σ', rfl, rfl, rfl, rfl, by omega, by decide, by decide, hB1, M, fun I2 σ2 F2 M2 k2 e2 => ?_⟩
        rw [Dt_cg hT1 (k := k) (by omega) (by omega)] at e2
        exact ⟨50 - 0, 0, Or.inl (by omega), rfl, σ2, F.trans F2, M2, (k2 0 (by decide) (by decide)).trans e0, (k2 1 (by decide) (by decide)).trans e1, hj, Or.inr (Or.inr (Or.inl ⟨rfl, 0, 0, by omega, rfl, rfl, hT.keep hk (fun q hq => k2 q (by unfold nD; omega) (by omega)), e2, h6, Or.inl ⟨rfl, fun j hj => absurd hj (Nat.not_lt_zero j)⟩⟩))⟩
      · have h : ¬ nI 11 < nI i := h
        rw [nI_ltI (by omega) (by omega)] at h
        have icl : (nI i).toNatClampNeg = i := nI_clamp (by omega)
        refine ⟨rfl, rfl, m_inb_i (n := 12) rfl (vp_in_nI (by omega) (by decide)), jin (by omega), 80 - (i + 1), 0, Or.inl (by omega), rfl, σ', F, M, e0, e1, ?_⟩
        show (∀ a, a ≠ 532 → m_uJ J1 532 (nI i).toNatClampNeg (J1 541 (nI i).toNatClampNeg) a = J a) ∧ (_ ∨ (32 = 32 ∧ ∃ i', i' ≤ 12 ∧ 80 - (i + 1) = 80 - i' ∧ ([.inr (.inr 528), .inl (nI p), .inl (nI k), .inl (nI i + 1)] : List mPV) = [.inr (.inr 528), .inl (nI p), .inl (nI k), .inl (nI i')] ∧ oT (moM J) k σ' ∧ ∀ j, j < i' → m_uJ J1 532 (nI i).toNatClampNeg (J1 541 (nI i).toNatClampNeg) 532 j = J 541 j) ∨ _)
        rw [icl, hj 541 (by decide)]
        refine ⟨fun a ha => by rw [uJ_a _ _ _ ha]; exact hj a ha, Or.inr (Or.inl ⟨rfl, i + 1, by omega, rfl, by rw [← nI_1 i], hT, fun j hj2 => ?_⟩)⟩
        by_cases q : j = i
        · rw [q, uJ_s]
        · rw [uJ_k _ _ _ q]
          exact h6 j (by omega)
    rcases m_cu1 hc with ⟨rfl, rfl⟩ | hc
    · obtain ⟨i, f, hi, rfl, rfl, hT, hD, h6, h7⟩ : ∃ i f, i ≤ k ∧ a9 = 50 - i ∧ vs = [.inr (.inr 528), .inl (nI p), .inl (nI k), .inl f, .inl (nI i)] ∧ oT (moM J) k σ' ∧ σ' 15 = Dt (moH J) k ∧ (∀ j, j < 12 → J1 532 j = J 541 j) ∧ ((f = 0 ∧ ∀ j, j < i → Nm (moH J) k j * Dt (moM J) k = Nm (moM J) k j * Dt (moH J) k) ∨ (f = 1 ∧ ¬ smP (moH J) (moM J) k)) := by
        rcases hI with ⟨q, -⟩ | ⟨q, -⟩ | ⟨-, q⟩ | ⟨q, -⟩
        · exact absurd q (by decide)
        · exact absurd q (by decide)
        · exact q
        · exact absurd q (by decide)
      clear hI
      refine ⟨fun h => ?_, fun h => ⟨fun h2 => ?_, fun h2 => ?_⟩⟩
      · have h : nI k ≤ nI i := h
        rw [nI_leI (by omega) (by omega)] at h
        obtain rfl : i = k := by omega
        exact ⟨20 - 0, 0, Or.inl (by omega), rfl, σ', F, M, e0, e1, hj, Or.inr (Or.inr (Or.inr ⟨rfl, 0, f, by omega, rfl, rfl, h7, fun j hj => absurd hj (Nat.not_lt_zero j)⟩))⟩
      · have h2 : ¬ f = 0 := h2
        rcases h7 with ⟨q, -⟩ | h7
        · exact absurd q h2
        · exact ⟨20 - 0, 0, Or.inl (by omega), rfl, σ', F, M, e0, e1, hj, Or.inr (Or.inr (Or.inr ⟨rfl, 0, f, by omega, rfl, rfl, Or.inr h7, fun j hj => absurd hj (Nat.not_lt_zero j)⟩))⟩
      · have h : ¬ nI k ≤ nI i := h
        rw [nI_leI (by omega) (by omega)] at h
        have h2 : f = 0 := h2
        have h8 : ∀ j, j < i → Nm (moH J) k j * Dt (moM J) k = Nm (moM J) k j * Dt (moH J) k := by
          rcases h7 with h7 | ⟨q, -⟩
          · exact h7.2
          · rw [h2] at q
            exact absurd q (by decide)
        have hB1 : BM J1 := fun j hj2 => by rw [h6 j hj2]; exact hH j hj2
        have hT1 : eqT 11 (moM J1) (moH J) := fun j hj2 => by
          unfold moM moH
          rw [h6 j (by omega)]
        refine ⟨528, [.inl (nI k), .inl (nI i), .inl (nI 12)], rfl, rfl, k, 12, nI i, σ', rfl, rfl, rfl, rfl, hk, by decide, by decide, hB1, M, fun I2 σ2 F2 M2 k2 e2 => ?_⟩
        rw [nI_toInt (by omega), if_pos (by omega), show ((i : Nat) : Int).toNat = i by omega] at e2
        have nb := mNb hB1 (k := k) (i := i) hk (by omega)
        rw [Nm_cg hT1 hk (i := i) (by omega) (by omega)] at e2 nb
        have db := mDb hB (k := k) (by omega)
        have nb2 := mNb hB (k := k) (i := i) hk (by omega)
        have db2 := mDb hB1 (k := k) (by omega)
        rw [Dt_cg hT1 (k := k) (by omega) (by omega)] at db2
        have z12 := M2 12 (by decide)
        rw [e2] at z12
        have z26 := M2 26 (by decide)
        rw [k2 26 (by decide) (by decide), hT.2] at z26
        have zi := M2 (20 + i) (by omega)
        rw [k2 (20 + i) (by unfold nD; omega) (by omega), hT.1 i (by omega)] at zi
        have z15 := M2 15 (by decide)
        rw [k2 15 (by decide) (by decide), hD] at z15
        refine ⟨528, [.inl (nI 12), .inl (nI 26), .inl (nI 2)], rfl, rfl, 12, 26, 2, 16, 16, _, _, rfl, rfl, rfl, rfl, by decide, by decide, by decide, by decide, by decide, z12, z26, nb, db, by decide, fun I3 s3 v3 => ?_⟩
        have M3 := M2.up s3 v3
        refine ⟨528, [.inl (nI 20 + nI i), .inl (nI 15), .inl (nI 3)], rfl, rfl, 20 + i, 15, 3, 16, 16, _, _, rfl, rfl, rfl, by rw [nI_add], by omega, by decide, by decide, by omega, by decide, zi.sf s3 (by omega), z15.sf s3 (by decide), nb2, db2, by decide, fun I4 s4 v4 => ?_⟩
        have M4 := M3.up s4 v4
        have z2 := M4 2 (by decide)
        rw [up_o _ _ (by decide), up_s] at z2
        have z3 := M4 3 (by decide)
        rw [up_s] at z3
        refine ⟨528, [.inl (nI 2), .inl (nI 3), .inl (-1), .inl (nI 2)], rfl, rfl, 2, 3, 2, 32, _, _, -1, rfl, rfl, rfl, rfl, by decide, by decide, by decide, Or.inr rfl, z2, z3, cmul nb db, cmul nb2 db2, by decide, fun I5 s5 v5 => ?_⟩
        have M5 := M4.up s5 v5
        obtain ⟨-, -, -, sg⟩ := v5
        have ev : Nm (moH J) k i * Dt (moM J) k + (-1 : Int32).toInt * (Nm (moM J) k i * Dt (moH J) k) = Nm (moH J) k i * Dt (moM J) k - Nm (moM J) k i * Dt (moH J) k := by
          rw [show (-1 : Int32).toInt = -1 from rfl]
          omega
        rw [ev] at sg
        have FF := (((F.trans F2).trans s3.mo).trans s4.mo).trans s5.mo
        have kk : ∀ q, 20 ≤ q ∨ q = 15 ∨ q = 0 ∨ q = 1 → up (up (up σ2 2 (Nm (moH J) k i * Dt (moM J) k)) 3 (Nm (moM J) k i * Dt (moH J) k)) 2 (Nm (moH J) k i * Dt (moM J) k + (-1 : Int32).toInt * (Nm (moM J) k i * Dt (moH J) k)) q = σ' q := fun q hq => by
          rw [up_o _ _ (by omega), up_o _ _ (by omega), up_o _ _ (by omega)]
          exact k2 q (by unfold nD; omega) (by omega)
        refine ⟨rfl, sin (s := 2) (by decide), fun h5 => ?_, fun h5 => ?_⟩
        · have h5 : I5 531 2 = 0 := h5
          rw [sg, sgI_0] at h5
          refine ⟨50 - (i + 1), 0, Or.inl (by omega), rfl, _, FF, M5, (kk 0 (by omega)).trans e0, (kk 1 (by omega)).trans e1, hj, Or.inr (Or.inr (Or.inl ⟨rfl, i + 1, 0, by omega, rfl, by rw [← nI_1 i], hT.keep hk (fun q hq => kk q (by omega)), (kk 15 (by omega)).trans hD, h6, Or.inl ⟨rfl, fun j hj2 => ?_⟩⟩))⟩
          by_cases q : j = i
          · rw [q]
            omega
          · exact h8 j (by omega)
        · have h5 : ¬ I5 531 2 = 0 := h5
          rw [sg, sgI_0] at h5
          refine ⟨50 - (i + 1), 0, Or.inl (by omega), rfl, _, FF, M5, (kk 0 (by omega)).trans e0, (kk 1 (by omega)).trans e1, hj, Or.inr (Or.inr (Or.inl ⟨rfl, i + 1, 1, by omega, rfl, by rw [← nI_1 i], hT.keep hk (fun q hq => kk q (by omega)), (kk 15 (by omega)).trans hD, h6, Or.inr ⟨rfl, fun q => ?_⟩⟩))⟩
          have := q i (by omega)
          omega
    rcases m_cu1 hc with ⟨rfl, rfl⟩ | hc
    · obtain ⟨i, f, hi, rfl, rfl, h7, h6⟩ : ∃ i f, i ≤ 12 ∧ a9 = 20 - i ∧ vs = [.inr (.inr 528), .inl (nI p), .inl (nI k), .inl f, .inl (nI i)] ∧ ((f = 0 ∧ smP (moH J) (moM J) k) ∨ (f = 1 ∧ ¬ smP (moH J) (moM J) k)) ∧ ∀ j, j < i → J1 532 j = J 537 (12 * p + j) := by
        rcases hI with ⟨q, -⟩ | ⟨q, -⟩ | ⟨q, -⟩ | ⟨-, q⟩
        · exact absurd q (by decide)
        · exact absurd q (by decide)
        · exact absurd q (by decide)
        · exact q
      clear hI
      refine ⟨fun h => ?_, fun h => ?_⟩
      · have h : nI 11 < nI i := h
        rw [nI_ltI (by omega) (by omega)] at h
        have kk := hK I1 J1 σ' F M e0 e1 hj (fun j hj2 => h6 j (by omega))
        rcases h7 with ⟨rfl, q⟩ | ⟨rfl, q⟩
        · exact ⟨Or.inl rfl, kk.1 q⟩
        · exact ⟨Or.inr rfl, kk.2 q⟩
      · have h : ¬ nI 11 < nI i := h
        rw [nI_ltI (by omega) (by omega)] at h
        have icl : (nI i).toNatClampNeg = i := nI_clamp (by omega)
        have hin : m_inb shL 537 1 ((12 : Int32) * nI p + nI i) := by
          rw [m12]
          exact m_inb_i (n := 24) rfl (vp_in_nI (by omega) (by decide))
        have ecl : ((12 : Int32) * nI p + nI i).toNatClampNeg = 12 * p + i := by
          rw [m12]
          exact nI_clamp (by omega)
        refine ⟨rfl, rfl, hin, jin (by omega), 20 - (i + 1), 0, Or.inl (by omega), rfl, σ', F, M, e0, e1, ?_⟩
        show (∀ a, a ≠ 532 → m_uJ J1 532 (nI i).toNatClampNeg (J1 537 ((12 : Int32) * nI p + nI i).toNatClampNeg) a = J a) ∧ (_ ∨ _ ∨ _ ∨ (140 = 140 ∧ ∃ i' f', i' ≤ 12 ∧ 20 - (i + 1) = 20 - i' ∧ ([.inr (.inr 528), .inl (nI p), .inl (nI k), .inl f, .inl (nI i + 1)] : List mPV) = [.inr (.inr 528), .inl (nI p), .inl (nI k), .inl f', .inl (nI i')] ∧ ((f' = 0 ∧ smP (moH J) (moM J) k) ∨ (f' = 1 ∧ ¬ smP (moH J) (moM J) k)) ∧ ∀ j, j < i' → m_uJ J1 532 (nI i).toNatClampNeg (J1 537 ((12 : Int32) * nI p + nI i).toNatClampNeg) 532 j = J 537 (12 * p + j)))
        rw [icl, ecl, hj 537 (by decide)]
        refine ⟨fun a ha => by rw [uJ_a _ _ _ ha]; exact hj a ha, Or.inr (Or.inr (Or.inr ⟨rfl, i + 1, f, by omega, rfl, by rw [← nI_1 i], h7, fun j hj2 => ?_⟩))⟩
        by_cases q : j = i
        · rw [q, uJ_s]
        · rw [uJ_k _ _ _ q]
          exact h6 j (by omega)
    · cases hc

def pt_mdiffers : mSH → mRF → mPT := m_pv 5 (fun sh rf d rest I J K => ∃ (pl : Int32) (l : Nat) (σ : Nat → Int), sh = shL ∧ rf = rfL ∧ d = 528 ∧ rest = [.inl pl] ∧ I 528 5 = nI l ∧ l ≤ 11 ∧ BM J ∧ MS I σ ∧ (¬ isKM I pl → K (some (.inl (-1))) I J) ∧ ∀ p, p < 2 → pl = nI p → isKM I pl → ∃ l2, I 540 (5 * p + 2) = nI l2 ∧ l2 ≤ 11 ∧ (∀ k, k < 12 → (J 537 (12 * p + k)).toInt.natAbs ≤ MB) ∧ ∀ I1 J1 σ', MO I I1 → MS I1 σ' → σ' 0 = σ 0 → σ' 1 = σ 1 → (∀ a, a ≠ 532 → a ≠ 541 → J1 a = J a) → (∀ k, k < 12 → J1 532 k = J 532 k) → K (some (.inl (dfR (moM J) (moK J p) (tpf (moM J) l) (tpf (moK J p) l2) 5 1))) I1 J1)
def dR (t1 t2 : Nat) (R f : Int32) : Prop := (f = R ∧ 0 ≤ R) ∨ (f = -6 ∧ (t1 = t2 → R = -6) ∧ (t1 < t2 → R = nI (t1 + 1)) ∧ (t2 < t1 → R = nI (t2 + 1)))
def dI (I : mPI) (J : mPJ) (p l l2 t1 t2 : Nat) (m1 m2 : Nat → Int) (R : Int32) (σ : Nat → Int) (a9 pc : Nat) (vs : List mPV) (I1 : mPI) (J1 : mPJ) : Prop := ∃ σ', MS I1 σ' ∧ σ' 0 = σ 0 ∧ σ' 1 = σ 1 ∧ (∀ a, a ≠ 532 → a ≠ 541 → J1 a = J a) ∧ ((pc = 23 ∧ MO I I1 ∧ J1 532 = J 532 ∧ ∃ k, k ≤ 12 ∧ a9 = 100 - k ∧ vs = [.inr (.inr 528), .inl (nI p), .inl (nI t1), .inl (nI l), .inl (nI k)] ∧ ∀ j, j < k → J1 541 j = J 532 j) ∨ ((∀ j, j < 12 → J1 541 j = J 532 j) ∧ MO (m_uI I 528 5 (nI l2)) I1 ∧ ((pc = 68 ∧ (∀ j, j < 12 → J1 532 j = J 537 (12 * p + j)) ∧ ∃ k f, 1 ≤ k ∧ k ≤ t1 + 1 ∧ k ≤ t2 + 1 ∧ a9 = 50 - k ∧ vs = [.inr (.inr 528), .inl (nI p), .inl (nI t1), .inl (nI l), .inl f, .inl (nI t2), .inl (nI k)] ∧ ((f = -6 ∧ dfR m1 m2 t1 t2 (6 - k) k = R) ∨ (f = R ∧ 0 ≤ R))) ∨ (pc = 111 ∧ (∀ j, j < 12 → J1 532 j = J 537 (12 * p + j)) ∧ a9 = 30 ∧ ∃ f, vs = [.inr (.inr 528), .inl (nI p), .inl (nI t1), .inl (nI l), .inl f, .inl (nI t2)] ∧ dR t1 t2 R f) ∨ (pc = 143 ∧ ∃ k, k ≤ 12 ∧ a9 = 20 - k ∧ vs = [.inr (.inr 528), .inl (nI l), .inl R, .inl (nI k)] ∧ ∀ j, j < k → J1 532 j = J 532 j))))
theorem dR_exit {m1 m2 : Nat → Int} {t1 t2 k : Nat} {R : Int32} (h1 : t1 ≤ 5) (h2 : t2 ≤ 5) (k1 : k ≤ t1 + 1) (k2 : k ≤ t2 + 1) (h : dfR m1 m2 t1 t2 (6 - k) k = R) (q : t1 < k ∨ t2 < k) : dR t1 t2 R (-6) := by
  refine Or.inr ⟨rfl, ?_⟩
  rcases (show k = 6 ∨ k ≤ 5 by omega) with r | r
  · subst r
    have e : R = -6 := by
      rw [← h]
      rfl
    exact ⟨fun _ => e, fun z => by omega, fun z => by omega⟩
  · rw [show 6 - k = (5 - k) + 1 by omega, dfR] at h
    refine ⟨fun z => ?_, fun z => ?_, fun z => ?_⟩
    · rw [if_pos (by omega)] at h
      exact h.symm
    · rw [if_neg (by omega), if_pos (Or.inl (by omega))] at h
      rw [← h, show k = t1 + 1 by omega]
    · rw [if_neg (by omega), if_pos (Or.inr (Or.inl (by omega)))] at h
      rw [← h, show k = t2 + 1 by omega]

def ct_X5_differs (sh : mSH) (rf : mRF) : Nat → Option (Nat × Bool × mPT) := fun k => match k with
  | 251 => some (2, true, pt_misKept sh rf)
  | 192 => some (1, true, pt_mtop sh rf)
  | 254 => some (2, true, pt_mtake sh rf)
  | 257 => some (3, true, pt_misOther sh rf)
  | _ => none
set_option maxRecDepth 20000 in
theorem ce_X5_differs : m_CE RX5 6 149 cX5_differs 7 ct_X5_differs := by
  intro p l e s m args below meth c Q D cs ad sh rf N hx hb hml hown hts hK hi hN k n vf pt h
  unfold ct_X5_differs at h
  split at h
  · cases h
    exact m_CG_V mt_X5_isKept hx hb hml hown hts hK hi hN (ci := 5) m_pv_rec rfl rfl (m_wck_ok (l := [(Cond.methodLink RX5 251 yX5_isKept, 1028), (Cond.instanceMethod yX5_isKept, 1030), (Cond.selects RX5 yX5_isKept yX5_isKept, 51), (Cond.initialized RX5, 62), (Cond.code yX5_isKept cX5_isKept 2 (some .boolean), 1031)]) (by decide +kernel)) ⟨rfl, by decide +kernel, by decide +kernel, by decide +kernel⟩ ⟨Nat.le_of_ble_eq_true rfl, Nat.le_of_ble_eq_true rfl⟩
  · cases h
    exact m_CG_V mt_X5_top hx hb hml hown hts hK hi hN (ci := 5) m_pv_rec rfl rfl (m_wck_ok (l := [(Cond.methodLink RX5 192 yX5_top, 888), (Cond.instanceMethod yX5_top, 890), (Cond.selects RX5 yX5_top yX5_top, 38), (Cond.initialized RX5, 62), (Cond.code yX5_top cX5_top 3 (some .int), 891)]) (by decide +kernel)) ⟨rfl, by decide +kernel, by decide +kernel, by decide +kernel⟩ ⟨Nat.le_of_ble_eq_true rfl, Nat.le_of_ble_eq_true rfl⟩
  · cases h
    exact m_CG_V mt_X5_take hx hb hml hown hts hK hi hN (ci := 5) m_pv_rec rfl rfl (m_wck_ok (l := [(Cond.methodLink RX5 254 yX5_take, 1032), (Cond.instanceMethod yX5_take, 1034), (Cond.selects RX5 yX5_take yX5_take, 52), (Cond.initialized RX5, 62), (Cond.code yX5_take cX5_take 3 none, 1035)]) (by decide +kernel)) ⟨rfl, by decide +kernel, by decide +kernel, by decide +kernel⟩ ⟨Nat.le_of_ble_eq_true rfl, Nat.le_of_ble_eq_true rfl⟩
  · cases h
    exact m_CG_V mt_X5_isOther hx hb hml hown hts hK hi hN (ci := 5) m_pv_rec rfl rfl (m_wck_ok (l := [(Cond.methodLink RX5 257 yX5_isOther, 1040), (Cond.instanceMethod yX5_isOther, 1042), (Cond.selects RX5 yX5_isOther yX5_isOther, 53), (Cond.initialized RX5, 62), (Cond.code yX5_isOther cX5_isOther 5 (some .boolean), 1043)]) (by decide +kernel)) ⟨rfl, by decide +kernel, by decide +kernel, by decide +kernel⟩ ⟨Nat.le_of_ble_eq_true rfl, Nat.le_of_ble_eq_true rfl⟩
  · cases h
set_option maxHeartbeats 4000000 in
set_option maxRecDepth 100000 in
theorem mt_X5_differs : m_Mt yX5_differs cX5_differs 7 (some .int) 6 149 pt_mdiffers := by
  refine m_methodG (fl := fl_X5) (kI := kI_X5) (kJ := kJ_X5) (ct := ct_X5_differs) (cd := cd_X5_differs) (cut := [(23, [0, 1, 2, 3, 4]), (68, [0, 1, 2, 3, 4, 5, 6]), (111, [0, 1, 2, 3, 4, 5]), (143, [0, 3, 4, 6])]) (rk := 1) (fu := 120) (by decide +kernel) fl_X5_ok kI_X5_ok kJ_X5_ok ce_X5_differs rfl ck_X5_differs ⟨_, _, rfl, rfl⟩ ?_
  intro sh rf As I J K hpt
  obtain ⟨d, rest, rfl, hd, pl, l, σ, rfl, rfl, rfl, rfl, h5, hl, hB, hM, hN, hK⟩ := hpt
  by_cases hkm : isKM I pl
  · obtain ⟨p, hp, ep⟩ : ∃ p : Nat, p < 2 ∧ pl = nI p := by
      rcases hkm with ⟨q, -⟩ | ⟨q, -⟩
      · exact ⟨0, by decide, q⟩
      · exact ⟨1, by decide, q⟩
    obtain ⟨l2, hl2, hl2b, hBk, hK2⟩ := hK p hp ep hkm
    clear hN hK
    subst ep
    obtain ⟨t1, et1⟩ : ∃ t1, t1 = tpf (moM J) l := ⟨_, rfl⟩
    obtain ⟨t2, et2⟩ : ∃ t2, t2 = tpf (moK J p) l2 := ⟨_, rfl⟩
    have ht1 : t1 ≤ 5 ∧ 2 * t1 ≤ l + 1 := by rw [et1]; exact tpf_le _ _
    have ht2 : t2 ≤ 5 ∧ 2 * t2 ≤ l2 + 1 := by rw [et2]; exact tpf_le _ _
    obtain ⟨R, eR⟩ : ∃ R, R = dfR (moM J) (moK J p) t1 t2 5 1 := ⟨_, rfl⟩
    rw [← et1, ← et2, ← eR] at hK2
    refine ⟨Nat.le_of_ble_eq_true rfl, fun a9 b9 pc vs st I1 J1 => st = [] ∧ dI I J p l l2 t1 t2 (moM J) (moK J p) R σ a9 pc vs I1 J1, ?_, ?_⟩
    · refine ⟨528, [.inl (nI p)], rfl, rfl, nI p, rfl, rfl, rfl, rfl, ?_⟩
      rw [if_pos hkm]
      refine ⟨fun _ => ⟨528, [], rfl, rfl, l, σ, rfl, rfl, rfl, rfl, h5, hl, hB, hM, fun I2 σ2 F2 M2 k2 => ⟨rfl, 100 - 0, 0, rfl, σ2, M2, k2 0 (by decide) (by decide), k2 1 (by decide) (by decide), fun _ _ _ => rfl, Or.inl ⟨rfl, F2, rfl, 0, by decide, rfl, ?_, fun j hj => absurd hj (Nat.not_lt_zero j)⟩⟩⟩, fun h => absurd h (by decide)⟩
      show ([.inr (.inr 528), .inl (nI p), .inl (nI (tpf (moM J) l)), .inl (I2 528 5), .inl (nI 0)] : List mPV) = _
      rw [F2 528 (by decide) (by decide) (by decide) (by decide), h5, et1]
    · intro pc ks a9 b9 vs st I1 J1 hc hI
      obtain ⟨rfl, σ', M, e0, e1, hj, hI⟩ := hI
      rcases m_cu1 hc with ⟨rfl, rfl⟩ | hc
      · obtain ⟨F, hj2, k, hk, rfl, rfl, h6⟩ : MO I I1 ∧ J1 532 = J 532 ∧ ∃ k, k ≤ 12 ∧ a9 = 100 - k ∧ vs = [.inr (.inr 528), .inl (nI p), .inl (nI t1), .inl (nI l), .inl (nI k)] ∧ ∀ j, j < k → J1 541 j = J 532 j := by
          rcases hI with ⟨-, q⟩ | ⟨-, -, q⟩
          · exact q
          · rcases q with ⟨q, -⟩ | ⟨q, -⟩ | ⟨q, -⟩ <;> exact absurd q (by decide)
        clear hI
        refine ⟨fun h => ?_, fun h => ?_⟩
        · have h : nI 11 < nI k := h
          rw [nI_ltI (by omega) (by omega)] at h
          obtain rfl : k = 12 := by omega
          have r40 : I1 540 = I 540 := F 540 (by decide) (by decide) (by decide) (by decide)
          refine ⟨528, [.inl (nI p)], rfl, rfl, p, rfl, rfl, rfl, rfl, hp, fun J2 a1 a2 => ?_⟩
          have b2 : ∀ j, j < 12 → J2 532 j = J 537 (12 * p + j) := fun j q => by rw [a2 j q, hj 537 (by decide) (by decide)]
          have hB2 : BM J2 := fun j q => by rw [b2 j q]; exact hBk j q
          have hT2 : eqT l2 (moM J2) (moK J p) := fun j q => by
            unfold moM moK
            rw [b2 j (by omega)]
          have e5 : m_uI I1 528 5 (I1 540 (5 * p + 2)) 528 5 = nI l2 := by
            rw [uI_s, r40]
            exact hl2
          have M1 : MS (m_uI I1 528 5 (I1 540 (5 * p + 2))) σ' := M.cg (uI_a _ _ _ (by decide)) (uI_a _ _ _ (by decide)) (uI_a _ _ _ (by decide))
          have F1 : MO (m_uI I 528 5 (nI l2)) (m_uI I1 528 5 (I1 540 (5 * p + 2))) := fun a q1 q2 q3 q4 => by
            rw [r40, hl2]
            by_cases q : a = 528
            · subst q
              funext b
              unfold m_uI
              rw [F 528 (by decide) (by decide) (by decide) (by decide)]
            · rw [uI_a _ _ _ q, uI_a _ _ _ q]
              exact F a q1 q2 q3 q4
          refine ⟨528, [], rfl, rfl, l2, σ', rfl, rfl, rfl, rfl, e5, hl2b, hB2, M1, fun I3 σ3 F3 M3 k3 => ?_⟩
          refine ⟨50 - 1, 0, Or.inl (by omega), rfl, σ3, M3, (k3 0 (by decide) (by decide)).trans e0, (k3 1 (by decide) (by decide)).trans e1, fun a q1 q2 => by rw [a1 a q1]; exact hj a q1 q2, Or.inr ⟨fun j q => by rw [a1 541 (by decide)]; exact h6 j q, F1.trans F3, Or.inl ⟨rfl, b2, 1, -6, by decide, by omega, by omega, rfl, ?_, Or.inl ⟨rfl, eR.symm⟩⟩⟩⟩
          rw [et2, ← tpf_cg hT2]
          rfl
        · have h : ¬ nI 11 < nI k := h
          rw [nI_ltI (by omega) (by omega)] at h
          have kcl : (nI k).toNatClampNeg = k := nI_clamp (by omega)
          refine ⟨rfl, rfl, jin (by omega), m_inb_i (n := 12) rfl (vp_in_nI (by omega) (by decide)), 100 - (k + 1), 0, Or.inl (by omega), rfl, σ', M, e0, e1, ?_⟩
          show (∀ a, a ≠ 532 → a ≠ 541 → m_uJ J1 541 (nI k).toNatClampNeg (J1 532 (nI k).toNatClampNeg) a = J a) ∧ ((23 = 23 ∧ MO I I1 ∧ m_uJ J1 541 (nI k).toNatClampNeg (J1 532 (nI k).toNatClampNeg) 532 = J 532 ∧ ∃ k', k' ≤ 12 ∧ 100 - (k + 1) = 100 - k' ∧ ([.inr (.inr 528), .inl (nI p), .inl (nI t1), .inl (nI l), .inl (nI k + 1)] : List mPV) = [.inr (.inr 528), .inl (nI p), .inl (nI t1), .inl (nI l), .inl (nI k')] ∧ ∀ j, j < k' → m_uJ J1 541 (nI k).toNatClampNeg (J1 532 (nI k).toNatClampNeg) 541 j = J 532 j) ∨ _)
          rw [kcl, hj2]
          refine ⟨fun a q1 q2 => by rw [uJ_a _ _ _ q2]; exact hj a q1 q2, Or.inl ⟨rfl, F, by rw [uJ_a _ _ _ (by decide)]; exact hj2, k + 1, by omega, rfl, by rw [← nI_1 k], fun j q => ?_⟩⟩
          by_cases r : j = k
          · rw [r, uJ_s]
          · rw [uJ_k _ _ _ r]
            exact h6 j (by omega)
      rcases m_cu1 hc with ⟨rfl, rfl⟩ | hc
      · obtain ⟨h6, F, h7, k, f, hk1, hk2, hk3, rfl, rfl, h8⟩ : (∀ j, j < 12 → J1 541 j = J 532 j) ∧ MO (m_uI I 528 5 (nI l2)) I1 ∧ (∀ j, j < 12 → J1 532 j = J 537 (12 * p + j)) ∧ ∃ k f, 1 ≤ k ∧ k ≤ t1 + 1 ∧ k ≤ t2 + 1 ∧ a9 = 50 - k ∧ vs = [.inr (.inr 528), .inl (nI p), .inl (nI t1), .inl (nI l), .inl f, .inl (nI t2), .inl (nI k)] ∧ ((f = -6 ∧ dfR (moM J) (moK J p) t1 t2 (6 - k) k = R) ∨ (f = R ∧ 0 ≤ R)) := by
          rcases hI with ⟨q, -⟩ | ⟨h6, F, q⟩
          · exact absurd q (by decide)
          · rcases q with ⟨-, q⟩ | ⟨q, -⟩ | ⟨q, -⟩
            · exact ⟨h6, F, q⟩
            · exact absurd q (by decide)
            · exact absurd q (by decide)
        clear hI
        have out : (t1 < k ∨ t2 < k ∨ 0 ≤ f) → ∃ a1 b1, (a1 < 50 - k ∨ a1 = 50 - k ∧ b1 < b9) ∧ ([] : List mPV) = [] ∧ dI I J p l l2 t1 t2 (moM J) (moK J p) R σ a1 111 [.inr (.inr 528), .inl (nI p), .inl (nI t1), .inl (nI l), .inl f, .inl (nI t2)] I1 J1 := fun q => by
          refine ⟨30, 0, Or.inl (by omega), rfl, σ', M, e0, e1, hj, Or.inr ⟨h6, F, Or.inr (Or.inl ⟨rfl, h7, rfl, f, rfl, ?_⟩)⟩⟩
          rcases h8 with ⟨rfl, r⟩ | r
          · refine dR_exit ht1.1 ht2.1 hk2 hk3 r ?_
            rcases q with q | q | q
            · exact Or.inl q
            · exact Or.inr q
            · exact absurd q (by decide)
          · exact Or.inl r
        refine ⟨fun h => ?_, fun h => ⟨fun h2 => ?_, fun h2 => ⟨fun h3 => ?_, fun h3 => ?_⟩⟩⟩
        · have h : nI t1 < nI k := h
          rw [nI_ltI (by omega) (by omega)] at h
          exact out (Or.inl h)
        · have h2 : nI t2 < nI k := h2
          rw [nI_ltI (by omega) (by omega)] at h2
          exact out (Or.inr (Or.inl h2))
        · exact out (Or.inr (Or.inr h3))
        · have h : ¬ nI t1 < nI k := h
          rw [nI_ltI (by omega) (by omega)] at h
          have h2 : ¬ nI t2 < nI k := h2
          rw [nI_ltI (by omega) (by omega)] at h2
          have h3 : ¬ 0 ≤ f := h3
          have hf : f = -6 ∧ dfR (moM J) (moK J p) t1 t2 (6 - k) k = R := by
            rcases h8 with q | ⟨q, r⟩
            · exact q
            · rw [q] at h3
              exact absurd r h3
          obtain ⟨rfl, hr⟩ := hf
          rw [show 6 - k = (5 - k) + 1 by omega, dfR, if_neg (by omega)] at hr
          have hB1 : BM J1 := fun j q => by rw [h7 j q]; exact hBk j q
          have hH1 : ∀ j, j < 12 → (J1 541 j).toInt.natAbs ≤ MB := fun j q => by rw [h6 j q]; exact hB j q
          have c1 : eqT 11 (moH J1) (moM J) := fun j q => by
            unfold moH moM
            rw [h6 j (by omega)]
          have c2 : eqT 11 (moM J1) (moK J p) := fun j q => by
            unfold moK moM
            rw [h7 j (by omega)]
          have hsm := smP_cg c1 c2 (k := k) (by omega) (by omega) (by omega)
          refine ⟨528, [.inl (nI p), .inl (nI k)], rfl, rfl, p, k, σ', rfl, rfl, rfl, rfl, hp, by omega, hB1, hH1, M, fun I2 J2 σ2 F2 M2 g0 g1 b1 b2 => ⟨fun hs => ⟨fun _ => ?_, fun q => absurd rfl q⟩, fun hs => ⟨fun q => absurd q (by decide), fun _ => ?_⟩⟩⟩
          · have hs := hsm.mp hs
            rw [if_neg (fun z => by rcases z with z | z | z; exact absurd z h; exact absurd z h2; exact z hs)] at hr
            exact ⟨50 - (k + 1), 0, Or.inl (by omega), rfl, σ2, M2, g0.trans e0, g1.trans e1, fun a q1 q2 => by rw [b1 a q1]; exact hj a q1 q2, Or.inr ⟨fun j q => by rw [b1 541 (by decide)]; exact h6 j q, F.trans F2, Or.inl ⟨rfl, fun j q => by rw [b2 j q, hj 537 (by decide) (by decide)], k + 1, -6, by omega, by omega, by omega, rfl, by rw [← nI_1 k], Or.inl ⟨rfl, by rw [show 6 - (k + 1) = 5 - k by omega]; exact hr⟩⟩⟩⟩
          · have hs := mt hsm.mpr hs
            rw [if_pos (Or.inr (Or.inr hs))] at hr
            exact ⟨50 - (k + 1), 0, Or.inl (by omega), rfl, σ2, M2, g0.trans e0, g1.trans e1, fun a q1 q2 => by rw [b1 a q1]; exact hj a q1 q2, Or.inr ⟨fun j q => by rw [b1 541 (by decide)]; exact h6 j q, F.trans F2, Or.inl ⟨rfl, fun j q => by rw [b2 j q, hj 537 (by decide) (by decide)], k + 1, nI k, by omega, by omega, by omega, rfl, by rw [← nI_1 k], Or.inr ⟨hr, by rw [← hr]; exact nI_pos' (by omega)⟩⟩⟩⟩
      rcases m_cu1 hc with ⟨rfl, rfl⟩ | hc
      · obtain ⟨h6, F, h7, rfl, f, rfl, h8⟩ : (∀ j, j < 12 → J1 541 j = J 532 j) ∧ MO (m_uI I 528 5 (nI l2)) I1 ∧ (∀ j, j < 12 → J1 532 j = J 537 (12 * p + j)) ∧ a9 = 30 ∧ ∃ f, vs = [.inr (.inr 528), .inl (nI p), .inl (nI t1), .inl (nI l), .inl f, .inl (nI t2)] ∧ dR t1 t2 R f := by
          rcases hI with ⟨q, -⟩ | ⟨h6, F, q⟩
          · exact absurd q (by decide)
          · rcases q with ⟨q, -⟩ | ⟨-, q⟩ | ⟨q, -⟩
            · exact absurd q (by decide)
            · exact ⟨h6, F, q⟩
            · exact absurd q (by decide)
        clear hI
        have fin : ∀ v, v = R → ∃ a1 b1, (a1 < 30 ∨ a1 = 30 ∧ b1 < b9) ∧ ([] : List mPV) = [] ∧ dI I J p l l2 t1 t2 (moM J) (moK J p) R σ a1 143 [.inr (.inr 528), .inl (nI l), .inl v, .inl (nI 0)] I1 J1 := fun v hv => by
          subst hv
          exact ⟨20 - 0, 0, Or.inl (by omega), rfl, σ', M, e0, e1, hj, Or.inr ⟨h6, F, Or.inr (Or.inr ⟨rfl, 0, by decide, rfl, rfl, fun j hj => absurd hj (Nat.not_lt_zero j)⟩)⟩⟩
        rcases h8 with ⟨rfl, hR0⟩ | ⟨rfl, r1, r2, r3⟩
        · exact ⟨fun _ => fin f rfl, fun q => absurd hR0 q⟩
        · refine ⟨fun q => absurd q (by decide), fun _ => ⟨fun h => ?_, fun h => ⟨fun h2 => ?_, fun h2 => ?_⟩⟩⟩
          · have h : nI t1 = nI t2 := h
            rw [nI_eq (by omega) (by omega)] at h
            exact fin _ (r1 h).symm
          · have h : ¬ nI t1 = nI t2 := h
            rw [nI_eq (by omega) (by omega)] at h
            have h2 : nI t2 ≤ nI t1 := h2
            rw [nI_leI (by omega) (by omega)] at h2
            exact fin (nI t2 + 1) (by rw [r3 (by omega), nI_1])
          · have h2 : ¬ nI t2 ≤ nI t1 := h2
            rw [nI_leI (by omega) (by omega)] at h2
            exact fin (nI t1 + 1) (by rw [r2 (by omega), nI_1])
      rcases m_cu1 hc with ⟨rfl, rfl⟩ | hc
      · obtain ⟨h6, F, k, hk, rfl, rfl, h8⟩ : (∀ j, j < 12 → J1 541 j = J 532 j) ∧ MO (m_uI I 528 5 (nI l2)) I1 ∧ ∃ k, k ≤ 12 ∧ a9 = 20 - k ∧ vs = [.inr (.inr 528), .inl (nI l), .inl R, .inl (nI k)] ∧ ∀ j, j < k → J1 532 j = J 532 j := by
          rcases hI with ⟨q, -⟩ | ⟨h6, F, q⟩
          · exact absurd q (by decide)
          · rcases q with ⟨q, -⟩ | ⟨q, -⟩ | ⟨-, q⟩
            · exact absurd q (by decide)
            · exact absurd q (by decide)
            · exact ⟨h6, F, q⟩
        clear hI
        refine ⟨fun h => ?_, fun h => ?_⟩
        · have h : nI 11 < nI k := h
          rw [nI_ltI (by omega) (by omega)] at h
          refine ⟨rfl, hK2 (m_uI I1 528 5 (nI l)) J1 σ' (fun a q1 q2 q3 q4 => ?_) (M.cg (uI_a _ _ _ (by decide)) (uI_a _ _ _ (by decide)) (uI_a _ _ _ (by decide))) e0 e1 hj (fun j q => h8 j (by omega))⟩
          have Fa := F a q1 q2 q3 q4
          by_cases q : a = 528
          · subst q
            funext b
            have Fb := congrFun Fa b
            unfold m_uI at Fb ⊢
            by_cases r : b = 5
            · rw [if_pos ⟨rfl, r⟩, r, h5]
            · rw [if_neg (fun z => r z.2)] at Fb ⊢
              exact Fb
          · rw [uI_a _ _ _ q]
            rw [uI_a _ _ _ q] at Fa
            exact Fa
        · have h : ¬ nI 11 < nI k := h
          rw [nI_ltI (by omega) (by omega)] at h
          have kcl : (nI k).toNatClampNeg = k := nI_clamp (by omega)
          refine ⟨rfl, rfl, m_inb_i (n := 12) rfl (vp_in_nI (by omega) (by decide)), jin (by omega), 20 - (k + 1), 0, Or.inl (by omega), rfl, σ', M, e0, e1, ?_⟩
          show (∀ a, a ≠ 532 → a ≠ 541 → m_uJ J1 532 (nI k).toNatClampNeg (J1 541 (nI k).toNatClampNeg) a = J a) ∧ (_ ∨ ((∀ j, j < 12 → m_uJ J1 532 (nI k).toNatClampNeg (J1 541 (nI k).toNatClampNeg) 541 j = J 532 j) ∧ MO (m_uI I 528 5 (nI l2)) I1 ∧ (_ ∨ _ ∨ (143 = 143 ∧ ∃ k', k' ≤ 12 ∧ 20 - (k + 1) = 20 - k' ∧ ([.inr (.inr 528), .inl (nI l), .inl R, .inl (nI k + 1)] : List mPV) = [.inr (.inr 528), .inl (nI l), .inl R, .inl (nI k')] ∧ ∀ j, j < k' → m_uJ J1 532 (nI k).toNatClampNeg (J1 541 (nI k).toNatClampNeg) 532 j = J 532 j))))
          rw [kcl, h6 k (by omega)]
          refine ⟨fun a q1 q2 => by rw [uJ_a _ _ _ q1]; exact hj a q1 q2, Or.inr ⟨fun j q => by rw [uJ_a _ _ _ (by decide)]; exact h6 j q, F, Or.inr (Or.inr ⟨rfl, k + 1, by omega, rfl, by rw [← nI_1 k], fun j q => ?_⟩)⟩⟩
          by_cases r : j = k
          · rw [r, uJ_s]
          · rw [uJ_k _ _ _ r]
            exact h8 j (by omega)
      · cases hc
  · refine ⟨Nat.le_of_ble_eq_true rfl, fun _ _ _ _ _ _ _ => False, ?_, fun pc ks a b vs st I1 J1 _ h => h.elim⟩
    refine ⟨528, [.inl pl], rfl, rfl, pl, rfl, rfl, rfl, rfl, ?_⟩
    rw [if_neg hkm]
    exact ⟨fun h => absurd rfl h, fun _ => hN hkm⟩

