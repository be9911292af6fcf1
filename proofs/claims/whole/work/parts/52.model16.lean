/-! ===== the reference: moment, isKept, take ===== -/

def ct_X5_moment (sh : mSH) (rf : mRF) : Nat → Option (Nat × Bool × mPT) := fun k => match k with
  | 134 => some (3, false, pt_in sh rf)
  | _ => none
set_option maxRecDepth 20000 in
theorem ce_X5_moment : m_CE RX5 1 25 cX5_moment 5 ct_X5_moment := by
  intro p l e s m args below meth c Q D cs ad sh rf N hx hb hml hown hts hK hi hN k n vf pt h
  unfold ct_X5_moment at h
  split at h
  · cases h
    exact m_CG_S mt_X5_in hx hb hml hown hts hK hi hN (m_wck_ok (l := [(Cond.methodLink RX5 134 yX5_in, 748), (Cond.static yX5_in, 749), (Cond.initialized RX5, 62), (Cond.code yX5_in cX5_in 6 (some .boolean), 750)]) (by decide +kernel)) ⟨by decide +kernel, by decide +kernel, by decide +kernel⟩ ⟨Nat.le_of_ble_eq_true rfl, Nat.le_of_ble_eq_true rfl⟩
  · cases h
set_option maxHeartbeats 4000000 in
set_option maxRecDepth 100000 in
theorem mt_X5_moment : m_Mt yX5_moment cX5_moment 5 (some .int) 1 25 pt_mmoment := by
  refine m_methodG (fl := fl_X5) (kI := kI_X5) (kJ := kJ_X5) (ct := ct_X5_moment) (cd := cd_X5_moment) (cut := [(63, [0, 1, 2]), (81, [0, 1, 2, 3, 4])]) (rk := 1) (fu := 80) (by decide +kernel) fl_X5_ok kI_X5_ok kJ_X5_ok ce_X5_moment rfl ck_X5_moment ⟨_, _, rfl, rfl⟩ ?_
  intro sh rf As I J K hpt
  obtain ⟨d, rest, rfl, hd, k, v, σ, rfl, rfl, rfl, rfl, hM, ⟨kd, hkd, ekd⟩, ⟨pn, hpn, epn⟩, hS, hU⟩ := hpt
  have l0 : (0 : Int64).toInt = 0 := rfl
  have l11 : (11 : Int64).toInt = 11 := rfl
  have lm1 : (-1000000 : Int64).toInt = -1000000 := rfl
  have lp1 : (1000000 : Int64).toInt = 1000000 := rfl
  refine ⟨Nat.le_of_ble_eq_true rfl, fun a9 b9 pc vs st I1 J1 => st = [] ∧ (0 ≤ k.toInt ∧ k.toInt ≤ 11) ∧ win v.toInt 1000000 ∧ ((pc = 63 ∧ a9 = 100 ∧ I1 = I ∧ J1 = J ∧ vs = [.inr (.inr 528), .inl k, .inl v] ∧ I 528 6 = 0 ∧ ((I 528 4 = 0 ∧ I 528 7 = 0) ∨ I 528 4 = 1)) ∨ (pc = 81 ∧ I 528 6 = 0 ∧ ((I 528 4 = 0 ∧ I 528 7 = 0) ∨ I 528 4 = 1) ∧ I1 = m_uI I 528 4 1 ∧ J1 = m_uJ J 532 k.toInt.toNat v.toInt64 ∧ ∃ i, a9 = 12 - i ∧ i ≤ 12 ∧ vs = [.inr (.inr 528), .inl k, .inl v, .inl (nI (nzc (J1 532) i)), .inl (nI i)])), ?_, ?_⟩
  · refine ⟨k.toInt64, 0, 11, rfl, fun h => ⟨v.toInt64, -1000000, 1000000, rfl, fun h2 => ?_, fun h2 => ?_⟩, fun h => ?_⟩
    · have hk := w_not0 h
      have hv := w_not0 h2
      rw [l0, l11, Int32.toInt_toInt64] at hk
      rw [lm1, lp1, Int32.toInt_toInt64] at hv
      have c1 : ¬ ¬ (0 ≤ k.toInt ∧ k.toInt ≤ 11) := fun q => q hk
      have c2 : ¬ ¬ win v.toInt 1000000 := fun q => q hv
      have no : (¬ I 528 6 = 0 ∨ ¬ ((I 528 4 = 0 ∧ I 528 7 = 0) ∨ I 528 4 = 1)) → K (some (.inl (-3))) I J := fun q => hS _ (by unfold momO; rw [if_neg c1, if_neg c2, if_pos q])
      refine ⟨rfl, fun h3 => no (Or.inl h3), fun h3 => ⟨rfl, fun h4 => ?_, fun h4 => ⟨rfl, fun h6 => ?_, fun h6 => ⟨rfl, fun h7 => ?_, fun h7 => ?_⟩⟩⟩⟩
      · have h4 : nI 1 < I 528 4 := h4
        rw [ekd, nI_ltI (by omega) (by omega)] at h4
        refine no (Or.inr (fun q => ?_))
        rcases q with ⟨q, -⟩ | q
        · rw [ekd] at q
          have := (nI_eq (b := 0) (by omega) (by omega)).mp q
          omega
        · rw [ekd] at q
          have := (nI_eq (b := 1) (by omega) (by omega)).mp q
          omega
      · have h4 : ¬ nI 1 < I 528 4 := h4
        have h6 : ¬ I 528 4 = nI 0 := h6
        rw [ekd, nI_ltI (by omega) (by omega)] at h4
        rw [ekd, nI_eq (by omega) (by omega)] at h6
        have e1 : I 528 4 = 1 := by
          rw [ekd, show kd = 1 by omega]
          rfl
        exact ⟨100, 0, rfl, hk, hv, Or.inl ⟨rfl, rfl, rfl, rfl, rfl, h3, Or.inr e1⟩⟩
      · have h6 : I 528 4 = 0 := h6
        have h7 : I 528 7 ≤ nI 0 := h7
        rw [epn, nI_leI (by omega) (by omega)] at h7
        have e7 : I 528 7 = 0 := by
          rw [epn, show pn = 0 by omega]
          rfl
        exact ⟨100, 0, rfl, hk, hv, Or.inl ⟨rfl, rfl, rfl, rfl, rfl, h3, Or.inl ⟨h6, e7⟩⟩⟩
      · have h6 : I 528 4 = 0 := h6
        have h7 : ¬ I 528 7 ≤ nI 0 := h7
        rw [epn, nI_leI (by omega) (by omega)] at h7
        refine no (Or.inr (fun q => ?_))
        rcases q with ⟨-, q⟩ | q
        · rw [epn] at q
          have := (nI_eq (b := 0) (by omega) (by omega)).mp q
          omega
        · rw [h6] at q
          exact absurd q (by decide)
    · have hk := w_not0 h
      have hv := w_is0 h2
      rw [l0, l11, Int32.toInt_toInt64] at hk
      rw [lm1, lp1, Int32.toInt_toInt64] at hv
      exact hS _ (by unfold momO; rw [if_neg (fun q => q hk), if_pos hv])
    · have hk := w_is0 h
      rw [l0, l11, Int32.toInt_toInt64] at hk
      exact hS _ (if_pos hk)
  · intro pc ks a9 b9 vs st I1 J1 hc hI
    obtain ⟨rfl, hk, hv, hI⟩ := hI
    obtain ⟨ek, -⟩ := i_nat hk.1
    have hkn : k.toInt.toNat < 12 := by omega
    have ecl : k.toNatClampNeg = k.toInt.toNat := by
      have := nI_clamp (n := k.toInt.toNat) (by omega)
      rw [← ek] at this
      exact this
    have hin : m_inb shL 532 1 k := by
      rw [ek]
      exact jin hkn
    rcases m_cu1 hc with ⟨rfl, rfl⟩ | hc
    · rcases hI with ⟨-, rfl, rfl, rfl, rfl, h6, h4⟩ | ⟨q, -⟩
      · refine ⟨rfl, rfl, hin, 12 - 0, 0, Or.inl (by decide), rfl, hk, hv, Or.inr ⟨rfl, h6, h4, rfl, ?_, 0, rfl, by decide, rfl⟩⟩
        show m_uJ J1 532 k.toNatClampNeg v.toInt64 = _
        rw [ecl]
      · exact absurd q (by decide)
    · rcases m_cu1 hc with ⟨rfl, rfl⟩ | hc
      · rcases hI with ⟨q, -⟩ | ⟨-, h6, h4, hI1, hJ1, i, rfl, hi, rfl⟩
        · exact absurd q (by decide)
        · have nzb : ∀ j, nzc (J1 532) j ≤ j := by
            intro j
            induction j with
            | zero => exact Nat.le_refl 0
            | succ j ih =>
              rw [nzc]
              split <;> omega
          have nb := nzb i
          refine ⟨fun h => ?_, fun h => ?_⟩
          · have h : nI 11 < nI i := h
            rw [nI_ltI (by omega) (by omega)] at h
            obtain rfl : i = 12 := by omega
            have hU2 := hU (by unfold momO; rw [if_neg (fun q => q hk), if_neg (fun q => q hv), if_neg (fun q => q.elim (fun r => r h6) (fun r => r h4))])
            subst hI1
            refine hU2 _ J1 ⟨fun a h _ _ _ _ _ _ => uI_a _ _ _ h, uI_s _ _ _ _, uI_k _ _ _ (by decide), uI_k _ _ _ (by decide), uI_k _ _ _ (by decide), fun a h _ => by rw [hJ1]; exact uJ_a _ _ _ h, fun j hj => ?_⟩ (uI_a _ _ _ (by decide)) (uI_a _ _ _ (by decide)) ⟨σ, hM.cg (uI_a _ _ _ (by decide)) (uI_a _ _ _ (by decide)) (uI_a _ _ _ (by decide)), rfl, rfl⟩
            rw [hJ1]
            by_cases q : j = k.toInt.toNat
            · rw [q, uJ_s]
              exact (if_pos rfl).symm
            · rw [uJ_k _ _ _ q]
              exact (if_neg q).symm
          · have h : ¬ nI 11 < nI i := h
            rw [nI_ltI (by omega) (by omega)] at h
            have icl : (nI i).toNatClampNeg = i := nI_clamp (by omega)
            refine ⟨rfl, jin (by omega), fun h2 => ?_, fun h2 => ?_⟩
            · have h2 : lg_cmp (J1 532 (nI i).toNatClampNeg) 0 = 0 := h2
              rw [icl, lg_eq0] at h2
              refine ⟨12 - (i + 1), 0, Or.inl (by omega), rfl, hk, hv, Or.inr ⟨rfl, h6, h4, hI1, hJ1, i + 1, rfl, by omega, ?_⟩⟩
              rw [nzc, if_pos h2, ← nI_1 i]
              show ([.inr (.inr 528), .inl k, .inl v, .inl (nI (nzc (J1 532) i) + 0), .inl (nI i + 1)] : List mPV) = _
              rw [Int32.add_zero]
              rfl
            · have h2 : ¬ lg_cmp (J1 532 (nI i).toNatClampNeg) 0 = 0 := h2
              rw [icl, lg_eq0] at h2
              refine ⟨12 - (i + 1), 0, Or.inl (by omega), rfl, hk, hv, Or.inr ⟨rfl, h6, h4, hI1, hJ1, i + 1, rfl, by omega, ?_⟩⟩
              rw [nzc, if_neg h2, ← nI_1 i]
              show ([.inr (.inr 528), .inl k, .inl v, .inl (nI (nzc (J1 532) i) + 1), .inl (nI i + 1)] : List mPV) = _
              rw [nI_1]
      · cases hc

abbrev isKM (I : mPI) (pl : Int32) : Prop := (pl = 0 ∧ I 540 0 = 1) ∨ (pl = 1 ∧ I 540 5 = 1)
def pt_misKept : mSH → mRF → mPT := m_pv 5 (fun sh rf d rest I J K => ∃ pl : Int32, sh = shL ∧ rf = rfL ∧ d = 528 ∧ rest = [.inl pl] ∧ K (some (.inl (if isKM I pl then 1 else 0))) I J)
def pt_mtake : mSH → mRF → mPT := m_pv 5 (fun sh rf d rest I J K => ∃ p : Nat, sh = shL ∧ rf = rfL ∧ d = 528 ∧ rest = [.inl (nI p)] ∧ p < 2 ∧ ∀ J1, (∀ a, a ≠ 532 → J1 a = J a) → (∀ k, k < 12 → J1 532 k = J 537 (12 * p + k)) → K none (m_uI I 528 5 (I 540 (5 * p + 2))) J1)
theorem rin {i : Nat} (h : i < 10) : m_inb shL 540 0 (nI i) := m_inb_i (n := 10) rfl (vp_in_nI h (by decide))
theorem nI_m (a b : Nat) : nI a * nI b = nI (a * b) := (Int32.ofNat_mul a b).symm

def ct_X5_isKept (sh : mSH) (rf : mRF) : Nat → Option (Nat × Bool × mPT) := fun k => match k with
  | 134 => some (3, false, pt_in sh rf)
  | _ => none
set_option maxRecDepth 20000 in
theorem ce_X5_isKept : m_CE RX5 1 25 cX5_isKept 2 ct_X5_isKept := by
  intro p l e s m args below meth c Q D cs ad sh rf N hx hb hml hown hts hK hi hN k n vf pt h
  unfold ct_X5_isKept at h
  split at h
  · cases h
    exact m_CG_S mt_X5_in hx hb hml hown hts hK hi hN (m_wck_ok (l := [(Cond.methodLink RX5 134 yX5_in, 748), (Cond.static yX5_in, 749), (Cond.initialized RX5, 62), (Cond.code yX5_in cX5_in 6 (some .boolean), 750)]) (by decide +kernel)) ⟨by decide +kernel, by decide +kernel, by decide +kernel⟩ ⟨Nat.le_of_ble_eq_true rfl, Nat.le_of_ble_eq_true rfl⟩
  · cases h
set_option maxHeartbeats 4000000 in
set_option maxRecDepth 100000 in
theorem mt_X5_isKept : m_Mt yX5_isKept cX5_isKept 2 (some .boolean) 1 25 pt_misKept := by
  refine m_method0 80 (fl := fl_X5) (kI := kI_X5) (kJ := kJ_X5) (ct := ct_X5_isKept) (cd := cd_X5_isKept) (rk := 3) (by decide +kernel) fl_X5_ok kI_X5_ok kJ_X5_ok ce_X5_isKept rfl ck_X5_isKept ⟨_, _, rfl, rfl⟩ ?_
  intro sh rf As I J K hpt
  obtain ⟨d, rest, rfl, hd, pl, rfl, rfl, rfl, rfl, hK⟩ := hpt
  have l0 : (0 : Int64).toInt = 0 := rfl
  have l1 : (1 : Int64).toInt = 1 := rfl
  refine ⟨Nat.le_of_ble_eq_true rfl, pl.toInt64, 0, 1, rfl, fun h => ?_, fun h => ?_⟩
  · have h := w_is0 h
    rw [l0, l1, Int32.toInt_toInt64] at h
    rw [if_neg (fun q => by rcases q with ⟨q, -⟩ | ⟨q, -⟩ <;> rw [q] at h <;> exact h (by decide))] at hK
    exact ⟨Or.inl rfl, hK⟩
  · have h := w_not0 h
    rw [l0, l1, Int32.toInt_toInt64] at h
    obtain ⟨ep, -⟩ := i_nat h.1
    have hlt : pl.toInt.toNat < 2 := by omega
    generalize pl.toInt.toNat = p at ep hlt
    clear h
    subst ep
    have e5 : (5 : Int32) * nI p = nI (5 * p) := nI_m 5 p
    have hin : m_inb shL 540 0 ((5 : Int32) * nI p) := by
      rw [e5]
      exact rin (by omega)
    have ecl : ((5 : Int32) * nI p).toNatClampNeg = 5 * p := by
      rw [e5]
      exact nI_clamp (by omega)
    refine ⟨rfl, hin, fun h2 => ?_, fun h2 => ?_⟩
    · have h2 : ¬ I 540 ((5 : Int32) * nI p).toNatClampNeg = 1 := h2
      rw [ecl] at h2
      rw [if_neg (fun q => by
        rcases q with ⟨q, r⟩ | ⟨q, r⟩
        · obtain rfl : p = 0 := (nI_eq (b := 0) (by omega) (by omega)).mp q
          exact h2 r
        · obtain rfl : p = 1 := (nI_eq (b := 1) (by omega) (by omega)).mp q
          exact h2 r)] at hK
      exact ⟨Or.inl rfl, hK⟩
    · have h2 : I 540 ((5 : Int32) * nI p).toNatClampNeg = 1 := h2
      rw [ecl] at h2
      have hk : isKM I (nI p) := by
        rcases (show p = 0 ∨ p = 1 by omega) with rfl | rfl
        · exact Or.inl ⟨rfl, h2⟩
        · exact Or.inr ⟨rfl, h2⟩
      rw [if_pos hk] at hK
      exact ⟨Or.inr rfl, hK⟩

set_option maxHeartbeats 4000000 in
set_option maxRecDepth 100000 in
theorem mt_X5_take : m_Mt yX5_take cX5_take 3 none 0 0 pt_mtake := by
  refine m_methodG (fl := fl_X5) (kI := kI_X5) (kJ := kJ_X5) (ct := ct_none) (cd := cd_X5_take) (cut := [(2, [0, 1, 2])]) (rk := 0) (fu := 80) (by decide +kernel) fl_X5_ok kI_X5_ok kJ_X5_ok (ce_none _ _ _ _ _) rfl ck_X5_take ⟨_, _, rfl, rfl⟩ ?_
  intro sh rf As I J K hpt
  obtain ⟨d, rest, rfl, hd, p, rfl, rfl, rfl, rfl, hp, hK⟩ := hpt
  refine ⟨Nat.le_of_ble_eq_true rfl, fun a9 b9 pc vs st I1 J1 => st = [] ∧ I1 = I ∧ ∃ k, vs = [.inr (.inr 528), .inl (nI p), .inl (nI k)] ∧ a9 = 12 - k ∧ k ≤ 12 ∧ (∀ a, a ≠ 532 → J1 a = J a) ∧ ∀ j, j < k → J1 532 j = J 537 (12 * p + j), ?_, ?_⟩
  · exact ⟨12 - 0, 0, rfl, rfl, 0, rfl, rfl, by decide, fun _ _ => rfl, fun j hj => absurd hj (Nat.not_lt_zero j)⟩
  · intro pc ks a9 b9 vs st I1 J1 hc hI
    rcases m_cu1 hc with ⟨rfl, rfl⟩ | hc
    · obtain ⟨rfl, rfl, k, rfl, rfl, hk, h6, h7⟩ := hI
      refine ⟨fun h => ?_, fun h => ?_⟩
      · have h : nI 11 < nI k := h
        rw [nI_ltI (by omega) (by omega)] at h
        have e5 : (5 : Int32) * nI p + 2 = nI (5 * p + 2) := by
          rw [show (5 : Int32) * nI p = nI (5 * p) from nI_m 5 p]
          exact nI_add _ 2
        have hin : m_inb shL 540 0 ((5 : Int32) * nI p + 2) := by
          rw [e5]
          exact rin (by omega)
        have ecl : ((5 : Int32) * nI p + 2).toNatClampNeg = 5 * p + 2 := by
          rw [e5]
          exact nI_clamp (by omega)
        refine ⟨rfl, hin, rfl, ?_⟩
        show K none (m_uI I1 528 5 (I1 540 ((5 : Int32) * nI p + 2).toNatClampNeg)) J1
        rw [ecl]
        exact hK J1 h6 (fun j hj => h7 j (by omega))
      · have h : ¬ nI 11 < nI k := h
        rw [nI_ltI (by omega) (by omega)] at h
        have e12 : (12 : Int32) * nI p + nI k = nI (12 * p + k) := by
          rw [show (12 : Int32) * nI p = nI (12 * p) from nI_m 12 p, nI_add]
        have hin : m_inb shL 537 1 ((12 : Int32) * nI p + nI k) := by
          rw [e12]
          exact m_inb_i (n := 24) rfl (vp_in_nI (by omega) (by decide))
        have ecl : ((12 : Int32) * nI p + nI k).toNatClampNeg = 12 * p + k := by
          rw [e12]
          exact nI_clamp (by omega)
        refine ⟨rfl, rfl, hin, jin (by omega), 12 - (k + 1), 0, Or.inl (by omega), rfl, rfl, k + 1, by rw [← nI_1 k], rfl, by omega, ?_⟩
        show (∀ a, a ≠ 532 → m_uJ J1 532 (nI k).toNatClampNeg (J1 537 ((12 : Int32) * nI p + nI k).toNatClampNeg) a = J a) ∧ ∀ j, j < k + 1 → m_uJ J1 532 (nI k).toNatClampNeg (J1 537 ((12 : Int32) * nI p + nI k).toNatClampNeg) 532 j = J 537 (12 * p + j)
        rw [nI_clamp (by omega), ecl, h6 537 (by decide)]
        refine ⟨fun a ha => by rw [uJ_a _ _ _ ha]; exact h6 a ha, fun j hj => ?_⟩
        by_cases q : j = k
        · rw [q, uJ_s]
        · rw [uJ_k _ _ _ q]
          exact h7 j (by omega)
    · cases hc

