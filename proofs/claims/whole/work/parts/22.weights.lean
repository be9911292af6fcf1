/-! ===== Weights ===== -/
def pwL (b : Int64) : Nat → Int64
  | 0 => 1
  | n + 1 => pwL b n * b
def WSh (sh : mSH) (rf : mRF) (w : Nat) : Prop := sh w = .inl 3 ∧ sh (rf w 4) = .inr (0, 19) ∧ sh (rf w 5) = .inr (1, 12) ∧ PSh sh rf (rf w 6)
def pt_power (_ : mSH) (_ : mRF) : mPT := fun As I J K => ∃ (b : Int32) (e : Nat), As = [.inl b, .inl (nI e)] ∧ e < 2 ^ 30 ∧ K (some (.inr (.inl (pwL b.toInt64 e)))) I J
set_option maxHeartbeats 4000000 in
set_option maxRecDepth 100000 in
theorem mt_X4_power : m_Mt yX4_power cX4_power 5 (some .long) 0 0 pt_power := by
  refine m_methodG (fl := fl_X4) (kI := kI_X4) (kJ := kJ_X4) (ct := ct_none) (cd := cd_X4_power) (cut := [(5, [0, 1, 2, 4])]) (rk := 2) (fu := 80) (by decide +kernel) fl_X4_ok kI_X4_ok kJ_X4_ok (ce_none _ _ _ _ _) rfl ck_X4_power ⟨_, _, rfl, rfl⟩ ?_
  intro sh rf As I J K hpt
  obtain ⟨b, e, rfl, he, hK⟩ := hpt
  refine ⟨Nat.le_of_ble_eq_true rfl, fun a9 b9 pc vs st I1 J1 => ∃ i, vs = [.inl b, .inl (nI e), .inr (.inl (pwL b.toInt64 i)), .inl (nI i)] ∧ st = [] ∧ I1 = I ∧ J1 = J ∧ a9 = e - i ∧ i ≤ e, ?_, ?_⟩
  · exact ⟨e - 0, 0, 0, rfl, rfl, rfl, rfl, rfl, Nat.zero_le _⟩
  · intro pc ks a9 b9 vs st I1 J1 hc hI
    rcases m_cu1 hc with ⟨rfl, rfl⟩ | hc
    · obtain ⟨i, rfl, rfl, rfl, rfl, rfl, hi⟩ := hI
      refine ⟨fun h => ?_, fun h => ?_⟩
      · have := (nI_leI (by omega) (by omega)).mp h
        obtain rfl : i = e := by omega
        exact hK
      · have hlt : i < e := by
          rcases Nat.lt_or_ge i e with q | q
          · exact q
          · exact absurd (nI_le q (by omega)) h
        exact ⟨e - (i + 1), 0, Or.inl (by omega), i + 1, by rw [← nI_1]; rfl, rfl, rfl, rfl, rfl, by omega⟩
    · cases hc

def pt_wadd : mSH → mRF → mPT := m_pv 3 (fun sh rf w rest I J K => ∃ (x : Int32) (wt : Int64), rest = [.inl x, .inr (.inl wt)] ∧ WSh sh rf w ∧ ∀ J1, (∀ a, a ≠ rf w 5 → J1 a = J a) → (∀ k, k < 12 → J1 (rf w 5) k = J (rf w 5) k + wt * pwL x.toInt64 k) → K none (m_uI I w 7 1) J1)
def pt_wbegin : mSH → mRF → mPT := m_pv 3 (fun sh rf w rest I J K => ∃ kd : Int32, rest = [.inl kd] ∧ WSh sh rf w ∧ ∀ I1 J1, (∀ a, a ≠ w → a ≠ rf w 4 → I1 a = I a) → I1 w 0 = kd → I1 w 1 = 11 → I1 w 2 = 0 → I1 w 3 = 0 → I1 w 7 = 1 → (∀ k, k < 19 → I1 (rf w 4) k = 0) → (∀ a, a ≠ rf w 5 → J1 a = J a) → (∀ k, k < 12 → J1 (rf w 5) k = 0) → K none I1 J1)
def pt_wtell : mSH → mRF → mPT := m_pv 3 (fun sh rf w rest I J K => ∃ (k : Nat) (v : Int32), rest = [.inl (nI k), .inl v] ∧ k < 12 ∧ WSh sh rf w ∧ K none (m_uI (m_uI I w 0 1) w 7 1) (m_uJ J (rf w 5) k v.toInt64))
/-- how many of the first n are not 0 -/
def nzc (f : Nat → Int64) : Nat → Nat
  | 0 => 0
  | n + 1 => nzc f n + (if f n = 0 then 0 else 1)
def pt_wnz : mSH → mRF → mPT := m_pv 3 (fun sh rf w rest I J K => rest = [] ∧ WSh sh rf w ∧ K (some (.inl (nI (nzc (J (rf w 5)) 12)))) I J)
def pt_wchange : mSH → mRF → mPT := m_pv 3 (fun sh rf w rest I J K => ∃ a l : Nat, rest = [.inr (.inr a), .inl (nI l)] ∧ l ≤ 11 ∧ sh a = .inr (1, 12) ∧ WSh sh rf w ∧ K none (m_uI (m_uI (m_uI I w 1 (nI l)) w 3 1) w 7 1) (va_up J (rf w 5) (va_cpy (J a) (J (rf w 5)) 0 0 (l + 1))))
def pt_wpolys : mSH → mRF → mPT := m_pv 3 (fun sh rf w rest I J K => ∃ l : Nat, rest = [] ∧ WSh sh rf w ∧ I w 1 = nI l ∧ l ≤ 11 ∧ (∀ k, k < 12 → (J (rf w 5) k).toInt.natAbs ≤ MB) ∧ (I w 7 = 0 → PIs sh rf I (rf w 6) (fun k => (J (rf w 5) k).toInt) l) ∧ ∀ I1, (∀ a, a ≠ w → a ≠ rf w 6 → (∀ j, j < 78 → a ≠ pbg rf (rf w 6) j ∧ a ≠ rf (pbg rf (rf w 6) j) 0) → I1 a = I a) → (∀ k, k ≠ 7 → I1 w k = I w k) → I1 w 7 = 0 → PIs sh rf I1 (rf w 6) (fun k => (J (rf w 5) k).toInt) l → K (some (.inr (.inr (rf w 6)))) I1 J)
theorem lg_eq0 (x : Int64) : lg_cmp x 0 = 0 ↔ x = 0 := by
  unfold lg_cmp
  by_cases h : x > 0
  · rw [if_pos h]
    constructor
    · intro e; exact absurd e (by decide)
    · intro e; rw [e] at h; exact absurd h (by decide)
  · rw [if_neg h]
    by_cases h2 : x = 0
    · rw [if_pos h2]
      simp [h2]
    · rw [if_neg h2]
      constructor
      · intro e; exact absurd e (by decide)
      · intro e; exact absurd e h2
set_option maxHeartbeats 4000000 in
set_option maxRecDepth 100000 in
theorem mt_X3_addToMoments : m_Mt yX3_addToMoments cX3_addToMoments 7 none 0 0 pt_wadd := by
  refine m_methodG (fl := fl_X3) (kI := kI_X3) (kJ := kJ_X3) (ct := ct_none) (cd := cd_X3_addToMoments) (cut := [(6, [0, 1, 4, 6])]) (rk := 0) (fu := 80) (by decide +kernel) fl_X3_ok kI_X3_ok kJ_X3_ok (ce_none _ _ _ _ _) rfl ck_X3_addToMoments ⟨_, _, rfl, rfl⟩ ?_
  intro sh rf As I J K hpt
  obtain ⟨w, rest, rfl, hw, x, wt, rfl, hW, hK⟩ := hpt
  have hm := hW.2.2.1
  refine ⟨Nat.le_of_ble_eq_true rfl, fun a9 b9 pc vs st I1 J1 => ∃ k, vs = [.inr (.inr w), .inl x, .inr (.inl (wt * pwL x.toInt64 k)), .inl (nI k)] ∧ st = [] ∧ I1 = I ∧ a9 = 12 - k ∧ k ≤ 12 ∧ (∀ a, a ≠ rf w 5 → J1 a = J a) ∧ (∀ j, j < k → J1 (rf w 5) j = J (rf w 5) j + wt * pwL x.toInt64 j) ∧ (∀ j, k ≤ j → J1 (rf w 5) j = J (rf w 5) j), ?_, ?_⟩
  · exact ⟨12, 0, 0, by rw [pwL, Int64.mul_one]; rfl, rfl, rfl, rfl, by omega, fun _ _ => rfl, fun j h => absurd h (Nat.not_lt_zero j), fun _ _ => rfl⟩
  · intro pc ks a9 b9 vs st I1 J1 hc hI
    rcases m_cu1 hc with ⟨rfl, rfl⟩ | hc
    · obtain ⟨k, rfl, rfl, rfl, rfl, hk, e1, e2, e3⟩ := hI
      refine ⟨fun h => ?_, fun h => ?_⟩
      · have h : nI 11 < nI k := h
        have := (nI_ltI (by decide) (by omega)).mp h
        obtain rfl : k = 12 := by omega
        exact ⟨hw, Or.inr rfl, hK J1 e1 e2⟩
      · have h : ¬ nI 11 < nI k := h
        have hk12 : k < 12 := by
          rcases Nat.lt_or_ge 11 k with q | q
          · exact absurd ((nI_ltI (by decide) (by omega)).mpr q) h
          · omega
        have ib : m_inb sh (rf w 5) 1 (nI k) := m_inb_i hm (vp_in_nI hk12 (by decide))
        refine ⟨hw, ib, ib, 12 - (k + 1), 0, Or.inl (by omega), k + 1, ?_, rfl, rfl, rfl, by omega, ?_, ?_, ?_⟩
        · rw [pwL, ← nI_1, Int64.mul_assoc]
        · intro a ha
          rw [uJ_a _ _ _ ha, e1 a ha]
        · intro j hj
          rw [nI_clamp (by omega)]
          by_cases e : j = k
          · subst e
            rw [uJ_s, e3 j (Nat.le_refl _)]
          · rw [uJ_k _ _ _ e, e2 j (by omega)]
        · intro j hj
          rw [nI_clamp (by omega), uJ_k _ _ _ (by omega), e3 j (by omega)]
    · cases hc

def ct_X3_begin (sh : mSH) (rf : mRF) : Nat → Option (Nat × Bool × mPT) := fun k => match k with
  | 43 => some (2, false, pt_fillI sh rf)
  | 49 => some (2, false, pt_fillJ sh rf)
  | _ => none
set_option maxRecDepth 20000 in
theorem ce_X3_begin : m_CE RX3 1 24 cX3_begin 2 ct_X3_begin := by
  intro p l e s m args below meth c Q D cs ad sh rf N hx hb hml hown hts hK hi hN k n vf pt h
  unfold ct_X3_begin at h
  split at h
  · cases h
    exact m_CG_S mt_J7_fill_53178 hx hb hml hown hts hK hi hN (m_wck_ok (l := [(Cond.methodLink RX3 43 yJ7_fill_53178, 243), (Cond.static yJ7_fill_53178, 244), (Cond.initialized RJ7, 63), (Cond.code yJ7_fill_53178 cJ7_fill_53178 4 none, 245)]) (by decide +kernel)) ⟨by decide +kernel, by decide +kernel, by decide +kernel⟩ ⟨Nat.le_of_ble_eq_true rfl, Nat.le_of_ble_eq_true rfl⟩
  · cases h
    exact m_CG_S mt_J7_fill_d0a16 hx hb hml hown hts hK hi hN (m_wck_ok (l := [(Cond.methodLink RX3 49 yJ7_fill_d0a16, 246), (Cond.static yJ7_fill_d0a16, 247), (Cond.initialized RJ7, 63), (Cond.code yJ7_fill_d0a16 cJ7_fill_d0a16 5 none, 248)]) (by decide +kernel)) ⟨by decide +kernel, by decide +kernel, by decide +kernel⟩ ⟨Nat.le_of_ble_eq_true rfl, Nat.le_of_ble_eq_true rfl⟩
  · cases h
set_option maxHeartbeats 4000000 in
set_option maxRecDepth 100000 in
theorem mt_X3_begin : m_Mt yX3_begin cX3_begin 2 none 1 24 pt_wbegin := by
  refine m_method0 80 (fl := fl_X3) (kI := kI_X3) (kJ := kJ_X3) (ct := ct_X3_begin) (cd := cd_X3_begin) (rk := 0) (by decide +kernel) fl_X3_ok kI_X3_ok kJ_X3_ok ce_X3_begin rfl ck_X3_begin ⟨_, _, rfl, rfl⟩ ?_
  intro sh rf As I J K hpt
  obtain ⟨w, rest, rfl, hw, kd, rfl, hW, hK⟩ := hpt
  have hA := hW.2.1
  have hne : rf w 4 ≠ w := fun e => by rw [e, hw] at hA; cases hA
  refine ⟨Nat.le_of_ble_eq_true rfl, hw, hw, hw, hw, Or.inl rfl, hw, rf w 4, 0, 19, rfl, hA, by decide, fun I1 k1 k2 => ?_⟩
  refine ⟨hw, rf w 5, 0, 12, rfl, hW.2.2.1, by decide, fun J1 k3 k4 => ⟨hw, Or.inr rfl, ?_⟩⟩
  refine hK _ J1 (fun a a1 a2 => ?_) ?_ ?_ ?_ ?_ (uI_s _ _ _ _) (fun k hk => ?_) k3 k4
  · rw [uI_a _ _ _ a1, k1 a a2, uI_a _ _ _ a1, uI_a _ _ _ a1, uI_a _ _ _ a1, uI_a _ _ _ a1]
  · rw [uI_k _ _ _ (by decide), k1 w hne.symm, uI_k _ _ _ (by decide), uI_k _ _ _ (by decide), uI_k _ _ _ (by decide), uI_s]
  · rw [uI_k _ _ _ (by decide), k1 w hne.symm, uI_k _ _ _ (by decide), uI_k _ _ _ (by decide), uI_s]
  · rw [uI_k _ _ _ (by decide), k1 w hne.symm, uI_k _ _ _ (by decide), uI_s]
  · rw [uI_k _ _ _ (by decide), k1 w hne.symm, uI_s]
  · rw [uI_a _ _ _ hne]
    exact k2 k hk

set_option maxHeartbeats 4000000 in
set_option maxRecDepth 100000 in
theorem mt_X3_tellMoment : m_Mt yX3_tellMoment cX3_tellMoment 3 none 0 0 pt_wtell := by
  refine m_method0 80 (fl := fl_X3) (kI := kI_X3) (kJ := kJ_X3) (ct := ct_none) (cd := cd_X3_tellMoment) (rk := 0) (by decide +kernel) fl_X3_ok kI_X3_ok kJ_X3_ok (ce_none _ _ _ _ _) rfl ck_X3_tellMoment ⟨_, _, rfl, rfl⟩ ?_
  intro sh rf As I J K hpt
  obtain ⟨w, rest, rfl, hw, k, v, rfl, hk, hW, hK⟩ := hpt
  refine ⟨Nat.le_of_ble_eq_true rfl, hw, hw, m_inb_i hW.2.2.1 (vp_in_nI hk (by decide)), hw, Or.inr rfl, ?_⟩
  have e : (nI k).toNatClampNeg = k := nI_clamp (by omega)
  rw [e]
  exact hK

set_option maxHeartbeats 4000000 in
set_option maxRecDepth 100000 in
theorem mt_X3_momentsNotZero : m_Mt yX3_momentsNotZero cX3_momentsNotZero 3 (some .int) 0 0 pt_wnz := by
  refine m_methodG (fl := fl_X3) (kI := kI_X3) (kJ := kJ_X3) (ct := ct_none) (cd := cd_X3_momentsNotZero) (cut := [(4, [0, 1, 2])]) (rk := 1) (fu := 80) (by decide +kernel) fl_X3_ok kI_X3_ok kJ_X3_ok (ce_none _ _ _ _ _) rfl ck_X3_momentsNotZero ⟨_, _, rfl, rfl⟩ ?_
  intro sh rf As I J K hpt
  obtain ⟨w, rest, rfl, hw, rfl, hW, hK⟩ := hpt
  refine ⟨Nat.le_of_ble_eq_true rfl, fun a9 b9 pc vs st I1 J1 => ∃ k, vs = [.inr (.inr w), .inl (nI (nzc (J (rf w 5)) k)), .inl (nI k)] ∧ st = [] ∧ I1 = I ∧ J1 = J ∧ a9 = 12 - k ∧ k ≤ 12, ?_, ?_⟩
  · exact ⟨12, 0, 0, rfl, rfl, rfl, rfl, rfl, by omega⟩
  · intro pc ks a9 b9 vs st I1 J1 hc hI
    rcases m_cu1 hc with ⟨rfl, rfl⟩ | hc
    · obtain ⟨k, rfl, rfl, rfl, rfl, rfl, hk⟩ := hI
      refine ⟨fun h => ?_, fun h => ?_⟩
      · have h : nI 11 < nI k := h
        have := (nI_ltI (by decide) (by omega)).mp h
        obtain rfl : k = 12 := by omega
        exact hK
      · have h : ¬ nI 11 < nI k := h
        have hk12 : k < 12 := by
          rcases Nat.lt_or_ge 11 k with q | q
          · exact absurd ((nI_ltI (by decide) (by omega)).mpr q) h
          · omega
        refine ⟨hw, m_inb_i hW.2.2.1 (vp_in_nI hk12 (by decide)), fun h7 => ?_, fun h7 => ?_⟩
        · have h7 := (lg_eq0 _).mp h7
          rw [nI_clamp (by omega)] at h7
          refine ⟨12 - (k + 1), 0, Or.inl (by omega), k + 1, ?_, rfl, rfl, rfl, rfl, by omega⟩
          rw [nzc, if_pos h7, Nat.add_zero, ← nI_1]
        · have h7 : ¬ J1 (rf w 5) (nI k).toNatClampNeg = 0 := fun e => h7 ((lg_eq0 _).mpr e)
          rw [nI_clamp (by omega)] at h7
          refine ⟨12 - (k + 1), 0, Or.inl (by omega), k + 1, ?_, rfl, rfl, rfl, rfl, by omega⟩
          rw [nzc, if_neg h7, ← nI_1, ← nI_1]
    · cases hc

def ct_X3_change (sh : mSH) (rf : mRF) : Nat → Option (Nat × Bool × mPT) := fun k => match k with
  | 60 => some (5, false, pt_cpJ sh rf)
  | _ => none
set_option maxRecDepth 20000 in
theorem ce_X3_change : m_CE RX3 1 60 cX3_change 3 ct_X3_change := by
  intro p l e s m args below meth c Q D cs ad sh rf N hx hb hml hown hts hK hi hN k n vf pt h
  unfold ct_X3_change at h
  split at h
  · cases h
    exact m_CG_cpJ hx hb hml hown hts hK hi hN (m_wck_ok (l := [(Cond.methodLink RX3 60 arraycopyName, 395), (Cond.native arraycopyName, 339), (Cond.static arraycopyName, 338), (Cond.initialized "java/lang/System", 64)]) (by decide +kernel)) (by decide +kernel)
  · cases h
set_option maxHeartbeats 4000000 in
set_option maxRecDepth 100000 in
theorem mt_X3_change : m_Mt yX3_change cX3_change 3 none 1 60 pt_wchange := by
  refine m_method0 80 (fl := fl_X3) (kI := kI_X3) (kJ := kJ_X3) (ct := ct_X3_change) (cd := cd_X3_change) (rk := 0) (by decide +kernel) fl_X3_ok kI_X3_ok kJ_X3_ok ce_X3_change rfl ck_X3_change ⟨_, _, rfl, rfl⟩ ?_
  intro sh rf As I J K hpt
  obtain ⟨w, rest, rfl, hw, a, l, rfl, hl, ha, hW, hK⟩ := hpt
  have e : nI l + 1 = nI (l + 1) := nI_1 l
  have e0 : (0 : Int32).toNatClampNeg = 0 := by decide
  refine ⟨Nat.le_of_ble_eq_true rfl, hw, a, 0, rf w 5, 0, nI l + 1, 12, 12, rfl, ha, hW.2.2.1, by decide, by decide, by rw [e]; exact nI_pos (by omega), ?_, ?_, ?_⟩
  · rw [e, nI_clamp (by omega), e0]
    omega
  · rw [e, nI_clamp (by omega), e0]
    omega
  · rw [e, nI_clamp (by omega), e0]
    exact ⟨hw, hw, Or.inr rfl, hw, Or.inr rfl, hK⟩

def ct_X3_polys (sh : mSH) (rf : mRF) : Nat → Option (Nat × Bool × mPT) := fun k => match k with
  | 66 => some (3, true, pt_ptake sh rf)
  | _ => none
set_option maxRecDepth 20000 in
theorem ce_X3_polys : m_CE RX3 5 153 cX3_polys 1 ct_X3_polys := by
  intro p l e s m args below meth c Q D cs ad sh rf N hx hb hml hown hts hK hi hN k n vf pt h
  unfold ct_X3_polys at h
  split at h
  · cases h
    exact m_CG_V mt_X2_take hx hb hml hown hts hK hi hN (ci := 2) m_pv_rec rfl rfl (m_wck_ok (l := [(Cond.methodLink RX3 66 yX2_take, 424), (Cond.instanceMethod yX2_take, 425), (Cond.selects RX2 yX2_take yX2_take, 426), (Cond.initialized RX2, 57), (Cond.code yX2_take cX2_take 5 none, 427)]) (by decide +kernel)) ⟨rfl, by decide +kernel, by decide +kernel, by decide +kernel⟩ ⟨Nat.le_of_ble_eq_true rfl, Nat.le_of_ble_eq_true rfl⟩
  · cases h
set_option maxHeartbeats 4000000 in
set_option maxRecDepth 100000 in
theorem mt_X3_polys : m_Mt yX3_polys cX3_polys 1 (some (.object "MomentDesk$Polys")) 5 153 pt_wpolys := by
  refine m_method0 80 (fl := fl_X3) (kI := kI_X3) (kJ := kJ_X3) (ct := ct_X3_polys) (cd := cd_X3_polys) (rk := 4) (by decide +kernel) fl_X3_ok kI_X3_ok kJ_X3_ok ce_X3_polys ⟨_, rfl, by first | exact Or.inl ⟨_, rfl⟩ | exact Or.inr ⟨_, rfl⟩⟩ ck_X3_polys ⟨_, _, rfl, rfl⟩ ?_
  intro sh rf As I J K hpt
  obtain ⟨w, rest, rfl, hw, l, rfl, hW, h1, hl, hmo, hold, hK⟩ := hpt
  have hP := hW.2.2.2
  have hwp : w ≠ rf w 6 := fun e => by
    have := hP.1
    rw [← e, hw] at this
    cases this
  refine ⟨Nat.le_of_ble_eq_true rfl, hw, fun h => ?_, fun h => ?_⟩
  · exact ⟨hw, hK I (fun _ _ _ _ => rfl) (fun _ _ => rfl) h (hold h)⟩
  · have nbw : ∀ j, j < 78 → w ≠ pbg rf (rf w 6) j ∧ w ≠ rf (pbg rf (rf w 6) j) 0 := by
      intro j hj
      have hb := hP.2.2.2.1 j hj
      refine ⟨fun e => ?_, fun e => ?_⟩
      · have := hb.1
        rw [← e, hw] at this
        cases this
      · have := hb.2.1
        rw [← e, hw] at this
        cases this
    refine ⟨hw, hw, hw, rf w 6, [.inr (.inr (rf w 5)), .inl (I w 1)], rfl, hP.1, rf w 5, l, by rw [h1], hP, hW.2.2.1, hl, hmo, fun I1 k1 k2 => ⟨hw, Or.inl rfl, hw, ?_⟩⟩
    have hI1w : I1 w = I w := k1 w hwp nbw
    refine hK _ (fun a a1 a2 a3 => by rw [uI_a _ _ _ a1, k1 a a2 a3]) (fun k hk => by rw [uI_k _ _ _ hk, hI1w]) (uI_s _ _ _ _) ?_
    obtain ⟨p1, p2, p3, p4, p5, p6⟩ := k2
    have keep : ∀ j z, j < 78 → BIs sh rf I1 (pbg rf (rf w 6) j) z → BIs sh rf (m_uI I1 w 7 0) (pbg rf (rf w 6) j) z := fun j z hj hz => hz.keep (uI_a _ _ _ (nbw j hj).1.symm) (uI_a _ _ _ (nbw j hj).2.symm)
    have h64 := (pw_t l hl).2.2.1
    exact ⟨by rw [uI_a _ _ _ hwp.symm]; exact p1, by rw [uI_a _ _ _ hwp.symm]; exact p2, p3, p4, fun k hk => keep _ _ (by omega) (p5 k hk), fun c hc => keep _ _ (by omega) (p6 c hc)⟩

