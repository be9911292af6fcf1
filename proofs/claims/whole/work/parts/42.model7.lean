/-! ===== the reference: shorten, lay, and what asks the hand ===== -/
theorem lc_lt {x y : Int64} : lg_cmp x y < 0 ↔ x.toInt < y.toInt := by
  unfold lg_cmp
  by_cases h : x > y
  · have := Int64.lt_iff_toInt_lt.mp h
    rw [if_pos h]
    exact ⟨fun q => absurd q (by decide), fun q => by omega⟩
  · rw [if_neg h]
    have h1 : ¬ y.toInt < x.toInt := fun q => h (Int64.lt_iff_toInt_lt.mpr q)
    by_cases h2 : x = y
    · rw [if_pos h2, h2]
      exact ⟨fun q => absurd q (by decide), fun q => by omega⟩
    · rw [if_neg h2]
      have h3 : x.toInt ≠ y.toInt := fun q => h2 (Int64.toInt_inj.mp q)
      exact ⟨fun _ => by omega, fun _ => by decide⟩
theorem lc_gt {x y : Int64} : 0 < lg_cmp x y ↔ y.toInt < x.toInt := by
  unfold lg_cmp
  by_cases h : x > y
  · have := Int64.lt_iff_toInt_lt.mp h
    rw [if_pos h]
    exact ⟨fun _ => this, fun _ => by decide⟩
  · rw [if_neg h]
    have h1 : ¬ y.toInt < x.toInt := fun q => h (Int64.lt_iff_toInt_lt.mpr q)
    by_cases h2 : x = y
    · rw [if_pos h2]
      exact ⟨fun q => absurd q (by decide), fun q => absurd q h1⟩
    · rw [if_neg h2]
      exact ⟨fun q => absurd q (by decide), fun q => absurd q h1⟩
def pt_in (_ : mSH) (_ : mRF) : mPT := fun As I J K => ∃ v lo hi : Int64, As = [.inr (.inl v), .inr (.inl lo), .inr (.inl hi)] ∧ K (some (.inl (if lo.toInt ≤ v.toInt ∧ v.toInt ≤ hi.toInt then 1 else 0))) I J
def pt_mFrac (_ : mSH) (_ : mRF) : mPT := fun As I J K => ∃ u v : Int32, As = [.inl u, .inl v] ∧ K (some (.inl (if isFr u.toInt v.toInt then 1 else 0))) I J
def pt_mpower (_ : mSH) (_ : mRF) : mPT := fun As I J K => ∃ (x : Int64) (e : Nat), As = [.inr (.inl x), .inl (nI e)] ∧ e < 2 ^ 30 ∧ K (some (.inr (.inl (pwL x e)))) I J
abbrev nS (q : Nat) : Prop := q ≠ 7 ∧ q ≠ 8 ∧ q ≠ 9 ∧ q ≠ 10
def pt_mshorten : mSH → mRF → mPT := m_pv 5 (fun sh rf d rest I J K => ∃ (u l : Nat) (σ : Nat → Int), sh = shL ∧ rf = rfL ∧ d = 528 ∧ rest = [.inl (nI u), .inl (nI l)] ∧ u < 40 ∧ l < 40 ∧ u ≠ l ∧ nS u ∧ nS l ∧ MS I σ ∧ σ l ≠ 0 ∧ (σ u).natAbs < 2 ^ (24 * 258) ∧ (σ l).natAbs < 2 ^ (24 * 258) ∧ ∀ I1 σ', MF I I1 → MS I1 σ' → (∀ q, nS q → q ≠ u → q ≠ l → σ' q = σ q) → 0 < σ' l → Nat.gcd (σ' u).natAbs (σ' l).natAbs = 1 → σ' u * σ l = σ u * σ' l → (σ' u).natAbs ≤ (σ u).natAbs → (σ' l).natAbs ≤ (σ l).natAbs → K none I1 J)
def pt_msign : mSH → mRF → mPT := m_pv 5 (fun sh rf d rest I J K => ∃ σ : Nat → Int, sh = shL ∧ rf = rfL ∧ d = 528 ∧ rest = [] ∧ MS I σ ∧ K (some (.inl (sgA (σ 0)))) I J)
def pt_mlay : mSH → mRF → mPT := m_pv 5 (fun sh rf d rest I J K => ∃ (u l : Nat) (σ : Nat → Int), sh = shL ∧ rf = rfL ∧ d = 528 ∧ rest = [.inl (nI u), .inl (nI l)] ∧ u < 40 ∧ l < 40 ∧ u ≠ l ∧ (nS u ∧ u ≠ 0 ∧ u ≠ 1) ∧ (nS l ∧ l ≠ 0 ∧ l ≠ 1) ∧ MS I σ ∧ σ l ≠ 0 ∧ (σ u).natAbs < 2 ^ (24 * 258) ∧ (σ l).natAbs < 2 ^ (24 * 258) ∧ ∀ I1 σ', MF I I1 → MS I1 σ' → 0 < σ' 1 → Nat.gcd (σ' 0).natAbs (σ' 1).natAbs = 1 → σ' 0 * σ l = σ u * σ' 1 → (σ' 0).natAbs ≤ (σ u).natAbs → (σ' 1).natAbs ≤ (σ l).natAbs → K (some (.inl (sgA (σ' 0)))) I1 J)
def pt_mbitsq : mSH → mRF → mPT := m_pv 5 (fun sh rf d rest I J K => ∃ (wh : Int32) (σ : Nat → Int), sh = shL ∧ rf = rfL ∧ d = 528 ∧ rest = [.inl wh] ∧ MS I σ ∧ K (some (.inl (if wh = 0 then nI (blen (σ 0).natAbs) else if wh = 1 then nI (blen (σ 1).natAbs) else -2))) I J)
def pt_magainst : mSH → mRF → mPT := m_pv 5 (fun sh rf d rest I J K => ∃ (u v : Int32) (σ : Nat → Int), sh = shL ∧ rf = rfL ∧ d = 528 ∧ rest = [.inl u, .inl v] ∧ MS I σ ∧ (σ 0).natAbs < 2 ^ (24 * 250) ∧ (σ 1).natAbs < 2 ^ (24 * 250) ∧ ∀ I1 σ', MF I I1 → MS I1 σ' → σ' 0 = σ 0 → σ' 1 = σ 1 → K (some (.inl (if isFr u.toInt v.toInt then sgI (σ 0 * v.toInt - σ 1 * u.toInt) else -20))) I1 J)
theorem qSg_mul {x : Int} {g : Nat} (h : g ∣ x.natAbs) : x = (g : Int) * qSg x g := by
  obtain ⟨k, hk⟩ := h
  unfold qSg
  rcases Nat.eq_zero_or_pos g with q | q
  · subst q
    rw [Nat.zero_mul] at hk
    have : x = 0 := by omega
    rw [this]
    rfl
  · have e : x.natAbs / g = k := by
      rw [hk, Nat.mul_comm]
      exact Nat.mul_div_cancel _ q
    rw [e]
    have e2 : (x.natAbs : Int) = (g : Int) * k := by
      rw [hk]
      exact Int.natCast_mul g k
    split
    · rw [Int.mul_neg, ← e2]
      omega
    · rw [← e2]
      omega
theorem qSg_sg {x : Int} {g : Nat} (hx : 0 < x) (hg : 0 < g) (h : g ∣ x.natAbs) : 0 < qSg x g := by
  have e := qSg_mul h
  rcases (show 0 < qSg x g ∨ qSg x g ≤ 0 by omega) with r | r
  · exact r
  · have := Int.mul_nonpos_of_nonneg_of_nonpos (show (0 : Int) ≤ g by omega) r
    omega
theorem qSg_le {x : Int} {g : Nat} : (qSg x g).natAbs ≤ x.natAbs := by
  have := Nat.div_le_self x.natAbs g
  unfold qSg
  generalize x.natAbs / g = k at this ⊢
  split <;> omega

set_option maxHeartbeats 4000000 in
set_option maxRecDepth 100000 in
theorem mt_X5_in : m_Mt yX5_in cX5_in 6 (some .boolean) 0 0 pt_in := by
  refine m_method0 80 (fl := fl_X5) (kI := kI_X5) (kJ := kJ_X5) (ct := ct_none) (cd := cd_X5_in) (rk := 3) (by decide +kernel) fl_X5_ok kI_X5_ok kJ_X5_ok (ce_none _ _ _ _ _) rfl ck_X5_in ⟨_, _, rfl, rfl⟩ ?_
  intro sh rf As I J K hpt
  obtain ⟨v, lo, hi, rfl, hK⟩ := hpt
  refine ⟨Nat.le_of_ble_eq_true rfl, fun h => ?_, fun h => ⟨fun h2 => ?_, fun h2 => ?_⟩⟩
  · have h := lc_lt.mp h
    rw [if_neg (fun q => by omega)] at hK
    exact ⟨Or.inl rfl, hK⟩
  · have h2 := lc_gt.mp h2
    rw [if_neg (fun q => by omega)] at hK
    exact ⟨Or.inl rfl, hK⟩
  · have h := mt lc_lt.mpr h
    have h2 := mt lc_gt.mpr h2
    rw [if_pos ⟨by omega, by omega⟩] at hK
    exact ⟨Or.inr rfl, hK⟩

def ct_X5_isFraction (sh : mSH) (rf : mRF) : Nat → Option (Nat × Bool × mPT) := fun k => match k with
  | 134 => some (3, false, pt_in sh rf)
  | _ => none
set_option maxRecDepth 20000 in
theorem ce_X5_isFraction : m_CE RX5 1 25 cX5_isFraction 2 ct_X5_isFraction := by
  intro p l e s m args below meth c Q D cs ad sh rf N hx hb hml hown hts hK hi hN k n vf pt h
  unfold ct_X5_isFraction at h
  split at h
  · cases h
    exact m_CG_S mt_X5_in hx hb hml hown hts hK hi hN (m_wck_ok (l := [(Cond.methodLink RX5 134 yX5_in, 748), (Cond.static yX5_in, 749), (Cond.initialized RX5, 62), (Cond.code yX5_in cX5_in 6 (some .boolean), 750)]) (by decide +kernel)) ⟨by decide +kernel, by decide +kernel, by decide +kernel⟩ ⟨Nat.le_of_ble_eq_true rfl, Nat.le_of_ble_eq_true rfl⟩
  · cases h
set_option maxHeartbeats 4000000 in
set_option maxRecDepth 100000 in
theorem mt_X5_isFraction : m_Mt yX5_isFraction cX5_isFraction 2 (some .boolean) 1 25 pt_mFrac := by
  refine m_method0 80 (fl := fl_X5) (kI := kI_X5) (kJ := kJ_X5) (ct := ct_X5_isFraction) (cd := cd_X5_isFraction) (rk := 3) (by decide +kernel) fl_X5_ok kI_X5_ok kJ_X5_ok ce_X5_isFraction rfl ck_X5_isFraction ⟨_, _, rfl, rfl⟩ ?_
  intro sh rf As I J K hpt
  obtain ⟨u, v, rfl, hK⟩ := hpt
  have e1 : (-1000000 : Int64).toInt = -1000000 := rfl
  have e2 : (1000000 : Int64).toInt = 1000000 := rfl
  have e3 : (1 : Int64).toInt = 1 := rfl
  refine ⟨Nat.le_of_ble_eq_true rfl, u.toInt64, -1000000, 1000000, rfl, fun h => ?_, fun h => ⟨v.toInt64, 1, 1000000, rfl, fun h2 => ?_, fun h2 => ?_⟩⟩
  · have h := w_is0 h
    rw [e1, e2, Int32.toInt_toInt64] at h
    rw [if_neg (fun q => h q.1)] at hK
    exact ⟨Or.inl rfl, hK⟩
  · have h2 := w_is0 h2
    rw [e2, e3, Int32.toInt_toInt64] at h2
    rw [if_neg (fun q => h2 q.2)] at hK
    exact ⟨Or.inl rfl, hK⟩
  · have h := w_not0 h
    have h2 := w_not0 h2
    rw [e1, e2, Int32.toInt_toInt64] at h
    rw [e2, e3, Int32.toInt_toInt64] at h2
    rw [if_pos ⟨h, h2⟩] at hK
    exact ⟨Or.inr rfl, hK⟩

set_option maxHeartbeats 4000000 in
set_option maxRecDepth 100000 in
theorem mt_X5_power : m_Mt yX5_power cX5_power 6 (some .long) 0 0 pt_mpower := by
  refine m_methodG (fl := fl_X5) (kI := kI_X5) (kJ := kJ_X5) (ct := ct_none) (cd := cd_X5_power) (cut := [(5, [0, 2, 3, 5])]) (rk := 2) (fu := 80) (by decide +kernel) fl_X5_ok kI_X5_ok kJ_X5_ok (ce_none _ _ _ _ _) rfl ck_X5_power ⟨_, _, rfl, rfl⟩ ?_
  intro sh rf As I J K hpt
  obtain ⟨x, e, rfl, he, hK⟩ := hpt
  refine ⟨Nat.le_of_ble_eq_true rfl, fun a9 b9 pc vs st I1 J1 => ∃ i, vs = [.inr (.inl x), .inl (nI e), .inr (.inl (pwL x i)), .inl (nI i)] ∧ st = [] ∧ I1 = I ∧ J1 = J ∧ a9 = e - i ∧ i ≤ e, ?_, ?_⟩
  · exact ⟨e - 0, 0, 0, rfl, rfl, rfl, rfl, rfl, Nat.zero_le _⟩
  · intro pc ks a9 b9 vs st I1 J1 hc hI
    rcases m_cu1 hc with ⟨rfl, rfl⟩ | hc
    · obtain ⟨i, rfl, rfl, rfl, rfl, rfl, hi⟩ := hI
      refine ⟨fun h => ?_, fun h => ?_⟩
      · have h : nI e ≤ nI i := h
        rw [nI_leI (by omega) (by omega)] at h
        obtain rfl : i = e := by omega
        exact hK
      · have h : ¬ nI e ≤ nI i := h
        rw [nI_leI (by omega) (by omega)] at h
        exact ⟨e - (i + 1), 0, Or.inl (by omega), i + 1, by rw [← nI_1 i]; rfl, rfl, rfl, rfl, rfl, by omega⟩
    · cases hc

def ct_X5_shorten (sh : mSH) (rf : mRF) : Nat → Option (Nat × Bool × mPT) := fun k => match k with
  | 50 => some (3, true, pt_mset sh rf)
  | 101 => some (3, true, pt_mgcd sh rf)
  | 97 => some (2, true, pt_mbits sh rf)
  | 104 => some (2, true, pt_mdivide sh rf)
  | _ => none
set_option maxRecDepth 20000 in
theorem ce_X5_shorten : m_CE RX5 3 73 cX5_shorten 3 ct_X5_shorten := by
  intro p l e s m args below meth c Q D cs ad sh rf N hx hb hml hown hts hK hi hN k n vf pt h
  unfold ct_X5_shorten at h
  split at h
  · cases h
    exact m_CG_V mt_X5_set hx hb hml hown hts hK hi hN (ci := 5) m_pv_rec rfl rfl (m_wck_ok (l := [(Cond.methodLink RX5 50 yX5_set, 677), (Cond.instanceMethod yX5_set, 679), (Cond.selects RX5 yX5_set yX5_set, 14), (Cond.initialized RX5, 62), (Cond.code yX5_set cX5_set 7 none, 680)]) (by decide +kernel)) ⟨rfl, by decide +kernel, by decide +kernel, by decide +kernel⟩ ⟨Nat.le_of_ble_eq_true rfl, Nat.le_of_ble_eq_true rfl⟩
  · cases h
    exact m_CG_V mt_X5_findCommon hx hb hml hown hts hK hi hN (ci := 5) m_pv_rec rfl rfl (m_wck_ok (l := [(Cond.methodLink RX5 101 yX5_findCommon, 851), (Cond.instanceMethod yX5_findCommon, 853), (Cond.selects RX5 yX5_findCommon yX5_findCommon, 31), (Cond.initialized RX5, 62), (Cond.code yX5_findCommon cX5_findCommon 5 none, 854)]) (by decide +kernel)) ⟨rfl, by decide +kernel, by decide +kernel, by decide +kernel⟩ ⟨Nat.le_of_ble_eq_true rfl, Nat.le_of_ble_eq_true rfl⟩
  · cases h
    exact m_CG_V mt_X5_bitsOf hx hb hml hown hts hK hi hN (ci := 5) m_pv_rec rfl rfl (m_wck_ok (l := [(Cond.methodLink RX5 97 yX5_bitsOf, 827), (Cond.instanceMethod yX5_bitsOf, 829), (Cond.selects RX5 yX5_bitsOf yX5_bitsOf, 27), (Cond.initialized RX5, 62), (Cond.code yX5_bitsOf cX5_bitsOf 3 (some .int), 830)]) (by decide +kernel)) ⟨rfl, by decide +kernel, by decide +kernel, by decide +kernel⟩ ⟨Nat.le_of_ble_eq_true rfl, Nat.le_of_ble_eq_true rfl⟩
  · cases h
    exact m_CG_V mt_X5_divide hx hb hml hown hts hK hi hN (ci := 5) m_pv_rec rfl rfl (m_wck_ok (l := [(Cond.methodLink RX5 104 yX5_divide, 867), (Cond.instanceMethod yX5_divide, 869), (Cond.selects RX5 yX5_divide yX5_divide, 35), (Cond.initialized RX5, 62), (Cond.code yX5_divide cX5_divide 5 none, 870)]) (by decide +kernel)) ⟨rfl, by decide +kernel, by decide +kernel, by decide +kernel⟩ ⟨Nat.le_of_ble_eq_true rfl, Nat.le_of_ble_eq_true rfl⟩
  · cases h
set_option maxHeartbeats 4000000 in
set_option maxRecDepth 100000 in
theorem mt_X5_shorten : m_Mt yX5_shorten cX5_shorten 3 none 3 73 pt_mshorten := by
  refine m_methodG (fl := fl_X5) (kI := kI_X5) (kJ := kJ_X5) (ct := ct_X5_shorten) (cd := cd_X5_shorten) (cut := [(45, [0, 1, 2])]) (rk := 0) (fu := 80) (by decide +kernel) fl_X5_ok kI_X5_ok kJ_X5_ok ce_X5_shorten rfl ck_X5_shorten ⟨_, _, rfl, rfl⟩ ?_
  intro sh rf As I J K hpt
  obtain ⟨d, rest, rfl, hd, u, l, σ, rfl, rfl, rfl, rfl, hu, hl, hul, nu, nl, hM, hl0, hub, hlb, hK⟩ := hpt
  have su := (hM u hu)
  have sl := (hM l hl)
  obtain ⟨-, -, -, su3⟩ := id su
  obtain ⟨-, -, -, sl3⟩ := id sl
  refine ⟨Nat.le_of_ble_eq_true rfl, fun a9 b9 pc vs st I1 J1 => vs = [.inr (.inr 528), .inl (nI u), .inl (nI l)] ∧ st = [] ∧ J1 = J ∧ MF I I1 ∧ ∃ σ1, MS I1 σ1 ∧ (∀ q, q ≠ u → q ≠ l → σ1 q = σ q) ∧ 0 < σ1 l ∧ σ1 u ≠ 0 ∧ σ1 u * σ l = σ u * σ1 l ∧ (σ1 u).natAbs = (σ u).natAbs ∧ (σ1 l).natAbs = (σ l).natAbs, ?_, ?_⟩
  · refine ⟨rfl, sin hu, fun h => ?_, fun h => ?_⟩
    · have h : ¬ I 531 (nI u).toNatClampNeg = 0 := h
      rw [scl hu, su3, sgI_0] at h
      refine ⟨rfl, sin hl, fun h2 => ?_, fun h2 => ?_⟩
      · have h2 : 0 ≤ I 531 (nI l).toNatClampNeg := h2
        rw [scl hl, sl3] at h2
        have hpos : 0 < σ l := by
          rcases (show σ l < 0 ∨ 0 < σ l by omega) with q | q
          · rw [sgI_n q] at h2
            exact absurd h2 (by decide)
          · exact q
        exact ⟨0, 0, rfl, rfl, rfl, MF.rfl' I, σ, hM, fun _ _ _ => rfl, hpos, h, rfl, rfl, rfl⟩
      · have h2 : ¬ 0 ≤ I 531 (nI l).toNatClampNeg := h2
        rw [scl hl, sl3] at h2
        have hneg : σ l < 0 := by
          rcases (show σ l < 0 ∨ 0 < σ l by omega) with q | q
          · exact q
          · rw [sgI_p q] at h2
            exact absurd (by decide) h2
        refine ⟨rfl, sin hl, rfl, rfl, sin hu, sin hu, 0, 0, rfl, rfl, rfl, ?_⟩
        have yl : ZIs (m_uI I 531 l 1) l (-σ l) := sl.sgn (Int.natAbs_neg _) (sgI_p (by omega)).symm
        have M1 := hM.up (sf_s I l 1) yl
        have zu := M1 u hu
        rw [up_o _ _ hul] at zu
        have esg : -sgI (σ u) = sgI (-σ u) := by
          rcases Int.lt_trichotomy (σ u) 0 with q | q | q
          · rw [sgI_n q, sgI_p (by omega)]
            rfl
          · exact absurd q h
          · rw [sgI_p q, sgI_n (by omega)]
        have yu : ZIs (m_uI (m_uI I 531 l 1) 531 u (-sgI (σ u))) u (-σ u) := zu.sgn (Int.natAbs_neg _) esg
        have M2 := M1.up (sf_s _ u _) yu
        have key : ∀ I3, I3 = m_uI (m_uI I 531 l 1) 531 u (-sgI (σ u)) → MF I I3 ∧ ∃ σ1, MS I3 σ1 ∧ (∀ q, q ≠ u → q ≠ l → σ1 q = σ q) ∧ 0 < σ1 l ∧ σ1 u ≠ 0 ∧ σ1 u * σ l = σ u * σ1 l ∧ (σ1 u).natAbs = (σ u).natAbs ∧ (σ1 l).natAbs = (σ l).natAbs := by
          intro I3 e3
          subst e3
          refine ⟨(sf_s I l 1).mf.trans (sf_s _ u _).mf, _, M2, fun q q1 q2 => ?_, ?_, ?_, ?_, ?_, ?_⟩
          · rw [up_o _ _ q1, up_o _ _ q2]
          · rw [up_o _ _ hul.symm, up_s]
            omega
          · rw [up_s]
            omega
          · rw [up_s, up_o _ _ hul.symm, up_s, Int.neg_mul, Int.mul_neg]
          · rw [up_s]
            omega
          · rw [up_o _ _ hul.symm, up_s]
            omega
        refine key _ ?_
        show m_uI (m_uI I 531 (nI l).toNatClampNeg 1) 531 (nI u).toNatClampNeg (-(m_uI I 531 (nI l).toNatClampNeg 1) 531 (nI u).toNatClampNeg) = _
        rw [scl hl, scl hu, uI_k _ _ _ hul, su3]
    · have h : I 531 (nI u).toNatClampNeg = 0 := h
      rw [scl hu, su3, sgI_0] at h
      refine ⟨528, [.inl (nI l), .inr (.inl 1)], rfl, rfl, l, 1, rfl, rfl, rfl, rfl, hl, by decide, fun I1 a1 a2 => ?_⟩
      have e1 : (1 : Int64).toInt = 1 := rfl
      rw [e1] at a2
      refine hK I1 (up σ l 1) a1.mf (hM.up a1 a2) (fun q _ _ q2 => up_o _ _ q2) ?_ ?_ ?_ ?_ ?_
      · rw [up_s]; decide
      · rw [up_o _ _ hul, up_s, h]
        rfl
      · rw [up_o _ _ hul, up_s, h, Int.zero_mul, Int.zero_mul]
      · rw [up_o _ _ hul]
        exact Nat.le_refl _
      · rw [up_s]
        omega
  · intro pc ks a9 b9 vs st I1 J1 hc hI
    rcases m_cu1 hc with ⟨rfl, rfl⟩ | hc
    · obtain ⟨rfl, rfl, rfl, hF, σ1, M1, k1, hp, hu0, hx, hau, hal⟩ := hI
      refine ⟨528, [.inl (nI u), .inl (nI l)], rfl, rfl, u, l, σ1, rfl, rfl, rfl, rfl, hu, hl, ⟨nu.1, nu.2.1, nu.2.2.2⟩, ⟨nl.1, nl.2.1, nl.2.2.2⟩, M1, hu0, by omega, by rw [hau]; exact hub, fun I2 σ2 F2 M2 k2 e7 => ?_⟩
      obtain ⟨g, hg⟩ : ∃ g, g = Nat.gcd (σ1 u).natAbs (σ1 l).natAbs := ⟨_, rfl⟩
      rw [← hg] at e7
      have g0 : 0 < g := by
        rw [hg]
        exact Nat.gcd_pos_of_pos_left _ (by omega)
      have gu : g ∣ (σ1 u).natAbs := by rw [hg]; exact Nat.gcd_dvd_left _ _
      have gl : g ∣ (σ1 l).natAbs := by rw [hg]; exact Nat.gcd_dvd_right _ _
      have gle : g ≤ (σ1 u).natAbs := Nat.le_of_dvd (by omega) gu
      have z7 := M2 7 (by decide)
      rw [e7] at z7
      have eu : σ2 u = σ1 u := k2 u ⟨nu.1, nu.2.1, nu.2.2.2⟩
      have el : σ2 l = σ1 l := k2 l ⟨nl.1, nl.2.1, nl.2.2.2⟩
      have hbl := blen_le (v := g) (L := 24 * 258) (by omega)
      refine ⟨528, [.inl (nI 7)], rfl, rfl, 7, (g : Int), rfl, rfl, rfl, rfl, by decide, z7, ?_⟩
      rw [Int.natAbs_natCast]
      refine ⟨fun h => ?_, fun h => ?_⟩
      · have h : nI (blen g) ≤ nI 1 := h
        rw [nI_leI (by omega) (by omega)] at h
        have g1 : g = 1 := by
          have := Nat.lt_of_lt_of_le (lt_blen g) (Nat.pow_le_pow_right (show 0 < 2 by decide) h)
          omega
        refine hK I2 σ2 (hF.trans F2) M2 (fun q n q1 q2 => (k2 q ⟨n.1, n.2.1, n.2.2.2⟩).trans (k1 q q1 q2)) ?_ ?_ ?_ ?_ ?_
        · rw [el]; exact hp
        · rw [eu, el, ← hg, g1]
        · rw [eu, el]; exact hx
        · rw [eu]; omega
        · rw [el]; omega
      · refine ⟨528, [.inl (nI u)], rfl, rfl, u, g, σ2, rfl, rfl, rfl, rfl, hu, ⟨nu.1, nu.2.2.1, nu.2.2.2⟩, M2, e7, g0, by omega, by rw [eu]; omega, fun I3 σ3 F3 M3 k3 e3 => ?_⟩
        have e73 : σ3 7 = (g : Int) := by rw [k3 7 (by decide) (by decide) nu.1.symm]; exact e7
        have el3 : σ3 l = σ1 l := by rw [k3 l nl.2.2.1 nl.2.2.2 hul.symm]; exact el
        rw [eu] at e3
        refine ⟨528, [.inl (nI l)], rfl, rfl, l, g, σ3, rfl, rfl, rfl, rfl, hl, ⟨nl.1, nl.2.2.1, nl.2.2.2⟩, M3, e73, g0, by omega, by rw [el3]; omega, fun I4 σ4 F4 M4 k4 e4 => ?_⟩
        rw [el3] at e4
        have eu4 : σ4 u = qSg (σ1 u) g := by rw [k4 u nu.2.2.1 nu.2.2.2 hul]; exact e3
        have m1 := qSg_mul gu
        have m2 := qSg_mul gl
        refine hK I4 σ4 (((hF.trans F2).trans F3).trans F4) M4 (fun q n q1 q2 => ?_) ?_ ?_ ?_ ?_ ?_
        · rw [k4 q n.2.2.1 n.2.2.2 q2, k3 q n.2.2.1 n.2.2.2 q1, k2 q ⟨n.1, n.2.1, n.2.2.2⟩, k1 q q1 q2]
        · rw [e4]
          exact qSg_sg hp g0 gl
        · rw [eu4, e4]
          have a1 : (σ1 u).natAbs = g * (qSg (σ1 u) g).natAbs := by
            have := congrArg Int.natAbs m1
            rw [Int.natAbs_mul, Int.natAbs_natCast] at this
            exact this
          have a2 : (σ1 l).natAbs = g * (qSg (σ1 l) g).natAbs := by
            have := congrArg Int.natAbs m2
            rw [Int.natAbs_mul, Int.natAbs_natCast] at this
            exact this
          rw [a1, a2, Nat.gcd_mul_left] at hg
          have e3 : g * 1 = g * Nat.gcd (qSg (σ1 u) g).natAbs (qSg (σ1 l) g).natAbs := by rw [Nat.mul_one]; exact hg
          exact (Nat.eq_of_mul_eq_mul_left g0 e3).symm
        · rw [eu4, e4]
          apply Int.eq_of_mul_eq_mul_left (show (g : Int) ≠ 0 by omega)
          rw [← Int.mul_assoc, ← m1, hx]
          rw [← Int.mul_assoc, Int.mul_comm (g : Int) (σ u), Int.mul_assoc, ← m2]
        · rw [eu4, ← hau]
          exact qSg_le
        · rw [e4, ← hal]
          exact qSg_le
    · cases hc

set_option maxHeartbeats 4000000 in
set_option maxRecDepth 100000 in
theorem mt_X5_sign : m_Mt yX5_sign cX5_sign 1 (some .int) 0 0 pt_msign := by
  refine m_method0 80 (fl := fl_X5) (kI := kI_X5) (kJ := kJ_X5) (ct := ct_none) (cd := cd_X5_sign) (rk := 1) (by decide +kernel) fl_X5_ok kI_X5_ok kJ_X5_ok (ce_none _ _ _ _ _) rfl ck_X5_sign ⟨_, _, rfl, rfl⟩ ?_
  intro sh rf As I J K hpt
  obtain ⟨d, rest, rfl, hd, σ, rfl, rfl, rfl, rfl, hM, hK⟩ := hpt
  obtain ⟨n, z1, z2, z3⟩ := hM 0 (by decide)
  refine ⟨Nat.le_of_ble_eq_true rfl, rfl, sin (s := 0) (by decide), fun h => ?_, fun h => ?_⟩
  · have h : 0 ≤ I 531 0 := h
    rw [z3] at h
    refine ⟨rfl, sin (s := 0) (by decide), ?_⟩
    show K (some (.inl (I 531 0))) I J
    have e : sgA (σ 0) = I 531 0 := by
      rw [z3]
      rcases Int.lt_trichotomy (σ 0) 0 with q | q | q
      · rw [sgI_n q] at h
        exact absurd h (by decide)
      · rw [q]
        rfl
      · rw [sgI_p q]
        unfold sgA
        rw [if_neg (by omega), if_neg (by omega)]
    rw [← e]
    exact hK
  · have h : ¬ 0 ≤ I 531 0 := h
    rw [z3] at h
    have hn : σ 0 < 0 := by
      rcases Int.lt_trichotomy (σ 0) 0 with q | q | q
      · exact q
      · rw [q] at h
        exact absurd (by decide) h
      · rw [sgI_p q] at h
        exact absurd (by decide) h
    have e : sgA (σ 0) = 2 := if_pos hn
    rw [e] at hK
    exact hK

def ct_X5_lay (sh : mSH) (rf : mRF) : Nat → Option (Nat × Bool × mPT) := fun k => match k with
  | 107 => some (3, true, pt_mshorten sh rf)
  | 66 => some (3, true, pt_mcopy sh rf)
  | 110 => some (1, true, pt_msign sh rf)
  | _ => none
set_option maxRecDepth 20000 in
theorem ce_X5_lay : m_CE RX5 4 95 cX5_lay 3 ct_X5_lay := by
  intro p l e s m args below meth c Q D cs ad sh rf N hx hb hml hown hts hK hi hN k n vf pt h
  unfold ct_X5_lay at h
  split at h
  · cases h
    exact m_CG_V mt_X5_shorten hx hb hml hown hts hK hi hN (ci := 5) m_pv_rec rfl rfl (m_wck_ok (l := [(Cond.methodLink RX5 107 yX5_shorten, 847), (Cond.instanceMethod yX5_shorten, 849), (Cond.selects RX5 yX5_shorten yX5_shorten, 30), (Cond.initialized RX5, 62), (Cond.code yX5_shorten cX5_shorten 3 none, 850)]) (by decide +kernel)) ⟨rfl, by decide +kernel, by decide +kernel, by decide +kernel⟩ ⟨Nat.le_of_ble_eq_true rfl, Nat.le_of_ble_eq_true rfl⟩
  · cases h
    exact m_CG_V mt_X5_copy hx hb hml hown hts hK hi hN (ci := 5) m_pv_rec rfl rfl (m_wck_ok (l := [(Cond.methodLink RX5 66 yX5_copy, 797), (Cond.instanceMethod yX5_copy, 799), (Cond.selects RX5 yX5_copy yX5_copy, 20), (Cond.initialized RX5, 62), (Cond.code yX5_copy cX5_copy 4 none, 800)]) (by decide +kernel)) ⟨rfl, by decide +kernel, by decide +kernel, by decide +kernel⟩ ⟨Nat.le_of_ble_eq_true rfl, Nat.le_of_ble_eq_true rfl⟩
  · cases h
    exact m_CG_V mt_X5_sign hx hb hml hown hts hK hi hN (ci := 5) m_pv_rec rfl rfl (m_wck_ok (l := [(Cond.methodLink RX5 110 yX5_sign, 871), (Cond.instanceMethod yX5_sign, 872), (Cond.selects RX5 yX5_sign yX5_sign, 873), (Cond.initialized RX5, 62), (Cond.code yX5_sign cX5_sign 1 (some .int), 874)]) (by decide +kernel)) ⟨rfl, by decide +kernel, by decide +kernel, by decide +kernel⟩ ⟨Nat.le_of_ble_eq_true rfl, Nat.le_of_ble_eq_true rfl⟩
  · cases h
set_option maxHeartbeats 4000000 in
set_option maxRecDepth 100000 in
theorem mt_X5_lay : m_Mt yX5_lay cX5_lay 3 (some .int) 4 95 pt_mlay := by
  refine m_method0 80 (fl := fl_X5) (kI := kI_X5) (kJ := kJ_X5) (ct := ct_X5_lay) (cd := cd_X5_lay) (rk := 1) (by decide +kernel) fl_X5_ok kI_X5_ok kJ_X5_ok ce_X5_lay rfl ck_X5_lay ⟨_, _, rfl, rfl⟩ ?_
  intro sh rf As I J K hpt
  obtain ⟨d, rest, rfl, hd, u, l, σ, rfl, rfl, rfl, rfl, hu, hl, hul, ⟨nu, nu0, nu1⟩, ⟨nl, nl0, nl1⟩, hM, hl0, hub, hlb, hK⟩ := hpt
  refine ⟨Nat.le_of_ble_eq_true rfl, 528, [.inl (nI u), .inl (nI l)], rfl, rfl, u, l, σ, rfl, rfl, rfl, rfl, hu, hl, hul, nu, nl, hM, hl0, hub, hlb, fun I1 σ1 F1 M1 k1 h1 h2 h3 h4 h5 => ?_⟩
  obtain ⟨n1, w1⟩ := M1.wf hu
  refine ⟨528, [.inl (nI u), .inl (nI 0)], rfl, rfl, u, 0, n1, rfl, rfl, rfl, rfl, hu, by decide, w1, fun I2 a1 a2 a3 a4 => ?_⟩
  have M2 := M1.cp hu w1 a1 a2 a3 a4
  obtain ⟨n2, w2⟩ := M2.wf hl
  refine ⟨528, [.inl (nI l), .inl (nI 1)], rfl, rfl, l, 1, n2, rfl, rfl, rfl, rfl, hl, by decide, w2, fun I3 b1 b2 b3 b4 => ?_⟩
  have M3 := M2.cp hl w2 b1 b2 b3 b4
  rw [up_o _ _ nl0] at M3
  have e0 : up (up σ1 0 (σ1 u)) 1 (σ1 l) 0 = σ1 u := by rw [up_o _ _ (by decide), up_s]
  have e1 : up (up σ1 0 (σ1 u)) 1 (σ1 l) 1 = σ1 l := up_s _ _ _
  refine ⟨528, [], rfl, rfl, _, rfl, rfl, rfl, rfl, M3, ?_⟩
  refine hK I3 _ ((F1.trans a1.mf).trans b1.mf) M3 ?_ ?_ ?_ ?_ ?_
  · rw [e1]; exact h1
  · rw [e0, e1]; exact h2
  · rw [e0, e1]; exact h3
  · rw [e0]; exact h4
  · rw [e1]; exact h5

def ct_X5_bits (sh : mSH) (rf : mRF) : Nat → Option (Nat × Bool × mPT) := fun k => match k with
  | 134 => some (3, false, pt_in sh rf)
  | 97 => some (2, true, pt_mbits sh rf)
  | _ => none
set_option maxRecDepth 20000 in
theorem ce_X5_bits : m_CE RX5 1 25 cX5_bits 2 ct_X5_bits := by
  intro p l e s m args below meth c Q D cs ad sh rf N hx hb hml hown hts hK hi hN k n vf pt h
  unfold ct_X5_bits at h
  split at h
  · cases h
    exact m_CG_S mt_X5_in hx hb hml hown hts hK hi hN (m_wck_ok (l := [(Cond.methodLink RX5 134 yX5_in, 748), (Cond.static yX5_in, 749), (Cond.initialized RX5, 62), (Cond.code yX5_in cX5_in 6 (some .boolean), 750)]) (by decide +kernel)) ⟨by decide +kernel, by decide +kernel, by decide +kernel⟩ ⟨Nat.le_of_ble_eq_true rfl, Nat.le_of_ble_eq_true rfl⟩
  · cases h
    exact m_CG_V mt_X5_bitsOf hx hb hml hown hts hK hi hN (ci := 5) m_pv_rec rfl rfl (m_wck_ok (l := [(Cond.methodLink RX5 97 yX5_bitsOf, 827), (Cond.instanceMethod yX5_bitsOf, 829), (Cond.selects RX5 yX5_bitsOf yX5_bitsOf, 27), (Cond.initialized RX5, 62), (Cond.code yX5_bitsOf cX5_bitsOf 3 (some .int), 830)]) (by decide +kernel)) ⟨rfl, by decide +kernel, by decide +kernel, by decide +kernel⟩ ⟨Nat.le_of_ble_eq_true rfl, Nat.le_of_ble_eq_true rfl⟩
  · cases h
set_option maxHeartbeats 4000000 in
set_option maxRecDepth 100000 in
theorem mt_X5_bits : m_Mt yX5_bits cX5_bits 2 (some .int) 1 25 pt_mbitsq := by
  refine m_method0 80 (fl := fl_X5) (kI := kI_X5) (kJ := kJ_X5) (ct := ct_X5_bits) (cd := cd_X5_bits) (rk := 1) (by decide +kernel) fl_X5_ok kI_X5_ok kJ_X5_ok ce_X5_bits rfl ck_X5_bits ⟨_, _, rfl, rfl⟩ ?_
  intro sh rf As I J K hpt
  obtain ⟨d, rest, rfl, hd, wh, σ, rfl, rfl, rfl, rfl, hM, hK⟩ := hpt
  have e0 : (0 : Int64).toInt = 0 := rfl
  have e1 : (1 : Int64).toInt = 1 := rfl
  have t0 : (0 : Int32).toInt = 0 := rfl
  have t1 : (1 : Int32).toInt = 1 := rfl
  refine ⟨Nat.le_of_ble_eq_true rfl, wh.toInt64, 0, 1, rfl, fun h => ?_, fun h => ⟨fun h2 => ?_, fun h2 => ?_⟩⟩
  · have h := w_is0 h
    rw [e0, e1, Int32.toInt_toInt64] at h
    rw [if_neg (fun q => h (by rw [q]; decide)), if_neg (fun q => h (by rw [q]; decide))] at hK
    exact hK
  · have h := w_not0 h
    rw [e0, e1, Int32.toInt_toInt64] at h
    have h2 : ¬ wh = 0 := h2
    have hw : wh = 1 := Int32.toInt_inj.mp (by rw [t1]; have : wh.toInt ≠ 0 := fun q => h2 (Int32.toInt_inj.mp (q.trans t0.symm)); omega)
    rw [if_neg h2, if_pos hw] at hK
    exact ⟨528, [.inl (nI 1)], rfl, rfl, 1, σ 1, rfl, rfl, rfl, rfl, by decide, hM 1 (by decide), hK⟩
  · have h2 : wh = 0 := h2
    rw [if_pos h2] at hK
    exact ⟨528, [.inl (nI 0)], rfl, rfl, 0, σ 0, rfl, rfl, rfl, rfl, by decide, hM 0 (by decide), hK⟩

def ct_X5_against (sh : mSH) (rf : mRF) : Nat → Option (Nat × Bool × mPT) := fun k => match k with
  | 207 => some (2, false, pt_mFrac sh rf)
  | 66 => some (3, true, pt_mcopy sh rf)
  | 161 => some (3, true, pt_mtimes sh rf)
  | 164 => some (5, true, pt_madd sh rf)
  | _ => none
set_option maxRecDepth 20000 in
theorem ce_X5_against : m_CE RX5 3 76 cX5_against 3 ct_X5_against := by
  intro p l e s m args below meth c Q D cs ad sh rf N hx hb hml hown hts hK hi hN k n vf pt h
  unfold ct_X5_against at h
  split at h
  · cases h
    exact m_CG_S mt_X5_isFraction hx hb hml hown hts hK hi hN (m_wck_ok (l := [(Cond.methodLink RX5 207 yX5_isFraction, 932), (Cond.static yX5_isFraction, 933), (Cond.initialized RX5, 62), (Cond.code yX5_isFraction cX5_isFraction 2 (some .boolean), 934)]) (by decide +kernel)) ⟨by decide +kernel, by decide +kernel, by decide +kernel⟩ ⟨Nat.le_of_ble_eq_true rfl, Nat.le_of_ble_eq_true rfl⟩
  · cases h
    exact m_CG_V mt_X5_copy hx hb hml hown hts hK hi hN (ci := 5) m_pv_rec rfl rfl (m_wck_ok (l := [(Cond.methodLink RX5 66 yX5_copy, 797), (Cond.instanceMethod yX5_copy, 799), (Cond.selects RX5 yX5_copy yX5_copy, 20), (Cond.initialized RX5, 62), (Cond.code yX5_copy cX5_copy 4 none, 800)]) (by decide +kernel)) ⟨rfl, by decide +kernel, by decide +kernel, by decide +kernel⟩ ⟨Nat.le_of_ble_eq_true rfl, Nat.le_of_ble_eq_true rfl⟩
  · cases h
    exact m_CG_V mt_X5_times hx hb hml hown hts hK hi hN (ci := 5) m_pv_rec rfl rfl (m_wck_ok (l := [(Cond.methodLink RX5 161 yX5_times, 785), (Cond.instanceMethod yX5_times, 787), (Cond.selects RX5 yX5_times yX5_times, 17), (Cond.initialized RX5, 62), (Cond.code yX5_times cX5_times 4 none, 788)]) (by decide +kernel)) ⟨rfl, by decide +kernel, by decide +kernel, by decide +kernel⟩ ⟨Nat.le_of_ble_eq_true rfl, Nat.le_of_ble_eq_true rfl⟩
  · cases h
    exact m_CG_V mt_X5_add hx hb hml hown hts hK hi hN (ci := 5) m_pv_rec rfl rfl (m_wck_ok (l := [(Cond.methodLink RX5 164 yX5_add, 801), (Cond.instanceMethod yX5_add, 803), (Cond.selects RX5 yX5_add yX5_add, 21), (Cond.initialized RX5, 62), (Cond.code yX5_add cX5_add 8 none, 804)]) (by decide +kernel)) ⟨rfl, by decide +kernel, by decide +kernel, by decide +kernel⟩ ⟨Nat.le_of_ble_eq_true rfl, Nat.le_of_ble_eq_true rfl⟩
  · cases h
set_option maxHeartbeats 4000000 in
set_option maxRecDepth 100000 in
theorem mt_X5_against : m_Mt yX5_against cX5_against 3 (some .int) 3 76 pt_magainst := by
  refine m_method0 80 (fl := fl_X5) (kI := kI_X5) (kJ := kJ_X5) (ct := ct_X5_against) (cd := cd_X5_against) (rk := 1) (by decide +kernel) fl_X5_ok kI_X5_ok kJ_X5_ok ce_X5_against rfl ck_X5_against ⟨_, _, rfl, rfl⟩ ?_
  intro sh rf As I J K hpt
  obtain ⟨d, rest, rfl, hd, u, v, σ, rfl, rfl, rfl, rfl, hM, hb0, hb1, hK⟩ := hpt
  refine ⟨Nat.le_of_ble_eq_true rfl, u, v, rfl, fun h => ?_, fun h => ?_⟩
  · have hfr := w_not0 h
    have hu63 : u.toInt64.toInt.natAbs < 2 ^ 63 := by rw [Int32.toInt_toInt64]; omega
    have hv63 : v.toInt64.toInt.natAbs < 2 ^ 63 := by rw [Int32.toInt_toInt64]; omega
    obtain ⟨n0, w0⟩ := hM.wf (s := 0) (by decide)
    refine ⟨528, [.inl (nI 0), .inl (nI 2)], rfl, rfl, 0, 2, n0, rfl, rfl, rfl, rfl, by decide, by decide, w0, fun I1 a1 a2 a3 a4 => ?_⟩
    have M1 := hM.cp (by decide) w0 a1 a2 a3 a4
    refine ⟨528, [.inl (nI 2), .inr (.inl v.toInt64)], rfl, rfl, 2, 250, v.toInt64, _, rfl, rfl, rfl, rfl, by decide, by decide, by decide, M1, hv63, by rw [up_s]; exact hb0, by decide, fun I2 F2 M2 => ?_⟩
    rw [up_s] at M2
    obtain ⟨n1, w1⟩ := M2.wf (s := 1) (by decide)
    refine ⟨528, [.inl (nI 1), .inl (nI 3)], rfl, rfl, 1, 3, n1, rfl, rfl, rfl, rfl, by decide, by decide, w1, fun I3 b1 b2 b3 b4 => ?_⟩
    have M3 := M2.cp (by decide) w1 b1 b2 b3 b4
    have e1 : up (up (up (up σ 2 (σ 0)) 6 v.toInt64.toInt) 5 (σ 0 * v.toInt64.toInt)) 2 (σ 0 * v.toInt64.toInt) 1 = σ 1 := by
      rw [up_o _ _ (by decide), up_o _ _ (by decide), up_o _ _ (by decide), up_o _ _ (by decide)]
    rw [e1] at M3
    refine ⟨528, [.inl (nI 3), .inr (.inl u.toInt64)], rfl, rfl, 3, 250, u.toInt64, _, rfl, rfl, rfl, rfl, by decide, by decide, by decide, M3, hu63, by rw [up_s]; exact hb1, by decide, fun I4 F4 M4 => ?_⟩
    rw [up_s] at M4
    have z2 := M4 2 (by decide)
    have z3 := M4 3 (by decide)
    rw [up_o _ _ (by decide), up_o _ _ (by decide), up_o _ _ (by decide), up_o _ _ (by decide), up_s] at z2
    rw [up_s] at z3
    have b2 : (σ 0 * v.toInt64.toInt).natAbs < 2 ^ (24 * 253) := by
      rw [Int.natAbs_mul, show 24 * 253 = 24 * 250 + 72 from rfl, Nat.pow_add]
      exact Nat.mul_lt_mul'' hb0 (by omega)
    have b3 : (σ 1 * u.toInt64.toInt).natAbs < 2 ^ (24 * 253) := by
      rw [Int.natAbs_mul, show 24 * 253 = 24 * 250 + 72 from rfl, Nat.pow_add]
      exact Nat.mul_lt_mul'' hb1 (by omega)
    refine ⟨528, [.inl (nI 2), .inl (nI 3), .inl (-1), .inl (nI 2)], rfl, rfl, 2, 3, 2, 253, _, _, -1, rfl, rfl, rfl, rfl, by decide, by decide, by decide, Or.inr rfl, z2, z3, b2, b3, by decide, fun I5 c1 c2 => ?_⟩
    have M5 := M4.up c1 c2
    obtain ⟨-, -, -, s5⟩ := c2
    refine ⟨rfl, sin (s := 2) (by decide), ?_⟩
    show K (some (.inl (I5 531 2))) I5 J
    have e : I5 531 2 = if isFr u.toInt v.toInt then sgI (σ 0 * v.toInt - σ 1 * u.toInt) else -20 := by
      rw [s5, if_pos hfr, Int32.toInt_toInt64, Int32.toInt_toInt64, show (-1 : Int32).toInt = -1 from rfl]
      congr 1
      omega
    rw [e]
    refine hK I5 _ ((((a1.mf.trans F2).trans b1.mf).trans F4).trans c1.mf) M5 ?_ ?_
    · rw [up_o _ _ (by decide), up_o _ _ (by decide), up_o _ _ (by decide), up_o _ _ (by decide), up_o _ _ (by decide), up_o _ _ (by decide), up_o _ _ (by decide), up_o _ _ (by decide), up_o _ _ (by decide)]
    · rw [up_o _ _ (by decide), up_o _ _ (by decide), up_o _ _ (by decide), up_o _ _ (by decide), up_o _ _ (by decide), up_o _ _ (by decide), up_o _ _ (by decide), up_o _ _ (by decide), up_o _ _ (by decide)]
  · have h := w_is0 h
    have := hK I σ (MF.rfl' I) hM rfl rfl
    rw [if_neg h] at this
    exact this

