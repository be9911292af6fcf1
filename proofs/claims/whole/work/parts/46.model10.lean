/-! ===== the reference: top, values, what lays a fraction ===== -/
theorem mDb {J : mPJ} (h : BM J) {k : Nat} (hk : k ≤ 6) : (Dt (moM J) k).natAbs < 2 ^ (24 * 16) := (mn_lt (mo := moM J) h (by have := (shl_det k hk).2; omega)).1
theorem mNb {J : mPJ} (h : BM J) {k i : Nat} (hk : k ≤ 5) (hi : i ≤ k) : (Nm (moM J) k i).natAbs < 2 ^ (24 * 16) := (mn_lt (mo := moM J) h (cm_t k (by omega) i (by omega)).2.1).1
theorem cup {x : Int} {a b : Nat} (h : x.natAbs < 2 ^ (24 * a)) (hab : a ≤ b) : x.natAbs < 2 ^ (24 * b) := big_lt h (by omega)
theorem cmul {x y : Int} {a b : Nat} (hx : x.natAbs < 2 ^ (24 * a)) (hy : y.natAbs < 2 ^ (24 * b)) : (x * y).natAbs < 2 ^ (24 * (a + b)) := by
  rw [Int.natAbs_mul, Nat.mul_add, Nat.pow_add]
  exact Nat.mul_lt_mul'' hx hy
theorem cadd {x y : Int} {m : Nat} (hx : x.natAbs < 2 ^ (24 * m)) (hy : y.natAbs < 2 ^ (24 * m)) : (x + y).natAbs < 2 ^ (24 * (m + 1)) := by
  have e : 2 ^ (24 * (m + 1)) = 2 ^ (24 * m) * 2 ^ 24 := by rw [Nat.mul_add, Nat.pow_add]
  have h := Int.natAbs_add_le x y
  rw [e]
  generalize 2 ^ (24 * m) = t at *
  omega
theorem cof {x : Int} {e a : Nat} (h : x.natAbs ≤ 2 ^ e) (hab : e < 24 * a) : x.natAbs < 2 ^ (24 * a) := Nat.lt_of_le_of_lt h (Nat.pow_lt_pow_right (by decide) hab)
abbrev nV (q : Nat) : Prop := nD q ∧ q ≠ 12 ∧ q ≠ 13 ∧ q ≠ 17 ∧ q ≠ 18
def pt_mvalue : mSH → mRF → mPT := m_pv 5 (fun sh rf d rest I J K => ∃ (k t : Nat) (u v : Int64) (σ : Nat → Int), sh = shL ∧ rf = rfL ∧ d = 528 ∧ rest = [.inl (nI k), .inr (.inl u), .inr (.inl v), .inl (nI t)] ∧ k ≤ 5 ∧ t < 40 ∧ nV t ∧ u.toInt.natAbs ≤ 2 ^ 20 ∧ v.toInt.natAbs ≤ 2 ^ 20 ∧ BM J ∧ MS I σ ∧ ∀ I1 σ', MO I I1 → MS I1 σ' → (∀ q, nV q → q ≠ t → σ' q = σ q) → σ' t = evN (moM J) k u.toInt v.toInt k → K none I1 J)
def pt_mof : mSH → mRF → mPT := m_pv 5 (fun sh rf d rest I J K => ∃ (k e t : Nat) (σ : Nat → Int), sh = shL ∧ rf = rfL ∧ d = 528 ∧ rest = [.inl (nI k), .inl (nI e), .inl (nI t)] ∧ k ≤ 5 ∧ e + k ≤ 11 ∧ t < 40 ∧ (nD t ∧ t ≠ 12 ∧ t ≠ 17) ∧ BM J ∧ MS I σ ∧ ∀ I1 σ', MO I I1 → MS I1 σ' → (∀ q, (nD q ∧ q ≠ 12 ∧ q ≠ 17) → q ≠ t → σ' q = σ q) → σ' t = ofN (moM J) k e (k + 1) → K none I1 J)
def PL (x : mSL) (σ σ' : Nat → Int) : Prop := match x with
  | .inl _ => σ' 0 = σ 0 ∧ σ' 1 = σ 1
  | .inr q => 0 < σ' 1 ∧ Nat.gcd (σ' 0).natAbs (σ' 1).natAbs = 1 ∧ σ' 0 * q.2 = q.1 * σ' 1 ∧ (σ' 0).natAbs < 2 ^ (24 * 250) ∧ (σ' 1).natAbs < 2 ^ (24 * 250)
def AskM (I : mPI) (J : mPJ) (K : mKT) (r : Nat → mSL) : Prop := ∃ (l : Nat) (σ : Nat → Int), I 528 5 = nI l ∧ l ≤ 11 ∧ BM J ∧ MS I σ ∧ ∀ I1 σ', MO I I1 → MS I1 σ' → PL (r l) σ σ' → K (some (.inl (slR (r l)))) I1 J
theorem lay_end {I I6 : mPI} {J : mPJ} {K : mKT} {x : mSL} {σ σ5 σ6 : Nat → Int} {U L : Int} (hK : ∀ I1 σ', MO I I1 → MS I1 σ' → PL x σ σ' → K (some (.inl (slR x))) I1 J) (hx : x = .inr (U, L)) (F : MO I I6) (M6 : MS I6 σ6) (p1 : 0 < σ6 1) (p2 : Nat.gcd (σ6 0).natAbs (σ6 1).natAbs = 1) (p3 : σ6 0 * σ5 3 = σ5 2 * σ6 1) (p4 : (σ6 0).natAbs ≤ (σ5 2).natAbs) (p5 : (σ6 1).natAbs ≤ (σ5 3).natAbs) (e2 : σ5 2 = U) (e3 : σ5 3 = L) (hL : L ≠ 0) (b2 : U.natAbs < 2 ^ (24 * 250)) (b3 : L.natAbs < 2 ^ (24 * 250)) : K (some (.inl (sgA (σ6 0)))) I6 J := by
  rw [e2, e3] at p3
  rw [e2] at p4
  rw [e3] at p5
  have := hK I6 σ6 F M6 (by rw [hx]; exact ⟨p1, p2, p3, Nat.lt_of_le_of_lt p4 b2, Nat.lt_of_le_of_lt p5 b3⟩)
  rw [hx] at this
  have l2 : 0 < L * L := by
    rcases Int.lt_or_gt_of_ne hL with q | q
    · exact Int.mul_pos_of_neg_of_neg q q
    · exact Int.mul_pos q q
  have e : sgA (σ6 0) = sgA (U * L) := by
    refine sgA_scale l2 p1 ?_
    rw [← Int.mul_assoc, p3]
    grind
  rw [e]
  exact this
theorem AskM.no {I : mPI} {J : mPJ} {K : mKT} {x : mSL} {c : Int32} {σ : Nat → Int} (hK : ∀ I1 σ', MO I I1 → MS I1 σ' → PL x σ σ' → K (some (.inl (slR x))) I1 J) (hx : x = .inl c) {I1 : mPI} {σ' : Nat → Int} (F : MO I I1) (M : MS I1 σ') (e0 : σ' 0 = σ 0) (e1 : σ' 1 = σ 1) : K (some (.inl c)) I1 J := by
  have := hK I1 σ' F M (by rw [hx]; exact ⟨e0, e1⟩)
  rw [hx] at this
  exact this

def ct_X5_top (sh : mSH) (rf : mRF) : Nat → Option (Nat × Bool × mPT) := fun k => match k with
  | 187 => some (3, true, pt_mworth sh rf)
  | _ => none
set_option maxRecDepth 20000 in
theorem ce_X5_top : m_CE RX5 5 124 cX5_top 3 ct_X5_top := by
  intro p l e s m args below meth c Q D cs ad sh rf N hx hb hml hown hts hK hi hN k n vf pt h
  unfold ct_X5_top at h
  split at h
  · cases h
    exact m_CG_V mt_X5_worthOf hx hb hml hown hts hK hi hN (ci := 5) m_pv_rec rfl rfl (m_wck_ok (l := [(Cond.methodLink RX5 187 yX5_worthOf, 892), (Cond.instanceMethod yX5_worthOf, 894), (Cond.selects RX5 yX5_worthOf yX5_worthOf, 39), (Cond.initialized RX5, 62), (Cond.code yX5_worthOf cX5_worthOf 3 none, 895)]) (by decide +kernel)) ⟨rfl, by decide +kernel, by decide +kernel, by decide +kernel⟩ ⟨Nat.le_of_ble_eq_true rfl, Nat.le_of_ble_eq_true rfl⟩
  · cases h
set_option maxHeartbeats 4000000 in
set_option maxRecDepth 100000 in
theorem mt_X5_top : m_Mt yX5_top cX5_top 3 (some .int) 5 124 pt_mtop := by
  refine m_methodG (fl := fl_X5) (kI := kI_X5) (kJ := kJ_X5) (ct := ct_X5_top) (cd := cd_X5_top) (cut := [(4, [0, 1, 2])]) (rk := 1) (fu := 80) (by decide +kernel) fl_X5_ok kI_X5_ok kJ_X5_ok ce_X5_top rfl ck_X5_top ⟨_, _, rfl, rfl⟩ ?_
  intro sh rf As I J K hpt
  obtain ⟨d, rest, rfl, hd, l, σ, rfl, rfl, rfl, rfl, h5, hl, hB, hM, hK⟩ := hpt
  refine ⟨Nat.le_of_ble_eq_true rfl, fun a9 b9 pc vs st I1 J1 => st = [] ∧ J1 = J ∧ ∃ k σ', MO I I1 ∧ MS I1 σ' ∧ (∀ q, nD q → q ≠ 16 → σ' q = σ q) ∧ k ≤ 5 ∧ ((a9 = 6 - k ∧ vs = [.inr (.inr 528), .inl (nI k), .inl 1] ∧ tpF (moM J) l (6 - k) k = tpf (moM J) l) ∨ (a9 = 0 ∧ vs = [.inr (.inr 528), .inl (nI k), .inl 0] ∧ k = tpf (moM J) l)), ?_, ?_⟩
  · exact ⟨6 - 0, 0, rfl, rfl, 0, σ, MO.rfl' I, hM, fun _ _ _ => rfl, by decide, Or.inl ⟨rfl, rfl, rfl⟩⟩
  · intro pc ks a9 b9 vs st I1 J1 hc hI
    rcases m_cu1 hc with ⟨rfl, rfl⟩ | hc
    · obtain ⟨rfl, rfl, k, σ', F, M, k1, hk, hI⟩ := hI
      have e5 : I1 528 5 = nI l := by rw [F 528 (by decide) (by decide) (by decide) (by decide)]; exact h5
      rcases hI with ⟨rfl, rfl, ht⟩ | ⟨rfl, rfl, rfl⟩
      · rw [show 6 - k = (5 - k) + 1 by omega, tpF] at ht
        have out : ¬ (k < 5 ∧ 2 * k + 1 ≤ l ∧ mn (moM J1) (2 ^ (k + 1) - 1) ≠ 0) → K (some (.inl (nI k))) I1 J1 := fun q => by
          rw [if_neg q] at ht
          rw [ht]
          exact hK I1 σ' F M k1
        have em : (2 : Int32) * nI k + 1 = nI (2 * k + 1) := by
          rw [show (2 : Int32) * nI k = nI (2 * k) from (Int32.ofNat_mul 2 k).symm, nI_1]
        refine ⟨fun h => absurd h (by decide), fun _ => ⟨fun h => ?_, fun h => ⟨rfl, fun h2 => ?_, fun h2 => ?_⟩⟩⟩
        · have h : nI 5 ≤ nI k := h
          rw [nI_leI (by omega) (by omega)] at h
          exact out (fun q => by omega)
        · have h2 : I1 528 5 < 2 * nI k + 1 := h2
          rw [e5, em, nI_ltI (by omega) (by omega)] at h2
          exact out (fun q => by omega)
        · have h : ¬ nI 5 ≤ nI k := h
          rw [nI_leI (by omega) (by omega)] at h
          have h2 : ¬ I1 528 5 < 2 * nI k + 1 := h2
          rw [e5, em, nI_ltI (by omega) (by omega)] at h2
          refine ⟨528, [.inl (nI k + 1), .inl (nI 16)], rfl, rfl, k + 1, 16, σ', rfl, rfl, rfl, by rw [← nI_1 k], by omega, by decide, by decide, hB, M, fun I2 σ2 F2 M2 k2 e2 => ?_⟩
          obtain ⟨-, -, -, s16⟩ := M2 16 (by decide)
          rw [e2] at s16
          refine ⟨rfl, sin (s := 16) (by decide), fun h3 => ?_, fun h3 => ?_⟩
          · have h3 : I2 531 16 = 0 := h3
            rw [s16, sgI_0] at h3
            refine ⟨fun _ => ?_, fun q => absurd rfl q⟩
            rw [if_neg (fun q => q.2.2 h3)] at ht
            exact ⟨0, 0, Or.inl (by omega), rfl, rfl, k, σ2, F.trans F2, M2, fun q hq q2 => (k2 q hq q2).trans (k1 q hq q2), hk, Or.inr ⟨rfl, rfl, ht⟩⟩
          · have h3 : ¬ I2 531 16 = 0 := h3
            rw [s16, sgI_0] at h3
            refine ⟨fun q => absurd q (by decide), fun _ => ?_⟩
            rw [if_pos ⟨by omega, by omega, h3⟩] at ht
            exact ⟨6 - (k + 1), 0, Or.inl (by omega), rfl, rfl, k + 1, σ2, F.trans F2, M2, fun q hq q2 => (k2 q hq q2).trans (k1 q hq q2), by omega, Or.inl ⟨rfl, by rw [← nI_1 k], by rw [show 6 - (k + 1) = 5 - k by omega]; exact ht⟩⟩
      · exact ⟨fun _ => hK I1 σ' F M k1, fun q => absurd rfl q⟩
    · cases hc

def ct_X5_hasPolynomial (sh : mSH) (rf : mRF) : Nat → Option (Nat × Bool × mPT) := fun k => match k with
  | 134 => some (3, false, pt_in sh rf)
  | 192 => some (1, true, pt_mtop sh rf)
  | _ => none
set_option maxRecDepth 20000 in
theorem ce_X5_hasPolynomial : m_CE RX5 6 146 cX5_hasPolynomial 2 ct_X5_hasPolynomial := by
  intro p l e s m args below meth c Q D cs ad sh rf N hx hb hml hown hts hK hi hN k n vf pt h
  unfold ct_X5_hasPolynomial at h
  split at h
  · cases h
    exact m_CG_S mt_X5_in hx hb hml hown hts hK hi hN (m_wck_ok (l := [(Cond.methodLink RX5 134 yX5_in, 748), (Cond.static yX5_in, 749), (Cond.initialized RX5, 62), (Cond.code yX5_in cX5_in 6 (some .boolean), 750)]) (by decide +kernel)) ⟨by decide +kernel, by decide +kernel, by decide +kernel⟩ ⟨Nat.le_of_ble_eq_true rfl, Nat.le_of_ble_eq_true rfl⟩
  · cases h
    exact m_CG_V mt_X5_top hx hb hml hown hts hK hi hN (ci := 5) m_pv_rec rfl rfl (m_wck_ok (l := [(Cond.methodLink RX5 192 yX5_top, 888), (Cond.instanceMethod yX5_top, 890), (Cond.selects RX5 yX5_top yX5_top, 38), (Cond.initialized RX5, 62), (Cond.code yX5_top cX5_top 3 (some .int), 891)]) (by decide +kernel)) ⟨rfl, by decide +kernel, by decide +kernel, by decide +kernel⟩ ⟨Nat.le_of_ble_eq_true rfl, Nat.le_of_ble_eq_true rfl⟩
  · cases h
set_option maxHeartbeats 4000000 in
set_option maxRecDepth 100000 in
theorem mt_X5_hasPolynomial : m_Mt yX5_hasPolynomial cX5_hasPolynomial 2 (some .boolean) 6 146 pt_mhasP := by
  refine m_method0 80 (fl := fl_X5) (kI := kI_X5) (kJ := kJ_X5) (ct := ct_X5_hasPolynomial) (cd := cd_X5_hasPolynomial) (rk := 3) (by decide +kernel) fl_X5_ok kI_X5_ok kJ_X5_ok ce_X5_hasPolynomial rfl ck_X5_hasPolynomial ⟨_, _, rfl, rfl⟩ ?_
  intro sh rf As I J K hpt
  obtain ⟨d, rest, rfl, hd, k, l, σ, rfl, rfl, rfl, rfl, h5, hl, hB, hM, hK⟩ := hpt
  have tl := tpf_le (moM J) l
  have e0 : (0 : Int64).toInt = 0 := rfl
  have e5 : (5 : Int64).toInt = 5 := rfl
  refine ⟨Nat.le_of_ble_eq_true rfl, k.toInt64, 0, 5, rfl, fun h => ?_, fun h => ?_⟩
  · have h := w_is0 h
    rw [e0, e5, Int32.toInt_toInt64] at h
    have := hK I σ (MO.rfl' I) hM (fun _ _ _ => rfl)
    rw [if_neg (fun q => by have := q.2; omega)] at this
    exact ⟨Or.inl rfl, this⟩
  · have h := w_not0 h
    rw [e0, e5, Int32.toInt_toInt64] at h
    refine ⟨528, [], rfl, rfl, l, σ, rfl, rfl, rfl, rfl, h5, hl, hB, hM, fun I1 σ' F M k1 => ⟨fun h2 => ?_, fun h2 => ?_⟩⟩
    · have h2 : nI (tpf (moM J) l) < k := h2
      rw [Int32.lt_iff_toInt_lt, nI_toInt (by omega)] at h2
      have := hK I1 σ' F M k1
      rw [if_neg (fun q => by have := q.2; omega)] at this
      exact ⟨Or.inl rfl, this⟩
    · have h2 : ¬ nI (tpf (moM J) l) < k := h2
      rw [Int32.lt_iff_toInt_lt, nI_toInt (by omega)] at h2
      have := hK I1 σ' F M k1
      rw [if_pos ⟨h.1, by omega⟩] at this
      exact ⟨Or.inr rfl, this⟩

def ct_X5_hasWorth (sh : mSH) (rf : mRF) : Nat → Option (Nat × Bool × mPT) := fun k => match k with
  | 195 => some (2, true, pt_mhasP sh rf)
  | _ => none
set_option maxRecDepth 20000 in
theorem ce_X5_hasWorth : m_CE RX5 7 167 cX5_hasWorth 2 ct_X5_hasWorth := by
  intro p l e s m args below meth c Q D cs ad sh rf N hx hb hml hown hts hK hi hN k n vf pt h
  unfold ct_X5_hasWorth at h
  split at h
  · cases h
    exact m_CG_V mt_X5_hasPolynomial hx hb hml hown hts hK hi hN (ci := 5) m_pv_rec rfl rfl (m_wck_ok (l := [(Cond.methodLink RX5 195 yX5_hasPolynomial, 883), (Cond.instanceMethod yX5_hasPolynomial, 885), (Cond.selects RX5 yX5_hasPolynomial yX5_hasPolynomial, 37), (Cond.initialized RX5, 62), (Cond.code yX5_hasPolynomial cX5_hasPolynomial 2 (some .boolean), 886)]) (by decide +kernel)) ⟨rfl, by decide +kernel, by decide +kernel, by decide +kernel⟩ ⟨Nat.le_of_ble_eq_true rfl, Nat.le_of_ble_eq_true rfl⟩
  · cases h
set_option maxHeartbeats 4000000 in
set_option maxRecDepth 100000 in
theorem mt_X5_hasWorth : m_Mt yX5_hasWorth cX5_hasWorth 2 (some .boolean) 7 167 pt_mhasW := by
  refine m_method0 80 (fl := fl_X5) (kI := kI_X5) (kJ := kJ_X5) (ct := ct_X5_hasWorth) (cd := cd_X5_hasWorth) (rk := 3) (by decide +kernel) fl_X5_ok kI_X5_ok kJ_X5_ok ce_X5_hasWorth rfl ck_X5_hasWorth ⟨_, _, rfl, rfl⟩ ?_
  intro sh rf As I J K hpt
  obtain ⟨d, rest, rfl, hd, k, l, σ, rfl, rfl, rfl, rfl, h5, hl, hB, hM, hK⟩ := hpt
  have tl := tpf_le (moM J) l
  refine ⟨Nat.le_of_ble_eq_true rfl, 528, [.inl k], rfl, rfl, k, l, σ, rfl, rfl, rfl, rfl, h5, hl, hB, hM, fun I1 σ' F M k1 => ?_⟩
  have e5 : I1 528 5 = nI l := by rw [F 528 (by decide) (by decide) (by decide) (by decide)]; exact h5
  refine ⟨fun h => ?_, fun h => ?_⟩
  · have h := w_is0 h
    have := hK I1 σ' F M k1
    rw [if_neg (fun q => h q.1)] at this
    exact ⟨Or.inl rfl, this⟩
  · have h := w_not0 h
    obtain ⟨ek, -⟩ := i_nat h.1
    have hk5 : k.toInt.toNat ≤ 5 := by have := h.2; omega
    have em : (2 : Int32) * k = nI (2 * k.toInt.toNat) := by
      rw [show (2 : Int32) * k = 2 * nI k.toInt.toNat by rw [← ek]]
      exact (Int32.ofNat_mul 2 _).symm
    refine ⟨rfl, fun h2 => ?_, fun h2 => ?_⟩
    · have h2 : I1 528 5 < 2 * k := h2
      rw [e5, em, nI_ltI (by omega) (by omega)] at h2
      have := hK I1 σ' F M k1
      rw [if_neg (fun q => by have := q.2; omega)] at this
      exact ⟨Or.inl rfl, this⟩
    · have h2 : ¬ I1 528 5 < 2 * k := h2
      rw [e5, em, nI_ltI (by omega) (by omega)] at h2
      have := hK I1 σ' F M k1
      rw [if_pos ⟨h, by omega⟩] at this
      exact ⟨Or.inr rfl, this⟩

def ct_X5_worthSign (sh : mSH) (rf : mRF) : Nat → Option (Nat × Bool × mPT) := fun k => match k with
  | 187 => some (3, true, pt_mworth sh rf)
  | _ => none
set_option maxRecDepth 20000 in
theorem ce_X5_worthSign : m_CE RX5 5 124 cX5_worthSign 2 ct_X5_worthSign := by
  intro p l e s m args below meth c Q D cs ad sh rf N hx hb hml hown hts hK hi hN k n vf pt h
  unfold ct_X5_worthSign at h
  split at h
  · cases h
    exact m_CG_V mt_X5_worthOf hx hb hml hown hts hK hi hN (ci := 5) m_pv_rec rfl rfl (m_wck_ok (l := [(Cond.methodLink RX5 187 yX5_worthOf, 892), (Cond.instanceMethod yX5_worthOf, 894), (Cond.selects RX5 yX5_worthOf yX5_worthOf, 39), (Cond.initialized RX5, 62), (Cond.code yX5_worthOf cX5_worthOf 3 none, 895)]) (by decide +kernel)) ⟨rfl, by decide +kernel, by decide +kernel, by decide +kernel⟩ ⟨Nat.le_of_ble_eq_true rfl, Nat.le_of_ble_eq_true rfl⟩
  · cases h
set_option maxHeartbeats 4000000 in
set_option maxRecDepth 100000 in
theorem mt_X5_worthSign : m_Mt yX5_worthSign cX5_worthSign 2 (some .int) 5 124 pt_mwsign := by
  refine m_method0 80 (fl := fl_X5) (kI := kI_X5) (kJ := kJ_X5) (ct := ct_X5_worthSign) (cd := cd_X5_worthSign) (rk := 1) (by decide +kernel) fl_X5_ok kI_X5_ok kJ_X5_ok ce_X5_worthSign rfl ck_X5_worthSign ⟨_, _, rfl, rfl⟩ ?_
  intro sh rf As I J K hpt
  obtain ⟨d, rest, rfl, hd, k, σ, rfl, rfl, rfl, rfl, hk, hB, hM, hK⟩ := hpt
  refine ⟨Nat.le_of_ble_eq_true rfl, 528, [.inl (nI k + 1), .inl (nI 14)], rfl, rfl, k + 1, 14, σ, rfl, rfl, rfl, by rw [← nI_1 k], by omega, by decide, by decide, hB, hM, fun I1 σ1 F1 M1 k1 e1 => ?_⟩
  refine ⟨528, [.inl (nI k), .inl (nI 15)], rfl, rfl, k, 15, σ1, rfl, rfl, rfl, rfl, by omega, by decide, by decide, hB, M1, fun I2 σ2 F2 M2 k2 e2 => ?_⟩
  obtain ⟨-, -, -, s14⟩ := M2 14 (by decide)
  obtain ⟨-, -, -, s15⟩ := M2 15 (by decide)
  rw [k2 14 (by decide) (by decide), e1] at s14
  rw [e2] at s15
  refine ⟨rfl, sin (s := 14) (by decide), rfl, sin (s := 15) (by decide), ?_⟩
  show K (some (.inl (I2 531 14 * I2 531 15))) I2 J
  rw [s14, s15, sgI_x]
  exact hK I2 σ2 (F1.trans F2) M2 (fun q hq q1 q2 => (k2 q hq q2).trans (k1 q hq q1))

def ct_X5_value (sh : mSH) (rf : mRF) : Nat → Option (Nat × Bool × mPT) := fun k => match k with
  | 50 => some (3, true, pt_mset sh rf)
  | 204 => some (4, true, pt_mnum sh rf)
  | 161 => some (3, true, pt_mtimes sh rf)
  | 84 => some (4, true, pt_mmul sh rf)
  | 164 => some (5, true, pt_madd sh rf)
  | 66 => some (3, true, pt_mcopy sh rf)
  | _ => none
set_option maxRecDepth 20000 in
theorem ce_X5_value : m_CE RX5 5 125 cX5_value 8 ct_X5_value := by
  intro p l e s m args below meth c Q D cs ad sh rf N hx hb hml hown hts hK hi hN k n vf pt h
  unfold ct_X5_value at h
  split at h
  · cases h
    exact m_CG_V mt_X5_set hx hb hml hown hts hK hi hN (ci := 5) m_pv_rec rfl rfl (m_wck_ok (l := [(Cond.methodLink RX5 50 yX5_set, 677), (Cond.instanceMethod yX5_set, 679), (Cond.selects RX5 yX5_set yX5_set, 14), (Cond.initialized RX5, 62), (Cond.code yX5_set cX5_set 7 none, 680)]) (by decide +kernel)) ⟨rfl, by decide +kernel, by decide +kernel, by decide +kernel⟩ ⟨Nat.le_of_ble_eq_true rfl, Nat.le_of_ble_eq_true rfl⟩
  · cases h
    exact m_CG_V mt_X5_number hx hb hml hown hts hK hi hN (ci := 5) m_pv_rec rfl rfl (m_wck_ok (l := [(Cond.methodLink RX5 204 yX5_number, 920), (Cond.instanceMethod yX5_number, 922), (Cond.selects RX5 yX5_number yX5_number, 44), (Cond.initialized RX5, 62), (Cond.code yX5_number cX5_number 4 none, 923)]) (by decide +kernel)) ⟨rfl, by decide +kernel, by decide +kernel, by decide +kernel⟩ ⟨Nat.le_of_ble_eq_true rfl, Nat.le_of_ble_eq_true rfl⟩
  · cases h
    exact m_CG_V mt_X5_times hx hb hml hown hts hK hi hN (ci := 5) m_pv_rec rfl rfl (m_wck_ok (l := [(Cond.methodLink RX5 161 yX5_times, 785), (Cond.instanceMethod yX5_times, 787), (Cond.selects RX5 yX5_times yX5_times, 17), (Cond.initialized RX5, 62), (Cond.code yX5_times cX5_times 4 none, 788)]) (by decide +kernel)) ⟨rfl, by decide +kernel, by decide +kernel, by decide +kernel⟩ ⟨Nat.le_of_ble_eq_true rfl, Nat.le_of_ble_eq_true rfl⟩
  · cases h
    exact m_CG_V mt_X5_multiply hx hb hml hown hts hK hi hN (ci := 5) m_pv_rec rfl rfl (m_wck_ok (l := [(Cond.methodLink RX5 84 yX5_multiply, 789), (Cond.instanceMethod yX5_multiply, 791), (Cond.selects RX5 yX5_multiply yX5_multiply, 18), (Cond.initialized RX5, 62), (Cond.code yX5_multiply cX5_multiply 11 none, 792)]) (by decide +kernel)) ⟨rfl, by decide +kernel, by decide +kernel, by decide +kernel⟩ ⟨Nat.le_of_ble_eq_true rfl, Nat.le_of_ble_eq_true rfl⟩
  · cases h
    exact m_CG_V mt_X5_add hx hb hml hown hts hK hi hN (ci := 5) m_pv_rec rfl rfl (m_wck_ok (l := [(Cond.methodLink RX5 164 yX5_add, 801), (Cond.instanceMethod yX5_add, 803), (Cond.selects RX5 yX5_add yX5_add, 21), (Cond.initialized RX5, 62), (Cond.code yX5_add cX5_add 8 none, 804)]) (by decide +kernel)) ⟨rfl, by decide +kernel, by decide +kernel, by decide +kernel⟩ ⟨Nat.le_of_ble_eq_true rfl, Nat.le_of_ble_eq_true rfl⟩
  · cases h
    exact m_CG_V mt_X5_copy hx hb hml hown hts hK hi hN (ci := 5) m_pv_rec rfl rfl (m_wck_ok (l := [(Cond.methodLink RX5 66 yX5_copy, 797), (Cond.instanceMethod yX5_copy, 799), (Cond.selects RX5 yX5_copy yX5_copy, 20), (Cond.initialized RX5, 62), (Cond.code yX5_copy cX5_copy 4 none, 800)]) (by decide +kernel)) ⟨rfl, by decide +kernel, by decide +kernel, by decide +kernel⟩ ⟨Nat.le_of_ble_eq_true rfl, Nat.le_of_ble_eq_true rfl⟩
  · cases h
set_option maxHeartbeats 4000000 in
set_option maxRecDepth 100000 in
theorem mt_X5_value : m_Mt yX5_value cX5_value 8 none 5 125 pt_mvalue := by
  refine m_methodG (fl := fl_X5) (kI := kI_X5) (kJ := kJ_X5) (ct := ct_X5_value) (cd := cd_X5_value) (cut := [(20, [0, 1, 2, 4, 6, 7])]) (rk := 0) (fu := 120) (by decide +kernel) fl_X5_ok kI_X5_ok kJ_X5_ok ce_X5_value rfl ck_X5_value ⟨_, _, rfl, rfl⟩ ?_
  intro sh rf As I J K hpt
  obtain ⟨d, rest, rfl, hd, k, t, u, v, σ, rfl, rfl, rfl, rfl, hk, ht, nt, hu, hv, hB, hM, hK⟩ := hpt
  refine ⟨Nat.le_of_ble_eq_true rfl, fun a9 b9 pc vs st I1 J1 => st = [] ∧ J1 = J ∧ ∃ s σ', vs = [.inr (.inr 528), .inl (nI k), .inr (.inl u), .inr (.inl v), .inl (nI t), .inl (nI (k - s) - 1)] ∧ a9 = k - s ∧ s ≤ k ∧ MO I I1 ∧ MS I1 σ' ∧ (∀ q, nV q → σ' q = σ q) ∧ σ' 17 = v.toInt ^ s ∧ σ' 18 = evN (moM J) k u.toInt v.toInt s, ?_, ?_⟩
  · refine ⟨528, [.inl (nI 17), .inr (.inl 1)], rfl, rfl, 17, 1, rfl, rfl, rfl, rfl, by decide, by decide, fun I1 a1 a2 => ?_⟩
    have M1 := hM.up a1 a2
    refine ⟨528, [.inl (nI k), .inl (nI k), .inl (nI 18)], rfl, rfl, k, 18, nI k, _, rfl, rfl, rfl, rfl, hk, by decide, by decide, hB, M1, fun I2 σ2 F2 M2 k2 e2 => ?_⟩
    rw [nI_toInt (by omega), if_pos ⟨by omega, Int.le_refl _⟩, Int.toNat_natCast] at e2
    refine ⟨k - 0, 0, rfl, rfl, 0, σ2, rfl, rfl, Nat.zero_le _, a1.mo.trans F2, M2, fun q hq => ?_, ?_, ?_⟩
    · rw [k2 q hq.1 hq.2.2.2.2, up_o _ _ hq.2.2.2.1]
    · rw [k2 17 (by decide) (by decide), up_s, Int.pow_zero]
      rfl
    · rw [e2, evN]
      have : ∀ k, k < 6 → cm k k = 2 ^ k - 1 := by decide
      unfold Nm
      rw [this k (by omega)]
  · intro pc ks a9 b9 vs st I1 J1 hc hI
    rcases m_cu1 hc with ⟨rfl, rfl⟩ | hc
    · obtain ⟨rfl, rfl, s, σ', rfl, rfl, hs, F, M, k1, e17, e18⟩ := hI
      refine ⟨fun h => ?_, fun h => ?_⟩
      · have h : nI (k - s) - nI 1 < 0 := h
        have s0 : s = k := by
          rcases Nat.eq_or_lt_of_le hs with q | q
          · exact q
          · rw [pk_sub (by omega)] at h
            exact absurd h (nI_pos (by omega))
        subst s0
        obtain ⟨n, w18⟩ := M.wf (s := 18) (by decide)
        refine ⟨528, [.inl (nI 18), .inl (nI t)], rfl, rfl, 18, t, n, rfl, rfl, rfl, rfl, by decide, ht, w18, fun I2 a1 a2 a3 a4 => ?_⟩
        have M2 := M.cp (by decide) w18 a1 a2 a3 a4
        exact hK I2 _ (F.trans a1.mo) M2 (fun q hq q2 => by rw [up_o _ _ q2]; exact k1 q hq) (by rw [up_s]; exact e18)
      · have s0 : s < k := by
          rcases Nat.lt_or_ge s k with q | q
          · exact q
          · rw [show k - s = 0 by omega] at h
            exact absurd (by decide) h
        have ej : nI (k - s) - 1 = nI (k - 1 - s) := by
          rw [show k - 1 - s = k - s - 1 by omega]
          exact pk_sub (b := 1) (by omega)
        have hv63 : v.toInt.natAbs < 2 ^ 63 := by omega
        have hu63 : u.toInt.natAbs < 2 ^ 63 := by omega
        have vb : ∀ r, r ≤ 5 → (v.toInt ^ r).natAbs < 2 ^ (24 * 5) := fun r hr => by
          rw [Int.natAbs_pow]
          refine Nat.lt_of_le_of_lt (Nat.pow_le_pow_left hv r) ?_
          rw [← Nat.pow_mul]
          exact Nat.pow_lt_pow_right (by decide) (by omega)
        have eb : (evN (moM J1) k u.toInt v.toInt s).natAbs < 2 ^ (24 * 21) := by
          have h := evN_le (mo := moM J1) hB hk hu hv (t := s) hs
          have h2 : (s + 1) * (2 ^ (32 * 12) * 2 ^ (20 * s)) ≤ 6 * (2 ^ (32 * 12) * 2 ^ (20 * 5)) := Nat.mul_le_mul (by omega) (Nat.mul_le_mul_left _ (Nat.pow_le_pow_right (by decide) (by omega)))
          exact Nat.lt_of_le_of_lt (Nat.le_trans h h2) (by decide)
        refine ⟨528, [.inl (nI 17), .inr (.inl v)], rfl, rfl, 17, 5, v, σ', rfl, rfl, rfl, rfl, by decide, by decide, by decide, M, hv63, by rw [e17]; exact vb s (by omega), by decide, fun I2 F2 M2 => ?_⟩
        rw [e17, ← Int.pow_succ] at M2
        refine ⟨528, [.inl (nI 18), .inr (.inl u)], rfl, rfl, 18, 21, u, _, rfl, rfl, rfl, rfl, by decide, by decide, by decide, M2, hu63, by rw [up_o _ _ (by decide), up_o _ _ (by decide), up_o _ _ (by decide), e18]; exact eb, by decide, fun I3 F3 M3 => ?_⟩
        rw [up_o _ _ (by decide), up_o _ _ (by decide), up_o _ _ (by decide), e18] at M3
        refine ⟨528, [.inl (nI k), .inl (nI (k - s) - 1), .inl (nI 12)], rfl, rfl, k, 12, nI (k - s) - 1, _, rfl, rfl, rfl, rfl, hk, by decide, by decide, hB, M3, fun I4 σ4 F4 M4 k4 e4 => ?_⟩
        rw [ej, nI_toInt (by omega), if_pos ⟨by omega, by omega⟩, Int.toNat_natCast] at e4
        have z12 := M4 12 (by decide)
        rw [e4] at z12
        have z17 := M4 17 (by decide)
        have e417 : σ4 17 = v.toInt ^ (s + 1) := by
          rw [k4 17 (by decide) (by decide), up_o _ _ (by decide), up_o _ _ (by decide), up_o _ _ (by decide), up_s]
        have e418 : σ4 18 = evN (moM J1) k u.toInt v.toInt s * u.toInt := by
          rw [k4 18 (by decide) (by decide), up_s]
        rw [e417] at z17
        have nb := mNb hB hk (show k - 1 - s ≤ k by omega)
        refine ⟨528, [.inl (nI 12), .inl (nI 17), .inl (nI 13)], rfl, rfl, 12, 17, 13, 16, 5, _, _, rfl, rfl, rfl, rfl, by decide, by decide, by decide, by decide, by decide, z12, z17, nb, vb (s + 1) (by omega), by decide, fun I5 b1 b2 => ?_⟩
        have M5 := M4.up b1 b2
        have z18 := M5 18 (by decide)
        rw [up_o _ _ (by decide), e418] at z18
        have z13 := M5 13 (by decide)
        rw [up_s] at z13
        refine ⟨528, [.inl (nI 18), .inl (nI 13), .inl 1, .inl (nI 18)], rfl, rfl, 18, 13, 18, 22, _, _, 1, rfl, rfl, rfl, rfl, by decide, by decide, by decide, Or.inl rfl, z18, z13, cmul eb (cof (a := 1) hu (by decide)), cup (cmul nb (vb (s + 1) (by omega))) (by decide), by decide, fun I6 c1 c2 => ?_⟩
        have M6 := M5.up c1 c2
        refine ⟨k - (s + 1), 0, Or.inl (by omega), rfl, rfl, s + 1, _, ?_, rfl, by omega, ((((F.trans F2.mo).trans F3.mo).trans F4).trans b1.mo).trans c1.mo, M6, fun q hq => ?_, ?_, ?_⟩
        · rw [show k - (s + 1) = k - 1 - s by omega, ← ej]
          exact congrArg (fun y => [Sum.inr (Sum.inr 528), Sum.inl (nI k), Sum.inr (Sum.inl u), Sum.inr (Sum.inl v), Sum.inl (nI t), Sum.inl y]) (Int32.sub_eq_add_neg (nI (k - s) - 1) 1).symm
        · rw [up_o _ _ hq.2.2.2.2, up_o _ _ hq.2.2.1, k4 q hq.1 hq.2.1, up_o _ _ hq.2.2.2.2, up_o _ _ hq.1.2.1, up_o _ _ hq.1.2.2.1, up_o _ _ hq.2.2.2.1, up_o _ _ hq.1.2.1, up_o _ _ hq.1.2.2.1]
          exact k1 q hq
        · rw [up_o _ _ (by decide), up_o _ _ (by decide)]
          exact e417
        · rw [up_s, evN, show (1 : Int32).toInt = 1 from rfl, Int.one_mul]
          rfl
    · cases hc

def ct_X5_of (sh : mSH) (rf : mRF) : Nat → Option (Nat × Bool × mPT) := fun k => match k with
  | 50 => some (3, true, pt_mset sh rf)
  | 204 => some (4, true, pt_mnum sh rf)
  | 161 => some (3, true, pt_mtimes sh rf)
  | 164 => some (5, true, pt_madd sh rf)
  | 66 => some (3, true, pt_mcopy sh rf)
  | _ => none
set_option maxRecDepth 20000 in
theorem ce_X5_of : m_CE RX5 5 125 cX5_of 5 ct_X5_of := by
  intro p l e s m args below meth c Q D cs ad sh rf N hx hb hml hown hts hK hi hN k n vf pt h
  unfold ct_X5_of at h
  split at h
  · cases h
    exact m_CG_V mt_X5_set hx hb hml hown hts hK hi hN (ci := 5) m_pv_rec rfl rfl (m_wck_ok (l := [(Cond.methodLink RX5 50 yX5_set, 677), (Cond.instanceMethod yX5_set, 679), (Cond.selects RX5 yX5_set yX5_set, 14), (Cond.initialized RX5, 62), (Cond.code yX5_set cX5_set 7 none, 680)]) (by decide +kernel)) ⟨rfl, by decide +kernel, by decide +kernel, by decide +kernel⟩ ⟨Nat.le_of_ble_eq_true rfl, Nat.le_of_ble_eq_true rfl⟩
  · cases h
    exact m_CG_V mt_X5_number hx hb hml hown hts hK hi hN (ci := 5) m_pv_rec rfl rfl (m_wck_ok (l := [(Cond.methodLink RX5 204 yX5_number, 920), (Cond.instanceMethod yX5_number, 922), (Cond.selects RX5 yX5_number yX5_number, 44), (Cond.initialized RX5, 62), (Cond.code yX5_number cX5_number 4 none, 923)]) (by decide +kernel)) ⟨rfl, by decide +kernel, by decide +kernel, by decide +kernel⟩ ⟨Nat.le_of_ble_eq_true rfl, Nat.le_of_ble_eq_true rfl⟩
  · cases h
    exact m_CG_V mt_X5_times hx hb hml hown hts hK hi hN (ci := 5) m_pv_rec rfl rfl (m_wck_ok (l := [(Cond.methodLink RX5 161 yX5_times, 785), (Cond.instanceMethod yX5_times, 787), (Cond.selects RX5 yX5_times yX5_times, 17), (Cond.initialized RX5, 62), (Cond.code yX5_times cX5_times 4 none, 788)]) (by decide +kernel)) ⟨rfl, by decide +kernel, by decide +kernel, by decide +kernel⟩ ⟨Nat.le_of_ble_eq_true rfl, Nat.le_of_ble_eq_true rfl⟩
  · cases h
    exact m_CG_V mt_X5_add hx hb hml hown hts hK hi hN (ci := 5) m_pv_rec rfl rfl (m_wck_ok (l := [(Cond.methodLink RX5 164 yX5_add, 801), (Cond.instanceMethod yX5_add, 803), (Cond.selects RX5 yX5_add yX5_add, 21), (Cond.initialized RX5, 62), (Cond.code yX5_add cX5_add 8 none, 804)]) (by decide +kernel)) ⟨rfl, by decide +kernel, by decide +kernel, by decide +kernel⟩ ⟨Nat.le_of_ble_eq_true rfl, Nat.le_of_ble_eq_true rfl⟩
  · cases h
    exact m_CG_V mt_X5_copy hx hb hml hown hts hK hi hN (ci := 5) m_pv_rec rfl rfl (m_wck_ok (l := [(Cond.methodLink RX5 66 yX5_copy, 797), (Cond.instanceMethod yX5_copy, 799), (Cond.selects RX5 yX5_copy yX5_copy, 20), (Cond.initialized RX5, 62), (Cond.code yX5_copy cX5_copy 4 none, 800)]) (by decide +kernel)) ⟨rfl, by decide +kernel, by decide +kernel, by decide +kernel⟩ ⟨Nat.le_of_ble_eq_true rfl, Nat.le_of_ble_eq_true rfl⟩
  · cases h
set_option maxHeartbeats 4000000 in
set_option maxRecDepth 100000 in
theorem mt_X5_of : m_Mt yX5_of cX5_of 5 none 5 125 pt_mof := by
  refine m_methodG (fl := fl_X5) (kI := kI_X5) (kJ := kJ_X5) (ct := ct_X5_of) (cd := cd_X5_of) (cut := [(10, [0, 1, 2, 3, 4])]) (rk := 0) (fu := 80) (by decide +kernel) fl_X5_ok kI_X5_ok kJ_X5_ok ce_X5_of rfl ck_X5_of ⟨_, _, rfl, rfl⟩ ?_
  intro sh rf As I J K hpt
  obtain ⟨d, rest, rfl, hd, k, e, t, σ, rfl, rfl, rfl, rfl, hk, hek, ht, nt, hB, hM, hK⟩ := hpt
  refine ⟨Nat.le_of_ble_eq_true rfl, fun a9 b9 pc vs st I1 J1 => st = [] ∧ J1 = J ∧ ∃ i σ', vs = [.inr (.inr 528), .inl (nI k), .inl (nI e), .inl (nI t), .inl (nI i)] ∧ a9 = k + 1 - i ∧ i ≤ k + 1 ∧ MO I I1 ∧ MS I1 σ' ∧ (∀ q, (nD q ∧ q ≠ 12 ∧ q ≠ 17) → σ' q = σ q) ∧ σ' 17 = ofN (moM J) k e i, ?_, ?_⟩
  · refine ⟨528, [.inl (nI 17), .inr (.inl 0)], rfl, rfl, 17, 0, rfl, rfl, rfl, rfl, by decide, by decide, fun I1 a1 a2 => ?_⟩
    exact ⟨k + 1 - 0, 0, rfl, rfl, 0, _, rfl, rfl, Nat.zero_le _, a1.mo, hM.up a1 a2, fun q hq => up_o _ _ hq.2.2, up_s _ _ _⟩
  · intro pc ks a9 b9 vs st I1 J1 hc hI
    rcases m_cu1 hc with ⟨rfl, rfl⟩ | hc
    · obtain ⟨rfl, rfl, i, σ', rfl, rfl, hi, F, M, k1, e17⟩ := hI
      refine ⟨fun h => ?_, fun h => ?_⟩
      · have h : nI k < nI i := h
        rw [nI_ltI (by omega) (by omega)] at h
        obtain rfl : i = k + 1 := by omega
        obtain ⟨n, w17⟩ := M.wf (s := 17) (by decide)
        refine ⟨528, [.inl (nI 17), .inl (nI t)], rfl, rfl, 17, t, n, rfl, rfl, rfl, rfl, by decide, ht, w17, fun I2 a1 a2 a3 a4 => ?_⟩
        have M2 := M.cp (by decide) w17 a1 a2 a3 a4
        exact hK I2 _ (F.trans a1.mo) M2 (fun q hq q2 => by rw [up_o _ _ q2]; exact k1 q hq) (by rw [up_s]; exact e17)
      · have h : ¬ nI k < nI i := h
        rw [nI_ltI (by omega) (by omega)] at h
        refine ⟨528, [.inl (nI k), .inl (nI i), .inl (nI 12)], rfl, rfl, k, 12, nI i, σ', rfl, rfl, rfl, rfl, hk, by decide, by decide, hB, M, fun I2 σ2 F2 M2 k2 e2 => ?_⟩
        rw [nI_toInt (by omega), if_pos ⟨by omega, by omega⟩, Int.toNat_natCast] at e2
        have nb := mNb hB hk (show i ≤ k by omega)
        have ea : nI e + nI i = nI (e + i) := nI_add _ _
        have hin : m_inb shL 532 1 (nI e + nI i) := by
          rw [ea]
          exact m_inb_i (n := 12) rfl (vp_in_nI (by omega) (by decide))
        have ecl : (nI e + nI i).toNatClampNeg = e + i := by
          rw [ea]
          exact nI_clamp (by omega)
        have mb := hB (e + i) (by omega)
        have m62 := MB62
        refine ⟨rfl, hin, 528, [.inl (nI 12), .inr (.inl (J1 532 (nI e + nI i).toNatClampNeg))], rfl, rfl, 12, 16, J1 532 (nI e + nI i).toNatClampNeg, σ2, rfl, rfl, rfl, rfl, by decide, by decide, by decide, M2, by rw [ecl]; omega, by rw [e2]; exact nb, by decide, fun I3 F3 M3 => ?_⟩
        rw [ecl, e2] at M3
        have z17 := M3 17 (by decide)
        rw [up_o _ _ (by decide), up_o _ _ (by decide), up_o _ _ (by decide), k2 17 (by decide) (by decide), e17] at z17
        have z12 := M3 12 (by decide)
        rw [up_s] at z12
        have ob := ofN_le (mo := moM J1) hB hk hek (j := i) hi
        have ob2 : (ofN (moM J1) k e i).natAbs < 2 ^ (24 * 19) := by
          refine Nat.lt_of_le_of_lt ob ?_
          exact Nat.lt_of_le_of_lt (Nat.mul_le_mul_right _ (show i ≤ 6 by omega)) (by decide)
        have mb2 : (J1 532 (e + i)).toInt.natAbs < 2 ^ (24 * 3) := by omega
        have nm : (Nm (moM J1) k i * (J1 532 (e + i)).toInt).natAbs < 2 ^ (24 * 19) := cmul (b := 3) nb mb2
        refine ⟨528, [.inl (nI 17), .inl (nI 12), .inl 1, .inl (nI 17)], rfl, rfl, 17, 12, 17, 19, _, _, 1, rfl, rfl, rfl, rfl, by decide, by decide, by decide, Or.inl rfl, z17, z12, ob2, nm, by decide, fun I4 c1 c2 => ?_⟩
        have M4 := M3.up c1 c2
        refine ⟨k + 1 - (i + 1), 0, Or.inl (by omega), rfl, rfl, i + 1, _, by rw [← nI_1 i], rfl, by omega, ((F.trans F2).trans F3.mo).trans c1.mo, M4, fun q hq => ?_, ?_⟩
        · rw [up_o _ _ hq.2.2, up_o _ _ hq.2.1, up_o _ _ hq.1.2.1, up_o _ _ hq.1.2.2.1, k2 q hq.1 hq.2.1]
          exact k1 q hq
        · rw [up_s, show (1 : Int32).toInt = 1 from rfl, Int.one_mul, ofN]
          rfl
    · cases hc

