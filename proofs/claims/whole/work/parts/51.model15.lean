/-! ===== the reference: moment, span, by, mirror ===== -/
theorem in9 {c : Int32} : ((-9 : Int64).toInt ≤ c.toInt64.toInt ∧ c.toInt64.toInt ≤ (9 : Int64).toInt) ↔ win c.toInt 9 := by
  rw [Int32.toInt_toInt64, show (-9 : Int64).toInt = -9 from rfl, show (9 : Int64).toInt = 9 from rfl]
def pt_mby : mSH → mRF → mPT := m_pv 5 (fun sh rf d rest I J K => ∃ (c : Int32) (l : Nat) (σ : Nat → Int), sh = shL ∧ rf = rfL ∧ d = 528 ∧ rest = [.inl c] ∧ I 528 5 = nI l ∧ 3 ≤ l ∧ l ≤ 11 ∧ BM J ∧ MS I σ ∧ Out (byO l (moM J) c.toInt) (fun r => ∀ I1 J1, SameM I J I1 J1 → SlotsM I σ I1 → K (some (.inl r)) I1 J1) (∀ I1 J1, UpdM I J I1 J1 (I 528 4) (nI (l - 1)) (I 528 7) 1 (fun k => if k < l then Int64.ofInt (byV (moM J) c.toInt k) else 0) → I1 533 = I 533 → I1 534 = I 534 → SlotsM I σ I1 → K (some (.inl (nI (l - 1)))) I1 J1))
def pt_mmirror : mSH → mRF → mPT := m_pv 5 (fun sh rf d rest I J K => ∃ (c : Int32) (l : Nat) (σ : Nat → Int), sh = shL ∧ rf = rfL ∧ d = 528 ∧ rest = [.inl c] ∧ I 528 5 = nI l ∧ l ≤ 11 ∧ BM J ∧ MS I σ ∧ Out (mirO l (moM J) c) (fun r => ∀ I1 J1, SameM I J I1 J1 → SlotsM I σ I1 → K (some (.inl r)) I1 J1) (∀ I1 J1, UpdM I J I1 J1 (I 528 4) (nI l) (I 528 7) 1 (fun k => if k < l + 1 then Int64.ofInt (mirS (moM J) c k (k + 1)) else 0) → I1 533 = I 533 → I1 534 = I 534 → SlotsM I σ I1 → K (some (.inl 1)) I1 J1))
theorem SameM.rfl' (I : mPI) (J : mPJ) : SameM I J I J := ⟨MO.rfl' I, fun _ _ => rfl⟩
/-- after changeTo -/
theorem chgM {I I1 : mPI} {J J1 J2 : mPJ} {l : Nat} {f : Nat → Int} {n : Nat} (F : MO I I1) (hj : ∀ a, a ≠ 535 → J1 a = J a) (h5 : ∀ q, q < n → J1 535 q = Int64.ofInt (f q)) (b1 : ∀ a, a ≠ 532 → J2 a = J1 a) (b2 : ∀ k, k < 12 → J2 532 k = if k < l + 1 then J1 535 k else 0) (hn : l + 1 = n) : UpdM I J (m_uI (m_uI I1 528 5 (nI l)) 528 6 1) J2 (I 528 4) (nI l) (I 528 7) 1 (fun k => if k < n then Int64.ofInt (f k) else 0) := by
  have F8 : I1 528 = I 528 := F 528 (by decide) (by decide) (by decide) (by decide)
  refine ⟨fun a h1 h2 h3 h4 _ _ h7 => ?_, ?_, ?_, ?_, uI_s _ _ _ _, fun a h1 h2 => by rw [b1 a h1, hj a h2], fun k hk => ?_⟩
  · rw [uI_a _ _ _ h1, uI_a _ _ _ h1]
    exact F a h2 h3 h4 h7
  · rw [uI_k _ _ _ (by decide), uI_k _ _ _ (by decide), F8]
  · rw [uI_k _ _ _ (by decide), uI_s]
  · rw [uI_k _ _ _ (by decide), uI_k _ _ _ (by decide), F8]
  · rw [b2 k hk, hn]
    by_cases q : k < n
    · rw [if_pos q]
      show J1 535 k = if k < n then _ else _
      rw [if_pos q]
      exact h5 k q
    · rw [if_neg q]
      exact (if_neg q).symm
theorem SlotsM.of {I I1 : mPI} {σ σ' : Nat → Int} (M : MS I1 σ') (e0 : σ' 0 = σ 0) (e1 : σ' 1 = σ 1) : SlotsM I σ I1 := ⟨σ', M, e0, e1⟩
theorem ms_f {I : mPI} {σ : Nat → Int} (M : MS I σ) (x y : Int32) : MS (m_uI (m_uI I 528 5 x) 528 6 y) σ := M.cg (by rw [uI_a _ _ _ (by decide), uI_a _ _ _ (by decide)]) (by rw [uI_a _ _ _ (by decide), uI_a _ _ _ (by decide)]) (by rw [uI_a _ _ _ (by decide), uI_a _ _ _ (by decide)])

def ct_X5_span (sh : mSH) (rf : mRF) : Nat → Option (Nat × Bool × mPT) := fun k => match k with
  | 134 => some (3, false, pt_in sh rf)
  | 127 => some (2, true, pt_mbegin sh rf)
  | 123 => some (2, false, pt_mpower sh rf)
  | _ => none
set_option maxRecDepth 20000 in
theorem ce_X5_span : m_CE RX5 1 25 cX5_span 4 ct_X5_span := by
  intro p l e s m args below meth c Q D cs ad sh rf N hx hb hml hown hts hK hi hN k n vf pt h
  unfold ct_X5_span at h
  split at h
  · cases h
    exact m_CG_S mt_X5_in hx hb hml hown hts hK hi hN (m_wck_ok (l := [(Cond.methodLink RX5 134 yX5_in, 748), (Cond.static yX5_in, 749), (Cond.initialized RX5, 62), (Cond.code yX5_in cX5_in 6 (some .boolean), 750)]) (by decide +kernel)) ⟨by decide +kernel, by decide +kernel, by decide +kernel⟩ ⟨Nat.le_of_ble_eq_true rfl, Nat.le_of_ble_eq_true rfl⟩
  · cases h
    exact m_CG_V mt_X5_begin hx hb hml hown hts hK hi hN (ci := 5) m_pv_rec rfl rfl (m_wck_ok (l := [(Cond.methodLink RX5 127 yX5_begin, 738), (Cond.instanceMethod yX5_begin, 740), (Cond.selects RX5 yX5_begin yX5_begin, 15), (Cond.initialized RX5, 62), (Cond.code yX5_begin cX5_begin 3 none, 741)]) (by decide +kernel)) ⟨rfl, by decide +kernel, by decide +kernel, by decide +kernel⟩ ⟨Nat.le_of_ble_eq_true rfl, Nat.le_of_ble_eq_true rfl⟩
  · cases h
    exact m_CG_S mt_X5_power hx hb hml hown hts hK hi hN (m_wck_ok (l := [(Cond.methodLink RX5 123 yX5_power, 757), (Cond.static yX5_power, 758), (Cond.initialized RX5, 62), (Cond.code yX5_power cX5_power 6 (some .long), 759)]) (by decide +kernel)) ⟨by decide +kernel, by decide +kernel, by decide +kernel⟩ ⟨Nat.le_of_ble_eq_true rfl, Nat.le_of_ble_eq_true rfl⟩
  · cases h
set_option maxHeartbeats 4000000 in
set_option maxRecDepth 100000 in
theorem mt_X5_span : m_Mt yX5_span cX5_span 4 (some .int) 1 25 pt_mspan := by
  refine m_methodG (fl := fl_X5) (kI := kI_X5) (kJ := kJ_X5) (ct := ct_X5_span) (cd := cd_X5_span) (cut := [(14, [0, 1, 2]), (43, [0, 1, 2, 3])]) (rk := 1) (fu := 80) (by decide +kernel) fl_X5_ok kI_X5_ok kJ_X5_ok ce_X5_span rfl ck_X5_span ⟨_, _, rfl, rfl⟩ ?_
  intro sh rf As I J K hpt
  obtain ⟨d, rest, rfl, hd, a, b, σ, rfl, rfl, rfl, rfl, hM, hS, hU⟩ := hpt
  have no : ¬ (-9 ≤ a.toInt ∧ a.toInt < b.toInt ∧ b.toInt ≤ 9) → K (some (.inl (-2))) I J := fun q => hS _ (if_neg q)
  refine ⟨Nat.le_of_ble_eq_true rfl, fun a9 b9 pc vs st I1 J1 => (pc = 14 ∧ a9 = 100 ∧ st = [] ∧ I1 = I ∧ J1 = J ∧ vs = [.inr (.inr 528), .inl a, .inl b] ∧ win a.toInt 9) ∨ (pc = 43 ∧ st = [] ∧ ∃ k, vs = [.inr (.inr 528), .inl a, .inl b, .inl (nI k)] ∧ a9 = 12 - k ∧ k ≤ 12 ∧ (-9 ≤ a.toInt ∧ a.toInt < b.toInt ∧ b.toInt ≤ 9) ∧ (∀ q, q ≠ 528 → I1 q = I q) ∧ I1 528 4 = 2 ∧ I1 528 5 = 11 ∧ I1 528 6 = 0 ∧ I1 528 7 = 0 ∧ (∀ q, q ≠ 532 → J1 q = J q) ∧ ∀ j, j < k → J1 532 j = spM a b j), ?_, ?_⟩
  · refine ⟨a.toInt64, -9, 9, rfl, fun h => ?_, fun h => ?_⟩
    · have h := mt in9.mpr (w_is0 h)
      exact no (fun q => h ⟨by omega, by omega⟩)
    · exact ⟨100, 0, Or.inl ⟨rfl, rfl, rfl, rfl, rfl, rfl, in9.mp (w_not0 h)⟩⟩
  · intro pc ks a9 b9 vs st I1 J1 hc hI
    rcases m_cu1 hc with ⟨rfl, rfl⟩ | hc
    · obtain ⟨rfl, rfl, rfl, rfl, rfl, h⟩ : a9 = 100 ∧ st = [] ∧ I1 = I ∧ J1 = J ∧ vs = [.inr (.inr 528), .inl a, .inl b] ∧ win a.toInt 9 := by
        rcases hI with ⟨-, q⟩ | ⟨q, -⟩
        · exact q
        · exact absurd q (by decide)
      refine ⟨b.toInt64, -9, 9, rfl, fun h2 => ?_, fun h2 => ⟨fun h3 => ?_, fun h3 => ?_⟩⟩
      · have h2 := mt in9.mpr (w_is0 h2)
        exact no (fun q => h2 ⟨by omega, by omega⟩)
      · have h2 := in9.mp (w_not0 h2)
        have h3 := Int32.lt_iff_toInt_lt.mp h3
        refine ⟨528, [.inl 2], rfl, rfl, 2, rfl, rfl, rfl, rfl, fun I2 J2 a1 a2 a3 a4 a5 a6 a7 => ?_⟩
        exact ⟨12 - 0, 0, Or.inl (by decide), Or.inr ⟨rfl, rfl, 0, rfl, rfl, by decide, ⟨by omega, h3, by omega⟩, a1, a2, a3, a4, a5, a6, fun j hj => absurd hj (Nat.not_lt_zero j)⟩⟩
      · have h3 := mt Int32.lt_iff_toInt_lt.mpr h3
        exact no (fun q => h3 q.2.1)
    rcases m_cu1 hc with ⟨rfl, rfl⟩ | hc
    · obtain ⟨rfl, k, rfl, rfl, hk, hg, a1, a2, a3, a4, a5, a6, h7⟩ : st = [] ∧ ∃ k, vs = [.inr (.inr 528), .inl a, .inl b, .inl (nI k)] ∧ a9 = 12 - k ∧ k ≤ 12 ∧ (-9 ≤ a.toInt ∧ a.toInt < b.toInt ∧ b.toInt ≤ 9) ∧ (∀ q, q ≠ 528 → I1 q = I q) ∧ I1 528 4 = 2 ∧ I1 528 5 = 11 ∧ I1 528 6 = 0 ∧ I1 528 7 = 0 ∧ (∀ q, q ≠ 532 → J1 q = J q) ∧ ∀ j, j < k → J1 532 j = spM a b j := by
        rcases hI with ⟨q, -⟩ | ⟨-, q⟩
        · exact absurd q (by decide)
        · exact q
      refine ⟨fun h => ?_, fun h => ?_⟩
      · have h : nI 11 < nI k := h
        rw [nI_ltI (by omega) (by omega)] at h
        exact hU (if_pos hg) I1 J1 ⟨fun q h _ _ _ _ _ _ => a1 q h, a2, a3, a5, a4, fun q h _ => a6 q h, fun j hj => h7 j (by omega)⟩ (a1 _ (by decide)) (a1 _ (by decide)) ⟨σ, hM.cg (a1 _ (by decide)) (a1 _ (by decide)) (a1 _ (by decide)), rfl, rfl⟩
      · have h : ¬ nI 11 < nI k := h
        rw [nI_ltI (by omega) (by omega)] at h
        have e1 : (nI k + 1).toInt64 = lN (k + 1) := by rw [nI_1, nI_l (by omega)]
        have e2 : (27720 : Int64) / (nI k + 1).toInt64 = (nI (27720 / (k + 1))).toInt64 := by
          rw [e1, show (27720 : Int64) = lN 27720 from rfl, pk_lDiv (by omega) (by omega) (by omega), nI_l (by have := Nat.div_le_self 27720 (k + 1); omega)]
        refine ⟨rfl, ?_, b.toInt64, k + 1, congrArg (fun y => [Sum.inr (Sum.inl b.toInt64), Sum.inl y]) (nI_1 k), by omega, a.toInt64, k + 1, congrArg (fun y => [Sum.inr (Sum.inl a.toInt64), Sum.inl y]) (nI_1 k), by omega, jin (by omega), 12 - (k + 1), 0, Or.inl (by omega), Or.inr ⟨rfl, rfl, k + 1, by rw [← nI_1 k], rfl, by omega, hg, a1, a2, a3, a4, a5, ?_⟩⟩
        · show ¬ (nI k + 1).toInt64 = 0
          rw [e1]
          intro q
          have := (lN_eq (a := k + 1) (b := 0) (by omega) (by omega)).mp q
          omega
        · show (∀ q, q ≠ 532 → m_uJ J1 532 (nI k).toNatClampNeg ((27720 : Int64) / (nI k + 1).toInt64 * (pwL b.toInt64 (k + 1) - pwL a.toInt64 (k + 1))) q = J q) ∧ ∀ j, j < k + 1 → m_uJ J1 532 (nI k).toNatClampNeg ((27720 : Int64) / (nI k + 1).toInt64 * (pwL b.toInt64 (k + 1) - pwL a.toInt64 (k + 1))) 532 j = spM a b j
          rw [nI_clamp (by omega), e2]
          refine ⟨fun q hq => by rw [uJ_a _ _ _ hq]; exact a6 q hq, fun j hj => ?_⟩
          by_cases q : j = k
          · rw [q, uJ_s]
            rfl
          · rw [uJ_k _ _ _ q]
            exact h7 j (by omega)
    · cases hc

def ct_X5_by (sh : mSH) (rf : mRF) : Nat → Option (Nat × Bool × mPT) := fun k => match k with
  | 134 => some (3, false, pt_in sh rf)
  | 50 => some (3, true, pt_mset sh rf)
  | 161 => some (3, true, pt_mtimes sh rf)
  | 164 => some (5, true, pt_madd sh rf)
  | 168 => some (3, true, pt_misMom sh rf)
  | 172 => some (2, true, pt_mchange sh rf)
  | _ => none
set_option maxRecDepth 20000 in
theorem ce_X5_by : m_CE RX5 3 76 cX5_by 3 ct_X5_by := by
  intro p l e s m args below meth c Q D cs ad sh rf N hx hb hml hown hts hK hi hN k n vf pt h
  unfold ct_X5_by at h
  split at h
  · cases h
    exact m_CG_S mt_X5_in hx hb hml hown hts hK hi hN (m_wck_ok (l := [(Cond.methodLink RX5 134 yX5_in, 748), (Cond.static yX5_in, 749), (Cond.initialized RX5, 62), (Cond.code yX5_in cX5_in 6 (some .boolean), 750)]) (by decide +kernel)) ⟨by decide +kernel, by decide +kernel, by decide +kernel⟩ ⟨Nat.le_of_ble_eq_true rfl, Nat.le_of_ble_eq_true rfl⟩
  · cases h
    exact m_CG_V mt_X5_set hx hb hml hown hts hK hi hN (ci := 5) m_pv_rec rfl rfl (m_wck_ok (l := [(Cond.methodLink RX5 50 yX5_set, 677), (Cond.instanceMethod yX5_set, 679), (Cond.selects RX5 yX5_set yX5_set, 14), (Cond.initialized RX5, 62), (Cond.code yX5_set cX5_set 7 none, 680)]) (by decide +kernel)) ⟨rfl, by decide +kernel, by decide +kernel, by decide +kernel⟩ ⟨Nat.le_of_ble_eq_true rfl, Nat.le_of_ble_eq_true rfl⟩
  · cases h
    exact m_CG_V mt_X5_times hx hb hml hown hts hK hi hN (ci := 5) m_pv_rec rfl rfl (m_wck_ok (l := [(Cond.methodLink RX5 161 yX5_times, 785), (Cond.instanceMethod yX5_times, 787), (Cond.selects RX5 yX5_times yX5_times, 17), (Cond.initialized RX5, 62), (Cond.code yX5_times cX5_times 4 none, 788)]) (by decide +kernel)) ⟨rfl, by decide +kernel, by decide +kernel, by decide +kernel⟩ ⟨Nat.le_of_ble_eq_true rfl, Nat.le_of_ble_eq_true rfl⟩
  · cases h
    exact m_CG_V mt_X5_add hx hb hml hown hts hK hi hN (ci := 5) m_pv_rec rfl rfl (m_wck_ok (l := [(Cond.methodLink RX5 164 yX5_add, 801), (Cond.instanceMethod yX5_add, 803), (Cond.selects RX5 yX5_add yX5_add, 21), (Cond.initialized RX5, 62), (Cond.code yX5_add cX5_add 8 none, 804)]) (by decide +kernel)) ⟨rfl, by decide +kernel, by decide +kernel, by decide +kernel⟩ ⟨Nat.le_of_ble_eq_true rfl, Nat.le_of_ble_eq_true rfl⟩
  · cases h
    exact m_CG_V mt_X5_isMoment hx hb hml hown hts hK hi hN (ci := 5) m_pv_rec rfl rfl (m_wck_ok (l := [(Cond.methodLink RX5 168 yX5_isMoment, 823), (Cond.instanceMethod yX5_isMoment, 825), (Cond.selects RX5 yX5_isMoment yX5_isMoment, 26), (Cond.initialized RX5, 62), (Cond.code yX5_isMoment cX5_isMoment 6 (some .boolean), 826)]) (by decide +kernel)) ⟨rfl, by decide +kernel, by decide +kernel, by decide +kernel⟩ ⟨Nat.le_of_ble_eq_true rfl, Nat.le_of_ble_eq_true rfl⟩
  · cases h
    exact m_CG_V mt_X5_changeTo hx hb hml hown hts hK hi hN (ci := 5) m_pv_rec rfl rfl (m_wck_ok (l := [(Cond.methodLink RX5 172 yX5_changeTo, 831), (Cond.instanceMethod yX5_changeTo, 833), (Cond.selects RX5 yX5_changeTo yX5_changeTo, 28), (Cond.initialized RX5, 62), (Cond.code yX5_changeTo cX5_changeTo 3 none, 834)]) (by decide +kernel)) ⟨rfl, by decide +kernel, by decide +kernel, by decide +kernel⟩ ⟨Nat.le_of_ble_eq_true rfl, Nat.le_of_ble_eq_true rfl⟩
  · cases h
set_option maxHeartbeats 4000000 in
set_option maxRecDepth 100000 in
theorem mt_X5_by : m_Mt yX5_by cX5_by 3 (some .int) 3 76 pt_mby := by
  refine m_methodG (fl := fl_X5) (kI := kI_X5) (kJ := kJ_X5) (ct := ct_X5_by) (cd := cd_X5_by) (cut := [(30, [0, 1, 2])]) (rk := 1) (fu := 120) (by decide +kernel) fl_X5_ok kI_X5_ok kJ_X5_ok ce_X5_by rfl ck_X5_by ⟨_, _, rfl, rfl⟩ ?_
  intro sh rf As I J K hpt
  obtain ⟨d, rest, rfl, hd, c, l, σ, rfl, rfl, rfl, rfl, h5, h3, hl, hB, hM, hS, hU⟩ := hpt
  have m62 := MB62
  refine ⟨Nat.le_of_ble_eq_true rfl, fun a9 b9 pc vs st I1 J1 => st = [] ∧ ∃ k σ', vs = [.inr (.inr 528), .inl c, .inl (nI k)] ∧ a9 = l - k ∧ k ≤ l ∧ win c.toInt 9 ∧ 3 < l ∧ MO I I1 ∧ MS I1 σ' ∧ σ' 0 = σ 0 ∧ σ' 1 = σ 1 ∧ (∀ a, a ≠ 535 → J1 a = J a) ∧ ∀ q, q < k → J1 535 q = Int64.ofInt (byV (moM J) c.toInt q) ∧ (byV (moM J) c.toInt q).natAbs < 2 ^ 62, ?_, ?_⟩
  · refine ⟨c.toInt64, -9, 9, rfl, fun h => ⟨rfl, fun h2 => ?_, fun h2 => ?_⟩, fun h => ?_⟩
    · have hc := in9.mp (w_not0 h)
      have h2 : ¬ I 528 5 = nI 3 := h2
      rw [h5, nI_eq (by omega) (by omega)] at h2
      exact ⟨l - 0, 0, rfl, 0, σ, rfl, rfl, Nat.zero_le _, hc, by omega, MO.rfl' I, hM, rfl, rfl, fun _ _ => rfl, fun q hq => absurd hq (Nat.not_lt_zero q)⟩
    · have hc := in9.mp (w_not0 h)
      have h2 : I 528 5 = nI 3 := h2
      rw [h5, nI_eq (by omega) (by omega)] at h2
      exact hS _ (by unfold byO; rw [if_neg (fun q => q hc), if_pos (by omega)]) I J (SameM.rfl' I J) ⟨σ, hM, rfl, rfl⟩
    · have h := mt in9.mpr (w_is0 h)
      exact hS _ (if_pos h) I J (SameM.rfl' I J) ⟨σ, hM, rfl, rfl⟩
  · intro pc ks a9 b9 vs st I1 J1 hcu hI
    rcases m_cu1 hcu with ⟨rfl, rfl⟩ | hcu
    · obtain ⟨rfl, k, σ', rfl, rfl, hk, hc, h3l, F, M, e0, e1, hj, hq⟩ := hI
      have eJ : J1 532 = J 532 := hj 532 (by decide)
      have F8 : I1 528 = I 528 := F 528 (by decide) (by decide) (by decide) (by decide)
      have e5 : I1 528 5 = nI l := by rw [F8]; exact h5
      refine ⟨rfl, fun h => ?_, fun h => ?_⟩
      · have h : I1 528 5 ≤ nI k := h
        rw [e5, nI_leI (by omega) (by omega)] at h
        obtain rfl : k = l := by omega
        have hU2 := hU (by unfold byO; rw [if_neg (fun q => q hc), if_neg (by omega), if_pos (fun q hq2 => (hq q hq2).2)])
        have el : I1 528 5 - 1 = nI (k - 1) := by
          rw [e5]
          exact pk_sub (b := 1) (by omega)
        refine ⟨rfl, 528, [.inl (I1 528 5 - 1)], rfl, rfl, k - 1, rfl, rfl, rfl, by rw [el], by omega, fun J2 b1 b2 => ⟨rfl, ?_⟩⟩
        have hup := chgM (l := k - 1) (n := k) F hj (fun q hq2 => (hq q hq2).1) b1 b2 (by omega)
        show K (some (.inl (m_uI (m_uI I1 528 5 (nI (k - 1))) 528 6 1 528 5))) (m_uI (m_uI I1 528 5 (nI (k - 1))) 528 6 1) J2
        rw [hup.2.2.1]
        exact hU2 _ _ hup (by rw [uI_a _ _ _ (by decide), uI_a _ _ _ (by decide)]; exact F _ (by decide) (by decide) (by decide) (by decide)) (by rw [uI_a _ _ _ (by decide), uI_a _ _ _ (by decide)]; exact F _ (by decide) (by decide) (by decide) (by decide)) ⟨σ', ms_f M _ _, e0, e1⟩
      · have h : ¬ I1 528 5 ≤ nI k := h
        rw [e5, nI_leI (by omega) (by omega)] at h
        have kcl : (nI k).toNatClampNeg = k := nI_clamp (by omega)
        have kcl1 : (nI k + 1).toNatClampNeg = k + 1 := by rw [nI_1]; exact nI_clamp (by omega)
        have mb1 := hB k (by omega)
        have mb2 := hB (k + 1) (by omega)
        have ecn : (-c).toInt64.toInt = -c.toInt := neg9 hc
        refine ⟨rfl, jin (by omega), 528, [.inl (nI 2), .inr (.inl (J1 532 (nI k).toNatClampNeg))], rfl, rfl, 2, J1 532 (nI k).toNatClampNeg, rfl, rfl, rfl, rfl, by decide, by rw [kcl, eJ]; omega, fun I2 a1 a2 => ?_⟩
        rw [kcl, eJ] at a2
        have M2 := M.up a1 a2
        refine ⟨528, [.inl (nI 2), .inr (.inl (-c).toInt64)], rfl, rfl, 2, 3, (-c).toInt64, _, rfl, rfl, rfl, rfl, by decide, by decide, by decide, M2, by rw [ecn]; omega, by rw [up_s]; omega, by decide, fun I3 F3 M3 => ?_⟩
        rw [up_s, ecn] at M3
        refine ⟨rfl, by rw [nI_1]; exact jin (by omega), 528, [.inl (nI 3), .inr (.inl (J1 532 (nI k + 1).toNatClampNeg))], rfl, rfl, 3, J1 532 (nI k + 1).toNatClampNeg, rfl, rfl, rfl, rfl, by decide, by rw [kcl1, eJ]; omega, fun I4 b1 b2 => ?_⟩
        rw [kcl1, eJ] at b2
        have M4 := M3.up b1 b2
        have z2 := M4 2 (by decide)
        rw [up_o _ _ (by decide), up_s] at z2
        have z3 := M4 3 (by decide)
        rw [up_s] at z3
        have bb : ((J 532 k).toInt * -c.toInt).natAbs < 2 ^ (24 * 4) := by
          have h1 : (J 532 k).toInt.natAbs < 2 ^ (24 * 3) := by omega
          have h2 : (-c.toInt).natAbs < 2 ^ (24 * 1) := by omega
          exact cmul h1 h2
        have b3 : (J 532 (k + 1)).toInt.natAbs < 2 ^ (24 * 4) := by omega
        refine ⟨528, [.inl (nI 2), .inl (nI 3), .inl 1, .inl (nI 11)], rfl, rfl, 2, 3, 11, 4, _, _, 1, rfl, rfl, rfl, rfl, by decide, by decide, by decide, Or.inl rfl, z2, z3, bb, b3, by decide, fun I5 c1 c2 => ?_⟩
        have M5 := M4.up c1 c2
        have ev : (J 532 k).toInt * -c.toInt + (1 : Int32).toInt * (J 532 (k + 1)).toInt = byV (moM J) c.toInt k := by
          rw [show (1 : Int32).toInt = 1 from rfl, Int.one_mul]
          unfold byV moM
          omega
        rw [ev] at c2
        have FF := (((F.trans a1.mo).trans F3.mo).trans b1.mo).trans c1.mo
        have E0 : up (up (up (up (up (up σ' 2 (J 532 k).toInt) 6 (-c.toInt)) 5 ((J 532 k).toInt * -c.toInt)) 2 ((J 532 k).toInt * -c.toInt)) 3 (J 532 (k + 1)).toInt) 11 ((J 532 k).toInt * -c.toInt + (1 : Int32).toInt * (J 532 (k + 1)).toInt) 0 = σ 0 := by
          rw [up_o _ _ (by decide), up_o _ _ (by decide), up_o _ _ (by decide), up_o _ _ (by decide), up_o _ _ (by decide), up_o _ _ (by decide)]
          exact e0
        have E1 : up (up (up (up (up (up σ' 2 (J 532 k).toInt) 6 (-c.toInt)) 5 ((J 532 k).toInt * -c.toInt)) 2 ((J 532 k).toInt * -c.toInt)) 3 (J 532 (k + 1)).toInt) 11 ((J 532 k).toInt * -c.toInt + (1 : Int32).toInt * (J 532 (k + 1)).toInt) 1 = σ 1 := by
          rw [up_o _ _ (by decide), up_o _ _ (by decide), up_o _ _ (by decide), up_o _ _ (by decide), up_o _ _ (by decide), up_o _ _ (by decide)]
          exact e1
        refine ⟨528, [.inl (nI 11), .inl (nI k)], rfl, rfl, 11, k, _, rfl, rfl, rfl, rfl, by decide, by omega, c2, fun hz => ⟨fun _ => ?_, fun r => absurd r (by decide)⟩, fun hz => ⟨fun r => absurd rfl r, fun _ => ?_⟩⟩
        · refine ⟨l - (k + 1), 0, Or.inl (by omega), rfl, k + 1, _, by rw [← nI_1 k], rfl, by omega, hc, h3l, FF, M5, E0, E1, fun a ha => by rw [uJ_a _ _ _ ha]; exact hj a ha, fun q hq2 => ?_⟩
          by_cases r : q = k
          · subst r
            rw [uJ_s]
            exact ⟨rfl, hz⟩
          · rw [uJ_k _ _ _ r]
            exact hq q (by omega)
        · exact hS _ (by unfold byO; rw [if_neg (fun q => q hc), if_neg (by omega), if_neg (fun q => hz (q k (by omega)))]) I5 J1 ⟨FF, hj⟩ ⟨_, M5, E0, E1⟩
    · cases hcu

