/-! ===== the reference: halves and doubles ===== -/
theorem wri_lm2 {I I1 : mPI} {a t n k j : Nat} (h : WrI I I1 t k) (hw : WF I a n) (hj : k ≤ j) : lm I1 a n j = lm I a n j := lm_cur hw.2.1 h.1 (fun i h1 h2 => h.2.2.2.2 i (by omega) h2)
theorem and1' {b : Nat} (h : b < 2 ^ 31) : nI b &&& 1 = nI (b % 2) := by
  apply u32_inj
  rw [u32n (by omega)]
  unfold u32
  rw [Int32.toBitVec_and, show (1 : Int32).toBitVec = BitVec.ofNat 32 (2 ^ 1 - 1) by decide, BitVec.toNat_and, BitVec.toNat_ofNat, Nat.mod_eq_of_lt (by decide), Nat.and_two_pow_sub_one_eq_mod]
  have : (nI b).toBitVec.toNat = b := u32n (by omega)
  rw [this]
theorem half_or {x b : Nat} (hx : x < 2 ^ 24) (hb : b < 2 ^ 24) : (nI x >>> ((1 : Int32) &&& 31)) ||| ((nI b &&& 1) <<< ((23 : Int32) &&& 31)) = nI (x / 2 + b % 2 * 2 ^ 23) := by
  rw [show nI x >>> ((1 : Int32) &&& 31) = nI (x / 2) from i_sarn (by omega) (r := 1) (by decide), and1' (by omega)]
  have hx2 : x / 2 < 2 ^ 23 := by omega
  rcases (show b % 2 = 0 ∨ b % 2 = 1 by omega) with e | e
  · rw [e, show nI 0 <<< ((23 : Int32) &&& 31) = 0 by decide, Int32.or_zero, Nat.zero_mul, Nat.add_zero]
  · rw [e, show nI 1 <<< ((23 : Int32) &&& 31) = nI (2 ^ 23) by decide, Nat.one_mul]
    apply u32_inj
    rw [u32n (by omega)]
    unfold u32
    rw [Int32.toBitVec_or, BitVec.toNat_or]
    have e1 : (nI (x / 2)).toBitVec.toNat = x / 2 := u32n (by omega)
    have e2 : (nI (2 ^ 23)).toBitVec.toNat = 2 ^ 23 := u32n (by omega)
    rw [e1, e2, Nat.or_comm]
    have := Nat.shiftLeft_add_eq_or_of_lt hx2 1
    rw [Nat.one_shiftLeft] at this
    omega
theorem half_dv {g g' : Nat → Nat} (h : ∀ i, g' i = g i / 2 + g (i + 1) % 2 * 2 ^ 23) : ∀ n, 2 * dv (2 ^ 24) g' n + g 0 % 2 = dv (2 ^ 24) g n + g n % 2 * (2 ^ 24) ^ n
  | 0 => by rw [dv, dv, Nat.pow_zero]; omega
  | n + 1 => by
    have ih := half_dv h n
    rw [dv, dv, h n, show (2 ^ 24) ^ (n + 1) = (2 ^ 24) ^ n * 2 ^ 24 from Nat.pow_succ _ _]
    generalize (2 ^ 24) ^ n = P at ih ⊢
    generalize dv (2 ^ 24) g' n = D at ih ⊢
    generalize dv (2 ^ 24) g n = E at ih ⊢
    have e : g n = 2 * (g n / 2) + g n % 2 := by omega
    generalize g n / 2 = q at e ih ⊢
    generalize g n % 2 = r at e ih ⊢
    rw [e]
    generalize g (n + 1) % 2 = s
    grind
theorem ZIs.nat {I : mPI} {s n : Nat} {v : Nat} (h1 : ZR I s n v) (h2 : 0 < n → zd I s (n - 1) ≠ 0) : n = 0 ↔ v = 0 := by
  have := ZIs.zero (I := I) (s := s) (n := n) (z := (v : Int)) (by rw [Int.natAbs_natCast]; exact h1) h2
  rw [this]
  omega
theorem low2 {I : mPI} {s n v : Nat} (h : ZR I s n v) : v % 2 = lm I s n 0 % 2 := by
  have := half_dv (g := lm I s n) (g' := fun i => lm I s n i / 2 + lm I s n (i + 1) % 2 * 2 ^ 23) (fun _ => rfl) n
  rw [lm_dv (Nat.le_refl _), h.2] at this
  have e : lm I s n n = 0 := if_neg (Nat.lt_irrefl n)
  rw [e, Nat.zero_mod, Nat.zero_mul] at this
  omega
theorem tw_step {B P Q R D E g c c0 : Nat} (h : B * Q + R = 2 * g + c) (h2 : D + c * P = 2 * E + c0) : D + R * P + Q * (P * B) = 2 * (E + g * P) + c0 := by
  have e : (B * Q + R) * P = (2 * g + c) * P := by rw [h]
  grind
def pt_mEven : mSH → mRF → mPT := m_pv 5 (fun sh rf d rest I J K => ∃ s n v : Nat, sh = shL ∧ rf = rfL ∧ d = 528 ∧ rest = [.inl (nI s)] ∧ s < 40 ∧ ZR I s n v ∧ K (some (.inl (if v % 2 = 0 then 1 else 0))) I J)
def pt_mhalve : mSH → mRF → mPT := m_pv 5 (fun sh rf d rest I J K => ∃ (s v : Nat), sh = shL ∧ rf = rfL ∧ d = 528 ∧ rest = [.inl (nI s)] ∧ s < 40 ∧ ZIs I s (v : Int) ∧ ∀ I1, SF I I1 s → ZIs I1 s ((v / 2 : Nat) : Int) → K none I1 J)
def pt_mtwice : mSH → mRF → mPT := m_pv 5 (fun sh rf d rest I J K => ∃ (s v c : Nat), sh = shL ∧ rf = rfL ∧ d = 528 ∧ rest = [.inl (nI s), .inl (nI c)] ∧ s < 40 ∧ c ≤ 1 ∧ ZIs I s (v : Int) ∧ v < 2 ^ (24 * 259) ∧ ∀ I1, SF I I1 s → ZIs I1 s ((2 * v + c : Nat) : Int) → K none I1 J)

def ct_X5_isEven (sh : mSH) (rf : mRF) : Nat → Option (Nat × Bool × mPT) := fun k => match k with
  | 60 => some (3, true, pt_limb sh rf)
  | _ => none
set_option maxRecDepth 20000 in
theorem ce_X5_isEven : m_CE RX5 1 22 cX5_isEven 2 ct_X5_isEven := by
  intro p l e s m args below meth c Q D cs ad sh rf N hx hb hml hown hts hK hi hN k n vf pt h
  unfold ct_X5_isEven at h
  split at h
  · cases h
    exact m_CG_V mt_X5_limb hx hb hml hown hts hK hi hN (ci := 5) m_pv_rec rfl rfl (m_wck_ok (l := [(Cond.methodLink RX5 60 yX5_limb, 809), (Cond.instanceMethod yX5_limb, 811), (Cond.selects RX5 yX5_limb yX5_limb, 23), (Cond.initialized RX5, 62), (Cond.code yX5_limb cX5_limb 3 (some .int), 812)]) (by decide +kernel)) ⟨rfl, by decide +kernel, by decide +kernel, by decide +kernel⟩ ⟨Nat.le_of_ble_eq_true rfl, Nat.le_of_ble_eq_true rfl⟩
  · cases h
set_option maxHeartbeats 4000000 in
set_option maxRecDepth 100000 in
theorem mt_X5_isEven : m_Mt yX5_isEven cX5_isEven 2 (some .boolean) 1 22 pt_mEven := by
  refine m_method0 80 (fl := fl_X5) (kI := kI_X5) (kJ := kJ_X5) (ct := ct_X5_isEven) (cd := cd_X5_isEven) (rk := 3) (by decide +kernel) fl_X5_ok kI_X5_ok kJ_X5_ok ce_X5_isEven rfl ck_X5_isEven ⟨_, _, rfl, rfl⟩ ?_
  intro sh rf As I J K hpt
  obtain ⟨d, rest, rfl, hd, s, n, v, rfl, rfl, rfl, rfl, hs, hz, hK⟩ := hpt
  have hl := lm_lt hz.1 0
  refine ⟨Nat.le_of_ble_eq_true rfl, 528, [.inl (nI s), .inl (nI 0)], rfl, rfl, s, 0, n, rfl, rfl, rfl, rfl, hs, by decide, hz.1, fun h => ?_, fun h => ?_⟩
  · have h : ¬ nI (lm I s n 0) &&& 1 = nI 0 := h
    rw [and1' (by omega), nI_eq (by omega) (by omega), ← low2 hz] at h
    rw [if_neg h] at hK
    exact ⟨Or.inl rfl, hK⟩
  · have h : nI (lm I s n 0) &&& 1 = nI 0 := h
    rw [and1' (by omega), nI_eq (by omega) (by omega), ← low2 hz] at h
    rw [if_pos h] at hK
    exact ⟨Or.inr rfl, hK⟩

def ct_X5_halve (sh : mSH) (rf : mRF) : Nat → Option (Nat × Bool × mPT) := fun k => match k with
  | 60 => some (3, true, pt_limb sh rf)
  | 80 => some (2, true, pt_mcut sh rf)
  | _ => none
set_option maxRecDepth 20000 in
theorem ce_X5_halve : m_CE RX5 1 22 cX5_halve 3 ct_X5_halve := by
  intro p l e s m args below meth c Q D cs ad sh rf N hx hb hml hown hts hK hi hN k n vf pt h
  unfold ct_X5_halve at h
  split at h
  · cases h
    exact m_CG_V mt_X5_limb hx hb hml hown hts hK hi hN (ci := 5) m_pv_rec rfl rfl (m_wck_ok (l := [(Cond.methodLink RX5 60 yX5_limb, 809), (Cond.instanceMethod yX5_limb, 811), (Cond.selects RX5 yX5_limb yX5_limb, 23), (Cond.initialized RX5, 62), (Cond.code yX5_limb cX5_limb 3 (some .int), 812)]) (by decide +kernel)) ⟨rfl, by decide +kernel, by decide +kernel, by decide +kernel⟩ ⟨Nat.le_of_ble_eq_true rfl, Nat.le_of_ble_eq_true rfl⟩
  · cases h
    exact m_CG_V mt_X5_cut hx hb hml hown hts hK hi hN (ci := 5) m_pv_rec rfl rfl (m_wck_ok (l := [(Cond.methodLink RX5 80 yX5_cut, 793), (Cond.instanceMethod yX5_cut, 795), (Cond.selects RX5 yX5_cut yX5_cut, 19), (Cond.initialized RX5, 62), (Cond.code yX5_cut cX5_cut 2 none, 796)]) (by decide +kernel)) ⟨rfl, by decide +kernel, by decide +kernel, by decide +kernel⟩ ⟨Nat.le_of_ble_eq_true rfl, Nat.le_of_ble_eq_true rfl⟩
  · cases h
set_option maxHeartbeats 4000000 in
set_option maxRecDepth 100000 in
theorem mt_X5_halve : m_Mt yX5_halve cX5_halve 3 none 1 22 pt_mhalve := by
  refine m_methodG (fl := fl_X5) (kI := kI_X5) (kJ := kJ_X5) (ct := ct_X5_halve) (cd := cd_X5_halve) (cut := [(2, [0, 1, 2])]) (rk := 0) (fu := 80) (by decide +kernel) fl_X5_ok kI_X5_ok kJ_X5_ok ce_X5_halve rfl ck_X5_halve ⟨_, _, rfl, rfl⟩ ?_
  intro sh rf As I J K hpt
  obtain ⟨d, rest, rfl, hd, s, v, rfl, rfl, rfl, rfl, hs, ⟨n, hz, htop, hsg⟩, hK⟩ := hpt
  rw [Int.natAbs_natCast] at hz
  have hw := hz.1
  have hn := hw.2.1
  refine ⟨Nat.le_of_ble_eq_true rfl, fun a9 b9 pc vs st I1 J1 => ∃ k, vs = [.inr (.inr 528), .inl (nI s), .inl (nI k)] ∧ st = [] ∧ J1 = J ∧ a9 = n - k ∧ k ≤ n ∧ WrI I I1 s k ∧ ∀ i, i < k → zd I1 s i = lm I s n i / 2 + lm I s n (i + 1) % 2 * 2 ^ 23, ?_, ?_⟩
  · exact ⟨n - 0, 0, 0, rfl, rfl, rfl, rfl, Nat.zero_le _, WrI.rfl' I s, fun i hi => absurd hi (Nat.not_lt_zero i)⟩
  · intro pc ks a9 b9 vs st I1 J1 hc hI
    rcases m_cu1 hc with ⟨rfl, rfl⟩ | hc
    · obtain ⟨k, rfl, rfl, rfl, rfl, hk, hwr, hg⟩ := hI
      refine ⟨rfl, lin hs, fun h => ?_, fun h => ?_⟩
      · have h : I1 530 (nI s).toNatClampNeg ≤ nI k := h
        rw [scl hs, hwr.2.1, hw.1, nI_leI (by omega) (by omega)] at h
        obtain rfl : k = n := by omega
        have e := half_dv (g := lm I s k) (g' := fun i => lm I s k i / 2 + lm I s k (i + 1) % 2 * 2 ^ 23) (fun _ => rfl) k
        rw [lm_dv (Nat.le_refl _), hz.2, ← dv_congr hg] at e
        have e0 : lm I s k k = 0 := if_neg (Nat.lt_irrefl k)
        rw [e0, Nat.zero_mod, Nat.zero_mul] at e
        refine ⟨528, [.inl (nI s)], rfl, rfl, s, k, ((v / 2 : Nat) : Int), rfl, rfl, rfl, rfl, hs, ⟨⟨by rw [hwr.2.1]; exact hw.1, hn, hwr.2.2.2.1⟩, ?_⟩, fun q => by omega, fun q => ?_, fun I2 s1 s2 => hK I2 (hwr.1.trans s1) s2⟩
        · rw [Int.natAbs_natCast]
          omega
        · rw [hwr.2.2.1, hsg]
          exact sgI_p (by omega)
      · have h : ¬ I1 530 (nI s).toNatClampNeg ≤ nI k := h
        rw [scl hs, hwr.2.1, hw.1, nI_leI (by omega) (by omega)] at h
        have l1 := lm_lt hw k
        have l2 := lm_lt hw (k + 1)
        have r1 : zd I1 s k = lm I s n k := by
          rw [hwr.2.2.2.2 k (Nat.le_refl _) (by omega)]
          exact (if_pos (by omega)).symm
        have r2 : lm I1 s n (k + 1) = lm I s n (k + 1) := wri_lm2 hwr hw (by omega)
        refine ⟨rfl, rfl, zin hs (by omega), 528, [.inl (nI s), .inl (nI k + 1)], rfl, rfl, s, k + 1, n, rfl, rfl, rfl, congrArg (fun x => [Sum.inl (nI s), Sum.inl x]) (nI_1 k), hs, by omega, hwr.wf hw, zin hs (by omega), n - (k + 1), 0, Or.inl (by omega), k + 1, by rw [← nI_1 k], rfl, rfl, rfl, by omega, ?_⟩
        refine hwr.step (Q := fun I2 => WrI I I2 s (k + 1) ∧ ∀ i, i < k + 1 → zd I2 s i = lm I s n i / 2 + lm I s n (i + 1) % 2 * 2 ^ 23) (by omega) (x := lm I s n k / 2 + lm I s n (k + 1) % 2 * 2 ^ 23) (by omega) (fun I2 f1 f2 f3 f4 => ⟨f1, fun i hi => ?_⟩) (zcl hs (by omega)) ?_
        · by_cases q : i = k
          · rw [q]
            exact f3
          · rw [f2 i (by omega)]
            exact hg i (by omega)
        · show (I1 529 ((260 : Int32) * nI s + nI k).toNatClampNeg >>> ((1 : Int32) &&& 31)) ||| ((nI (lm I1 s n (k + 1)) &&& 1) <<< ((23 : Int32) &&& 31)) = _
          rw [zrd I1 hs (by omega), r1, r2, half_or l1 l2]
    · cases hc

set_option maxHeartbeats 4000000 in
set_option maxRecDepth 100000 in
theorem mt_X5_twice : m_Mt yX5_twice cX5_twice 6 none 0 0 pt_mtwice := by
  refine m_methodG (fl := fl_X5) (kI := kI_X5) (kJ := kJ_X5) (ct := ct_none) (cd := cd_X5_twice) (cut := [(5, [0, 1, 3, 4])]) (rk := 0) (fu := 80) (by decide +kernel) fl_X5_ok kI_X5_ok kJ_X5_ok (ce_none _ _ _ _ _) rfl ck_X5_twice ⟨_, _, rfl, rfl⟩ ?_
  intro sh rf As I J K hpt
  obtain ⟨d, rest, rfl, hd, s, v, c0, rfl, rfl, rfl, rfl, hs, hc0, ⟨n, hz, htop, hsg⟩, hv, hK⟩ := hpt
  have hn := ZIs.lim (m := 259) hz htop (by rw [Int.natAbs_natCast]; exact hv)
  rw [Int.natAbs_natCast] at hz
  have hw := hz.1
  have hnv := ZIs.nat hz htop
  refine ⟨Nat.le_of_ble_eq_true rfl, fun a9 b9 pc vs st I1 J1 => ∃ k c, vs = [.inr (.inr 528), .inl (nI s), .inl (nI c), .inl (nI k)] ∧ st = [] ∧ J1 = J ∧ a9 = n - k ∧ k ≤ n ∧ c ≤ 1 ∧ (k = 0 → c = c0) ∧ (0 < k → ∃ c1, c1 ≤ 1 ∧ zd I1 s (k - 1) + c * 2 ^ 24 = 2 * zd I s (k - 1) + c1) ∧ WrI I I1 s k ∧ dv (2 ^ 24) (zd I1 s) k + c * (2 ^ 24) ^ k = 2 * dv (2 ^ 24) (zd I s) k + c0, ?_, ?_⟩
  · exact ⟨n - 0, 0, 0, c0, rfl, rfl, rfl, rfl, Nat.zero_le _, hc0, fun _ => rfl, fun q => absurd q (Nat.lt_irrefl 0), WrI.rfl' I s, by show 0 + c0 * 1 = 2 * 0 + c0; omega⟩
  · intro pc ks a9 b9 vs st I1 J1 hc hI
    rcases m_cu1 hc with ⟨rfl, rfl⟩ | hc
    · obtain ⟨k, c, rfl, rfl, rfl, rfl, hk, hc1, hcz, htp, hwr, e4⟩ := hI
      refine ⟨rfl, lin hs, fun h => ?_, fun h => ?_⟩
      · have h : I1 530 (nI s).toNatClampNeg ≤ nI k := h
        rw [scl hs, hwr.2.1, hw.1, nI_leI (by omega) (by omega)] at h
        obtain rfl : k = n := by omega
        rw [hz.2] at e4
        refine ⟨fun h2 => ?_, fun h2 => ?_⟩
        · have h2 : nI c ≤ nI 0 := h2
          rw [nI_leI (by omega) (by omega)] at h2
          obtain rfl : c = 0 := by omega
          rw [Nat.zero_mul, Nat.add_zero] at e4
          refine hK I1 hwr.1 ⟨k, ⟨⟨by rw [hwr.2.1]; exact hw.1, by omega, hwr.2.2.2.1⟩, by rw [Int.natAbs_natCast]; exact e4⟩, fun q => ?_, ?_⟩
          · obtain ⟨c1, g1, g2⟩ := htp q
            have := htop q
            omega
          · rw [hwr.2.2.1, hsg]
            rcases Nat.eq_zero_or_pos k with q | q
            · have := hcz q
              have := hnv.mp q
              rw [show v = 0 by omega, show c0 = 0 by omega]
            · have : v ≠ 0 := fun r => by
                have := hnv.mpr r
                omega
              rw [sgI_p (by omega), sgI_p (by omega)]
        · have h2 : ¬ nI c ≤ nI 0 := h2
          rw [nI_leI (by omega) (by omega)] at h2
          obtain rfl : c = 1 := by omega
          have ex : (260 : Int32) * nI s + I1 530 (nI s).toNatClampNeg = (260 : Int32) * nI s + nI k := by rw [scl hs, hwr.2.1, hw.1]
          have hin : m_inb shL 529 0 ((260 : Int32) * nI s + I1 530 (nI s).toNatClampNeg) := by
            rw [ex]
            exact zin hs (by omega)
          have hcl : ((260 : Int32) * nI s + I1 530 (nI s).toNatClampNeg).toNatClampNeg = 260 * s + k := by
            rw [ex]
            exact zcl hs (by omega)
          refine ⟨rfl, rfl, lin hs, hin, rfl, lin hs, lin hs, rfl, sin hs, ?_⟩
          refine hwr.step (Q := fun I2 => K none (m_uI (m_uI I2 530 (nI s).toNatClampNeg (I2 530 (nI s).toNatClampNeg + 1)) 531 (nI s).toNatClampNeg 1) J1) (by omega) (x := 1) (by decide) (fun I2 f1 f2 f3 f4 => ?_) hcl rfl
          rw [scl hs, f1.2.1, hw.1, nI_1]
          refine hK _ ((f1.1.trans (sf_l _ s _)).trans (sf_s _ s _)) ⟨k + 1, ⟨⟨by rw [uI_a _ _ _ (by decide), uI_s], by omega, fun i hi => by rw [zd_s, zd_l]; exact f1.2.2.2.1 i hi⟩, ?_⟩, fun _ => ?_, ?_⟩
          · rw [Int.natAbs_natCast, dv_congr (fun i _ => (zd_s _ s _ s i).trans (zd_l I2 s _ s i)), f4]
            exact e4
          · rw [zd_s, zd_l, Nat.add_sub_cancel, f3]
            decide
          · rw [uI_s]
            have : 1 * 1 ≤ 1 * (2 ^ 24) ^ k := Nat.mul_le_mul_left _ (Nat.pow_pos (by decide))
            exact (sgI_p (by omega)).symm
      · have h : ¬ I1 530 (nI s).toNatClampNeg ≤ nI k := h
        rw [scl hs, hwr.2.1, hw.1, nI_leI (by omega) (by omega)] at h
        have l1 := hw.2.2 k (by omega)
        have r1 : zd I1 s k = zd I s k := hwr.2.2.2.2 k (Nat.le_refl _) (by omega)
        have esum : I1 529 ((260 : Int32) * nI s + nI k).toNatClampNeg * 2 + nI c = nI (2 * zd I s k + c) := by
          rw [zrd I1 hs (by omega), r1, show nI (zd I s k) * 2 = nI (zd I s k * 2) from (Int32.ofNat_mul _ 2).symm, nI_add, Nat.mul_comm]
        refine ⟨rfl, zin hs (by omega), rfl, zin hs (by omega), n - (k + 1), 0, Or.inl (by omega), k + 1, (2 * zd I s k + c) / 2 ^ 24, ?_, rfl, rfl, rfl, by omega, by omega, fun q => absurd q (by omega), ?_⟩
        · rw [← nI_1 k, ← i_shr24 (by omega), ← esum]
          rfl
        · refine hwr.step (Q := fun I2 => (0 < k + 1 → ∃ c1, c1 ≤ 1 ∧ zd I2 s (k + 1 - 1) + (2 * zd I s k + c) / 2 ^ 24 * 2 ^ 24 = 2 * zd I s (k + 1 - 1) + c1) ∧ WrI I I2 s (k + 1) ∧ dv (2 ^ 24) (zd I2 s) (k + 1) + (2 * zd I s k + c) / 2 ^ 24 * (2 ^ 24) ^ (k + 1) = 2 * dv (2 ^ 24) (zd I s) (k + 1) + c0) (by omega) (x := (2 * zd I s k + c) % 2 ^ 24) (Nat.mod_lt _ (by decide)) (fun I2 f1 f2 f3 f4 => ⟨fun _ => ⟨c, hc1, ?_⟩, f1, ?_⟩) (zcl hs (by omega)) ?_
          · rw [Nat.add_sub_cancel, f3]
            omega
          · rw [f4, show (2 ^ 24) ^ (k + 1) = (2 ^ 24) ^ k * 2 ^ 24 from Nat.pow_succ _ _, dv]
            have := Nat.div_add_mod (2 * zd I s k + c) (2 ^ 24)
            generalize (2 ^ 24) ^ k = P at e4 ⊢
            generalize (2 * zd I s k + c) / 2 ^ 24 = Q at this ⊢
            generalize (2 * zd I s k + c) % 2 ^ 24 = R at this ⊢
            generalize dv (2 ^ 24) (zd I1 s) k = D at e4 ⊢
            generalize dv (2 ^ 24) (zd I s) k = E at e4 ⊢
            generalize zd I s k = g at this ⊢
            exact tw_step this e4
          · show (I1 529 ((260 : Int32) * nI s + nI k).toNatClampNeg * 2 + nI c) &&& 16777215 = _
            rw [esum, i_and24 (by omega)]
    · cases hc

