/-! ===== the reference: the rule, the kernel, shut ===== -/
theorem lay_end2 {I I6 : mPI} {J : mPJ} {K : mKT} {x : mSL} {σ σ5 σ6 : Nat → Int} {U L X Y : Int} (hK : ∀ I1 σ', MO I I1 → MS I1 σ' → PL x σ σ' → K (some (.inl (slR x))) I1 J) (hx : x = .inr (U, L)) (F : MO I I6) (M6 : MS I6 σ6) (p1 : 0 < σ6 1) (p2 : Nat.gcd (σ6 0).natAbs (σ6 1).natAbs = 1) (p3 : σ6 0 * σ5 3 = σ5 2 * σ6 1) (p4 : (σ6 0).natAbs ≤ (σ5 2).natAbs) (p5 : (σ6 1).natAbs ≤ (σ5 3).natAbs) (e2 : σ5 2 = X) (e3 : σ5 3 = Y) (hL : L ≠ 0) (hY : Y ≠ 0) (hxy : X * L = U * Y) (b2 : X.natAbs < 2 ^ (24 * 250)) (b3 : Y.natAbs < 2 ^ (24 * 250)) : K (some (.inl (sgA (σ6 0)))) I6 J := by
  rw [e2, e3] at p3
  rw [e2] at p4
  rw [e3] at p5
  have p6 : σ6 0 * L = U * σ6 1 := by
    apply Int.eq_of_mul_eq_mul_left hY
    have e : Y * (σ6 0 * L) = σ6 0 * Y * L := by grind
    rw [e, p3]
    have e2 : X * σ6 1 * L = X * L * σ6 1 := by grind
    rw [e2, hxy]
    grind
  have := hK I6 σ6 F M6 (by rw [hx]; exact ⟨p1, p2, p6, Nat.lt_of_le_of_lt p4 b2, Nat.lt_of_le_of_lt p5 b3⟩)
  rw [hx] at this
  have l2 : 0 < L * L := by
    rcases Int.lt_or_gt_of_ne hL with q | q
    · exact Int.mul_pos_of_neg_of_neg q q
    · exact Int.mul_pos q q
  have e : sgA (σ6 0) = sgA (U * L) := by
    refine sgA_scale l2 p1 ?_
    rw [← Int.mul_assoc, p6]
    grind
  rw [e]
  exact this
theorem ker_step {X Y A B S S2 ee p q : Int} (h1 : p * (Y * (A * B)) = (X * (A * B) + Y * ee) * q) (h2 : X * A = S * Y) (h3 : S * B + ee = A * S2) : Y * (A * B) * (p * B) = Y * (A * B) * (S2 * q) := by
  have e1 : Y * (A * B) * (p * B) = p * (Y * (A * B)) * B := by grind
  rw [e1, h1]
  have e2 : (X * (A * B) + Y * ee) * q * B = (X * A * B + Y * ee) * (q * B) := by grind
  rw [e2, h2]
  have e3 : S * Y * B + Y * ee = Y * (S * B + ee) := by grind
  rw [e3, h3]
  grind
def pt_mlayKernel : mSH → mRF → mPT := m_pv 5 (fun sh rf d rest I J K => ∃ n x y : Int32, sh = shL ∧ rf = rfL ∧ d = 528 ∧ rest = [.inl n, .inl x, .inl y] ∧ AskM I J K (spKernel (moM J) n.toInt x.toInt y.toInt))
def pt_mshut : mSH → mRF → mPT := m_pv 5 (fun sh rf d rest I J K => ∃ k i e : Int32, sh = shL ∧ rf = rfL ∧ d = 528 ∧ rest = [.inl k, .inl i, .inl e] ∧ TelM I J K (fun l => spShut (moM J) k.toInt i.toInt e.toInt l))

def ct_X5_layRule (sh : mSH) (rf : mRF) : Nat → Option (Nat × Bool × mPT) := fun k => match k with
  | 134 => some (3, false, pt_in sh rf)
  | 195 => some (2, true, pt_mhasP sh rf)
  | 187 => some (3, true, pt_mworth sh rf)
  | 204 => some (4, true, pt_mnum sh rf)
  | 84 => some (4, true, pt_mmul sh rf)
  | 164 => some (5, true, pt_madd sh rf)
  | 66 => some (3, true, pt_mcopy sh rf)
  | 50 => some (3, true, pt_mset sh rf)
  | 198 => some (3, true, pt_mlay sh rf)
  | _ => none
set_option maxRecDepth 20000 in
theorem ce_X5_layRule : m_CE RX5 7 167 cX5_layRule 3 ct_X5_layRule := by
  intro p l e s m args below meth c Q D cs ad sh rf N hx hb hml hown hts hK hi hN k n vf pt h
  unfold ct_X5_layRule at h
  split at h
  · cases h
    exact m_CG_S mt_X5_in hx hb hml hown hts hK hi hN (m_wck_ok (l := [(Cond.methodLink RX5 134 yX5_in, 748), (Cond.static yX5_in, 749), (Cond.initialized RX5, 62), (Cond.code yX5_in cX5_in 6 (some .boolean), 750)]) (by decide +kernel)) ⟨by decide +kernel, by decide +kernel, by decide +kernel⟩ ⟨Nat.le_of_ble_eq_true rfl, Nat.le_of_ble_eq_true rfl⟩
  · cases h
    exact m_CG_V mt_X5_hasPolynomial hx hb hml hown hts hK hi hN (ci := 5) m_pv_rec rfl rfl (m_wck_ok (l := [(Cond.methodLink RX5 195 yX5_hasPolynomial, 883), (Cond.instanceMethod yX5_hasPolynomial, 885), (Cond.selects RX5 yX5_hasPolynomial yX5_hasPolynomial, 37), (Cond.initialized RX5, 62), (Cond.code yX5_hasPolynomial cX5_hasPolynomial 2 (some .boolean), 886)]) (by decide +kernel)) ⟨rfl, by decide +kernel, by decide +kernel, by decide +kernel⟩ ⟨Nat.le_of_ble_eq_true rfl, Nat.le_of_ble_eq_true rfl⟩
  · cases h
    exact m_CG_V mt_X5_worthOf hx hb hml hown hts hK hi hN (ci := 5) m_pv_rec rfl rfl (m_wck_ok (l := [(Cond.methodLink RX5 187 yX5_worthOf, 892), (Cond.instanceMethod yX5_worthOf, 894), (Cond.selects RX5 yX5_worthOf yX5_worthOf, 39), (Cond.initialized RX5, 62), (Cond.code yX5_worthOf cX5_worthOf 3 none, 895)]) (by decide +kernel)) ⟨rfl, by decide +kernel, by decide +kernel, by decide +kernel⟩ ⟨Nat.le_of_ble_eq_true rfl, Nat.le_of_ble_eq_true rfl⟩
  · cases h
    exact m_CG_V mt_X5_number hx hb hml hown hts hK hi hN (ci := 5) m_pv_rec rfl rfl (m_wck_ok (l := [(Cond.methodLink RX5 204 yX5_number, 920), (Cond.instanceMethod yX5_number, 922), (Cond.selects RX5 yX5_number yX5_number, 44), (Cond.initialized RX5, 62), (Cond.code yX5_number cX5_number 4 none, 923)]) (by decide +kernel)) ⟨rfl, by decide +kernel, by decide +kernel, by decide +kernel⟩ ⟨Nat.le_of_ble_eq_true rfl, Nat.le_of_ble_eq_true rfl⟩
  · cases h
    exact m_CG_V mt_X5_multiply hx hb hml hown hts hK hi hN (ci := 5) m_pv_rec rfl rfl (m_wck_ok (l := [(Cond.methodLink RX5 84 yX5_multiply, 789), (Cond.instanceMethod yX5_multiply, 791), (Cond.selects RX5 yX5_multiply yX5_multiply, 18), (Cond.initialized RX5, 62), (Cond.code yX5_multiply cX5_multiply 11 none, 792)]) (by decide +kernel)) ⟨rfl, by decide +kernel, by decide +kernel, by decide +kernel⟩ ⟨Nat.le_of_ble_eq_true rfl, Nat.le_of_ble_eq_true rfl⟩
  · cases h
    exact m_CG_V mt_X5_add hx hb hml hown hts hK hi hN (ci := 5) m_pv_rec rfl rfl (m_wck_ok (l := [(Cond.methodLink RX5 164 yX5_add, 801), (Cond.instanceMethod yX5_add, 803), (Cond.selects RX5 yX5_add yX5_add, 21), (Cond.initialized RX5, 62), (Cond.code yX5_add cX5_add 8 none, 804)]) (by decide +kernel)) ⟨rfl, by decide +kernel, by decide +kernel, by decide +kernel⟩ ⟨Nat.le_of_ble_eq_true rfl, Nat.le_of_ble_eq_true rfl⟩
  · cases h
    exact m_CG_V mt_X5_copy hx hb hml hown hts hK hi hN (ci := 5) m_pv_rec rfl rfl (m_wck_ok (l := [(Cond.methodLink RX5 66 yX5_copy, 797), (Cond.instanceMethod yX5_copy, 799), (Cond.selects RX5 yX5_copy yX5_copy, 20), (Cond.initialized RX5, 62), (Cond.code yX5_copy cX5_copy 4 none, 800)]) (by decide +kernel)) ⟨rfl, by decide +kernel, by decide +kernel, by decide +kernel⟩ ⟨Nat.le_of_ble_eq_true rfl, Nat.le_of_ble_eq_true rfl⟩
  · cases h
    exact m_CG_V mt_X5_set hx hb hml hown hts hK hi hN (ci := 5) m_pv_rec rfl rfl (m_wck_ok (l := [(Cond.methodLink RX5 50 yX5_set, 677), (Cond.instanceMethod yX5_set, 679), (Cond.selects RX5 yX5_set yX5_set, 14), (Cond.initialized RX5, 62), (Cond.code yX5_set cX5_set 7 none, 680)]) (by decide +kernel)) ⟨rfl, by decide +kernel, by decide +kernel, by decide +kernel⟩ ⟨Nat.le_of_ble_eq_true rfl, Nat.le_of_ble_eq_true rfl⟩
  · cases h
    exact m_CG_V mt_X5_lay hx hb hml hown hts hK hi hN (ci := 5) m_pv_rec rfl rfl (m_wck_ok (l := [(Cond.methodLink RX5 198 yX5_lay, 843), (Cond.instanceMethod yX5_lay, 845), (Cond.selects RX5 yX5_lay yX5_lay, 29), (Cond.initialized RX5, 62), (Cond.code yX5_lay cX5_lay 3 (some .int), 846)]) (by decide +kernel)) ⟨rfl, by decide +kernel, by decide +kernel, by decide +kernel⟩ ⟨Nat.le_of_ble_eq_true rfl, Nat.le_of_ble_eq_true rfl⟩
  · cases h
set_option maxHeartbeats 4000000 in
set_option maxRecDepth 100000 in
theorem mt_X5_layRule : m_Mt yX5_layRule cX5_layRule 3 (some .int) 7 167 pt_mlayRule := by
  refine m_methodG (fl := fl_X5) (kI := kI_X5) (kJ := kJ_X5) (ct := ct_X5_layRule) (cd := cd_X5_layRule) (cut := [(164, [0])]) (rk := 1) (fu := 120) (by decide +kernel) fl_X5_ok kI_X5_ok kJ_X5_ok ce_X5_layRule rfl ck_X5_layRule ⟨_, _, rfl, rfl⟩ ?_
  intro sh rf As I J K hpt
  obtain ⟨d, rest, rfl, hd, k, wh, rfl, rfl, rfl, rfl, l, σ, h5, hl, hB, hM, hK⟩ := hpt
  have tl := tpf_le (moM J) l
  have e0 : (0 : Int64).toInt = 0 := rfl
  have e1 : (1 : Int64).toInt = 1 := rfl
  have e5 : (5 : Int64).toInt = 5 := rfl
  have t1 : (1 : Int32).toInt = 1 := rfl
  refine ⟨Nat.le_of_ble_eq_true rfl, fun a9 b9 pc vs st I1 J1 => st = [] ∧ J1 = J ∧ vs = [.inr (.inr 528)] ∧ ∃ σ' U L, spRule (moM J) k.toInt wh.toInt l = .inr (U, L) ∧ MO I I1 ∧ MS I1 σ' ∧ σ' 2 = U ∧ σ' 3 = L ∧ L ≠ 0 ∧ U.natAbs < 2 ^ (24 * 40) ∧ L.natAbs < 2 ^ (24 * 40), ?_, ?_⟩
  · refine ⟨k.toInt64, 0, 5, rfl, fun h => ?_, fun h => ?_⟩
    · have h := w_is0 h
      rw [e0, e5, Int32.toInt_toInt64] at h
      exact AskM.no hK (if_neg (fun q => by have := q.2; omega)) (MO.rfl' I) hM rfl rfl
    · have h := w_not0 h
      rw [e0, e5, Int32.toInt_toInt64] at h
      obtain ⟨ek, -⟩ := i_nat h.1
      have hj5 : k.toInt.toNat ≤ 5 := by omega
      have ekk : k.toInt = (k.toInt.toNat : Int) := by omega
      have ekp : (k + 1).toInt = k.toInt + 1 := by
        rw [i_addT] <;> rw [t1] <;> omega
      refine ⟨528, [.inl (k + 1)], rfl, rfl, k + 1, l, σ, rfl, rfl, rfl, rfl, h5, hl, hB, hM, fun I1 σ1 F1 M1 k1 => ?_⟩
      rw [ekp]
      refine ⟨fun h2 => ⟨wh.toInt64, 0, 1, rfl, fun h3 => ?_, fun h3 => ?_⟩, fun h2 => ?_⟩
      · have h2 := w_not0 h2
        have h3 := w_not0 h3
        rw [e0, e1, Int32.toInt_toInt64] at h3
        have hkt : k.toInt.toNat < tpf (moM J) l := by have := h2.2; omega
        have sp : spRule (moM J) k.toInt wh.toInt l = if wh.toInt = 0 then .inr (ruleA (moM J) k.toInt.toNat) else if wh.toInt = 1 then .inr (ruleB (moM J) k.toInt.toNat) else .inl (-2) := if_pos ⟨h.1, by omega⟩
        clear h2 ekp
        generalize k.toInt.toNat = j at ek hj5 ekk hkt sp
        clear h ekk
        subst ek
        refine ⟨528, [.inl (nI j), .inl (nI 14)], rfl, rfl, j, 14, σ1, rfl, rfl, rfl, rfl, by omega, by decide, by decide, hB, M1, fun I2 σ2 F2 M2 k2 e2 => ?_⟩
        refine ⟨528, [.inl (nI j + 1), .inl (nI 15)], rfl, rfl, j + 1, 15, σ2, rfl, rfl, rfl, by rw [← nI_1 j], by omega, by decide, by decide, hB, M2, fun I3 σ3 F3 M3 k3 e3 => ?_⟩
        have F13 := (F1.trans F2).trans F3
        have e314 : σ3 14 = Dt (moM J) j := (k3 14 (by decide) (by decide)).trans e2
        have d0 := mDb hB (k := j) (by omega)
        have d1 := mDb hB (k := j + 1) (by omega)
        refine ⟨fun h4 => ?_, fun h4 => ?_⟩
        · have h4 : ¬ wh = 0 := h4
          have hw1 : wh.toInt = 1 := by
            have : wh.toInt ≠ 0 := fun q => h4 (Int32.toInt_inj.mp (q.trans z0I.symm))
            omega
          rw [if_neg (by omega), if_pos hw1] at sp
          refine ⟨fun h6 => ?_, fun h6 => ?_⟩
          · have h6 : ¬ nI j = nI 0 := h6
            rw [nI_eq (by omega) (by omega)] at h6
            have er : ruleB (moM J) j = (Dt (moM J) (j - 1) * Dt (moM J) (j + 1), Dt (moM J) j * Dt (moM J) j) := by
              unfold ruleB
              rw [if_neg h6, Int.mul_comm (Dt (moM J) (j + 1))]
            rw [er] at sp
            have dm := mDb hB (k := j - 1) (by omega)
            refine ⟨528, [.inl (nI j - 1), .inl (nI 12)], rfl, rfl, j - 1, 12, σ3, rfl, rfl, rfl, by rw [show nI j - 1 = nI (j - 1) from pk_sub (b := 1) (by omega)], by omega, by decide, by decide, hB, M3, fun I4 σ4 F4 M4 k4 e4 => ?_⟩
            have z12 := M4 12 (by decide)
            rw [e4] at z12
            have z15 := M4 15 (by decide)
            rw [k4 15 (by decide) (by decide), e3] at z15
            refine ⟨528, [.inl (nI 12), .inl (nI 15), .inl (nI 2)], rfl, rfl, 12, 15, 2, 16, 16, _, _, rfl, rfl, rfl, rfl, by decide, by decide, by decide, by decide, by decide, z12, z15, dm, d1, by omega, fun I5 a1 a2 => ?_⟩
            have M5 := M4.up a1 a2
            have z14 := M5 14 (by decide)
            rw [up_o _ _ (by decide), k4 14 (by decide) (by decide), e314] at z14
            refine ⟨528, [.inl (nI 14), .inl (nI 14), .inl (nI 3)], rfl, rfl, 14, 14, 3, 16, 16, _, _, rfl, rfl, rfl, rfl, by decide, by decide, by decide, by decide, by decide, z14, z14, d0, d0, by omega, fun I6 b1 b2 => ?_⟩
            exact ⟨0, 0, rfl, rfl, rfl, _, _, _, sp, ((F13.trans F4).trans a1.mo).trans b1.mo, M5.up b1 b2, by rw [up_o _ _ (by decide), up_s], up_s _ _ _, Int.mul_ne_zero (top_nz (l := l) (by omega)) (top_nz (l := l) (by omega)), cup (cmul dm d1) (by decide), cup (cmul d0 d0) (by decide)⟩
          · have h6 : nI j = nI 0 := h6
            rw [nI_eq (by omega) (by omega)] at h6
            subst h6
            obtain ⟨n15, w15⟩ := M3.wf (s := 15) (by decide)
            refine ⟨528, [.inl (nI 15), .inl (nI 2)], rfl, rfl, 15, 2, n15, rfl, rfl, rfl, rfl, by decide, by decide, w15, fun I4 a1 a2 a3 a4 => ?_⟩
            have M4 := M3.cp (by decide) w15 a1 a2 a3 a4
            refine ⟨528, [.inl (nI 3), .inr (.inl 1)], rfl, rfl, 3, 1, rfl, rfl, rfl, rfl, by decide, by decide, fun I5 b1 b2 => ?_⟩
            exact ⟨0, 0, rfl, rfl, rfl, _, _, _, sp, (F13.trans a1.mo).trans b1.mo, M4.up b1 b2, by rw [up_o _ _ (by decide), up_s]; exact e3, up_s _ _ _, by show (1 : Int) ≠ 0; decide, cup d1 (by decide), by show (1 : Int).natAbs < _; decide⟩
        · have h4 : wh = 0 := h4
          have hw0 : wh.toInt = 0 := by rw [h4]; rfl
          rw [if_pos hw0] at sp
          have ei : (nI j - 1).toInt = (j : Int) - 1 := by
            rw [i_subT] <;> rw [nI_toInt (by omega), t1] <;> omega
          refine ⟨528, [.inl (nI j), .inl (nI j - 1), .inl (nI 12)], rfl, rfl, j, 12, nI j - 1, σ3, rfl, rfl, rfl, rfl, by omega, by decide, by decide, hB, M3, fun I4 σ4 F4 M4 k4 e4 => ?_⟩
          have e4' : σ4 12 = if j = 0 then 0 else Nm (moM J) j (j - 1) := by
            rw [e4, ei]
            by_cases q : j = 0
            · rw [if_neg (by omega), if_pos q]
            · rw [if_pos ⟨by omega, by omega⟩, if_neg q, show ((j : Int) - 1).toNat = j - 1 by omega]
          have nb1 : (if j = 0 then 0 else Nm (moM J) j (j - 1)).natAbs < 2 ^ (24 * 16) := by
            split
            · decide
            · exact mNb hB (by omega) (by omega)
          have z12 := M4 12 (by decide)
          rw [e4'] at z12
          have z15 := M4 15 (by decide)
          rw [k4 15 (by decide) (by decide), e3] at z15
          refine ⟨528, [.inl (nI 12), .inl (nI 15), .inl (nI 2)], rfl, rfl, 12, 15, 2, 16, 16, _, _, rfl, rfl, rfl, rfl, by decide, by decide, by decide, by decide, by decide, z12, z15, nb1, d1, by omega, fun I5 a1 a2 => ?_⟩
          have M5 := M4.up a1 a2
          refine ⟨528, [.inl (nI j + 1), .inl (nI j), .inl (nI 12)], rfl, rfl, j + 1, 12, nI j, _, rfl, rfl, rfl, by rw [← nI_1 j], by omega, by decide, by decide, hB, M5, fun I6 σ6 F6 M6 k6 e6 => ?_⟩
          rw [nI_toInt (by omega), if_pos ⟨by omega, by omega⟩, Int.toNat_natCast] at e6
          have nb2 := mNb hB (k := j + 1) (i := j) (by omega) (by omega)
          have y12 := M6 12 (by decide)
          rw [e6] at y12
          have y14 := M6 14 (by decide)
          have e614 : σ6 14 = Dt (moM J) j := by rw [k6 14 (by decide) (by decide), up_o _ _ (by decide), k4 14 (by decide) (by decide), e314]
          have e615 : σ6 15 = Dt (moM J) (j + 1) := by rw [k6 15 (by decide) (by decide), up_o _ _ (by decide), k4 15 (by decide) (by decide), e3]
          have e62 : σ6 2 = (if j = 0 then 0 else Nm (moM J) j (j - 1)) * Dt (moM J) (j + 1) := by rw [k6 2 (by decide) (by decide), up_s]
          rw [e614] at y14
          refine ⟨528, [.inl (nI 12), .inl (nI 14), .inl (nI 13)], rfl, rfl, 12, 14, 13, 16, 16, _, _, rfl, rfl, rfl, rfl, by decide, by decide, by decide, by decide, by decide, y12, y14, nb2, d0, by omega, fun I7 b1 b2 => ?_⟩
          have M7 := M6.up b1 b2
          have z2 := M7 2 (by decide)
          rw [up_o _ _ (by decide), e62] at z2
          have z13 := M7 13 (by decide)
          rw [up_s] at z13
          refine ⟨528, [.inl (nI 2), .inl (nI 13), .inl (-1), .inl (nI 2)], rfl, rfl, 2, 13, 2, 32, _, _, -1, rfl, rfl, rfl, rfl, by decide, by decide, by decide, Or.inr rfl, z2, z13, cmul nb1 d1, cmul nb2 d0, by decide, fun I8 c1 c2 => ?_⟩
          have M8 := M7.up c1 c2
          have u14 := M8 14 (by decide)
          rw [up_o _ _ (by decide), up_o _ _ (by decide), e614] at u14
          have u15 := M8 15 (by decide)
          rw [up_o _ _ (by decide), up_o _ _ (by decide), e615] at u15
          refine ⟨528, [.inl (nI 14), .inl (nI 15), .inl (nI 3)], rfl, rfl, 14, 15, 3, 16, 16, _, _, rfl, rfl, rfl, rfl, by decide, by decide, by decide, by decide, by decide, u14, u15, d0, d1, by omega, fun I9 f1 f2 => ?_⟩
          have eA : (if j = 0 then 0 else Nm (moM J) j (j - 1)) * Dt (moM J) (j + 1) + (-1 : Int32).toInt * (Nm (moM J) (j + 1) j * Dt (moM J) j) = (ruleA (moM J) j).1 := by
            rw [show (-1 : Int32).toInt = -1 from rfl]
            unfold ruleA
            show _ = (if j = 0 then 0 else Nm (moM J) j (j - 1) * Dt (moM J) (j + 1)) - Nm (moM J) (j + 1) j * Dt (moM J) j
            by_cases q : j = 0
            · rw [if_pos q, if_pos q, Int.zero_mul]
              omega
            · rw [if_neg q, if_neg q]
              omega
          have bA := cadd (m := 32) (cmul nb1 d1) (show ((-1 : Int32).toInt * (Nm (moM J) (j + 1) j * Dt (moM J) j)).natAbs < 2 ^ (24 * 32) by rw [show (-1 : Int32).toInt = -1 from rfl, Int.neg_mul, Int.one_mul, Int.natAbs_neg]; exact cmul nb2 d0)
          rw [eA] at bA
          exact ⟨0, 0, rfl, rfl, rfl, _, (ruleA (moM J) j).1, (ruleA (moM J) j).2, sp, ((((((F13.trans F4).trans a1.mo).trans F6).trans b1.mo).trans c1.mo).trans f1.mo), M8.up f1 f2, by rw [up_o _ _ (by decide), up_s]; exact eA, up_s _ _ _, Int.mul_ne_zero (top_nz (l := l) (by omega)) (top_nz (l := l) (by omega)), cup bA (by decide), cup (cmul d0 d1) (by decide)⟩
      · have h3 := w_is0 h3
        rw [e0, e1, Int32.toInt_toInt64] at h3
        have h2 := w_not0 h2
        refine AskM.no hK ?_ F1 M1 (k1 0 (by decide) (by decide)) (k1 1 (by decide) (by decide))
        unfold spRule
        rw [if_pos ⟨h.1, by have := h2.2; omega⟩, if_neg (by omega), if_neg (by omega)]
      · exact AskM.no hK (if_neg (fun q => w_is0 h2 ⟨by omega, by have := q.2; omega⟩)) F1 M1 (k1 0 (by decide) (by decide)) (k1 1 (by decide) (by decide))
  · intro pc ks a9 b9 vs st I1 J1 hc hI
    rcases m_cu1 hc with ⟨rfl, rfl⟩ | hc
    · obtain ⟨rfl, rfl, rfl, σ', U, L, hx, F, M, q2, q3, hL, b2, b3⟩ := hI
      exact ⟨528, [.inl (nI 2), .inl (nI 3)], rfl, rfl, 2, 3, σ', rfl, rfl, rfl, rfl, by decide, by decide, by decide, by decide, by decide, M, by rw [q3]; exact hL, by rw [q2]; exact cup b2 (by decide), by rw [q3]; exact cup b3 (by decide), fun I9 σ9 F9 M9 p1 p2 p3 p4 p5 => lay_end hK hx ((F).trans F9.mo) M9 p1 p2 p3 p4 p5 q2 q3 hL (cup b2 (by decide)) (cup b3 (by decide))⟩
    · cases hc

theorem lshl10 : ∀ n, n < 11 → (1 : Int64) <<< ((nI n).toInt64 &&& 63) = lN (2 ^ n) ∧ ((-512 : Int64) * lN (2 ^ n)).toInt = -512 * 2 ^ n ∧ ((512 : Int64) * lN (2 ^ n)).toInt = 512 * 2 ^ n ∧ (lN (2 ^ n)).toInt = 2 ^ n ∧ (2 : Int) ^ n ≤ 1024 ∧ (0 : Int) < 2 ^ n := by decide +kernel
theorem l_sar1 (x : Int64) : (x >>> ((1 : Int32).toInt64 &&& 63)).toInt = x.toInt / 2 := by
  rw [show ((1 : Int32).toInt64 &&& 63) = 1 by decide]
  have e : (x >>> (1 : Int64)).toInt = x.toInt >>> 1 := by
    show (x >>> (1 : Int64)).toBitVec.toInt = _
    rw [Int64.toBitVec_shiftRight, BitVec.sshiftRight', BitVec.toInt_sshiftRight]
    rfl
  rw [e, Int.shiftRight_eq_div_pow]
  rfl
theorem shBt_le {mo : Nat → Int} {k i : Nat} {v lo hi : Int} (h : hi - lo ≤ 1) : ∀ f, shBt mo k i v f lo hi = lo
  | 0 => rfl
  | f + 1 => by rw [shBt, if_neg (by omega)]
theorem l2i_of {x : Int64} : x.toInt32 = Int32.ofInt x.toInt := by
  rw [← l_ofInt_i, Int64.ofInt_toInt]

def ct_X5_shut (sh : mSH) (rf : mRF) : Nat → Option (Nat × Bool × mPT) := fun k => match k with
  | 195 => some (2, true, pt_mhasP sh rf)
  | 134 => some (3, false, pt_in sh rf)
  | 231 => some (2, true, pt_mabove sh rf)
  | 234 => some (4, true, pt_mroots sh rf)
  | _ => none
set_option maxRecDepth 20000 in
theorem ce_X5_shut : m_CE RX5 7 181 cX5_shut 12 ct_X5_shut := by
  intro p l e s m args below meth c Q D cs ad sh rf N hx hb hml hown hts hK hi hN k n vf pt h
  unfold ct_X5_shut at h
  split at h
  · cases h
    exact m_CG_V mt_X5_hasPolynomial hx hb hml hown hts hK hi hN (ci := 5) m_pv_rec rfl rfl (m_wck_ok (l := [(Cond.methodLink RX5 195 yX5_hasPolynomial, 883), (Cond.instanceMethod yX5_hasPolynomial, 885), (Cond.selects RX5 yX5_hasPolynomial yX5_hasPolynomial, 37), (Cond.initialized RX5, 62), (Cond.code yX5_hasPolynomial cX5_hasPolynomial 2 (some .boolean), 886)]) (by decide +kernel)) ⟨rfl, by decide +kernel, by decide +kernel, by decide +kernel⟩ ⟨Nat.le_of_ble_eq_true rfl, Nat.le_of_ble_eq_true rfl⟩
  · cases h
    exact m_CG_S mt_X5_in hx hb hml hown hts hK hi hN (m_wck_ok (l := [(Cond.methodLink RX5 134 yX5_in, 748), (Cond.static yX5_in, 749), (Cond.initialized RX5, 62), (Cond.code yX5_in cX5_in 6 (some .boolean), 750)]) (by decide +kernel)) ⟨by decide +kernel, by decide +kernel, by decide +kernel⟩ ⟨Nat.le_of_ble_eq_true rfl, Nat.le_of_ble_eq_true rfl⟩
  · cases h
    exact m_CG_V mt_X5_areAbove hx hb hml hown hts hK hi hN (ci := 5) m_pv_rec rfl rfl (m_wck_ok (l := [(Cond.methodLink RX5 231 yX5_areAbove, 988), (Cond.instanceMethod yX5_areAbove, 990), (Cond.selects RX5 yX5_areAbove yX5_areAbove, 49), (Cond.initialized RX5, 62), (Cond.code yX5_areAbove cX5_areAbove 4 (some .boolean), 991)]) (by decide +kernel)) ⟨rfl, by decide +kernel, by decide +kernel, by decide +kernel⟩ ⟨Nat.le_of_ble_eq_true rfl, Nat.le_of_ble_eq_true rfl⟩
  · cases h
    exact m_CG_V mt_X5_rootsBelow hx hb hml hown hts hK hi hN (ci := 5) m_pv_rec rfl rfl (m_wck_ok (l := [(Cond.methodLink RX5 234 yX5_rootsBelow, 992), (Cond.instanceMethod yX5_rootsBelow, 994), (Cond.selects RX5 yX5_rootsBelow yX5_rootsBelow, 50), (Cond.initialized RX5, 62), (Cond.code yX5_rootsBelow cX5_rootsBelow 10 (some .int), 995)]) (by decide +kernel)) ⟨rfl, by decide +kernel, by decide +kernel, by decide +kernel⟩ ⟨Nat.le_of_ble_eq_true rfl, Nat.le_of_ble_eq_true rfl⟩
  · cases h
set_option maxHeartbeats 4000000 in
set_option maxRecDepth 100000 in
theorem mt_X5_shut : m_Mt yX5_shut cX5_shut 12 (some .int) 7 181 pt_mshut := by
  refine m_methodG (fl := fl_X5) (kI := kI_X5) (kJ := kJ_X5) (ct := ct_X5_shut) (cd := cd_X5_shut) (cut := [(108, [0, 1, 2, 4, 6, 8])]) (rk := 1) (fu := 120) (by decide +kernel) fl_X5_ok kI_X5_ok kJ_X5_ok ce_X5_shut rfl ck_X5_shut ⟨_, _, rfl, rfl⟩ ?_
  intro sh rf As I J K hpt
  obtain ⟨d, rest, rfl, hd, k, i, e, rfl, rfl, rfl, rfl, l, σ, h5, hl, hB, hM, hK⟩ := hpt
  have tl := tpf_le (moM J) l
  have l0 : (0 : Int64).toInt = 0 := rfl
  have l10 : (10 : Int64).toInt = 10 := rfl
  have t1 : (1 : Int32).toInt = 1 := rfl
  refine ⟨Nat.le_of_ble_eq_true rfl, fun a9 b9 pc vs st I1 J1 => st = [] ∧ J1 = J ∧ ∃ (kk ii n f : Nat) (lo hi : Int64) (σ' : Nat → Int), vs = [.inr (.inr 528), .inl (nI kk), .inl (nI ii), .inr (.inl (lN (2 ^ n))), .inr (.inl lo), .inr (.inl hi)] ∧ a9 = f ∧ kk ≤ tpf (moM J) l ∧ ii < kk ∧ n ≤ 10 ∧ lo.toInt.natAbs ≤ 2 ^ 19 ∧ hi.toInt.natAbs ≤ 2 ^ 19 ∧ hi.toInt - lo.toInt ≤ 2 ^ f ∧ spShut (moM J) k.toInt i.toInt e.toInt l = Int32.ofInt (shBt (moM J) kk ii (2 ^ n) f lo.toInt hi.toInt) ∧ MO I I1 ∧ MS I1 σ' ∧ σ' 0 = σ 0 ∧ σ' 1 = σ 1, ?_, ?_⟩
  · refine ⟨528, [.inl k], rfl, rfl, k, l, σ, rfl, rfl, rfl, rfl, h5, hl, hB, hM, fun I1 σ1 F1 M1 k1 => ?_⟩
    have kk : ∀ I2 σ2, MO I1 I2 → MS I2 σ2 → σ2 0 = σ1 0 → σ2 1 = σ1 1 → K (some (.inl (spShut (moM J) k.toInt i.toInt e.toInt l))) I2 J := fun I2 σ2 F2 M2 e0 e1 => hK I2 σ2 (F1.trans F2) M2 (e0.trans (k1 0 (by decide) (by decide))) (e1.trans (k1 1 (by decide) (by decide)))
    have k0 := kk I1 σ1 (MO.rfl' I1) M1 rfl rfl
    have no1 : ¬ (hasP (moM J) l k.toInt ∧ 0 ≤ i.toInt ∧ i.toInt < k.toInt) → K (some (.inl (-3000001))) I1 J := fun q => by
      unfold spShut at k0
      rw [if_neg q] at k0
      exact k0
    refine ⟨fun h => no1 (fun q => w_is0 h q.1), fun h => ?_⟩
    have h := w_not0 h
    have hk5 : k.toInt ≤ 5 := by have := h.2; omega
    have ekm : (k - 1).toInt64.toInt = k.toInt - 1 := by
      have := h.1
      rw [Int32.toInt_toInt64, i_subT] <;> rw [t1] <;> omega
    refine ⟨i.toInt64, 0, (k - 1).toInt64, rfl, fun h2 => ⟨e.toInt64, 0, 10, rfl, fun h3 => ?_, fun h3 => ?_⟩, fun h2 => ?_⟩
    · have h2 := w_not0 h2
      have h3 := w_not0 h3
      rw [l0, ekm, Int32.toInt_toInt64] at h2
      rw [l0, l10, Int32.toInt_toInt64] at h3
      obtain ⟨ek, -⟩ := i_nat h.1
      obtain ⟨ei, -⟩ := i_nat h2.1
      obtain ⟨ee, -⟩ := i_nat h3.1
      have hkt : k.toInt.toNat ≤ tpf (moM J) l := by have := h.2; omega
      have hii : i.toInt.toNat < k.toInt.toNat := by have := h.1; omega
      have hn : e.toInt.toNat < 11 := by omega
      have sp : spShut (moM J) k.toInt i.toInt e.toInt l = if (gwf (moM J) l : Int) < k.toInt then -3000005 else shR (moM J) k.toInt.toNat i.toInt.toNat (2 ^ e.toInt.toNat) := by
        unfold spShut
        rw [if_pos ⟨h, h2.1, by omega⟩, if_pos h3]
      have ekk : k.toInt = (k.toInt.toNat : Int) := by have := h.1; omega
      rw [sp] at kk
      refine ⟨528, [.inl k], rfl, rfl, k.toInt.toNat, σ1, rfl, rfl, rfl, by rw [← ek], by omega, hB, M1, fun I2 σ2 F2 M2 k2 => ⟨fun hab => ⟨fun _ => ?_, fun q => absurd q (by decide)⟩, fun hab => ⟨fun q => absurd rfl q, fun _ => ?_⟩⟩⟩
      · have hg := (abv_gwf hkt).mp hab
        rw [if_neg (by omega)] at kk sp
        unfold shR at kk sp
        obtain ⟨s1, s2, s3, s4, s5, s6⟩ := lshl10 e.toInt.toNat hn
        rw [← ee] at s1
        generalize hkn : k.toInt.toNat = kn at ek hkt hii kk sp
        generalize hin2 : i.toInt.toNat = im at ei hii kk sp
        generalize e.toInt.toNat = n at hn s1 s2 s3 s4 s5 s6 kk sp
        have eA : (1 : Int64) <<< (e.toInt64 &&& 63) = lN (2 ^ n) := s1
        have vb : (lN (2 ^ n)).toInt.natAbs ≤ 2 ^ 20 := by rw [s4]; omega
        refine ⟨528, [.inl k, .inr (.inl (-512 * ((1 : Int64) <<< (e.toInt64 &&& 63)))), .inr (.inl ((1 : Int64) <<< (e.toInt64 &&& 63)))], rfl, rfl, kn, -512 * lN (2 ^ n), lN (2 ^ n), σ2, rfl, rfl, rfl, by rw [eA, ek], by omega, by rw [s2]; omega, vb, hB, M2, fun I3 σ3 F3 M3 k3 => ?_⟩
        rw [s2, s4]
        refine ⟨fun h8 => ?_, fun h8 => ?_⟩
        · have h8 : i < rbR (moM J) kn (-512 * 2 ^ n) (2 ^ n) := h8
          rw [ei] at h8
          have := kk I3 σ3 (F2.trans F3) M3 ((k3 0 (by decide)).trans (k2 0 (by decide) (by decide) (by decide))) ((k3 1 (by decide)).trans (k2 1 (by decide) (by decide) (by decide)))
          rw [if_pos (Or.inl h8)] at this
          exact this
        · have h8 : ¬ i < rbR (moM J) kn (-512 * 2 ^ n) (2 ^ n) := h8
          rw [ei] at h8
          refine ⟨528, [.inl k, .inr (.inl (512 * ((1 : Int64) <<< (e.toInt64 &&& 63)))), .inr (.inl ((1 : Int64) <<< (e.toInt64 &&& 63)))], rfl, rfl, kn, 512 * lN (2 ^ n), lN (2 ^ n), σ3, rfl, rfl, rfl, by rw [eA, ek], by omega, by rw [s3]; omega, vb, hB, M3, fun I4 σ4 F4 M4 k4 => ?_⟩
          rw [s3, s4]
          have E0 := ((k4 0 (by decide)).trans (k3 0 (by decide))).trans (k2 0 (by decide) (by decide) (by decide))
          have E1 := ((k4 1 (by decide)).trans (k3 1 (by decide))).trans (k2 1 (by decide) (by decide) (by decide))
          refine ⟨fun h9 => ?_, fun h9 => ?_⟩
          · have h9 : i < rbR (moM J) kn (512 * 2 ^ n) (2 ^ n) := h9
            rw [ei] at h9
            rw [if_neg (fun q => q.elim h8 (fun r => r h9))] at sp
            refine ⟨32, 0, rfl, rfl, kn, im, n, 32, -512 * lN (2 ^ n), 512 * lN (2 ^ n), σ4, ?_, rfl, hkt, hii, by omega, by rw [s2]; omega, by rw [s3]; omega, by rw [s2, s3]; omega, by rw [s2, s3]; exact sp, ((F1.trans F2).trans F3).trans F4, M4, E0.trans (k1 0 (by decide) (by decide)), E1.trans (k1 1 (by decide) (by decide))⟩
            rw [← eA, ← ek, ← ei]
            rfl
          · have h9 : ¬ i < rbR (moM J) kn (512 * 2 ^ n) (2 ^ n) := h9
            rw [ei] at h9
            have := kk I4 σ4 ((F2.trans F3).trans F4) M4 E0 E1
            rw [if_pos (Or.inr h9)] at this
            exact this
      · have hg := mt (abv_gwf hkt).mpr hab
        have := kk I2 σ2 F2 M2 (k2 0 (by decide) (by decide) (by decide)) (k2 1 (by decide) (by decide) (by decide))
        rw [if_pos (by omega)] at this
        exact this
    · have h2 := w_not0 h2
      have h3 := w_is0 h3
      rw [l0, ekm, Int32.toInt_toInt64] at h2
      rw [l0, l10, Int32.toInt_toInt64] at h3
      unfold spShut at k0
      rw [if_pos ⟨h, h2.1, by omega⟩, if_neg h3] at k0
      exact k0
    · have h2 := w_is0 h2
      rw [l0, ekm, Int32.toInt_toInt64] at h2
      exact no1 (fun q => h2 ⟨q.2.1, by have := q.2.2; omega⟩)
  · intro pc ks a9 b9 vs st I1 J1 hc hI
    rcases m_cu1 hc with ⟨rfl, rfl⟩ | hc
    · obtain ⟨rfl, rfl, kn, im, n, f, lo, hi, σ', rfl, ha9, hkt, hii, hn, hlo, hhi, hgap, sp, F, M, e0, e1⟩ := hI
      obtain ⟨s1, s2, s3, s4, s5, s6⟩ := lshl10 n (by omega)
      have l1 : (1 : Int64).toInt = 1 := rfl
      have esub : (hi - lo).toInt = hi.toInt - lo.toInt := l_subT (by omega)
      have kk : ∀ I2 σ2, MO I1 I2 → MS I2 σ2 → σ2 0 = σ' 0 → σ2 1 = σ' 1 → K (some (.inl (spShut (moM J1) k.toInt i.toInt e.toInt l))) I2 J1 := fun I2 σ2 F2 M2 a b => hK I2 σ2 (F.trans F2) M2 (a.trans e0) (b.trans e1)
      refine ⟨fun h => ?_, fun h => ?_⟩
      · have h : lg_cmp (hi - lo) 1 ≤ 0 := h
        have h' : ¬ 0 < lg_cmp (hi - lo) 1 := by rw [Int32.not_lt]; exact h
        have hle := mt lc_gt.mpr h'
        rw [esub, l1] at hle
        have := kk I1 σ' (MO.rfl' I1) M rfl rfl
        rw [sp, shBt_le (by omega), ← l2i_of] at this
        exact this
      · have h : ¬ lg_cmp (hi - lo) 1 ≤ 0 := h
        rw [Int32.not_le] at h
        have hgt := lc_gt.mp h
        rw [esub, l1] at hgt
        obtain ⟨g, rfl⟩ : ∃ g, f = g + 1 := by
          cases f with
          | zero => exact absurd hgap (by omega)
          | succ g => exact ⟨g, rfl⟩
        have eadd : (lo + hi).toInt = lo.toInt + hi.toInt := l_addT (by omega)
        have em : ((lo + hi) >>> ((1 : Int32).toInt64 &&& 63)).toInt = (lo.toInt + hi.toInt) / 2 := by rw [l_sar1, eadd]
        generalize hmd : (lo + hi) >>> ((1 : Int32).toInt64 &&& 63) = md at em
        rw [shBt, if_pos (by omega), ← em] at sp
        have hp : (2 : Int) ^ (g + 1) = 2 * 2 ^ g := by rw [Int.pow_succ, Int.mul_comm]
        rw [hp] at hgap
        refine ⟨528, [.inl (nI kn), .inr (.inl ((lo + hi) >>> ((1 : Int32).toInt64 &&& 63))), .inr (.inl (lN (2 ^ n)))], rfl, rfl, kn, md, lN (2 ^ n), σ', rfl, rfl, rfl, by rw [hmd], by omega, by omega, by rw [s4]; omega, hB, M, fun I2 σ2 F2 M2 k2 => ?_⟩
        rw [s4]
        refine ⟨fun h3 => ?_, fun h3 => ?_⟩
        · have h3 : nI im < rbR (moM J1) kn md.toInt (2 ^ n) := h3
          rw [if_pos h3] at sp
          refine ⟨g, 0, Or.inl (by omega), rfl, rfl, kn, im, n, g, lo, md, σ2, by rw [← hmd], rfl, hkt, hii, hn, hlo, by omega, by omega, sp, F.trans F2, M2, (k2 0 (by decide)).trans e0, (k2 1 (by decide)).trans e1⟩
        · have h3 : ¬ nI im < rbR (moM J1) kn md.toInt (2 ^ n) := h3
          rw [if_neg h3] at sp
          refine ⟨g, 0, Or.inl (by omega), rfl, rfl, kn, im, n, g, md, hi, σ2, by rw [← hmd], rfl, hkt, hii, hn, by omega, hhi, by omega, sp, F.trans F2, M2, (k2 0 (by decide)).trans e0, (k2 1 (by decide)).trans e1⟩
    · cases hc

