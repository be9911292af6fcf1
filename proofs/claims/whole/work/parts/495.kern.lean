def ct_X5_layKernel (sh : mSH) (rf : mRF) : Nat → Option (Nat × Bool × mPT) := fun k => match k with
  | 201 => some (2, true, pt_mhasW sh rf)
  | 134 => some (3, false, pt_in sh rf)
  | 217 => some (2, true, pt_mwsign sh rf)
  | 50 => some (3, true, pt_mset sh rf)
  | 210 => some (5, true, pt_mvalue sh rf)
  | 84 => some (4, true, pt_mmul sh rf)
  | 187 => some (3, true, pt_mworth sh rf)
  | 164 => some (5, true, pt_madd sh rf)
  | 66 => some (3, true, pt_mcopy sh rf)
  | 107 => some (3, true, pt_mshorten sh rf)
  | 198 => some (3, true, pt_mlay sh rf)
  | _ => none
set_option maxRecDepth 20000 in
theorem ce_X5_layKernel : m_CE RX5 8 188 cX5_layKernel 5 ct_X5_layKernel := by
  intro p l e s m args below meth c Q D cs ad sh rf N hx hb hml hown hts hK hi hN k n vf pt h
  unfold ct_X5_layKernel at h
  split at h
  · cases h
    exact m_CG_V mt_X5_hasWorth hx hb hml hown hts hK hi hN (ci := 5) m_pv_rec rfl rfl (m_wck_ok (l := [(Cond.methodLink RX5 201 yX5_hasWorth, 879), (Cond.instanceMethod yX5_hasWorth, 881), (Cond.selects RX5 yX5_hasWorth yX5_hasWorth, 36), (Cond.initialized RX5, 62), (Cond.code yX5_hasWorth cX5_hasWorth 2 (some .boolean), 882)]) (by decide +kernel)) ⟨rfl, by decide +kernel, by decide +kernel, by decide +kernel⟩ ⟨Nat.le_of_ble_eq_true rfl, Nat.le_of_ble_eq_true rfl⟩
  · cases h
    exact m_CG_S mt_X5_in hx hb hml hown hts hK hi hN (m_wck_ok (l := [(Cond.methodLink RX5 134 yX5_in, 748), (Cond.static yX5_in, 749), (Cond.initialized RX5, 62), (Cond.code yX5_in cX5_in 6 (some .boolean), 750)]) (by decide +kernel)) ⟨by decide +kernel, by decide +kernel, by decide +kernel⟩ ⟨Nat.le_of_ble_eq_true rfl, Nat.le_of_ble_eq_true rfl⟩
  · cases h
    exact m_CG_V mt_X5_worthSign hx hb hml hown hts hK hi hN (ci := 5) m_pv_rec rfl rfl (m_wck_ok (l := [(Cond.methodLink RX5 217 yX5_worthSign, 951), (Cond.instanceMethod yX5_worthSign, 953), (Cond.selects RX5 yX5_worthSign yX5_worthSign, 47), (Cond.initialized RX5, 62), (Cond.code yX5_worthSign cX5_worthSign 2 (some .int), 954)]) (by decide +kernel)) ⟨rfl, by decide +kernel, by decide +kernel, by decide +kernel⟩ ⟨Nat.le_of_ble_eq_true rfl, Nat.le_of_ble_eq_true rfl⟩
  · cases h
    exact m_CG_V mt_X5_set hx hb hml hown hts hK hi hN (ci := 5) m_pv_rec rfl rfl (m_wck_ok (l := [(Cond.methodLink RX5 50 yX5_set, 677), (Cond.instanceMethod yX5_set, 679), (Cond.selects RX5 yX5_set yX5_set, 14), (Cond.initialized RX5, 62), (Cond.code yX5_set cX5_set 7 none, 680)]) (by decide +kernel)) ⟨rfl, by decide +kernel, by decide +kernel, by decide +kernel⟩ ⟨Nat.le_of_ble_eq_true rfl, Nat.le_of_ble_eq_true rfl⟩
  · cases h
    exact m_CG_V mt_X5_value hx hb hml hown hts hK hi hN (ci := 5) m_pv_rec rfl rfl (m_wck_ok (l := [(Cond.methodLink RX5 210 yX5_value, 935), (Cond.instanceMethod yX5_value, 937), (Cond.selects RX5 yX5_value yX5_value, 45), (Cond.initialized RX5, 62), (Cond.code yX5_value cX5_value 8 none, 938)]) (by decide +kernel)) ⟨rfl, by decide +kernel, by decide +kernel, by decide +kernel⟩ ⟨Nat.le_of_ble_eq_true rfl, Nat.le_of_ble_eq_true rfl⟩
  · cases h
    exact m_CG_V mt_X5_multiply hx hb hml hown hts hK hi hN (ci := 5) m_pv_rec rfl rfl (m_wck_ok (l := [(Cond.methodLink RX5 84 yX5_multiply, 789), (Cond.instanceMethod yX5_multiply, 791), (Cond.selects RX5 yX5_multiply yX5_multiply, 18), (Cond.initialized RX5, 62), (Cond.code yX5_multiply cX5_multiply 11 none, 792)]) (by decide +kernel)) ⟨rfl, by decide +kernel, by decide +kernel, by decide +kernel⟩ ⟨Nat.le_of_ble_eq_true rfl, Nat.le_of_ble_eq_true rfl⟩
  · cases h
    exact m_CG_V mt_X5_worthOf hx hb hml hown hts hK hi hN (ci := 5) m_pv_rec rfl rfl (m_wck_ok (l := [(Cond.methodLink RX5 187 yX5_worthOf, 892), (Cond.instanceMethod yX5_worthOf, 894), (Cond.selects RX5 yX5_worthOf yX5_worthOf, 39), (Cond.initialized RX5, 62), (Cond.code yX5_worthOf cX5_worthOf 3 none, 895)]) (by decide +kernel)) ⟨rfl, by decide +kernel, by decide +kernel, by decide +kernel⟩ ⟨Nat.le_of_ble_eq_true rfl, Nat.le_of_ble_eq_true rfl⟩
  · cases h
    exact m_CG_V mt_X5_add hx hb hml hown hts hK hi hN (ci := 5) m_pv_rec rfl rfl (m_wck_ok (l := [(Cond.methodLink RX5 164 yX5_add, 801), (Cond.instanceMethod yX5_add, 803), (Cond.selects RX5 yX5_add yX5_add, 21), (Cond.initialized RX5, 62), (Cond.code yX5_add cX5_add 8 none, 804)]) (by decide +kernel)) ⟨rfl, by decide +kernel, by decide +kernel, by decide +kernel⟩ ⟨Nat.le_of_ble_eq_true rfl, Nat.le_of_ble_eq_true rfl⟩
  · cases h
    exact m_CG_V mt_X5_copy hx hb hml hown hts hK hi hN (ci := 5) m_pv_rec rfl rfl (m_wck_ok (l := [(Cond.methodLink RX5 66 yX5_copy, 797), (Cond.instanceMethod yX5_copy, 799), (Cond.selects RX5 yX5_copy yX5_copy, 20), (Cond.initialized RX5, 62), (Cond.code yX5_copy cX5_copy 4 none, 800)]) (by decide +kernel)) ⟨rfl, by decide +kernel, by decide +kernel, by decide +kernel⟩ ⟨Nat.le_of_ble_eq_true rfl, Nat.le_of_ble_eq_true rfl⟩
  · cases h
    exact m_CG_V mt_X5_shorten hx hb hml hown hts hK hi hN (ci := 5) m_pv_rec rfl rfl (m_wck_ok (l := [(Cond.methodLink RX5 107 yX5_shorten, 847), (Cond.instanceMethod yX5_shorten, 849), (Cond.selects RX5 yX5_shorten yX5_shorten, 30), (Cond.initialized RX5, 62), (Cond.code yX5_shorten cX5_shorten 3 none, 850)]) (by decide +kernel)) ⟨rfl, by decide +kernel, by decide +kernel, by decide +kernel⟩ ⟨Nat.le_of_ble_eq_true rfl, Nat.le_of_ble_eq_true rfl⟩
  · cases h
    exact m_CG_V mt_X5_lay hx hb hml hown hts hK hi hN (ci := 5) m_pv_rec rfl rfl (m_wck_ok (l := [(Cond.methodLink RX5 198 yX5_lay, 843), (Cond.instanceMethod yX5_lay, 845), (Cond.selects RX5 yX5_lay yX5_lay, 29), (Cond.initialized RX5, 62), (Cond.code yX5_lay cX5_lay 3 (some .int), 846)]) (by decide +kernel)) ⟨rfl, by decide +kernel, by decide +kernel, by decide +kernel⟩ ⟨Nat.le_of_ble_eq_true rfl, Nat.le_of_ble_eq_true rfl⟩
  · cases h
set_option maxHeartbeats 4000000 in
set_option maxRecDepth 100000 in
theorem mt_X5_layKernel : m_Mt yX5_layKernel cX5_layKernel 5 (some .int) 8 188 pt_mlayKernel := by
  refine m_methodG (fl := fl_X5) (kI := kI_X5) (kJ := kJ_X5) (ct := ct_X5_layKernel) (cd := cd_X5_layKernel) (cut := [(24, [0, 1, 2, 3]), (67, [0, 1, 2, 3, 4]), (133, [0, 1, 2, 3, 4])]) (rk := 1) (fu := 120) (by decide +kernel) fl_X5_ok kI_X5_ok kJ_X5_ok ce_X5_layKernel rfl ck_X5_layKernel ⟨_, _, rfl, rfl⟩ ?_
  intro sh rf As I J K hpt
  obtain ⟨d, rest, rfl, hd, n, x, y, rfl, rfl, rfl, rfl, l, σ, h5, hl, hB, hM, hK⟩ := hpt
  have tl := tpf_le (moM J) l
  have em : (-1000 : Int64).toInt = -1000 := rfl
  have ep : (1000 : Int64).toInt = 1000 := rfl
  have l0 : (0 : Int64).toInt = 0 := rfl
  have l1 : (1 : Int64).toInt = 1 := rfl
  refine ⟨Nat.le_of_ble_eq_true rfl, fun a9 b9 pc vs st I1 J1 => (pc = 24 ∧ a9 = 100 ∧ st = [] ∧ J1 = J ∧ vs = [.inr (.inr 528), .inl n, .inl x, .inl y] ∧ hasW (moM J) l n.toInt ∧ win x.toInt 1000 ∧ MO I I1 ∧ ∃ σ1, MS I1 σ1 ∧ σ1 0 = σ 0 ∧ σ1 1 = σ 1) ∨ ((pc = 67 ∨ pc = 133) ∧ st = [] ∧ J1 = J ∧ ∃ nn k σ', vs = [.inr (.inr 528), .inl (nI nn), .inl x, .inl y, .inl (nI k)] ∧ a9 = nn + 1 - k ∧ k ≤ nn + 1 ∧ nn ≤ tpf (moM J) l ∧ win x.toInt 1000 ∧ win y.toInt 1000 ∧ Dt (moM J) (nn + 1) ≠ 0 ∧ spKernel (moM J) n.toInt x.toInt y.toInt l = .inr (Sk (moM J) x.toInt y.toInt (nn + 1), Dt (moM J) (nn + 1)) ∧ MO I I1 ∧ MS I1 σ' ∧ σ' 3 ≠ 0 ∧ σ' 2 * Dt (moM J) k = Sk (moM J) x.toInt y.toInt k * σ' 3 ∧ (σ' 2).natAbs < 2 ^ (24 * (13 + 33 * k)) ∧ (σ' 3).natAbs < 2 ^ (24 * (1 + 32 * k)) ∧ ((pc = 67 ∧ b9 = 1) ∨ (pc = 133 ∧ b9 = 0 ∧ k ≤ nn ∧ σ' 22 = evN (moM J) k x.toInt 1 k * evN (moM J) k y.toInt 1 k ∧ σ' 23 = Dt (moM J) k * Dt (moM J) (k + 1)))), ?_, ?_⟩
  · refine ⟨528, [.inl n], rfl, rfl, n, l, σ, rfl, rfl, rfl, rfl, h5, hl, hB, hM, fun I1 σ1 F1 M1 k1 => ?_⟩
    have E0 := k1 0 (by decide) (by decide)
    have E1 := k1 1 (by decide) (by decide)
    refine ⟨fun h => ⟨x.toInt64, -1000, 1000, rfl, fun h2 => ?_, fun h2 => ?_⟩, fun h => AskM.no hK (if_neg (w_is0 h)) F1 M1 E0 E1⟩
    · have h2 := w_is0 h2
      rw [em, ep, Int32.toInt_toInt64] at h2
      refine AskM.no hK ?_ F1 M1 E0 E1
      unfold spKernel
      rw [if_pos (w_not0 h), if_neg (fun q => h2 q.1)]
    · have hx := w_not0 h2
      rw [em, ep, Int32.toInt_toInt64] at hx
      exact ⟨100, 0, Or.inl ⟨rfl, rfl, rfl, rfl, rfl, w_not0 h, hx, F1, σ1, M1, E0, E1⟩⟩
  · intro pc ks a9 b9 vs st I1 J1 hc hI
    rcases m_cu1 hc with ⟨rfl, rfl⟩ | hc
    · obtain ⟨rfl, rfl, rfl, rfl, h, hx, F1, σ1, M1, E0, E1⟩ : a9 = 100 ∧ st = [] ∧ J1 = J ∧ vs = [.inr (.inr 528), .inl n, .inl x, .inl y] ∧ hasW (moM J) l n.toInt ∧ win x.toInt 1000 ∧ MO I I1 ∧ ∃ σ1, MS I1 σ1 ∧ σ1 0 = σ 0 ∧ σ1 1 = σ 1 := by
        rcases hI with ⟨-, q⟩ | ⟨q | q, -⟩
        · exact q
        · exact absurd q (by decide)
        · exact absurd q (by decide)
      refine ⟨y.toInt64, -1000, 1000, rfl, fun h3 => ?_, fun h3 => ?_⟩
      · have hy := w_not0 h3
        rw [em, ep, Int32.toInt_toInt64] at hy
        obtain ⟨en, -⟩ := i_nat h.1.1
        have hnn : n.toInt.toNat ≤ tpf (moM J1) l := by have := h.1.2; omega
        have sp : spKernel (moM J1) n.toInt x.toInt y.toInt l = if Dt (moM J1) (n.toInt.toNat + 1) = 0 then .inl (-5) else .inr (Sk (moM J1) x.toInt y.toInt (n.toInt.toNat + 1), Dt (moM J1) (n.toInt.toNat + 1)) := by
          unfold spKernel
          rw [if_pos h, if_pos ⟨hx, hy⟩]
        refine ⟨528, [.inl n], rfl, rfl, n.toInt.toNat, σ1, rfl, rfl, rfl, by rw [← en], by omega, hB, M1, fun I2 σ2 F2 M2 k2 => ⟨fun h4 => ?_, fun h4 => ?_⟩⟩
        · have h4 : ¬ sgI (Dt (moM J1) (n.toInt.toNat + 1) * Dt (moM J1) n.toInt.toNat) = 0 := h4
          rw [sgI_0] at h4
          have hD : Dt (moM J1) (n.toInt.toNat + 1) ≠ 0 := fun q => h4 (by rw [q, Int.zero_mul])
          rw [if_neg hD] at sp
          refine ⟨528, [.inl (nI 2), .inr (.inl 0)], rfl, rfl, 2, 0, rfl, rfl, rfl, rfl, by decide, by decide, fun I3 a1 a2 => ?_⟩
          have M3 := M2.up a1 a2
          refine ⟨528, [.inl (nI 3), .inr (.inl 1)], rfl, rfl, 3, 1, rfl, rfl, rfl, rfl, by decide, by decide, fun I4 b1 b2 => ?_⟩
          refine ⟨n.toInt.toNat + 1 - 0, 1, Or.inl (by omega), Or.inr ⟨Or.inl rfl, rfl, rfl, n.toInt.toNat, 0, _, by rw [← en]; rfl, rfl, Nat.zero_le _, hnn, hx, hy, hD, sp, ((F1.trans F2).trans a1.mo).trans b1.mo, M3.up b1 b2, ?_, ?_, ?_, ?_, Or.inl ⟨rfl, rfl⟩⟩⟩
          · rw [up_s]; decide
          · rw [up_o _ _ (by decide), up_s, l0, Int.zero_mul]
            show 0 = 0 * _
            rw [Int.zero_mul]
          · rw [up_o _ _ (by decide), up_s]
            decide
          · rw [up_s]
            decide
        · have h4 : sgI (Dt (moM J1) (n.toInt.toNat + 1) * Dt (moM J1) n.toInt.toNat) = 0 := h4
          rw [sgI_0] at h4
          have hD : Dt (moM J1) (n.toInt.toNat + 1) = 0 := (Int.mul_eq_zero.mp h4).resolve_right (top_nz hnn)
          rw [if_pos hD] at sp
          exact AskM.no hK sp (F1.trans F2) M2 ((k2 0 (by decide) (by decide) (by decide)).trans E0) ((k2 1 (by decide) (by decide) (by decide)).trans E1)
      · have h3 := w_is0 h3
        rw [em, ep, Int32.toInt_toInt64] at h3
        refine AskM.no hK ?_ F1 M1 E0 E1
        unfold spKernel
        rw [if_pos h, if_neg (fun q => h3 q.2)]

    replace hI := (hI.resolve_left (fun q => by rcases m_cu1 hc with ⟨rfl, -⟩ | hc2; exact absurd q.1 (by decide); rcases m_cu1 hc2 with ⟨rfl, -⟩ | hc2; exact absurd q.1 (by decide); cases hc2)).2
    obtain ⟨rfl, rfl, nn, k, σ', rfl, rfl, hk, hnn, hx, hy, hD, hsp, F, M, hY, hXY, bX, bY, hpc⟩ := hI
    have evb : ∀ z : Int32, k ≤ nn → win z.toInt 1000 → (evN (moM J1) k z.toInt 1 k).natAbs < 2 ^ (24 * 22) := fun z hkn hz => Nat.lt_of_lt_of_le (evN_lt (mo := moM J1) hB (by omega) (by omega) (by decide)) (Nat.pow_le_pow_right (by decide) (by decide))
    rcases m_cu1 hc with ⟨rfl, rfl⟩ | hc
    · have hb : b9 = 1 := by
        rcases hpc with ⟨-, q⟩ | ⟨q, -⟩
        · exact q
        · exact absurd q (by decide)
      subst hb
      refine ⟨fun h => ?_, fun h => ?_⟩
      · have h : nI nn < nI k := h
        rw [nI_ltI (by omega) (by omega)] at h
        obtain rfl : k = nn + 1 := by omega
        exact ⟨528, [.inl (nI 2), .inl (nI 3)], rfl, rfl, 2, 3, σ', rfl, rfl, rfl, rfl, by decide, by decide, by decide, by decide, by decide, M, hY, cup bX (by omega), cup bY (by omega), fun I9 σ9 F9 M9 p1 p2 p3 p4 p5 => lay_end2 hK hsp (F.trans F9.mo) M9 p1 p2 p3 p4 p5 rfl rfl hD hY hXY (cup bX (by omega)) (cup bY (by omega))⟩
      · have h : ¬ nI nn < nI k := h
        rw [nI_ltI (by omega) (by omega)] at h
        have d0 := mDb hB (k := k) (by omega)
        have d1 := mDb hB (k := k + 1) (by omega)
        refine ⟨528, [.inl (nI k), .inr (.inl x.toInt64), .inr (.inl 1), .inl (nI 20)], rfl, rfl, k, 20, x.toInt64, 1, σ', rfl, rfl, rfl, rfl, by omega, by decide, by decide, by rw [Int32.toInt_toInt64]; omega, by decide, hB, M, fun I2 σ2 F2 M2 k2 e2 => ?_⟩
        refine ⟨528, [.inl (nI k), .inr (.inl y.toInt64), .inr (.inl 1), .inl (nI 21)], rfl, rfl, k, 21, y.toInt64, 1, σ2, rfl, rfl, rfl, rfl, by omega, by decide, by decide, by rw [Int32.toInt_toInt64]; omega, by decide, hB, M2, fun I3 σ3 F3 M3 k3 e3 => ?_⟩
        rw [Int32.toInt_toInt64, l1] at e2 e3
        have z20 := M3 20 (by decide)
        rw [k3 20 (by decide) (by decide), e2] at z20
        have z21 := M3 21 (by decide)
        rw [e3] at z21
        refine ⟨528, [.inl (nI 20), .inl (nI 21), .inl (nI 22)], rfl, rfl, 20, 21, 22, 22, 22, _, _, rfl, rfl, rfl, rfl, by decide, by decide, by decide, by decide, by decide, z20, z21, evb x (by omega) hx, evb y (by omega) hy, by omega, fun I4 a1 a2 => ?_⟩
        have M4 := M3.up a1 a2
        refine ⟨528, [.inl (nI k), .inl (nI 14)], rfl, rfl, k, 14, _, rfl, rfl, rfl, rfl, by omega, by decide, by decide, hB, M4, fun I5 σ5 F5 M5 k5 e5 => ?_⟩
        refine ⟨528, [.inl (nI k + 1), .inl (nI 15)], rfl, rfl, k + 1, 15, σ5, rfl, rfl, rfl, by rw [← nI_1 k], by omega, by decide, by decide, hB, M5, fun I6 σ6 F6 M6 k6 e6 => ?_⟩
        have z14 := M6 14 (by decide)
        rw [k6 14 (by decide) (by decide), e5] at z14
        have z15 := M6 15 (by decide)
        rw [e6] at z15
        refine ⟨528, [.inl (nI 14), .inl (nI 15), .inl (nI 23)], rfl, rfl, 14, 15, 23, 16, 16, _, _, rfl, rfl, rfl, rfl, by decide, by decide, by decide, by decide, by decide, z14, z15, d0, d1, by omega, fun I7 b1 b2 => ?_⟩
        have M7 := M6.up b1 b2
        have ek : ∀ q, (nV q ∧ q ≠ 20 ∧ q ≠ 21 ∧ q ≠ 22 ∧ q ≠ 14 ∧ q ≠ 15) → σ6 q = σ' q := fun q hq => by
          rw [k6 q hq.1.1 hq.2.2.2.2.2, k5 q hq.1.1 hq.2.2.2.2.1, up_o _ _ hq.2.2.2.1, k3 q hq.1 hq.2.2.1, k2 q hq.1 hq.2.1]
        have s2 : σ6 2 = σ' 2 := ek 2 (by decide)
        have s3 : σ6 3 = σ' 3 := ek 3 (by decide)
        have s22 : σ6 22 = evN (moM J1) k x.toInt 1 k * evN (moM J1) k y.toInt 1 k := by rw [k6 22 (by decide) (by decide), k5 22 (by decide) (by decide), up_s]
        refine ⟨nn + 1 - k, 0, Or.inr ⟨rfl, by decide⟩, Or.inr ⟨Or.inr rfl, rfl, rfl, nn, k, _, rfl, rfl, hk, hnn, hx, hy, hD, hsp, (((((F.trans F2).trans F3).trans a1.mo).trans F5).trans F6).trans b1.mo, M7, ?_, ?_, ?_, ?_, Or.inr ⟨rfl, rfl, by omega, ?_, up_s _ _ _⟩⟩⟩
        · rw [up_o _ _ (by decide), s3]
          exact hY
        · rw [up_o _ _ (by decide), up_o _ _ (by decide), s2, s3]
          exact hXY
        · rw [up_o _ _ (by decide), s2]
          exact bX
        · rw [up_o _ _ (by decide), s3]
          exact bY
        · rw [up_o _ _ (by decide)]
          exact s22
    · rcases m_cu1 hc with ⟨rfl, rfl⟩ | hc
      · obtain ⟨hb, hkn, s22, s23⟩ : b9 = 0 ∧ k ≤ nn ∧ σ' 22 = evN (moM J1) k x.toInt 1 k * evN (moM J1) k y.toInt 1 k ∧ σ' 23 = Dt (moM J1) k * Dt (moM J1) (k + 1) := by
          rcases hpc with ⟨q, -⟩ | ⟨-, q⟩
          · exact absurd q (by decide)
          · exact q
        subst hb
        have hDk : Dt (moM J1) k ≠ 0 := top_nz (l := l) (by omega)
        have hDk1 : Dt (moM J1) (k + 1) ≠ 0 := by
          rcases Nat.lt_or_ge k nn with q | q
          · exact top_nz (l := l) (by omega)
          · obtain rfl : k = nn := by omega
            exact hD
        have d0 := mDb hB (k := k) (by omega)
        have d1 := mDb hB (k := k + 1) (by omega)
        have z2 := M 2 (by decide)
        have z23 := M 23 (by decide)
        rw [s23] at z23
        have d01 : (Dt (moM J1) k * Dt (moM J1) (k + 1)).natAbs < 2 ^ (24 * 32) := cmul d0 d1
        refine ⟨528, [.inl (nI 2), .inl (nI 23), .inl (nI 24)], rfl, rfl, 2, 23, 24, 13 + 33 * k, 32, _, _, rfl, rfl, rfl, rfl, by decide, by decide, by decide, by decide, by decide, z2, z23, bX, d01, by omega, fun I8 c1 c2 => ?_⟩
        have M8 := M.up c1 c2
        have z3 := M8 3 (by decide)
        rw [up_o _ _ (by decide)] at z3
        have z22 := M8 22 (by decide)
        rw [up_o _ _ (by decide), s22] at z22
        have ee : (evN (moM J1) k x.toInt 1 k * evN (moM J1) k y.toInt 1 k).natAbs < 2 ^ (24 * 44) := cmul (evb x hkn hx) (evb y hkn hy)
        refine ⟨528, [.inl (nI 3), .inl (nI 22), .inl (nI 25)], rfl, rfl, 3, 22, 25, 1 + 32 * k, 44, _, _, rfl, rfl, rfl, rfl, by decide, by decide, by decide, by decide, by decide, z3, z22, bY, ee, by omega, fun I9 f1 f2 => ?_⟩
        have M9 := M8.up f1 f2
        have z24 := M9 24 (by decide)
        rw [up_o _ _ (by decide), up_s] at z24
        have z25 := M9 25 (by decide)
        rw [up_s] at z25
        have bA := cup (b := 45 + 33 * k) (cmul bX d01) (by omega)
        have bB := cup (b := 45 + 33 * k) (cmul bY ee) (by omega)
        refine ⟨528, [.inl (nI 24), .inl (nI 25), .inl 1, .inl (nI 2)], rfl, rfl, 24, 25, 2, 45 + 33 * k, _, _, 1, rfl, rfl, rfl, rfl, by decide, by decide, by decide, Or.inl rfl, z24, z25, bA, bB, by omega, fun I10 g1 g2 => ?_⟩
        have M10 := M9.up g1 g2
        have eX : up (up (up σ' 24 (σ' 2 * (Dt (moM J1) k * Dt (moM J1) (k + 1)))) 25 (σ' 3 * (evN (moM J1) k x.toInt 1 k * evN (moM J1) k y.toInt 1 k))) 2 (σ' 2 * (Dt (moM J1) k * Dt (moM J1) (k + 1)) + (1 : Int32).toInt * (σ' 3 * (evN (moM J1) k x.toInt 1 k * evN (moM J1) k y.toInt 1 k))) 2 = σ' 2 * (Dt (moM J1) k * Dt (moM J1) (k + 1)) + σ' 3 * (evN (moM J1) k x.toInt 1 k * evN (moM J1) k y.toInt 1 k) := by
          rw [up_s, show (1 : Int32).toInt = 1 from rfl, Int.one_mul]
        have y3 := M10 3 (by decide)
        rw [up_o _ _ (by decide), up_o _ _ (by decide), up_o _ _ (by decide)] at y3
        have y23 := M10 23 (by decide)
        rw [up_o _ _ (by decide), up_o _ _ (by decide), up_o _ _ (by decide), s23] at y23
        refine ⟨528, [.inl (nI 3), .inl (nI 23), .inl (nI 24)], rfl, rfl, 3, 23, 24, 1 + 32 * k, 32, _, _, rfl, rfl, rfl, rfl, by decide, by decide, by decide, by decide, by decide, y3, y23, bY, d01, by omega, fun I11 h1 h2 => ?_⟩
        have M11 := M10.up h1 h2
        obtain ⟨n24, w24⟩ := M11.wf (s := 24) (by decide)
        refine ⟨528, [.inl (nI 24), .inl (nI 3)], rfl, rfl, 24, 3, n24, rfl, rfl, rfl, rfl, by decide, by decide, w24, fun I12 i1 i2 i3 i4 => ?_⟩
        have M12 := M11.cp (by decide) w24 i1 i2 i3 i4
        generalize hσ : up (up (up (up σ' 24 (σ' 2 * (Dt (moM J1) k * Dt (moM J1) (k + 1)))) 25 (σ' 3 * (evN (moM J1) k x.toInt 1 k * evN (moM J1) k y.toInt 1 k))) 2 (σ' 2 * (Dt (moM J1) k * Dt (moM J1) (k + 1)) + (1 : Int32).toInt * (σ' 3 * (evN (moM J1) k x.toInt 1 k * evN (moM J1) k y.toInt 1 k)))) 24 (σ' 3 * (Dt (moM J1) k * Dt (moM J1) (k + 1))) = ρ at M12
        have r2 : ρ 2 = σ' 2 * (Dt (moM J1) k * Dt (moM J1) (k + 1)) + σ' 3 * (evN (moM J1) k x.toInt 1 k * evN (moM J1) k y.toInt 1 k) := by
          rw [← hσ, up_o _ _ (by decide)]
          exact eX
        have r24 : ρ 24 = σ' 3 * (Dt (moM J1) k * Dt (moM J1) (k + 1)) := by rw [← hσ, up_s]
        have t2 : up ρ 3 (ρ 24) 2 = σ' 2 * (Dt (moM J1) k * Dt (moM J1) (k + 1)) + σ' 3 * (evN (moM J1) k x.toInt 1 k * evN (moM J1) k y.toInt 1 k) := by rw [up_o _ _ (by decide)]; exact r2
        have t3 : up ρ 3 (ρ 24) 3 = σ' 3 * (Dt (moM J1) k * Dt (moM J1) (k + 1)) := by rw [up_s]; exact r24
        have bXn := cadd bA bB
        have bYn : (σ' 3 * (Dt (moM J1) k * Dt (moM J1) (k + 1))).natAbs < 2 ^ (24 * (1 + 32 * k + 32)) := cmul bY d01
        have hYn : σ' 3 * (Dt (moM J1) k * Dt (moM J1) (k + 1)) ≠ 0 := Int.mul_ne_zero hY (Int.mul_ne_zero hDk hDk1)
        refine ⟨528, [.inl (nI 2), .inl (nI 3)], rfl, rfl, 2, 3, _, rfl, rfl, rfl, rfl, by decide, by decide, by decide, by decide, by decide, M12, by rw [t3]; exact hYn, by rw [t2]; exact cup bXn (by omega), by rw [t3]; exact cup bYn (by omega), fun I13 σ13 F13 M13 k13 p1 p2 p3 p4 p5 => ?_⟩
        rw [t2] at p3 p4
        rw [t3] at p3 p5
        refine ⟨nn + 1 - (k + 1), 1, Or.inl (by omega), Or.inr ⟨Or.inl rfl, rfl, rfl, nn, k + 1, σ13, by rw [← nI_1 k], rfl, by omega, hnn, hx, hy, hD, hsp, (((((F.trans c1.mo).trans f1.mo).trans g1.mo).trans h1.mo).trans i1.mo).trans F13.mo, M13, by omega, ?_, ?_, ?_, Or.inl ⟨rfl, rfl⟩⟩⟩
        · apply Int.eq_of_mul_eq_mul_left hYn
          have hrec := Sk_rec (moM J1) (k := k) (by omega) x.toInt y.toInt hDk hDk1
          exact ker_step p3 hXY hrec
        · have e : 13 + 33 * (k + 1) = 45 + 33 * k + 1 := by omega
          rw [e]
          exact Nat.lt_of_le_of_lt p4 bXn
        · have e : 1 + 32 * (k + 1) = 1 + 32 * k + 32 := by omega
          rw [e]
          exact Nat.lt_of_le_of_lt p5 bYn
      · cases hc

