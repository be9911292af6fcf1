/-! ===== the reference: mirror, counted, point ===== -/
theorem gF_tab : ∀ m : Nat, m < 19 → ∀ k, k < 12 → ∀ j, j < 12 → (gF (Int32.ofInt ((m : Int) - 9)) k j).toInt.natAbs ≤ 2 ^ 40 ∧ (-(gF (Int32.ofInt ((m : Int) - 9)) k j)).toInt = -(gF (Int32.ofInt ((m : Int) - 9)) k j).toInt := by decide +kernel
theorem gF_b {c : Int32} (h : win c.toInt 9) {k j : Nat} (hk : k < 12) (hj : j < 12) : (gF c k j).toInt.natAbs ≤ 2 ^ 40 ∧ (-(gF c k j)).toInt = -(gF c k j).toInt := by
  obtain ⟨m, hm, rfl, -, -⟩ := win_x h
  exact gF_tab m hm k hk j hj

def ct_X5_mirror (sh : mSH) (rf : mRF) : Nat → Option (Nat × Bool × mPT) := fun k => match k with
  | 134 => some (3, false, pt_in sh rf)
  | 50 => some (3, true, pt_mset sh rf)
  | 157 => some (2, false, pt_mover sh rf)
  | 123 => some (2, false, pt_mpower sh rf)
  | 161 => some (3, true, pt_mtimes sh rf)
  | 164 => some (5, true, pt_madd sh rf)
  | 168 => some (3, true, pt_misMom sh rf)
  | 172 => some (2, true, pt_mchange sh rf)
  | _ => none
set_option maxRecDepth 20000 in
theorem ce_X5_mirror : m_CE RX5 3 76 cX5_mirror 4 ct_X5_mirror := by
  intro p l e s m args below meth c Q D cs ad sh rf N hx hb hml hown hts hK hi hN k n vf pt h
  unfold ct_X5_mirror at h
  split at h
  · cases h
    exact m_CG_S mt_X5_in hx hb hml hown hts hK hi hN (m_wck_ok (l := [(Cond.methodLink RX5 134 yX5_in, 748), (Cond.static yX5_in, 749), (Cond.initialized RX5, 62), (Cond.code yX5_in cX5_in 6 (some .boolean), 750)]) (by decide +kernel)) ⟨by decide +kernel, by decide +kernel, by decide +kernel⟩ ⟨Nat.le_of_ble_eq_true rfl, Nat.le_of_ble_eq_true rfl⟩
  · cases h
    exact m_CG_V mt_X5_set hx hb hml hown hts hK hi hN (ci := 5) m_pv_rec rfl rfl (m_wck_ok (l := [(Cond.methodLink RX5 50 yX5_set, 677), (Cond.instanceMethod yX5_set, 679), (Cond.selects RX5 yX5_set yX5_set, 14), (Cond.initialized RX5, 62), (Cond.code yX5_set cX5_set 7 none, 680)]) (by decide +kernel)) ⟨rfl, by decide +kernel, by decide +kernel, by decide +kernel⟩ ⟨Nat.le_of_ble_eq_true rfl, Nat.le_of_ble_eq_true rfl⟩
  · cases h
    exact m_CG_S mt_X5_over hx hb hml hown hts hK hi hN (m_wck_ok (l := [(Cond.methodLink RX5 157 yX5_over, 778), (Cond.static yX5_over, 779), (Cond.initialized RX5, 62), (Cond.code yX5_over cX5_over 5 (some .long), 780)]) (by decide +kernel)) ⟨by decide +kernel, by decide +kernel, by decide +kernel⟩ ⟨Nat.le_of_ble_eq_true rfl, Nat.le_of_ble_eq_true rfl⟩
  · cases h
    exact m_CG_S mt_X5_power hx hb hml hown hts hK hi hN (m_wck_ok (l := [(Cond.methodLink RX5 123 yX5_power, 757), (Cond.static yX5_power, 758), (Cond.initialized RX5, 62), (Cond.code yX5_power cX5_power 6 (some .long), 759)]) (by decide +kernel)) ⟨by decide +kernel, by decide +kernel, by decide +kernel⟩ ⟨Nat.le_of_ble_eq_true rfl, Nat.le_of_ble_eq_true rfl⟩
  · cases h
    exact m_CG_V mt_X5_times hx hb hml hown hts hK hi hN (ci := 5) m_pv_rec rfl rfl (m_wck_ok (l := [(Cond.methodLink RX5 161 yX5_times, 785), (Cond.instanceMethod yX5_times, 787), (Cond.selects RX5 yX5_times yX5_times, 17), (Cond.initialized RX5, 62), (Cond.code yX5_times cX5_times 4 none, 788)]) (by decide +kernel)) ⟨rfl, by decide +kernel, by decide +kernel, by decide +kernel⟩ ⟨Nat.le_of_ble_eq_true rfl, Nat.le_of_ble_eq_true rfl⟩
  · cases h
    exact m_CG_V mt_X5_add hx hb hml hown hts hK hi hN (ci := 5) m_pv_rec rfl rfl (m_wck_ok (l := [(Cond.methodLink RX5 164 yX5_add, 801), (Cond.instanceMethod yX5_add, 803), (Cond.selects RX5 yX5_add yX5_add, 21), (Cond.initialized RX5, 62), (Cond.code yX5_add cX5_add 8 none, 804)]) (by decide +kernel)) ⟨rfl, by decide +kernel, by decide +kernel, by decide +kernel⟩ ⟨Nat.le_of_ble_eq_true rfl, Nat.le_of_ble_eq_true rfl⟩
  · cases h
    exact m_CG_V mt_X5_isMoment hx hb hml hown hts hK hi hN (ci := 5) m_pv_rec rfl rfl (m_wck_ok (l := [(Cond.methodLink RX5 168 yX5_isMoment, 823), (Cond.instanceMethod yX5_isMoment, 825), (Cond.selects RX5 yX5_isMoment yX5_isMoment, 26), (Cond.initialized RX5, 62), (Cond.code yX5_isMoment cX5_isMoment 6 (some .boolean), 826)]) (by decide +kernel)) ⟨rfl, by decide +kernel, by decide +kernel, by decide +kernel⟩ ⟨Nat.le_of_ble_eq_true rfl, Nat.le_of_ble_eq_true rfl⟩
  · cases h
    exact m_CG_V mt_X5_changeTo hx hb hml hown hts hK hi hN (ci := 5) m_pv_rec rfl rfl (m_wck_ok (l := [(Cond.methodLink RX5 172 yX5_changeTo, 831), (Cond.instanceMethod yX5_changeTo, 833), (Cond.selects RX5 yX5_changeTo yX5_changeTo, 28), (Cond.initialized RX5, 62), (Cond.code yX5_changeTo cX5_changeTo 3 none, 834)]) (by decide +kernel)) ⟨rfl, by decide +kernel, by decide +kernel, by decide +kernel⟩ ⟨Nat.le_of_ble_eq_true rfl, Nat.le_of_ble_eq_true rfl⟩
  · cases h
set_option maxHeartbeats 4000000 in
set_option maxRecDepth 100000 in
theorem mt_X5_mirror : m_Mt yX5_mirror cX5_mirror 4 (some .int) 3 76 pt_mmirror := by
  refine m_methodG (fl := fl_X5) (kI := kI_X5) (kJ := kJ_X5) (ct := ct_X5_mirror) (cd := cd_X5_mirror) (cut := [(19, [0, 1, 2]), (36, [0, 1, 2, 3])]) (rk := 1) (fu := 120) (by decide +kernel) fl_X5_ok kI_X5_ok kJ_X5_ok ce_X5_mirror rfl ck_X5_mirror ⟨_, _, rfl, rfl⟩ ?_
  intro sh rf As I J K hpt
  obtain ⟨d, rest, rfl, hd, c, l, σ, rfl, rfl, rfl, rfl, h5, hl, hB, hM, hS, hU⟩ := hpt
  have m62 := MB62
  refine ⟨Nat.le_of_ble_eq_true rfl, fun a9 b9 pc vs st I1 J1 => st = [] ∧ ∃ k j σ', a9 = l + 1 - k ∧ k ≤ l + 1 ∧ win c.toInt 9 ∧ MO I I1 ∧ MS I1 σ' ∧ σ' 0 = σ 0 ∧ σ' 1 = σ 1 ∧ (∀ a, a ≠ 535 → J1 a = J a) ∧ (∀ q, q < k → J1 535 q = Int64.ofInt (mirS (moM J) c q (q + 1)) ∧ (mirS (moM J) c q (q + 1)).natAbs < 2 ^ 62) ∧ ((pc = 19 ∧ b9 = 100 ∧ vs = [.inr (.inr 528), .inl c, .inl (nI k)]) ∨ (pc = 36 ∧ b9 = k + 1 - j ∧ vs = [.inr (.inr 528), .inl c, .inl (nI k), .inl (nI j)] ∧ k ≤ l ∧ j ≤ k + 1 ∧ σ' 11 = mirS (moM J) c k j ∧ (mirS (moM J) c k j).natAbs ≤ j * 2 ^ 102)), ?_, ?_⟩
  · refine ⟨c.toInt64, -9, 9, rfl, fun h => ?_, fun h => ?_⟩
    · have hc := in9.mp (w_not0 h)
      exact ⟨l + 1 - 0, 100, rfl, 0, 0, σ, rfl, by omega, hc, MO.rfl' I, hM, rfl, rfl, fun _ _ => rfl, fun q hq => absurd hq (Nat.not_lt_zero q), Or.inl ⟨rfl, rfl, rfl⟩⟩
    · have h := mt in9.mpr (w_is0 h)
      exact hS _ (if_pos h) I J (SameM.rfl' I J) ⟨σ, hM, rfl, rfl⟩
  · intro pc ks a9 b9 vs st I1 J1 hcu hI
    obtain ⟨rfl, k, j, σ', rfl, hk, hc, F, M, e0, e1, hj, hq, hI⟩ := hI
    have eJ : J1 532 = J 532 := hj 532 (by decide)
    have F8 : I1 528 = I 528 := F 528 (by decide) (by decide) (by decide) (by decide)
    have e5 : I1 528 5 = nI l := by rw [F8]; exact h5
    rcases m_cu1 hcu with ⟨rfl, rfl⟩ | hcu
    · obtain ⟨rfl, rfl⟩ : b9 = 100 ∧ vs = [.inr (.inr 528), .inl c, .inl (nI k)] := by
        rcases hI with ⟨-, q⟩ | ⟨q, -⟩
        · exact q
        · exact absurd q (by decide)
      refine ⟨rfl, fun h => ?_, fun h => ?_⟩
      · have h : I1 528 5 < nI k := h
        rw [e5, nI_ltI (by omega) (by omega)] at h
        obtain rfl : k = l + 1 := by omega
        have hU2 := hU (by unfold mirO; rw [if_neg (fun q => q hc), if_pos (fun q hq2 => (hq q hq2).2)])
        refine ⟨rfl, 528, [.inl (I1 528 5)], rfl, rfl, l, rfl, rfl, rfl, by rw [e5], hl, fun J2 b1 b2 => ?_⟩
        have hup := chgM (l := l) (n := l + 1) (f := fun q => mirS (moM J) c q (q + 1)) F hj (fun q hq2 => (hq q hq2).1) b1 b2 rfl
        exact hU2 _ _ hup (by rw [uI_a _ _ _ (by decide), uI_a _ _ _ (by decide)]; exact F _ (by decide) (by decide) (by decide) (by decide)) (by rw [uI_a _ _ _ (by decide), uI_a _ _ _ (by decide)]; exact F _ (by decide) (by decide) (by decide) (by decide)) ⟨σ', ms_f M _ _, e0, e1⟩
      · have h : ¬ I1 528 5 < nI k := h
        rw [e5, nI_ltI (by omega) (by omega)] at h
        refine ⟨528, [.inl (nI 11), .inr (.inl 0)], rfl, rfl, 11, 0, rfl, rfl, rfl, rfl, by decide, by decide, fun I2 a1 a2 => ?_⟩
        have M2 := M.up a1 a2
        exact ⟨l + 1 - k, k + 1 - 0, Or.inr ⟨rfl, by omega⟩, rfl, k, 0, _, rfl, hk, hc, F.trans a1.mo, M2, by rw [up_o _ _ (by decide)]; exact e0, by rw [up_o _ _ (by decide)]; exact e1, hj, hq, Or.inr ⟨rfl, rfl, rfl, by omega, by omega, by rw [up_s]; rfl, by rw [mirS]; decide⟩⟩
    rcases m_cu1 hcu with ⟨rfl, rfl⟩ | hcu
    · obtain ⟨rfl, rfl, hkl, hjk, hz, hzb⟩ : b9 = k + 1 - j ∧ vs = [.inr (.inr 528), .inl c, .inl (nI k), .inl (nI j)] ∧ k ≤ l ∧ j ≤ k + 1 ∧ σ' 11 = mirS (moM J) c k j ∧ (mirS (moM J) c k j).natAbs ≤ j * 2 ^ 102 := by
        rcases hI with ⟨q, -⟩ | ⟨-, q⟩
        · exact absurd q (by decide)
        · exact q
      refine ⟨fun h => ?_, fun h => ?_⟩
      · have h : nI k < nI j := h
        rw [nI_ltI (by omega) (by omega)] at h
        obtain rfl : j = k + 1 := by omega
        have z11 := M 11 (by decide)
        rw [hz] at z11
        refine ⟨528, [.inl (nI 11), .inl (nI k)], rfl, rfl, 11, k, _, rfl, rfl, rfl, rfl, by decide, by omega, z11, fun hz2 => ⟨fun _ => ?_, fun r => absurd r (by decide)⟩, fun hz2 => ⟨fun r => absurd rfl r, fun _ => ?_⟩⟩
        · refine ⟨l + 1 - (k + 1), 100, Or.inl (by omega), rfl, k + 1, 0, σ', rfl, by omega, hc, F, M, e0, e1, fun a ha => by rw [uJ_a _ _ _ ha]; exact hj a ha, fun q hq2 => ?_, Or.inl ⟨rfl, rfl, by rw [← nI_1 k]⟩⟩
          by_cases r : q = k
          · subst r
            rw [uJ_s]
            exact ⟨rfl, hz2⟩
          · rw [uJ_k _ _ _ r]
            exact hq q (by omega)
        · exact hS _ (by unfold mirO; rw [if_neg (fun q => q hc), if_neg (fun q => hz2 (q k (by omega)))]) I1 J1 ⟨F, hj⟩ ⟨σ', M, e0, e1⟩
      · have h : ¬ nI k < nI j := h
        rw [nI_ltI (by omega) (by omega)] at h
        have es : nI k - nI j = nI (k - j) := pk_sub (by omega)
        have erm : nI j - nI j / 2 * 2 = nI (j % 2) := pk_rem (d := 2) (by omega) (by decide) (by decide)
        have jcl : (nI j).toNatClampNeg = j := nI_clamp (by omega)
        obtain ⟨gb, gn⟩ := gF_b hc (k := k) (j := j) (by omega) (by omega)
        have mb1 := hB j (by omega)
        refine ⟨rfl, jin (by omega), 528, [.inl (nI 2), .inr (.inl (J1 532 (nI j).toNatClampNeg))], rfl, rfl, 2, J1 532 (nI j).toNatClampNeg, rfl, rfl, rfl, rfl, by decide, by rw [jcl, eJ]; omega, fun I2 a1 a2 => ?_⟩
        rw [jcl, eJ] at a2
        have M2 := M.up a1 a2
        refine ⟨k, j, rfl, by omega, by omega, ?_⟩
        refine ⟨c.toInt64, k - j, congrArg (fun y => [Sum.inr (Sum.inl c.toInt64), Sum.inl y]) es, by omega, ?_⟩
        refine ⟨528, [.inl (nI 2), .inr (.inl (gF c k j))], rfl, rfl, 2, 3, gF c k j, _, rfl, rfl, rfl, rfl, by decide, by decide, by decide, M2, by omega, by rw [up_s]; omega, by decide, fun I3 F3 M3 => ?_⟩
        rw [up_s] at M3
        have z2 := M3 2 (by decide)
        rw [up_s] at z2
        have z11 := M3 11 (by decide)
        rw [up_o _ _ (by decide), up_o _ _ (by decide), up_o _ _ (by decide), up_o _ _ (by decide), hz] at z11
        have pb : ((J 532 j).toInt * (gF c k j).toInt).natAbs ≤ 2 ^ 102 := by
          have h1 : (J 532 j).toInt.natAbs ≤ 2 ^ 62 := by omega
          exact p2_mul h1 gb
        have b1 : (mirS (moM J) c k j).natAbs < 2 ^ (24 * 5) := by
          have : j * 2 ^ 102 ≤ 12 * 2 ^ 102 := Nat.mul_le_mul_right _ (by omega)
          omega
        have b2 : ((J 532 j).toInt * (gF c k j).toInt).natAbs < 2 ^ (24 * 5) := by omega
        have fin : ∀ tm : Int32, (tm = 1 ∨ tm = -1) → mirS (moM J) c k j + tm.toInt * ((J 532 j).toInt * (gF c k j).toInt) = mirS (moM J) c k (j + 1) → pt_madd shL rfL [.inr (.inr 528), .inl (nI 11), .inl (nI 2), .inl tm, .inl (nI 11)] I3 J1 (fun _ I4 J4 => ∃ a1 b1, (a1 < l + 1 - k ∨ a1 = l + 1 - k ∧ b1 < k + 1 - j) ∧ ([] : List mPV) = [] ∧ ∃ k' j' σ'', a1 = l + 1 - k' ∧ k' ≤ l + 1 ∧ win c.toInt 9 ∧ MO I I4 ∧ MS I4 σ'' ∧ σ'' 0 = σ 0 ∧ σ'' 1 = σ 1 ∧ (∀ a, a ≠ 535 → J4 a = J a) ∧ (∀ q, q < k' → J4 535 q = Int64.ofInt (mirS (moM J) c q (q + 1)) ∧ (mirS (moM J) c q (q + 1)).natAbs < 2 ^ 62) ∧ ((36 = 19 ∧ b1 = 100 ∧ ([.inr (.inr 528), .inl c, .inl (nI k), .inl (nI j + 1)] : List mPV) = [.inr (.inr 528), .inl c, .inl (nI k')]) ∨ (36 = 36 ∧ b1 = k' + 1 - j' ∧ ([.inr (.inr 528), .inl c, .inl (nI k), .inl (nI j + 1)] : List mPV) = [.inr (.inr 528), .inl c, .inl (nI k'), .inl (nI j')] ∧ k' ≤ l ∧ j' ≤ k' + 1 ∧ σ'' 11 = mirS (moM J) c k' j' ∧ (mirS (moM J) c k' j').natAbs ≤ j' * 2 ^ 102))) := by
          intro tm ht hv
          refine ⟨528, [.inl (nI 11), .inl (nI 2), .inl tm, .inl (nI 11)], rfl, rfl, 11, 2, 11, 5, _, _, tm, rfl, rfl, rfl, rfl, by decide, by decide, by decide, ht, z11, z2, b1, b2, by decide, fun I4 c1 c2 => ?_⟩
          have M4 := M3.up c1 c2
          refine ⟨l + 1 - k, k + 1 - (j + 1), Or.inr ⟨rfl, by omega⟩, rfl, k, j + 1, _, rfl, hk, hc, ((F.trans a1.mo).trans F3.mo).trans c1.mo, M4, ?_, ?_, hj, hq, Or.inr ⟨rfl, rfl, by rw [← nI_1 j], hkl, by omega, by rw [up_s]; exact hv, ?_⟩⟩
          · rw [up_o _ _ (by decide), up_o _ _ (by decide), up_o _ _ (by decide), up_o _ _ (by decide), up_o _ _ (by decide)]
            exact e0
          · rw [up_o _ _ (by decide), up_o _ _ (by decide), up_o _ _ (by decide), up_o _ _ (by decide), up_o _ _ (by decide)]
            exact e1
          · rw [← hv]
            have : (tm.toInt * ((J 532 j).toInt * (gF c k j).toInt)).natAbs = ((J 532 j).toInt * (gF c k j).toInt).natAbs := by
              rcases ht with rfl | rfl
              · rw [show (1 : Int32).toInt = 1 from rfl, Int.one_mul]
              · rw [show (-1 : Int32).toInt = -1 from rfl]
                omega
            rw [Nat.add_mul]
            omega
        refine ⟨show ¬ (2 : Int32) = 0 by decide, fun h2 => ?_, fun h2 => ?_⟩
        · have h2 : ¬ nI j - nI j / 2 * 2 = nI 0 := h2
          rw [erm, nI_eq (by omega) (by omega)] at h2
          refine fin (-1) (Or.inr rfl) ?_
          rw [mirS, if_neg h2, gn, show (-1 : Int32).toInt = -1 from rfl]
          unfold moM
          grind
        · have h2 : nI j - nI j / 2 * 2 = nI 0 := h2
          rw [erm, nI_eq (by omega) (by omega)] at h2
          refine fin 1 (Or.inl rfl) ?_
          rw [mirS, if_pos h2, show (1 : Int32).toInt = 1 from rfl, Int.one_mul]
          rfl
    · cases hcu

def pt_mcounted : mSH → mRF → mPT := m_pv 5 (fun sh rf d rest I J K => ∃ (wh n u v : Int32) (σ : Nat → Int), sh = shL ∧ rf = rfL ∧ d = 528 ∧ rest = [.inl wh, .inl n, .inl u, .inl v] ∧ MS I σ ∧ Out (if cOK wh.toInt n.toInt u.toInt v.toInt then .inr () else .inl (-2)) (fun r => K (some (.inl r)) I J) (∀ I1 J1, UpdM I J I1 J1 3 11 0 0 (fun k => csum (cwF wh n.toInt.toNat u.toInt.toNat v.toInt.toNat) k (n.toInt.toNat + 1)) → I1 533 = I 533 → I1 534 = I 534 → SlotsM I σ I1 → K (some (.inl (nI (cnz (cwF wh n.toInt.toNat u.toInt.toNat v.toInt.toNat) (n.toInt.toNat + 1))))) I1 J1))
theorem in_1 {c : Int32} {b : Int64} : ((1 : Int64).toInt ≤ c.toInt64.toInt ∧ c.toInt64.toInt ≤ b.toInt) ↔ (1 ≤ c.toInt ∧ c.toInt ≤ b.toInt) := by
  rw [Int32.toInt_toInt64, show (1 : Int64).toInt = 1 from rfl]
theorem cnz_le (f : Nat → Int64) : ∀ x, cnz f x ≤ x
  | 0 => Nat.le_refl 0
  | x + 1 => by
    have := cnz_le f x
    rw [cnz]
    split <;> omega
def coE (wh n u v : Int32) (I : mPI) (J : mPJ) (a9 pc : Nat) (vs st : List mPV) (I1 : mPI) (J1 : mPJ) : Prop := I1 = I ∧ J1 = J ∧ vs = [.inr (.inr 528), .inl wh, .inl n, .inl u, .inl v] ∧ ((pc = 121 ∧ a9 = 100 ∧ st = [.inl 1] ∧ cOK wh.toInt n.toInt u.toInt v.toInt) ∨ (pc = 121 ∧ a9 = 100 ∧ st = [.inl 0] ∧ ¬ cOK wh.toInt n.toInt u.toInt v.toInt) ∨ (pc = 33 ∧ a9 = 120 ∧ st = [] ∧ wh.toInt = 1 ∧ 1 ≤ n.toInt ∧ n.toInt ≤ 6) ∨ (pc = 45 ∧ a9 = 110 ∧ st = [] ∧ wh.toInt = 1 ∧ (1 ≤ n.toInt ∧ n.toInt ≤ 6) ∧ 1 ≤ u.toInt ∧ u.toInt ≤ 3) ∨ (pc = 83 ∧ a9 = 120 ∧ st = [] ∧ wh.toInt = 2 ∧ 1 ≤ n.toInt ∧ n.toInt ≤ 6) ∨ (pc = 95 ∧ a9 = 110 ∧ st = [] ∧ wh.toInt = 2 ∧ (1 ≤ n.toInt ∧ n.toInt ≤ 6) ∧ 1 ≤ u.toInt ∧ u.toInt ≤ 9))
def coL (wh n u v : Int32) (I : mPI) (J : mPJ) (a9 b9 pc : Nat) (vs st : List mPV) (I1 : mPI) (J1 : mPJ) : Prop := cOK wh.toInt n.toInt u.toInt v.toInt ∧ ∃ x, a9 = n.toInt.toNat + 1 - x ∧ x ≤ n.toInt.toNat + 1 ∧ vs = [.inr (.inr 528), .inl wh, .inl n, .inl u, .inl v, .inl (nI (cnz (cwF wh n.toInt.toNat u.toInt.toNat v.toInt.toNat) x)), .inl (nI x)] ∧ (∀ a, a ≠ 528 → I1 a = I a) ∧ I1 528 4 = 3 ∧ I1 528 5 = 11 ∧ I1 528 6 = 0 ∧ I1 528 7 = 0 ∧ (∀ a, a ≠ 532 → J1 a = J a) ∧ (∀ k, k < 12 → J1 532 k = csum (cwF wh n.toInt.toNat u.toInt.toNat v.toInt.toNat) k x) ∧ ((pc = 142 ∧ b9 = 5 ∧ st = []) ∨ (pc = 205 ∧ b9 = 2 ∧ x ≤ n.toInt.toNat ∧ st = [.inr (.inl (cwF wh n.toInt.toNat u.toInt.toNat v.toInt.toNat x))]))
theorem coE_of33 {wh n u v : Int32} {I : mPI} {J : mPJ} {a9 b9 : Nat} {vs st : List mPV} {I1 : mPI} {J1 : mPJ} (h : coE wh n u v I J a9 33 vs st I1 J1 ∨ coL wh n u v I J a9 b9 33 vs st I1 J1) : I1 = I ∧ J1 = J ∧ vs = [.inr (.inr 528), .inl wh, .inl n, .inl u, .inl v] ∧ a9 = 120 ∧ st = [] ∧ wh.toInt = 1 ∧ 1 ≤ n.toInt ∧ n.toInt ≤ 6 := by
  rcases h with ⟨h1, h2, h3, h⟩ | ⟨-, x, -, -, -, -, -, -, -, -, -, -, q⟩
  · refine ⟨h1, h2, h3, ?_⟩
    rcases h with ⟨q, h⟩ | ⟨q, h⟩ | ⟨q, h⟩ | ⟨q, h⟩ | ⟨q, h⟩ | ⟨q, h⟩
    · exact absurd q (by decide)
    · exact absurd q (by decide)
    · exact h
    · exact absurd q (by decide)
    · exact absurd q (by decide)
    · exact absurd q (by decide)
  · rcases q with ⟨q, -⟩ | ⟨q, -⟩ <;> exact absurd q (by decide)
theorem coE_of45 {wh n u v : Int32} {I : mPI} {J : mPJ} {a9 b9 : Nat} {vs st : List mPV} {I1 : mPI} {J1 : mPJ} (h : coE wh n u v I J a9 45 vs st I1 J1 ∨ coL wh n u v I J a9 b9 45 vs st I1 J1) : I1 = I ∧ J1 = J ∧ vs = [.inr (.inr 528), .inl wh, .inl n, .inl u, .inl v] ∧ a9 = 110 ∧ st = [] ∧ wh.toInt = 1 ∧ (1 ≤ n.toInt ∧ n.toInt ≤ 6) ∧ 1 ≤ u.toInt ∧ u.toInt ≤ 3 := by
  rcases h with ⟨h1, h2, h3, h⟩ | ⟨-, x, -, -, -, -, -, -, -, -, -, -, q⟩
  · refine ⟨h1, h2, h3, ?_⟩
    rcases h with ⟨q, h⟩ | ⟨q, h⟩ | ⟨q, h⟩ | ⟨q, h⟩ | ⟨q, h⟩ | ⟨q, h⟩
    · exact absurd q (by decide)
    · exact absurd q (by decide)
    · exact absurd q (by decide)
    · exact h
    · exact absurd q (by decide)
    · exact absurd q (by decide)
  · rcases q with ⟨q, -⟩ | ⟨q, -⟩ <;> exact absurd q (by decide)
theorem coE_of83 {wh n u v : Int32} {I : mPI} {J : mPJ} {a9 b9 : Nat} {vs st : List mPV} {I1 : mPI} {J1 : mPJ} (h : coE wh n u v I J a9 83 vs st I1 J1 ∨ coL wh n u v I J a9 b9 83 vs st I1 J1) : I1 = I ∧ J1 = J ∧ vs = [.inr (.inr 528), .inl wh, .inl n, .inl u, .inl v] ∧ a9 = 120 ∧ st = [] ∧ wh.toInt = 2 ∧ 1 ≤ n.toInt ∧ n.toInt ≤ 6 := by
  rcases h with ⟨h1, h2, h3, h⟩ | ⟨-, x, -, -, -, -, -, -, -, -, -, -, q⟩
  · refine ⟨h1, h2, h3, ?_⟩
    rcases h with ⟨q, h⟩ | ⟨q, h⟩ | ⟨q, h⟩ | ⟨q, h⟩ | ⟨q, h⟩ | ⟨q, h⟩
    · exact absurd q (by decide)
    · exact absurd q (by decide)
    · exact absurd q (by decide)
    · exact absurd q (by decide)
    · exact h
    · exact absurd q (by decide)
  · rcases q with ⟨q, -⟩ | ⟨q, -⟩ <;> exact absurd q (by decide)
theorem coE_of95 {wh n u v : Int32} {I : mPI} {J : mPJ} {a9 b9 : Nat} {vs st : List mPV} {I1 : mPI} {J1 : mPJ} (h : coE wh n u v I J a9 95 vs st I1 J1 ∨ coL wh n u v I J a9 b9 95 vs st I1 J1) : I1 = I ∧ J1 = J ∧ vs = [.inr (.inr 528), .inl wh, .inl n, .inl u, .inl v] ∧ a9 = 110 ∧ st = [] ∧ wh.toInt = 2 ∧ (1 ≤ n.toInt ∧ n.toInt ≤ 6) ∧ 1 ≤ u.toInt ∧ u.toInt ≤ 9 := by
  rcases h with ⟨h1, h2, h3, h⟩ | ⟨-, x, -, -, -, -, -, -, -, -, -, -, q⟩
  · refine ⟨h1, h2, h3, ?_⟩
    rcases h with ⟨q, h⟩ | ⟨q, h⟩ | ⟨q, h⟩ | ⟨q, h⟩ | ⟨q, h⟩ | ⟨q, h⟩
    · exact absurd q (by decide)
    · exact absurd q (by decide)
    · exact absurd q (by decide)
    · exact absurd q (by decide)
    · exact absurd q (by decide)
    · exact h
  · rcases q with ⟨q, -⟩ | ⟨q, -⟩ <;> exact absurd q (by decide)
theorem coE_of121 {wh n u v : Int32} {I : mPI} {J : mPJ} {a9 b9 : Nat} {vs st : List mPV} {I1 : mPI} {J1 : mPJ} (h : coE wh n u v I J a9 121 vs st I1 J1 ∨ coL wh n u v I J a9 b9 121 vs st I1 J1) : I1 = I ∧ J1 = J ∧ vs = [.inr (.inr 528), .inl wh, .inl n, .inl u, .inl v] ∧ a9 = 100 ∧ ((st = [.inl 1] ∧ cOK wh.toInt n.toInt u.toInt v.toInt) ∨ (st = [.inl 0] ∧ ¬ cOK wh.toInt n.toInt u.toInt v.toInt)) := by
  rcases h with ⟨h1, h2, h3, h⟩ | ⟨-, x, -, -, -, -, -, -, -, -, -, -, q⟩
  · refine ⟨h1, h2, h3, ?_⟩
    rcases h with ⟨q, h⟩ | ⟨q, h⟩ | ⟨q, h⟩ | ⟨q, h⟩ | ⟨q, h⟩ | ⟨q, h⟩
    · exact ⟨h.1, Or.inl h.2⟩
    · exact ⟨h.1, Or.inr h.2⟩
    · exact absurd q (by decide)
    · exact absurd q (by decide)
    · exact absurd q (by decide)
    · exact absurd q (by decide)
  · rcases q with ⟨q, -⟩ | ⟨q, -⟩ <;> exact absurd q (by decide)
theorem coL_of142 {wh n u v : Int32} {I : mPI} {J : mPJ} {a9 b9 : Nat} {vs st : List mPV} {I1 : mPI} {J1 : mPJ} (h : coE wh n u v I J a9 142 vs st I1 J1 ∨ coL wh n u v I J a9 b9 142 vs st I1 J1) : cOK wh.toInt n.toInt u.toInt v.toInt ∧ ∃ x, a9 = n.toInt.toNat + 1 - x ∧ x ≤ n.toInt.toNat + 1 ∧ vs = [.inr (.inr 528), .inl wh, .inl n, .inl u, .inl v, .inl (nI (cnz (cwF wh n.toInt.toNat u.toInt.toNat v.toInt.toNat) x)), .inl (nI x)] ∧ (∀ a, a ≠ 528 → I1 a = I a) ∧ I1 528 4 = 3 ∧ I1 528 5 = 11 ∧ I1 528 6 = 0 ∧ I1 528 7 = 0 ∧ (∀ a, a ≠ 532 → J1 a = J a) ∧ (∀ k, k < 12 → J1 532 k = csum (cwF wh n.toInt.toNat u.toInt.toNat v.toInt.toNat) k x) ∧ b9 = 5 ∧ st = [] := by
  rcases h with ⟨-, -, -, h⟩ | ⟨ok, x, b1, b2, b3, c1, c2, c3, c4, c5, c6, c7, q⟩
  · rcases h with ⟨q, -⟩ | ⟨q, -⟩ | ⟨q, -⟩ | ⟨q, -⟩ | ⟨q, -⟩ | ⟨q, -⟩ <;> exact absurd q (by decide)
  · refine ⟨ok, x, b1, b2, b3, c1, c2, c3, c4, c5, c6, c7, ?_⟩
    rcases q with ⟨q, h⟩ | ⟨q, h⟩
    · exact h
    · exact absurd q (by decide)
theorem coL_of205 {wh n u v : Int32} {I : mPI} {J : mPJ} {a9 b9 : Nat} {vs st : List mPV} {I1 : mPI} {J1 : mPJ} (h : coE wh n u v I J a9 205 vs st I1 J1 ∨ coL wh n u v I J a9 b9 205 vs st I1 J1) : cOK wh.toInt n.toInt u.toInt v.toInt ∧ ∃ x, a9 = n.toInt.toNat + 1 - x ∧ x ≤ n.toInt.toNat + 1 ∧ vs = [.inr (.inr 528), .inl wh, .inl n, .inl u, .inl v, .inl (nI (cnz (cwF wh n.toInt.toNat u.toInt.toNat v.toInt.toNat) x)), .inl (nI x)] ∧ (∀ a, a ≠ 528 → I1 a = I a) ∧ I1 528 4 = 3 ∧ I1 528 5 = 11 ∧ I1 528 6 = 0 ∧ I1 528 7 = 0 ∧ (∀ a, a ≠ 532 → J1 a = J a) ∧ (∀ k, k < 12 → J1 532 k = csum (cwF wh n.toInt.toNat u.toInt.toNat v.toInt.toNat) k x) ∧ b9 = 2 ∧ x ≤ n.toInt.toNat ∧ st = [.inr (.inl (cwF wh n.toInt.toNat u.toInt.toNat v.toInt.toNat x))] := by
  rcases h with ⟨-, -, -, h⟩ | ⟨ok, x, b1, b2, b3, c1, c2, c3, c4, c5, c6, c7, q⟩
  · rcases h with ⟨q, -⟩ | ⟨q, -⟩ | ⟨q, -⟩ | ⟨q, -⟩ | ⟨q, -⟩ | ⟨q, -⟩ <;> exact absurd q (by decide)
  · refine ⟨ok, x, b1, b2, b3, c1, c2, c3, c4, c5, c6, c7, ?_⟩
    rcases q with ⟨q, h⟩ | ⟨q, h⟩
    · exact absurd q (by decide)
    · exact h

def ct_X5_counted (sh : mSH) (rf : mRF) : Nat → Option (Nat × Bool × mPT) := fun k => match k with
  | 134 => some (3, false, pt_in sh rf)
  | 127 => some (2, true, pt_mbegin sh rf)
  | 157 => some (2, false, pt_mover sh rf)
  | 123 => some (2, false, pt_mpower sh rf)
  | 142 => some (3, true, pt_maddw sh rf)
  | _ => none
set_option maxRecDepth 20000 in
theorem ce_X5_counted : m_CE RX5 2 49 cX5_counted 10 ct_X5_counted := by
  intro p l e s m args below meth c Q D cs ad sh rf N hx hb hml hown hts hK hi hN k n vf pt h
  unfold ct_X5_counted at h
  split at h
  · cases h
    exact m_CG_S mt_X5_in hx hb hml hown hts hK hi hN (m_wck_ok (l := [(Cond.methodLink RX5 134 yX5_in, 748), (Cond.static yX5_in, 749), (Cond.initialized RX5, 62), (Cond.code yX5_in cX5_in 6 (some .boolean), 750)]) (by decide +kernel)) ⟨by decide +kernel, by decide +kernel, by decide +kernel⟩ ⟨Nat.le_of_ble_eq_true rfl, Nat.le_of_ble_eq_true rfl⟩
  · cases h
    exact m_CG_V mt_X5_begin hx hb hml hown hts hK hi hN (ci := 5) m_pv_rec rfl rfl (m_wck_ok (l := [(Cond.methodLink RX5 127 yX5_begin, 738), (Cond.instanceMethod yX5_begin, 740), (Cond.selects RX5 yX5_begin yX5_begin, 15), (Cond.initialized RX5, 62), (Cond.code yX5_begin cX5_begin 3 none, 741)]) (by decide +kernel)) ⟨rfl, by decide +kernel, by decide +kernel, by decide +kernel⟩ ⟨Nat.le_of_ble_eq_true rfl, Nat.le_of_ble_eq_true rfl⟩
  · cases h
    exact m_CG_S mt_X5_over hx hb hml hown hts hK hi hN (m_wck_ok (l := [(Cond.methodLink RX5 157 yX5_over, 778), (Cond.static yX5_over, 779), (Cond.initialized RX5, 62), (Cond.code yX5_over cX5_over 5 (some .long), 780)]) (by decide +kernel)) ⟨by decide +kernel, by decide +kernel, by decide +kernel⟩ ⟨Nat.le_of_ble_eq_true rfl, Nat.le_of_ble_eq_true rfl⟩
  · cases h
    exact m_CG_S mt_X5_power hx hb hml hown hts hK hi hN (m_wck_ok (l := [(Cond.methodLink RX5 123 yX5_power, 757), (Cond.static yX5_power, 758), (Cond.initialized RX5, 62), (Cond.code yX5_power cX5_power 6 (some .long), 759)]) (by decide +kernel)) ⟨by decide +kernel, by decide +kernel, by decide +kernel⟩ ⟨Nat.le_of_ble_eq_true rfl, Nat.le_of_ble_eq_true rfl⟩
  · cases h
    exact m_CG_V mt_X5_addWeight hx hb hml hown hts hK hi hN (ci := 5) m_pv_rec rfl rfl (m_wck_ok (l := [(Cond.methodLink RX5 142 yX5_addWeight, 753), (Cond.instanceMethod yX5_addWeight, 755), (Cond.selects RX5 yX5_addWeight yX5_addWeight, 16), (Cond.initialized RX5, 62), (Cond.code yX5_addWeight cX5_addWeight 5 none, 756)]) (by decide +kernel)) ⟨rfl, by decide +kernel, by decide +kernel, by decide +kernel⟩ ⟨Nat.le_of_ble_eq_true rfl, Nat.le_of_ble_eq_true rfl⟩
  · cases h
set_option maxHeartbeats 4000000 in
set_option maxRecDepth 100000 in
theorem mt_X5_counted : m_Mt yX5_counted cX5_counted 10 (some .int) 2 49 pt_mcounted := by
  refine m_methodG (fl := fl_X5) (kI := kI_X5) (kJ := kJ_X5) (ct := ct_X5_counted) (cd := cd_X5_counted) (cut := [(33, [0, 1, 2, 3, 4]), (45, [0, 1, 2, 3, 4]), (83, [0, 1, 2, 3, 4]), (95, [0, 1, 2, 3, 4]), (121, [0, 1, 2, 3, 4]), (142, [0, 1, 2, 3, 4, 6, 7]), (205, [0, 1, 2, 3, 4, 6, 7])]) (rk := 1) (fu := 120) (by decide +kernel) fl_X5_ok kI_X5_ok kJ_X5_ok ce_X5_counted rfl ck_X5_counted ⟨_, _, rfl, rfl⟩ ?_
  intro sh rf As I J K hpt
  obtain ⟨d, rest, rfl, hd, wh, n, u, v, σ, rfl, rfl, rfl, rfl, hM, hS, hU⟩ := hpt
  have l9 : (9 : Int64).toInt = 9 := rfl
  have l6 : (6 : Int64).toInt = 6 := rfl
  have l3 : (3 : Int64).toInt = 3 := rfl
  have w0 : wh = 0 ↔ wh.toInt = 0 := i_of (j := 0) (by decide)
  have w1 : wh = 1 ↔ wh.toInt = 1 := i_of (j := 1) (by decide)
  have w2 : wh = 2 ↔ wh.toInt = 2 := i_of (j := 2) (by decide)
  refine ⟨Nat.le_of_ble_eq_true rfl, fun a9 b9 pc vs st I1 J1 => coE wh n u v I J a9 pc vs st I1 J1 ∨ coL wh n u v I J a9 b9 pc vs st I1 J1, ?_, ?_⟩
  · refine ⟨fun h => ⟨fun h1 => ⟨fun h2 => ?_, fun h2 => ?_⟩, fun h1 => ?_⟩, fun h => ?_⟩
    · have h := mt w0.mpr h
      have h1 := mt w1.mpr h1
      have h2 := mt w2.mpr h2
      exact ⟨100, 0, Or.inl ⟨rfl, rfl, rfl, Or.inr (Or.inl ⟨rfl, rfl, rfl, fun q => by rcases q with q | q | q <;> omega⟩)⟩⟩
    · have h := mt w0.mpr h
      have h1 := mt w1.mpr h1
      have h2 := w2.mp h2
      refine ⟨n.toInt64, 1, 6, rfl, fun h3 => ?_, fun h3 => ?_⟩
      · have h3 := mt in_1.mpr (w_is0 h3)
        exact ⟨100, 0, Or.inl ⟨rfl, rfl, rfl, Or.inr (Or.inl ⟨rfl, rfl, rfl, fun q => by rcases q with q | q | q <;> omega⟩)⟩⟩
      · have h3 := in_1.mp (w_not0 h3)
        exact ⟨120, 0, Or.inl ⟨rfl, rfl, rfl, Or.inr (Or.inr (Or.inr (Or.inr (Or.inl ⟨rfl, rfl, rfl, h2, by omega⟩))))⟩⟩
    · have h := mt w0.mpr h
      have h1 := w1.mp h1
      refine ⟨n.toInt64, 1, 6, rfl, fun h3 => ?_, fun h3 => ?_⟩
      · have h3 := mt in_1.mpr (w_is0 h3)
        exact ⟨100, 0, Or.inl ⟨rfl, rfl, rfl, Or.inr (Or.inl ⟨rfl, rfl, rfl, fun q => by rcases q with q | q | q <;> omega⟩)⟩⟩
      · have h3 := in_1.mp (w_not0 h3)
        exact ⟨120, 0, Or.inl ⟨rfl, rfl, rfl, Or.inr (Or.inr (Or.inl ⟨rfl, rfl, rfl, h1, by omega⟩))⟩⟩
    · have h := w0.mp h
      refine ⟨n.toInt64, 1, 9, rfl, ?_⟩
      by_cases q : (1 : Int64).toInt ≤ n.toInt64.toInt ∧ n.toInt64.toInt ≤ (9 : Int64).toInt
      · rw [if_pos q]
        have q := in_1.mp q
        exact ⟨100, 0, Or.inl ⟨rfl, rfl, rfl, Or.inl ⟨rfl, rfl, rfl, Or.inl ⟨by omega, by omega, by omega⟩⟩⟩⟩
      · rw [if_neg q]
        have q := mt in_1.mpr q
        exact ⟨100, 0, Or.inl ⟨rfl, rfl, rfl, Or.inr (Or.inl ⟨rfl, rfl, rfl, fun q => by rcases q with q | q | q <;> omega⟩)⟩⟩
  · intro pc ks a9 b9 vs st I1 J1 hc hI
    rcases m_cu1 hc with ⟨rfl, rfl⟩ | hc
    · have hE := coE_of33 hI
      clear hI
      obtain ⟨rfl, rfl, rfl, rfl, rfl, h1, h3⟩ := hE
      refine ⟨u.toInt64, 1, 3, rfl, fun h4 => ?_, fun h4 => ?_⟩
      · have h4 := mt in_1.mpr (w_is0 h4)
        exact ⟨100, 0, Or.inl (by decide), Or.inl ⟨rfl, rfl, rfl, Or.inr (Or.inl ⟨rfl, rfl, rfl, fun q => by rcases q with q | q | q <;> omega⟩)⟩⟩
      · have h4 := in_1.mp (w_not0 h4)
        exact ⟨110, 0, Or.inl (by decide), Or.inl ⟨rfl, rfl, rfl, Or.inr (Or.inr (Or.inr (Or.inl ⟨rfl, rfl, rfl, h1, by omega, by omega⟩)))⟩⟩
    rcases m_cu1 hc with ⟨rfl, rfl⟩ | hc
    · have hE := coE_of45 hI
      clear hI
      obtain ⟨rfl, rfl, rfl, rfl, rfl, h1, h3, h4⟩ := hE
      refine ⟨v.toInt64, 1, 3, rfl, fun h5 => ?_, fun h5 => ?_⟩
      · have h5 := mt in_1.mpr (w_is0 h5)
        exact ⟨100, 0, Or.inl (by decide), Or.inl ⟨rfl, rfl, rfl, Or.inr (Or.inl ⟨rfl, rfl, rfl, fun q => by rcases q with q | q | q <;> omega⟩)⟩⟩
      · have h5 := in_1.mp (w_not0 h5)
        exact ⟨100, 0, Or.inl (by decide), Or.inl ⟨rfl, rfl, rfl, Or.inl ⟨rfl, rfl, rfl, Or.inr (Or.inl ⟨h1, by omega, by omega, by omega⟩)⟩⟩⟩
    rcases m_cu1 hc with ⟨rfl, rfl⟩ | hc
    · have hE := coE_of83 hI
      clear hI
      obtain ⟨rfl, rfl, rfl, rfl, rfl, h1, h3⟩ := hE
      refine ⟨u.toInt64, 1, 9, rfl, fun h4 => ?_, fun h4 => ?_⟩
      · have h4 := mt in_1.mpr (w_is0 h4)
        exact ⟨100, 0, Or.inl (by decide), Or.inl ⟨rfl, rfl, rfl, Or.inr (Or.inl ⟨rfl, rfl, rfl, fun q => by rcases q with q | q | q <;> omega⟩)⟩⟩
      · have h4 := in_1.mp (w_not0 h4)
        exact ⟨110, 0, Or.inl (by decide), Or.inl ⟨rfl, rfl, rfl, Or.inr (Or.inr (Or.inr (Or.inr (Or.inr ⟨rfl, rfl, rfl, h1, by omega, by omega⟩))))⟩⟩
    rcases m_cu1 hc with ⟨rfl, rfl⟩ | hc
    · have hE := coE_of95 hI
      clear hI
      obtain ⟨rfl, rfl, rfl, rfl, rfl, h1, h3, h4⟩ := hE
      refine ⟨v.toInt64, 1, 9, rfl, fun h5 => ?_, fun h5 => ⟨fun h6 => ?_, fun h6 => ?_⟩⟩
      · have h5 := mt in_1.mpr (w_is0 h5)
        exact ⟨100, 0, Or.inl (by decide), Or.inl ⟨rfl, rfl, rfl, Or.inr (Or.inl ⟨rfl, rfl, rfl, fun q => by rcases q with q | q | q <;> omega⟩)⟩⟩
      · have h5 := in_1.mp (w_not0 h5)
        have h6 : (u + v).toInt < n.toInt := Int32.lt_iff_toInt_lt.mp h6
        rw [i_addT (by omega) (by omega)] at h6
        exact ⟨100, 0, Or.inl (by decide), Or.inl ⟨rfl, rfl, rfl, Or.inr (Or.inl ⟨rfl, rfl, rfl, fun q => by rcases q with q | q | q <;> omega⟩)⟩⟩
      · have h5 := in_1.mp (w_not0 h5)
        have h6 : ¬ (u + v).toInt < n.toInt := mt Int32.lt_iff_toInt_lt.mpr h6
        rw [i_addT (by omega) (by omega)] at h6
        exact ⟨100, 0, Or.inl (by decide), Or.inl ⟨rfl, rfl, rfl, Or.inl ⟨rfl, rfl, rfl, Or.inr (Or.inr ⟨h1, by omega, by omega, by omega, by omega⟩)⟩⟩⟩
    rcases m_cu1 hc with ⟨rfl, rfl⟩ | hc
    · have hE := coE_of121 hI
      clear hI
      obtain ⟨rfl, rfl, rfl, rfl, hF⟩ := hE
      rcases hF with ⟨rfl, ok⟩ | ⟨rfl, nk⟩
      · refine ⟨fun _ => ⟨528, [.inl 3], rfl, rfl, 3, rfl, rfl, rfl, rfl, fun I2 J2 a1 a2 a3 a4 a5 a6 a7 => ?_⟩, fun q => absurd q (by decide)⟩
        have nb : n.toInt.toNat ≤ 9 := by rcases ok with q | q | q <;> omega
        exact ⟨n.toInt.toNat + 1 - 0, 5, Or.inl (by omega), Or.inr ⟨ok, 0, rfl, by omega, rfl, a1, a2, a3, a4, a5, a6, fun k hk => by rw [a7 k hk]; rfl, Or.inl ⟨rfl, rfl, rfl⟩⟩⟩
      · exact ⟨fun q => absurd rfl q, fun _ => hS _ (if_neg nk)⟩
    rcases m_cu1 hc with ⟨rfl, rfl⟩ | hc
    · have hE := coL_of142 hI
      clear hI
      obtain ⟨ok, x, rfl, hx, rfl, a1, a2, a3, a4, a5, a6, a7, rfl, rfl⟩ := hE
      have nb : n.toInt.toNat ≤ 9 ∧ 0 ≤ n.toInt := by rcases ok with q | q | q <;> omega
      have en : n = nI n.toInt.toNat := (i_nat nb.2).1
      have hln : n.toInt = (n.toInt.toNat : Int) := by omega
      refine ⟨fun h => ?_, fun h => ?_⟩
      · have h : n < nI x := h
        rw [nI_lt_i (by omega)] at h
        obtain rfl : x = n.toInt.toNat + 1 := by omega
        exact hU (if_pos ok) I1 J1 ⟨fun q h _ _ _ _ _ _ => a1 q h, a2, a3, a5, a4, fun q h _ => a6 q h, a7⟩ (a1 _ (by decide)) (a1 _ (by decide)) ⟨σ, hM.cg (a1 _ (by decide)) (a1 _ (by decide)) (a1 _ (by decide)), rfl, rfl⟩
      · have h : ¬ n < nI x := h
        rw [nI_lt_i (by omega)] at h
        have hxn : x ≤ n.toInt.toNat := by omega
        have fin : ∀ y, y = cwF wh n.toInt.toNat u.toInt.toNat v.toInt.toNat x → ∃ p q, (p < n.toInt.toNat + 1 - x ∨ p = n.toInt.toNat + 1 - x ∧ q < 5) ∧ (coE wh n u v I J p 205 [.inr (.inr 528), .inl wh, .inl n, .inl u, .inl v, .inl (nI (cnz (cwF wh n.toInt.toNat u.toInt.toNat v.toInt.toNat) x)), .inl (nI x)] [.inr (.inl y)] I1 J1 ∨ coL wh n u v I J p q 205 [.inr (.inr 528), .inl wh, .inl n, .inl u, .inl v, .inl (nI (cnz (cwF wh n.toInt.toNat u.toInt.toNat v.toInt.toNat) x)), .inl (nI x)] [.inr (.inl y)] I1 J1) := by
          intro y hy
          subst hy
          exact ⟨n.toInt.toNat + 1 - x, 2, Or.inr ⟨rfl, by decide⟩, Or.inr ⟨ok, x, rfl, hx, rfl, a1, a2, a3, a4, a5, a6, a7, Or.inr ⟨rfl, rfl, hxn, rfl⟩⟩⟩
        refine ⟨fun h2 => ⟨fun h3 => ?_, fun h3 => ?_⟩, fun h2 => ?_⟩
        · have h2 : ¬ wh = 0 := h2
          have h3 : ¬ wh = 1 := h3
          have g2 := mt w0.mpr h2
          have g3 := mt w1.mpr h3
          have hw : wh = 2 := by
            rw [w2]
            rcases ok with q | q | q <;> omega
          have g4 := w2.mp hw
          have ub : u.toInt.toNat ≤ 9 ∧ 0 ≤ u.toInt ∧ v.toInt.toNat ≤ 9 ∧ 0 ≤ v.toInt := by rcases ok with q | q | q <;> omega
          have eu : u = nI u.toInt.toNat := (i_nat ub.2.1).1
          have ev : v = nI v.toInt.toNat := (i_nat ub.2.2.2).1
          have es : n - nI x = nI (n.toInt.toNat - x) := by
            rw [en, nI_toInt (by omega)]
            exact pk_sub (by omega)
          refine ⟨u.toInt.toNat, x, congrArg (fun y => [Sum.inl y, Sum.inl (nI x)]) eu, by omega, by omega, v.toInt.toNat, n.toInt.toNat - x, ?_, by omega, by omega, fin _ ?_⟩
          · show [Sum.inl v, Sum.inl (n - nI x)] = _
            rw [es, ← ev]
          · unfold cwF
            rw [if_neg h3, if_pos hw]
        · have h2 : ¬ wh = 0 := h2
          have h3 : wh = 1 := h3
          have ub : u.toInt.toNat ≤ 9 ∧ 0 ≤ u.toInt ∧ v.toInt.toNat ≤ 9 ∧ 0 ≤ v.toInt := by
            have := w1.mp h3
            rcases ok with q | q | q <;> omega
          have eu : u = nI u.toInt.toNat := (i_nat ub.2.1).1
          have ev : v = nI v.toInt.toNat := (i_nat ub.2.2.2).1
          have es : n - nI x = nI (n.toInt.toNat - x) := by
            rw [en, nI_toInt (by omega)]
            exact pk_sub (by omega)
          refine ⟨n.toInt.toNat, x, congrArg (fun y => [Sum.inl y, Sum.inl (nI x)]) en, by omega, by omega, u.toInt64, x, rfl, by omega, v.toInt64, n.toInt.toNat - x, congrArg (fun y => [Sum.inr (Sum.inl v.toInt64), Sum.inl y]) es, by omega, fin _ ?_⟩
          unfold cwF
          rw [if_pos h3, ← eu, ← ev]
        · have h2 : wh = 0 := h2
          refine fin 1 ?_
          unfold cwF
          rw [if_neg (by rw [h2]; decide), if_neg (by rw [h2]; decide)]
    rcases m_cu1 hc with ⟨rfl, rfl⟩ | hc
    · have hE := coL_of205 hI
      clear hI
      obtain ⟨ok, x, rfl, hx, rfl, a1, a2, a3, a4, a5, a6, a7, rfl, hxn, rfl⟩ := hE
      refine ⟨528, [.inl (nI x), .inr (.inl (cwF wh n.toInt.toNat u.toInt.toNat v.toInt.toNat x))], rfl, rfl, nI x, _, rfl, rfl, rfl, rfl, fun J2 b1 b2 => ?_⟩
      have c6 : ∀ a, a ≠ 532 → J2 a = J a := fun a ha => (b1 a ha).trans (a6 a ha)
      have c7 : ∀ k, k < 12 → J2 532 k = csum (cwF wh n.toInt.toNat u.toInt.toNat v.toInt.toNat) k (x + 1) := fun k hk => by
        rw [b2 k hk, a7 k hk]
        rfl
      refine ⟨fun h => ?_, fun h => ?_⟩
      · have h : lg_cmp (cwF wh n.toInt.toNat u.toInt.toNat v.toInt.toNat x) 0 = 0 := h
        rw [lg_eq0] at h
        refine ⟨n.toInt.toNat + 1 - (x + 1), 5, Or.inl (by omega), Or.inr ⟨ok, x + 1, rfl, by omega, ?_, a1, a2, a3, a4, a5, c6, c7, Or.inl ⟨rfl, rfl, rfl⟩⟩⟩
        rw [cnz, if_pos h, ← nI_1 x]
        show ([.inr (.inr 528), .inl wh, .inl n, .inl u, .inl v, .inl (nI (cnz (cwF wh n.toInt.toNat u.toInt.toNat v.toInt.toNat) x) + 0), .inl (nI x + 1)] : List mPV) = _
        rw [Int32.add_zero]
        rfl
      · have h : ¬ lg_cmp (cwF wh n.toInt.toNat u.toInt.toNat v.toInt.toNat x) 0 = 0 := h
        rw [lg_eq0] at h
        refine ⟨n.toInt.toNat + 1 - (x + 1), 5, Or.inl (by omega), Or.inr ⟨ok, x + 1, rfl, by omega, ?_, a1, a2, a3, a4, a5, c6, c7, Or.inl ⟨rfl, rfl, rfl⟩⟩⟩
        rw [cnz, if_neg h, ← nI_1 x, ← nI_1 (cnz _ x)]
    · cases hc

