/-! ===== the reference: common divisor, division, shortening ===== -/
theorem ZIs.sgn {I : mPI} {s : Nat} {z y : Int} {x : Int32} (h : ZIs I s z) (hy : y.natAbs = z.natAbs) (hx : x = sgI y) : ZIs (m_uI I 531 s x) s y := by
  obtain ⟨n, h1, h2, h3⟩ := h
  exact ⟨n, by rw [hy]; exact h1.sg, fun q => by rw [zd_s]; exact h2 q, by rw [uI_s]; exact hx⟩
theorem MS.zr {I : mPI} {σ : Nat → Int} {s v : Nat} (h : MS I σ) (hs : s < 40) (e : σ s = (v : Int)) : ∃ n, ZR I s n v ∧ (0 < n → zd I s (n - 1) ≠ 0) ∧ I 531 s = sgI (v : Int) := by
  obtain ⟨n, h1, h2, h3⟩ := h s hs
  rw [e] at h1 h3
  rw [Int.natAbs_natCast] at h1
  exact ⟨n, h1, h2, h3⟩
theorem cop2 {y : Nat} (h : y % 2 = 1) : Nat.gcd 2 y = 1 := by
  rw [Nat.gcd_rec, h]
  rfl
theorem gcd_ev {x y : Nat} (hx : x % 2 = 0) (hy : y % 2 = 0) : Nat.gcd x y = 2 * Nat.gcd (x / 2) (y / 2) := by
  have e1 : x = 2 * (x / 2) := by omega
  have e2 : y = 2 * (y / 2) := by omega
  rw [← Nat.gcd_mul_left, ← e1, ← e2]
theorem gcd_odd {x y : Nat} (h : x % 2 = 1 ∨ y % 2 = 1) : Nat.gcd x y % 2 = 1 := by
  rcases (show Nat.gcd x y % 2 = 0 ∨ Nat.gcd x y % 2 = 1 by omega) with q | q
  · have d : 2 ∣ Nat.gcd x y := Nat.dvd_of_mod_eq_zero q
    have d1 := Nat.dvd_trans d (Nat.gcd_dvd_left x y)
    have d2 := Nat.dvd_trans d (Nat.gcd_dvd_right x y)
    omega
  · exact q
theorem gcd_hl {x y : Nat} (h : Nat.gcd x y % 2 = 1) (hx : x % 2 = 0) : Nat.gcd (x / 2) y = Nat.gcd x y := by
  have hy : y % 2 = 1 := by
    rcases (show y % 2 = 0 ∨ y % 2 = 1 by omega) with q | q
    · rw [gcd_ev hx q] at h
      omega
    · exact q
  have e1 : x = 2 * (x / 2) := by omega
  have : Nat.gcd (2 * (x / 2)) y = Nat.gcd (x / 2) y := Nat.Coprime.gcd_mul_left_cancel (x / 2) (cop2 hy)
  rw [← e1] at this
  exact this.symm
theorem gcd_sb {x y : Nat} (h : y ≤ x) : Nat.gcd y (x - y) = Nat.gcd x y := by
  have e : Nat.gcd y (x - y + y) = Nat.gcd y (x - y) := Nat.gcd_add_self_right y (x - y)
  rw [Nat.sub_add_cancel h] at e
  rw [← e, Nat.gcd_comm]
abbrev nG (q : Nat) : Prop := q ≠ 7 ∧ q ≠ 8 ∧ q ≠ 10
def pt_mgcd : mSH → mRF → mPT := m_pv 5 (fun sh rf d rest I J K => ∃ (a b : Nat) (σ : Nat → Int), sh = shL ∧ rf = rfL ∧ d = 528 ∧ rest = [.inl (nI a), .inl (nI b)] ∧ a < 40 ∧ b < 40 ∧ nG a ∧ nG b ∧ MS I σ ∧ σ a ≠ 0 ∧ σ b ≠ 0 ∧ (σ a).natAbs < 2 ^ (24 * 258) ∧ ∀ I1 σ', MF I I1 → MS I1 σ' → (∀ q, nG q → σ' q = σ q) → σ' 7 = ((Nat.gcd (σ a).natAbs (σ b).natAbs : Nat) : Int) → K none I1 J)
def gIv (I : mPI) (J : mPJ) (σ : Nat → Int) (G : Nat) (I1 : mPI) (J1 : mPJ) (x y tw : Nat) : Prop := J1 = J ∧ MF I I1 ∧ ∃ σ', MS I1 σ' ∧ (∀ q, nG q → σ' q = σ q) ∧ σ' 7 = (x : Int) ∧ σ' 8 = (y : Int) ∧ 0 < x ∧ G = 2 ^ tw * Nat.gcd x y
theorem gIv.tw {I : mPI} {J : mPJ} {σ : Nat → Int} {G : Nat} {I1 : mPI} {J1 : mPJ} {x y tw : Nat} (h : gIv I J σ G I1 J1 x y tw) (hG : G < 2 ^ (24 * 258)) : tw < 6192 ∧ 2 ^ tw * Nat.gcd x y < 2 ^ (24 * 258) := by
  obtain ⟨-, -, σ', -, -, -, -, h1, h2⟩ := h
  rw [h2] at hG
  refine ⟨?_, hG⟩
  have : 2 ^ tw * 1 ≤ 2 ^ tw * Nat.gcd x y := Nat.mul_le_mul_left _ (Nat.gcd_pos_of_pos_left _ h1)
  have h3 : 2 ^ tw < 2 ^ 6192 := by
    rw [Nat.mul_one] at this
    exact Nat.lt_of_le_of_lt this hG
  exact (Nat.pow_lt_pow_iff_right (by decide)).mp h3
/-- slot 7 or 8 is changed -/
theorem gIv.ch7 {I : mPI} {J : mPJ} {σ : Nat → Int} {G : Nat} {I1 I2 : mPI} {J1 : mPJ} {x y tw x2 tw2 : Nat} (h : gIv I J σ G I1 J1 x y tw) (hs : SF I1 I2 7) (hz : ZIs I2 7 (x2 : Int)) (h0 : 0 < x2) (hG : 2 ^ tw * Nat.gcd x y = 2 ^ tw2 * Nat.gcd x2 y) : gIv I J σ G I2 J1 x2 y tw2 := by
  obtain ⟨h1, h2, σ', h3, h4, h5, h6, h7, h8⟩ := h
  exact ⟨h1, h2.trans hs.mf, up σ' 7 x2, h3.up hs hz, fun q hq => by rw [up_o _ _ hq.1]; exact h4 q hq, up_s _ _ _, by rw [up_o _ _ (by decide)]; exact h6, h0, h8.trans hG⟩
theorem gIv.ch8 {I : mPI} {J : mPJ} {σ : Nat → Int} {G : Nat} {I1 I2 : mPI} {J1 : mPJ} {x y tw y2 tw2 : Nat} (h : gIv I J σ G I1 J1 x y tw) (hs : SF I1 I2 8) (hz : ZIs I2 8 (y2 : Int)) (hG : 2 ^ tw * Nat.gcd x y = 2 ^ tw2 * Nat.gcd x y2) : gIv I J σ G I2 J1 x y2 tw2 := by
  obtain ⟨h1, h2, σ', h3, h4, h5, h6, h7, h8⟩ := h
  exact ⟨h1, h2.trans hs.mf, up σ' 8 y2, h3.up hs hz, fun q hq => by rw [up_o _ _ hq.2.1]; exact h4 q hq, by rw [up_o _ _ (by decide)]; exact h5, up_s _ _ _, h7, h8.trans hG⟩

def ct_X5_findCommon (sh : mSH) (rf : mRF) : Nat → Option (Nat × Bool × mPT) := fun k => match k with
  | 66 => some (3, true, pt_mcopy sh rf)
  | 87 => some (2, true, pt_mEven sh rf)
  | 91 => some (2, true, pt_mhalve sh rf)
  | 74 => some (3, true, pt_mcompare sh rf)
  | 77 => some (4, true, pt_mless sh rf)
  | 80 => some (2, true, pt_mcut sh rf)
  | 94 => some (3, true, pt_mtwice sh rf)
  | _ => none
set_option maxRecDepth 20000 in
theorem ce_X5_findCommon : m_CE RX5 2 49 cX5_findCommon 5 ct_X5_findCommon := by
  intro p l e s m args below meth c Q D cs ad sh rf N hx hb hml hown hts hK hi hN k n vf pt h
  unfold ct_X5_findCommon at h
  split at h
  · cases h
    exact m_CG_V mt_X5_copy hx hb hml hown hts hK hi hN (ci := 5) m_pv_rec rfl rfl (m_wck_ok (l := [(Cond.methodLink RX5 66 yX5_copy, 797), (Cond.instanceMethod yX5_copy, 799), (Cond.selects RX5 yX5_copy yX5_copy, 20), (Cond.initialized RX5, 62), (Cond.code yX5_copy cX5_copy 4 none, 800)]) (by decide +kernel)) ⟨rfl, by decide +kernel, by decide +kernel, by decide +kernel⟩ ⟨Nat.le_of_ble_eq_true rfl, Nat.le_of_ble_eq_true rfl⟩
  · cases h
    exact m_CG_V mt_X5_isEven hx hb hml hown hts hK hi hN (ci := 5) m_pv_rec rfl rfl (m_wck_ok (l := [(Cond.methodLink RX5 87 yX5_isEven, 855), (Cond.instanceMethod yX5_isEven, 857), (Cond.selects RX5 yX5_isEven yX5_isEven, 32), (Cond.initialized RX5, 62), (Cond.code yX5_isEven cX5_isEven 2 (some .boolean), 858)]) (by decide +kernel)) ⟨rfl, by decide +kernel, by decide +kernel, by decide +kernel⟩ ⟨Nat.le_of_ble_eq_true rfl, Nat.le_of_ble_eq_true rfl⟩
  · cases h
    exact m_CG_V mt_X5_halve hx hb hml hown hts hK hi hN (ci := 5) m_pv_rec rfl rfl (m_wck_ok (l := [(Cond.methodLink RX5 91 yX5_halve, 859), (Cond.instanceMethod yX5_halve, 861), (Cond.selects RX5 yX5_halve yX5_halve, 33), (Cond.initialized RX5, 62), (Cond.code yX5_halve cX5_halve 3 none, 862)]) (by decide +kernel)) ⟨rfl, by decide +kernel, by decide +kernel, by decide +kernel⟩ ⟨Nat.le_of_ble_eq_true rfl, Nat.le_of_ble_eq_true rfl⟩
  · cases h
    exact m_CG_V mt_X5_compare hx hb hml hown hts hK hi hN (ci := 5) m_pv_rec rfl rfl (m_wck_ok (l := [(Cond.methodLink RX5 74 yX5_compare, 814), (Cond.instanceMethod yX5_compare, 816), (Cond.selects RX5 yX5_compare yX5_compare, 24), (Cond.initialized RX5, 62), (Cond.code yX5_compare cX5_compare 6 (some .int), 817)]) (by decide +kernel)) ⟨rfl, by decide +kernel, by decide +kernel, by decide +kernel⟩ ⟨Nat.le_of_ble_eq_true rfl, Nat.le_of_ble_eq_true rfl⟩
  · cases h
    exact m_CG_V mt_X5_less hx hb hml hown hts hK hi hN (ci := 5) m_pv_rec rfl rfl (m_wck_ok (l := [(Cond.methodLink RX5 77 yX5_less, 818), (Cond.instanceMethod yX5_less, 820), (Cond.selects RX5 yX5_less yX5_less, 25), (Cond.initialized RX5, 62), (Cond.code yX5_less cX5_less 8 none, 821)]) (by decide +kernel)) ⟨rfl, by decide +kernel, by decide +kernel, by decide +kernel⟩ ⟨Nat.le_of_ble_eq_true rfl, Nat.le_of_ble_eq_true rfl⟩
  · cases h
    exact m_CG_V mt_X5_cut hx hb hml hown hts hK hi hN (ci := 5) m_pv_rec rfl rfl (m_wck_ok (l := [(Cond.methodLink RX5 80 yX5_cut, 793), (Cond.instanceMethod yX5_cut, 795), (Cond.selects RX5 yX5_cut yX5_cut, 19), (Cond.initialized RX5, 62), (Cond.code yX5_cut cX5_cut 2 none, 796)]) (by decide +kernel)) ⟨rfl, by decide +kernel, by decide +kernel, by decide +kernel⟩ ⟨Nat.le_of_ble_eq_true rfl, Nat.le_of_ble_eq_true rfl⟩
  · cases h
    exact m_CG_V mt_X5_twice hx hb hml hown hts hK hi hN (ci := 5) m_pv_rec rfl rfl (m_wck_ok (l := [(Cond.methodLink RX5 94 yX5_twice, 863), (Cond.instanceMethod yX5_twice, 865), (Cond.selects RX5 yX5_twice yX5_twice, 34), (Cond.initialized RX5, 62), (Cond.code yX5_twice cX5_twice 6 none, 866)]) (by decide +kernel)) ⟨rfl, by decide +kernel, by decide +kernel, by decide +kernel⟩ ⟨Nat.le_of_ble_eq_true rfl, Nat.le_of_ble_eq_true rfl⟩
  · cases h
set_option maxHeartbeats 4000000 in
set_option maxRecDepth 100000 in
theorem mt_X5_findCommon : m_Mt yX5_findCommon cX5_findCommon 5 none 2 49 pt_mgcd := by
  refine m_methodG (fl := fl_X5) (kI := kI_X5) (kJ := kJ_X5) (ct := ct_X5_findCommon) (cd := cd_X5_findCommon) (cut := [(32, [0, 3]), (68, [0, 3]), (78, [0, 3]), (96, [0, 3]), (190, [0, 3, 4])]) (rk := 0) (fu := 120) (by decide +kernel) fl_X5_ok kI_X5_ok kJ_X5_ok ce_X5_findCommon rfl ck_X5_findCommon ⟨_, _, rfl, rfl⟩ ?_
  intro sh rf As I J K hpt
  obtain ⟨d, rest, rfl, hd, a, b, σ, rfl, rfl, rfl, rfl, ha, hb, na, nb, hM, ha0, hb0, hab, hK⟩ := hpt
  obtain ⟨G, hGe⟩ : ∃ G, G = Nat.gcd (σ a).natAbs (σ b).natAbs := ⟨_, rfl⟩
  rw [← hGe] at hK
  have hG : G < 2 ^ (24 * 258) := by
    refine Nat.lt_of_le_of_lt ?_ hab
    rw [hGe]
    exact Nat.gcd_le_left _ (by omega)
  refine ⟨Nat.le_of_ble_eq_true rfl, fun a9 b9 pc vs st I1 J1 => st = [] ∧ ∃ x y tw, gIv I J σ G I1 J1 x y tw ∧ ((a9 = x + y + 7000 ∧ vs = [.inr (.inr 528), .inl (nI tw)] ∧ ((pc = 32 ∧ b9 = 5 ∧ 0 < y) ∨ (Nat.gcd x y % 2 = 1 ∧ ((pc = 68 ∧ b9 = 4) ∨ (0 < y ∧ ((pc = 78 ∧ b9 = 3) ∨ (pc = 96 ∧ b9 = 2 ∧ x % 2 = 1))))))) ∨ (pc = 190 ∧ ∃ k t, k ≤ t ∧ t < 6192 ∧ a9 = t - k ∧ y = 0 ∧ tw = t - k ∧ vs = [.inr (.inr 528), .inl (nI t), .inl (nI k)])), ?_, ?_⟩
  · obtain ⟨n1, w1⟩ := hM.wf ha
    refine ⟨528, [.inl (nI a), .inl (nI 7)], rfl, rfl, a, 7, n1, rfl, rfl, rfl, rfl, ha, by decide, w1, fun I1 a1 a2 a3 a4 => ?_⟩
    have M1 := hM.cp ha w1 a1 a2 a3 a4
    obtain ⟨n2, w2⟩ := M1.wf hb
    refine ⟨528, [.inl (nI b), .inl (nI 8)], rfl, rfl, b, 8, n2, rfl, rfl, rfl, rfl, hb, by decide, w2, fun I2 b1 b2 b3 b4 => ?_⟩
    have M2 := M1.cp hb w2 b1 b2 b3 b4
    rw [up_o σ _ nb.1] at M2
    have z7 := M2 7 (by decide)
    rw [up_o _ _ (by decide), up_s] at z7
    have y7 : ZIs (m_uI I2 531 7 1) 7 (((σ a).natAbs : Nat) : Int) := z7.sgn (Int.natAbs_natCast _) (sgI_p (by omega)).symm
    have M3 := M2.up (sf_s I2 7 1) y7
    have z8 := M3 8 (by decide)
    rw [up_o _ _ (by decide), up_s] at z8
    have y8 : ZIs (m_uI (m_uI I2 531 7 1) 531 8 1) 8 (((σ b).natAbs : Nat) : Int) := z8.sgn (Int.natAbs_natCast _) (sgI_p (by omega)).symm
    have M4 := M3.up (sf_s _ 8 1) y8
    refine ⟨rfl, sin (s := 7) (by decide), rfl, sin (s := 8) (by decide), (σ a).natAbs + (σ b).natAbs + 7000, 5, rfl, (σ a).natAbs, (σ b).natAbs, 0, ⟨rfl, ((a1.mf.trans b1.mf).trans (sf_s I2 7 1).mf).trans (sf_s _ 8 1).mf, _, M4, fun q hq => ?_, ?_, up_s _ _ _, by omega, by rw [Nat.pow_zero, Nat.one_mul]; exact hGe⟩, Or.inl ⟨rfl, rfl, Or.inl ⟨rfl, rfl, by omega⟩⟩⟩
    · rw [up_o _ _ hq.2.1, up_o _ _ hq.1, up_o _ _ hq.2.1, up_o _ _ hq.1]
    · rw [up_o _ _ (by decide), up_s]
  · intro pc ks a9 b9 vs st I1 J1 hc hI
    obtain ⟨rfl, x, y, tw, hg, hI⟩ := hI
    have htw := hg.tw hG
    obtain ⟨g1, g2, σ', g3, g4, g5, g6, g7, g8⟩ := id hg
    obtain ⟨n7, z7, t7, s7⟩ := g3.zr (s := 7) (by decide) g5
    obtain ⟨n8, z8, t8, s8⟩ := g3.zr (s := 8) (by decide) g6
    have i7 := g3 7 (by decide)
    rw [g5] at i7
    have i8 := g3 8 (by decide)
    rw [g6] at i8
    rcases m_cu1 hc with ⟨rfl, rfl⟩ | hc
    · rcases hI with ⟨rfl, rfl, ⟨-, rfl, hy⟩ | ⟨-, ⟨q, -⟩ | ⟨-, ⟨q, -⟩ | ⟨q, -⟩⟩⟩⟩ | ⟨q, -⟩
      · have go68 : Nat.gcd x y % 2 = 1 → ∃ a1 b1, (a1 < x + y + 7000 ∨ a1 = x + y + 7000 ∧ b1 < 5) ∧ ([] : List mPV) = [] ∧ ∃ x' y' tw', gIv I J σ G I1 J1 x' y' tw' ∧ ((a1 = x' + y' + 7000 ∧ ([.inr (.inr 528), .inl (nI tw)] : List mPV) = [.inr (.inr 528), .inl (nI tw')] ∧ (((68 : Nat) = 32 ∧ b1 = 5 ∧ 0 < y') ∨ (Nat.gcd x' y' % 2 = 1 ∧ (((68 : Nat) = 68 ∧ b1 = 4) ∨ (0 < y' ∧ (((68 : Nat) = 78 ∧ b1 = 3) ∨ ((68 : Nat) = 96 ∧ b1 = 2 ∧ x' % 2 = 1))))))) ∨ ((68 : Nat) = 190 ∧ ∃ k t, k ≤ t ∧ t < 6192 ∧ a1 = t - k ∧ y' = 0 ∧ tw' = t - k ∧ ([.inr (.inr 528), .inl (nI tw)] : List mPV) = [.inr (.inr 528), .inl (nI t), .inl (nI k)])) := fun q => ⟨x + y + 7000, 4, Or.inr ⟨rfl, by decide⟩, rfl, x, y, tw, hg, Or.inl ⟨rfl, rfl, Or.inr ⟨q, Or.inl ⟨rfl, rfl⟩⟩⟩⟩
        refine ⟨528, [.inl (nI 7)], rfl, rfl, 7, n7, x, rfl, rfl, rfl, rfl, by decide, z7, fun h => ?_, fun h => ⟨528, [.inl (nI 8)], rfl, rfl, 8, n8, y, rfl, rfl, rfl, rfl, by decide, z8, fun h2 => ?_, fun h2 => ?_⟩⟩
        · have h := w_is0 h
          exact go68 (gcd_odd (Or.inl (by omega)))
        · have h2 := w_is0 h2
          exact go68 (gcd_odd (Or.inr (by omega)))
        · have h := w_not0 h
          have h2 := w_not0 h2
          refine ⟨528, [.inl (nI 7)], rfl, rfl, 7, x, rfl, rfl, rfl, rfl, by decide, i7, fun I2 a1 a2 => ?_⟩
          have j8 := i8.sf a1 (by decide)
          refine ⟨528, [.inl (nI 8)], rfl, rfl, 8, y, rfl, rfl, rfl, rfl, by decide, j8, fun I3 b1 b2 => ?_⟩
          have hev := gcd_ev h h2
          refine ⟨x / 2 + y / 2 + 7000, 5, Or.inl (by omega), rfl, x / 2, y / 2, tw + 1, ⟨g1, (g2.trans a1.mf).trans b1.mf, _, (g3.up a1 a2).up b1 b2, fun q hq => ?_, ?_, up_s _ _ _, by omega, ?_⟩, Or.inl ⟨rfl, by rw [← nI_1 tw], Or.inl ⟨rfl, rfl, by omega⟩⟩⟩
          · rw [up_o _ _ hq.2.1, up_o _ _ hq.1]
            exact g4 q hq
          · rw [up_o _ _ (by decide), up_s]
          · rw [g8, hev, Nat.pow_succ, Nat.mul_assoc]
      · exact absurd q (by decide)
      · exact absurd q (by decide)
      · exact absurd q (by decide)
      · exact absurd q (by decide)
    · rcases m_cu1 hc with ⟨rfl, rfl⟩ | hc
      · rcases hI with ⟨rfl, rfl, ⟨q, -⟩ | ⟨hod, ⟨-, rfl⟩ | ⟨-, ⟨q, -⟩ | ⟨q, -⟩⟩⟩⟩ | ⟨q, -⟩
        · exact absurd q (by decide)
        · have hw8 := z8.1.2.1
          refine ⟨rfl, lin (s := 8) (by decide), fun h => ?_, fun h => ?_⟩
          · have h : I1 530 8 ≤ nI 0 := h
            rw [z8.1.1, nI_leI (by omega) (by omega)] at h
            have y0 : y = 0 := (ZIs.nat z8 t8).mp (by omega)
            subst y0
            rw [Nat.gcd_zero_right] at g8 htw
            exact ⟨tw - 0, 0, Or.inl (by omega), rfl, x, 0, tw, hg, Or.inr ⟨rfl, 0, tw, Nat.zero_le _, htw.1, rfl, rfl, rfl, rfl⟩⟩
          · have h : ¬ I1 530 8 ≤ nI 0 := h
            rw [z8.1.1, nI_leI (by omega) (by omega)] at h
            have y0 : y ≠ 0 := fun r => by
              have := (ZIs.nat z8 t8).mpr r
              omega
            exact ⟨x + y + 7000, 3, Or.inr ⟨rfl, by decide⟩, rfl, x, y, tw, hg, Or.inl ⟨rfl, rfl, Or.inr ⟨hod, Or.inr ⟨by omega, Or.inl ⟨rfl, rfl⟩⟩⟩⟩⟩
        · exact absurd q (by decide)
        · exact absurd q (by decide)
        · exact absurd q (by decide)
      · rcases m_cu1 hc with ⟨rfl, rfl⟩ | hc
        · rcases hI with ⟨rfl, rfl, ⟨q, -⟩ | ⟨hod, ⟨q, -⟩ | ⟨hy, ⟨-, rfl⟩ | ⟨q, -⟩⟩⟩⟩ | ⟨q, -⟩
          · exact absurd q (by decide)
          · exact absurd q (by decide)
          · refine ⟨528, [.inl (nI 7)], rfl, rfl, 7, n7, x, rfl, rfl, rfl, rfl, by decide, z7, fun h => ?_, fun h => ?_⟩
            · have h := w_is0 h
              exact ⟨x + y + 7000, 2, Or.inr ⟨rfl, by decide⟩, rfl, x, y, tw, hg, Or.inl ⟨rfl, rfl, Or.inr ⟨hod, Or.inr ⟨hy, Or.inr ⟨rfl, rfl, by omega⟩⟩⟩⟩⟩
            · have h := w_not0 h
              refine ⟨528, [.inl (nI 7)], rfl, rfl, 7, x, rfl, rfl, rfl, rfl, by decide, i7, fun I2 a1 a2 => ?_⟩
              have e := gcd_hl hod h
              exact ⟨x / 2 + y + 7000, 3, Or.inl (by omega), rfl, x / 2, y, tw, hg.ch7 a1 a2 (by omega) (by rw [e]), Or.inl ⟨rfl, rfl, Or.inr ⟨by rw [e]; exact hod, Or.inr ⟨hy, Or.inl ⟨rfl, rfl⟩⟩⟩⟩⟩
          · exact absurd q (by decide)
          · exact absurd q (by decide)
        · rcases m_cu1 hc with ⟨rfl, rfl⟩ | hc
          · rcases hI with ⟨rfl, rfl, ⟨q, -⟩ | ⟨hod, ⟨q, -⟩ | ⟨hy, ⟨q, -⟩ | ⟨-, rfl, hxo⟩⟩⟩⟩ | ⟨q, -⟩
            · exact absurd q (by decide)
            · exact absurd q (by decide)
            · exact absurd q (by decide)
            · refine ⟨528, [.inl (nI 8)], rfl, rfl, 8, n8, y, rfl, rfl, rfl, rfl, by decide, z8, fun h => ?_, fun h => ?_⟩
              · have h := w_is0 h
                refine ⟨528, [.inl (nI 7), .inl (nI 8)], rfl, rfl, 7, 8, x, y, rfl, rfl, rfl, rfl, by decide, by decide, i7, i8, ?_⟩
                rw [Int.natAbs_natCast, Int.natAbs_natCast]
                refine ⟨fun h2 => ?_, fun h2 => ?_⟩
                · have h2 : cmpN x y ≤ 0 := h2
                  have hle : x ≤ y := by
                    unfold cmpN at h2
                    by_cases q : x < y
                    · omega
                    · rw [if_neg q] at h2
                      by_cases q2 : x = y
                      · omega
                      · rw [if_neg q2] at h2
                        exact absurd h2 (by decide)
                  have hlen : n7 ≤ n8 := ZIs.len (x := (y : Int)) (y := (x : Int)) (by rw [Int.natAbs_natCast]; exact z8) (by rw [Int.natAbs_natCast]; exact z7) t7 (by rw [Int.natAbs_natCast, Int.natAbs_natCast]; exact hle)
                  refine ⟨528, [.inl (nI 8), .inl (nI 7), .inl (nI 8)], rfl, rfl, 8, 7, 8, n8, n7, y, x, rfl, rfl, rfl, rfl, by decide, by decide, by decide, z8, z7, hlen, hle, fun I2 a1 a2 a3 => ?_⟩
                  refine ⟨528, [.inl (nI 8)], rfl, rfl, 8, n8, ((y - x : Nat) : Int), rfl, rfl, rfl, rfl, by decide, by rw [Int.natAbs_natCast]; exact a3, fun q => by omega, fun q => by rw [a2, s8]; exact sgI_p (by omega), fun I3 b1 b2 => ?_⟩
                  have e : Nat.gcd x (y - x) = Nat.gcd x y := by rw [gcd_sb hle, Nat.gcd_comm]
                  exact ⟨x + (y - x) + 7000, 4, Or.inl (by omega), rfl, x, y - x, tw, hg.ch8 (a1.trans b1) b2 (by rw [e]), Or.inl ⟨rfl, rfl, Or.inr ⟨by rw [e]; exact hod, Or.inl ⟨rfl, rfl⟩⟩⟩⟩
                · have h2 : ¬ cmpN x y ≤ 0 := h2
                  have hlt : y < x := by
                    unfold cmpN at h2
                    by_cases q : x < y
                    · rw [if_pos q] at h2
                      exact absurd (by decide) h2
                    · rw [if_neg q] at h2
                      by_cases q2 : x = y
                      · rw [if_pos q2] at h2
                        exact absurd (by decide) h2
                      · omega
                  have hlen : n8 ≤ n7 := ZIs.len (x := (x : Int)) (y := (y : Int)) (by rw [Int.natAbs_natCast]; exact z7) (by rw [Int.natAbs_natCast]; exact z8) t8 (by rw [Int.natAbs_natCast, Int.natAbs_natCast]; omega)
                  refine ⟨528, [.inl (nI 7), .inl (nI 8), .inl (nI 7)], rfl, rfl, 7, 8, 7, n7, n8, x, y, rfl, rfl, rfl, rfl, by decide, by decide, by decide, z7, z8, hlen, by omega, fun I2 a1 a2 a3 => ?_⟩
                  refine ⟨528, [.inl (nI 7)], rfl, rfl, 7, n7, ((x - y : Nat) : Int), rfl, rfl, rfl, rfl, by decide, by rw [Int.natAbs_natCast]; exact a3, fun q => by omega, fun q => by rw [a2, s7]; exact sgI_p (by omega), fun I3 b1 b2 => ?_⟩
                  have M3 := g3.up (a1.trans b1) b2
                  obtain ⟨m7, w7⟩ := M3.wf (s := 7) (by decide)
                  refine ⟨528, [.inl (nI 7), .inl (nI 10)], rfl, rfl, 7, 10, m7, rfl, rfl, rfl, rfl, by decide, by decide, w7, fun I4 c1 c2 c3 c4 => ?_⟩
                  have M4 := M3.cp (by decide) w7 c1 c2 c3 c4
                  obtain ⟨m8, w8⟩ := M4.wf (s := 8) (by decide)
                  refine ⟨528, [.inl (nI 8), .inl (nI 7)], rfl, rfl, 8, 7, m8, rfl, rfl, rfl, rfl, by decide, by decide, w8, fun I5 d1 d2 d3 d4 => ?_⟩
                  have M5 := M4.cp (by decide) w8 d1 d2 d3 d4
                  obtain ⟨m10, w10⟩ := M5.wf (s := 10) (by decide)
                  refine ⟨528, [.inl (nI 10), .inl (nI 8)], rfl, rfl, 10, 8, m10, rfl, rfl, rfl, rfl, by decide, by decide, w10, fun I6 e1 e2 e3 e4 => ?_⟩
                  have M6 := M5.cp (by decide) w10 e1 e2 e3 e4
                  have e : Nat.gcd y (x - y) = Nat.gcd x y := gcd_sb (by omega)
                  refine ⟨y + (x - y) + 7000, 4, Or.inl (by omega), rfl, y, x - y, tw, ⟨g1, ((((g2.trans (a1.trans b1).mf).trans c1.mf).trans d1.mf).trans e1.mf), _, M6, fun q hq => ?_, ?_, ?_, hy, by rw [e]; exact g8⟩, Or.inl ⟨rfl, rfl, Or.inr ⟨by rw [e]; exact hod, Or.inl ⟨rfl, rfl⟩⟩⟩⟩
                  · rw [up_o _ _ hq.2.1, up_o _ _ hq.1, up_o _ _ hq.2.2, up_o _ _ hq.1]
                    exact g4 q hq
                  · rw [up_o _ _ (by decide), up_s, up_o _ _ (by decide), up_o _ _ (by decide)]
                    exact g6
                  · rw [up_s, up_o _ _ (by decide), up_s, up_s]
              · have h := w_not0 h
                refine ⟨528, [.inl (nI 8)], rfl, rfl, 8, y, rfl, rfl, rfl, rfl, by decide, i8, fun I2 a1 a2 => ?_⟩
                have e : Nat.gcd x (y / 2) = Nat.gcd x y := by
                  have hod2 := hod
                  rw [Nat.gcd_comm] at hod2
                  rw [Nat.gcd_comm x (y / 2), gcd_hl hod2 h, Nat.gcd_comm]
                exact ⟨x + y / 2 + 7000, 2, Or.inl (by omega), rfl, x, y / 2, tw, hg.ch8 a1 a2 (by rw [e]), Or.inl ⟨rfl, rfl, Or.inr ⟨by rw [e]; exact hod, Or.inr ⟨by omega, Or.inr ⟨rfl, rfl, hxo⟩⟩⟩⟩⟩
            · exact absurd q (by decide)
          · rcases m_cu1 hc with ⟨rfl, rfl⟩ | hc
            · rcases hI with ⟨-, -, ⟨q, -⟩ | ⟨-, ⟨q, -⟩ | ⟨-, ⟨q, -⟩ | ⟨q, -⟩⟩⟩⟩ | ⟨-, k, t, hkt, ht, rfl, rfl, rfl, rfl⟩
              · exact absurd q (by decide)
              · exact absurd q (by decide)
              · exact absurd q (by decide)
              · exact absurd q (by decide)
              · have hGx := g8
                rw [Nat.gcd_zero_right] at hGx
                refine ⟨fun h => ?_, fun h => ?_⟩
                · have h : nI t ≤ nI k := h
                  rw [nI_leI (by omega) (by omega)] at h
                  rw [show t - k = 0 by omega, Nat.pow_zero, Nat.one_mul] at hGx
                  subst g1
                  refine hK I1 σ' g2 g3 g4 ?_
                  rw [g5, hGx]
                · have h : ¬ nI t ≤ nI k := h
                  rw [nI_leI (by omega) (by omega)] at h
                  have hx : x < 2 ^ (24 * 259) := by
                    have h1 : 1 * x ≤ 2 ^ (t - k) * x := Nat.mul_le_mul_right _ (Nat.pow_pos (by decide))
                    rw [Nat.one_mul, ← hGx] at h1
                    exact Nat.lt_of_le_of_lt h1 (Nat.lt_of_lt_of_le hG (Nat.pow_le_pow_right (by decide) (by decide)))
                  refine ⟨528, [.inl (nI 7), .inl (nI 0)], rfl, rfl, 7, x, 0, rfl, rfl, rfl, rfl, by decide, by decide, i7, hx, fun I2 a1 a2 => ?_⟩
                  refine ⟨t - (k + 1), 0, Or.inl (by omega), rfl, 2 * x + 0, 0, t - (k + 1), hg.ch7 a1 a2 (by omega) ?_, Or.inr ⟨rfl, k + 1, t, by omega, ht, rfl, rfl, rfl, by rw [← nI_1 k]⟩⟩
                  rw [Nat.gcd_zero_right, Nat.gcd_zero_right, show t - k = t - (k + 1) + 1 by omega, Nat.pow_succ, Nat.mul_assoc]
                  rfl
            · cases hc

