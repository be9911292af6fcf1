/-! ===== the reference: division, shortening, laying ===== -/
theorem bit_dig {I : mPI} {s n X j : Nat} (hz : ZR I s n X) (hj : j < 24 * n) : X / 2 ^ j % 2 = zd I s (j / 24) / 2 ^ (j % 24) % 2 := by
  have hq : j / 24 < n := by omega
  have h1 := dv_digit (B := 2 ^ 24) (g := lm I s n) (by decide) (fun i => lm_lt hz.1 i) (i := j / 24) (n := n) hq
  rw [lm_dv (Nat.le_refl _), hz.2] at h1
  have e : lm I s n (j / 24) = zd I s (j / 24) := if_pos hq
  rw [e, ← Nat.pow_mul] at h1
  have h2 : X / 2 ^ j = X / 2 ^ (24 * (j / 24)) / 2 ^ (j % 24) := by
    rw [Nat.div_div_eq_div_mul, ← Nat.pow_add]
    congr 2
    omega
  rw [h2, ← h1]
  generalize X / 2 ^ (24 * (j / 24)) = Y
  have hr : j % 24 < 24 := Nat.mod_lt _ (by decide)
  generalize j % 24 = r at hr
  have t1 : Nat.testBit (Y % 2 ^ 24) r = Nat.testBit Y r := by
    rw [Nat.testBit_mod_two_pow, decide_eq_true hr, Bool.true_and]
  rw [Nat.testBit_eq_decide_div_mod_eq, Nat.testBit_eq_decide_div_mod_eq] at t1
  have t2 := decide_eq_decide.mp t1
  omega
theorem blen_len {I : mPI} {s n X : Nat} (hz : ZR I s n X) : blen X ≤ 24 * n := by
  refine blen_le ?_
  have := dv_lt (B := 2 ^ 24) (g := zd I s) (n := n) hz.1.2.2
  rw [hz.2, ← Nat.pow_mul] at this
  exact this
def qSg (x : Int) (g : Nat) : Int := if x < 0 then -((x.natAbs / g : Nat) : Int) else ((x.natAbs / g : Nat) : Int)
def pt_mdivide : mSH → mRF → mPT := m_pv 5 (fun sh rf d rest I J K => ∃ (s g : Nat) (σ : Nat → Int), sh = shL ∧ rf = rfL ∧ d = 528 ∧ rest = [.inl (nI s)] ∧ s < 40 ∧ (s ≠ 7 ∧ s ≠ 9 ∧ s ≠ 10) ∧ MS I σ ∧ σ 7 = (g : Int) ∧ 0 < g ∧ g < 2 ^ (24 * 258) ∧ (σ s).natAbs < 2 ^ (24 * 258) ∧ ∀ I1 σ', MF I I1 → MS I1 σ' → (∀ q, q ≠ 9 → q ≠ 10 → q ≠ s → σ' q = σ q) → σ' s = qSg (σ s) g → K none I1 J)
def dIv (I : mPI) (J : mPJ) (σ : Nat → Int) (s : Nat) (I1 : mPI) (J1 : mPJ) (Q R : Nat) : Prop := J1 = J ∧ MF I I1 ∧ ∃ σ', MS I1 σ' ∧ (∀ q, q ≠ 9 → q ≠ 10 → σ' q = σ q) ∧ σ' 9 = (Q : Int) ∧ σ' 10 = (R : Int)
theorem dIv.c10 {I : mPI} {J : mPJ} {σ : Nat → Int} {s : Nat} {I1 I2 : mPI} {J1 : mPJ} {Q R R2 : Nat} (h : dIv I J σ s I1 J1 Q R) (hs : SF I1 I2 10) (hz : ZIs I2 10 (R2 : Int)) : dIv I J σ s I2 J1 Q R2 := by
  obtain ⟨h1, h2, σ', h3, h4, h5, h6⟩ := h
  exact ⟨h1, h2.trans hs.mf, up σ' 10 R2, h3.up hs hz, fun q q1 q2 => by rw [up_o _ _ q2]; exact h4 q q1 q2, by rw [up_o _ _ (by decide)]; exact h5, up_s _ _ _⟩
theorem dIv.c9 {I : mPI} {J : mPJ} {σ : Nat → Int} {s : Nat} {I1 I2 : mPI} {J1 : mPJ} {Q R Q2 : Nat} (h : dIv I J σ s I1 J1 Q R) (hs : SF I1 I2 9) (hz : ZIs I2 9 (Q2 : Int)) : dIv I J σ s I2 J1 Q2 R := by
  obtain ⟨h1, h2, σ', h3, h4, h5, h6⟩ := h
  exact ⟨h1, h2.trans hs.mf, up σ' 9 Q2, h3.up hs hz, fun q q1 q2 => by rw [up_o _ _ q1]; exact h4 q q1 q2, up_s _ _ _, by rw [up_o _ _ (by decide)]; exact h6⟩
theorem p258 {v : Nat} (h : v < 2 ^ (24 * 258)) : v < 2 ^ (24 * 259) := Nat.lt_of_lt_of_le h (Nat.pow_le_pow_right (by decide) (by decide))

def ct_X5_divide (sh : mSH) (rf : mRF) : Nat → Option (Nat × Bool × mPT) := fun k => match k with
  | 50 => some (3, true, pt_mset sh rf)
  | 97 => some (2, true, pt_mbits sh rf)
  | 94 => some (3, true, pt_mtwice sh rf)
  | 74 => some (3, true, pt_mcompare sh rf)
  | 77 => some (4, true, pt_mless sh rf)
  | 80 => some (2, true, pt_mcut sh rf)
  | 66 => some (3, true, pt_mcopy sh rf)
  | _ => none
set_option maxRecDepth 20000 in
theorem ce_X5_divide : m_CE RX5 2 49 cX5_divide 5 ct_X5_divide := by
  intro p l e s m args below meth c Q D cs ad sh rf N hx hb hml hown hts hK hi hN k n vf pt h
  unfold ct_X5_divide at h
  split at h
  · cases h
    exact m_CG_V mt_X5_set hx hb hml hown hts hK hi hN (ci := 5) m_pv_rec rfl rfl (m_wck_ok (l := [(Cond.methodLink RX5 50 yX5_set, 677), (Cond.instanceMethod yX5_set, 679), (Cond.selects RX5 yX5_set yX5_set, 14), (Cond.initialized RX5, 62), (Cond.code yX5_set cX5_set 7 none, 680)]) (by decide +kernel)) ⟨rfl, by decide +kernel, by decide +kernel, by decide +kernel⟩ ⟨Nat.le_of_ble_eq_true rfl, Nat.le_of_ble_eq_true rfl⟩
  · cases h
    exact m_CG_V mt_X5_bitsOf hx hb hml hown hts hK hi hN (ci := 5) m_pv_rec rfl rfl (m_wck_ok (l := [(Cond.methodLink RX5 97 yX5_bitsOf, 827), (Cond.instanceMethod yX5_bitsOf, 829), (Cond.selects RX5 yX5_bitsOf yX5_bitsOf, 27), (Cond.initialized RX5, 62), (Cond.code yX5_bitsOf cX5_bitsOf 3 (some .int), 830)]) (by decide +kernel)) ⟨rfl, by decide +kernel, by decide +kernel, by decide +kernel⟩ ⟨Nat.le_of_ble_eq_true rfl, Nat.le_of_ble_eq_true rfl⟩
  · cases h
    exact m_CG_V mt_X5_twice hx hb hml hown hts hK hi hN (ci := 5) m_pv_rec rfl rfl (m_wck_ok (l := [(Cond.methodLink RX5 94 yX5_twice, 863), (Cond.instanceMethod yX5_twice, 865), (Cond.selects RX5 yX5_twice yX5_twice, 34), (Cond.initialized RX5, 62), (Cond.code yX5_twice cX5_twice 6 none, 866)]) (by decide +kernel)) ⟨rfl, by decide +kernel, by decide +kernel, by decide +kernel⟩ ⟨Nat.le_of_ble_eq_true rfl, Nat.le_of_ble_eq_true rfl⟩
  · cases h
    exact m_CG_V mt_X5_compare hx hb hml hown hts hK hi hN (ci := 5) m_pv_rec rfl rfl (m_wck_ok (l := [(Cond.methodLink RX5 74 yX5_compare, 814), (Cond.instanceMethod yX5_compare, 816), (Cond.selects RX5 yX5_compare yX5_compare, 24), (Cond.initialized RX5, 62), (Cond.code yX5_compare cX5_compare 6 (some .int), 817)]) (by decide +kernel)) ⟨rfl, by decide +kernel, by decide +kernel, by decide +kernel⟩ ⟨Nat.le_of_ble_eq_true rfl, Nat.le_of_ble_eq_true rfl⟩
  · cases h
    exact m_CG_V mt_X5_less hx hb hml hown hts hK hi hN (ci := 5) m_pv_rec rfl rfl (m_wck_ok (l := [(Cond.methodLink RX5 77 yX5_less, 818), (Cond.instanceMethod yX5_less, 820), (Cond.selects RX5 yX5_less yX5_less, 25), (Cond.initialized RX5, 62), (Cond.code yX5_less cX5_less 8 none, 821)]) (by decide +kernel)) ⟨rfl, by decide +kernel, by decide +kernel, by decide +kernel⟩ ⟨Nat.le_of_ble_eq_true rfl, Nat.le_of_ble_eq_true rfl⟩
  · cases h
    exact m_CG_V mt_X5_cut hx hb hml hown hts hK hi hN (ci := 5) m_pv_rec rfl rfl (m_wck_ok (l := [(Cond.methodLink RX5 80 yX5_cut, 793), (Cond.instanceMethod yX5_cut, 795), (Cond.selects RX5 yX5_cut yX5_cut, 19), (Cond.initialized RX5, 62), (Cond.code yX5_cut cX5_cut 2 none, 796)]) (by decide +kernel)) ⟨rfl, by decide +kernel, by decide +kernel, by decide +kernel⟩ ⟨Nat.le_of_ble_eq_true rfl, Nat.le_of_ble_eq_true rfl⟩
  · cases h
    exact m_CG_V mt_X5_copy hx hb hml hown hts hK hi hN (ci := 5) m_pv_rec rfl rfl (m_wck_ok (l := [(Cond.methodLink RX5 66 yX5_copy, 797), (Cond.instanceMethod yX5_copy, 799), (Cond.selects RX5 yX5_copy yX5_copy, 20), (Cond.initialized RX5, 62), (Cond.code yX5_copy cX5_copy 4 none, 800)]) (by decide +kernel)) ⟨rfl, by decide +kernel, by decide +kernel, by decide +kernel⟩ ⟨Nat.le_of_ble_eq_true rfl, Nat.le_of_ble_eq_true rfl⟩
  · cases h
set_option maxHeartbeats 4000000 in
set_option maxRecDepth 100000 in
theorem mt_X5_divide : m_Mt yX5_divide cX5_divide 5 none 2 49 pt_mdivide := by
  refine m_methodG (fl := fl_X5) (kI := kI_X5) (kJ := kJ_X5) (ct := ct_X5_divide) (cd := cd_X5_divide) (cut := [(29, [0, 1, 2, 3]), (94, [0, 1, 2, 3, 4])]) (rk := 0) (fu := 120) (by decide +kernel) fl_X5_ok kI_X5_ok kJ_X5_ok ce_X5_divide rfl ck_X5_divide ⟨_, _, rfl, rfl⟩ ?_
  intro sh rf As I J K hpt
  obtain ⟨d, rest, rfl, hd, s, g, σ, rfl, rfl, rfl, rfl, hs, ⟨ns7, ns9, ns10⟩, hM, h7, hg, hg2, hx2, hK⟩ := hpt
  obtain ⟨X, hX⟩ : ∃ X, X = (σ s).natAbs := ⟨_, rfl⟩
  have hsg := (hM s hs)
  obtain ⟨n0, z0, t0, sg0⟩ := hsg
  rw [← hX] at z0 hx2
  have hbl := blen_len z0
  have hn0 := z0.1.2.1
  refine ⟨Nat.le_of_ble_eq_true rfl, fun a9 b9 pc vs st I1 J1 => st = [] ∧ ∃ i Q R, dIv I J σ s I1 J1 Q R ∧ R < g ∧ i ≤ blen X ∧ a9 = i + 1 ∧ ((pc = 29 ∧ b9 = 1 ∧ vs = [.inr (.inr 528), .inl (nI s), .inl (sgI (σ s)), .inl (nI i - 1)] ∧ Q * g + R = X / 2 ^ i) ∨ (pc = 94 ∧ b9 = 0 ∧ ∃ bt, bt ≤ 1 ∧ 0 < i ∧ vs = [.inr (.inr 528), .inl (nI s), .inl (sgI (σ s)), .inl (nI (i - 1)), .inl (nI bt)] ∧ (2 * Q + bt) * g + R = X / 2 ^ (i - 1))), ?_, ?_⟩
  · refine ⟨rfl, sin hs, 528, [.inl (nI 9), .inr (.inl 0)], rfl, rfl, 9, 0, rfl, rfl, rfl, rfl, by decide, by decide, fun I1 a1 a2 => ?_⟩
    have M1 := hM.up a1 a2
    refine ⟨528, [.inl (nI 10), .inr (.inl 0)], rfl, rfl, 10, 0, rfl, rfl, rfl, rfl, by decide, by decide, fun I2 b1 b2 => ?_⟩
    have M2 := M1.up b1 b2
    have zs := M2 s hs
    rw [up_o _ _ ns10, up_o _ _ ns9] at zs
    refine ⟨528, [.inl (nI s)], rfl, rfl, s, σ s, rfl, rfl, rfl, rfl, hs, zs, blen X + 1, 1, rfl, blen X, 0, 0, ⟨rfl, a1.mf.trans b1.mf, _, M2, fun q q1 q2 => ?_, ?_, up_s _ _ _⟩, hg, Nat.le_refl _, rfl, Or.inl ⟨rfl, rfl, ?_, ?_⟩⟩
    · rw [up_o _ _ q2, up_o _ _ q1]
    · rw [up_o _ _ (by decide), up_s]
      rfl
    · show ([.inr (.inr 528), .inl (nI s), .inl (I 531 (nI s).toNatClampNeg), .inl (nI (blen (σ s).natAbs) - 1)] : List mPV) = _
      rw [scl hs, sg0, hX]
    · rw [Nat.div_eq_of_lt (lt_blen X), Nat.zero_mul]
  · intro pc ks a9 b9 vs st I1 J1 hc hI
    obtain ⟨rfl, i, Q, R, hd1, hR, hi, rfl, hI⟩ := hI
    obtain ⟨g1, g2, σ', g3, g4, g5, g6⟩ := id hd1
    obtain ⟨n10, z10, t10, s10⟩ := g3.zr (s := 10) (by decide) g6
    have i10 := g3 10 (by decide)
    rw [g6] at i10
    have i9 := g3 9 (by decide)
    rw [g5] at i9
    obtain ⟨n7, z7, t7, s7⟩ := g3.zr (s := 7) (v := g) (by decide) (by rw [g4 7 (by decide) (by decide)]; exact h7)
    have i7 := g3 7 (by decide)
    rw [g4 7 (by decide) (by decide), h7] at i7
    have zs := g3 s hs
    rw [g4 s ns9 ns10] at zs
    obtain ⟨n1, zs1, zs2, zs3⟩ := zs
    rw [← hX] at zs1
    have hbl1 := blen_len zs1
    have hn1 := zs1.1.2.1
    rcases m_cu1 hc with ⟨rfl, rfl⟩ | hc
    · rcases hI with ⟨-, rfl, rfl, e4⟩ | ⟨q, -⟩
      · refine ⟨fun h => ?_, fun h => ?_⟩
        · have h : nI i - nI 1 < 0 := h
          have i0 : i = 0 := by
            rcases Nat.eq_zero_or_pos i with q | q
            · exact q
            · rw [pk_sub (by omega)] at h
              exact absurd h (nI_pos (by omega))
          subst i0
          rw [Nat.pow_zero, Nat.div_one] at e4
          have eQ : X / g = Q := by
            rw [← e4, Nat.mul_comm, Nat.mul_add_div hg, Nat.div_eq_of_lt hR, Nat.add_zero]
          obtain ⟨n9, w9⟩ := g3.wf (s := 9) (by decide)
          refine ⟨528, [.inl (nI 9), .inl (nI s)], rfl, rfl, 9, s, n9, rfl, rfl, rfl, rfl, by decide, hs, w9, fun I2 a1 a2 a3 a4 => ?_⟩
          have M2 := g3.cp (by decide) w9 a1 a2 a3 a4
          have zq := M2 s hs
          rw [up_s, g5] at zq
          have fin : ∀ sg : Int32, sg = sgI (qSg (σ s) g) → K none (m_uI I2 531 s sg) J1 := by
            intro sg hsg
            have hz3 : ZIs (m_uI I2 531 s sg) s (qSg (σ s) g) := zq.sgn (by unfold qSg; rw [← hX, eQ, Int.natAbs_natCast]; split <;> omega) hsg
            subst g1
            refine hK _ (up (up σ' s (Q : Int)) s (qSg (σ s) g)) ((g2.trans a1.mf).trans (sf_s _ s _).mf) ?_ (fun q q1 q2 q3 => ?_) (up_s _ _ _)
            · rw [← g5]
              exact M2.up (sf_s _ s _) hz3
            · rw [up_o _ _ q3, up_o _ _ q3]
              exact g4 q q1 q2
          obtain ⟨nq, zq1, zq2, zq3⟩ := zq
          rw [Int.natAbs_natCast] at zq1
          have hnq := zq1.1.2.1
          refine ⟨rfl, rfl, lin hs, fun h2 => ⟨sin hs, ?_⟩, fun h2 => ⟨sin hs, ?_⟩⟩
          · have h2 : ¬ I2 530 (nI s).toNatClampNeg = nI 0 := h2
            rw [scl hs, zq1.1.1, nI_eq (by omega) (by omega)] at h2
            have q0 : Q ≠ 0 := fun r => h2 ((ZIs.nat zq1 zq2).mpr r)
            show K none (m_uI I2 531 (nI s).toNatClampNeg (sgI (σ s))) J1
            rw [scl hs]
            refine fin _ ?_
            unfold qSg
            rw [← hX, eQ]
            rcases Int.lt_trichotomy (σ s) 0 with r | r | r
            · rw [if_pos r, sgI_n r, sgI_n (by omega)]
            · exfalso
              rw [r] at hX
              rw [hX] at eQ
              rw [← eQ] at q0
              exact q0 (Nat.zero_div g)
            · rw [if_neg (by omega), sgI_p r, sgI_p (by omega)]
          · have h2 : I2 530 (nI s).toNatClampNeg = nI 0 := h2
            rw [scl hs, zq1.1.1, nI_eq (by omega) (by omega)] at h2
            have q0 : Q = 0 := (ZIs.nat zq1 zq2).mp h2
            show K none (m_uI I2 531 (nI s).toNatClampNeg 0) J1
            rw [scl hs]
            refine fin _ ?_
            unfold qSg
            rw [← hX, eQ, q0]
            split <;> rfl
        · have i0 : 0 < i := by
            rcases Nat.eq_zero_or_pos i with q | q
            · rw [q] at h
              exact absurd (by decide) h
            · exact q
          obtain ⟨j, rfl⟩ : ∃ j, i = j + 1 := ⟨i - 1, by omega⟩
          have ej : nI (j + 1) - 1 = nI j := pk_sub (a := j + 1) (b := 1) (by omega)
          have hj : j < 24 * n1 := by omega
          have hq : j / 24 < n1 := by omega
          have ebit := bit_dig zs1 hj
          have hdig := zs1.1.2.2 (j / 24) hq
          have edv : (nI (j + 1) - 1) / 24 = nI (j / 24) := by
            rw [ej]
            exact pk_div (d := 24) (by omega) (by decide) (by decide)
          have erm : (nI (j + 1) - 1) - (nI (j + 1) - 1) / 24 * 24 = nI (j % 24) := by
            rw [ej]
            exact pk_rem (d := 24) (by omega) (by decide) (by decide)
          have hin : m_inb shL 529 0 ((260 : Int32) * nI s + (nI (j + 1) - 1) / 24) := by
            rw [edv]
            exact zin hs (by omega)
          have hdd : zd I1 s (j / 24) / 2 ^ (j % 24) ≤ zd I1 s (j / 24) := Nat.div_le_self _ _
          have ebv : (I1 529 ((260 : Int32) * nI s + (nI (j + 1) - 1) / 24).toNatClampNeg >>> (((nI (j + 1) - 1) - (nI (j + 1) - 1) / 24 * 24) &&& 31)) &&& 1 = nI (X / 2 ^ j % 2) := by
            rw [erm, edv, zrd I1 hs (by omega), i_sarn (by omega) (by omega), and1' (by omega), ebit]
          have hb1 : X / 2 ^ j % 2 ≤ 1 := by omega
          have hXj : X / 2 ^ (j + 1) = X / 2 ^ j / 2 := by rw [Nat.pow_succ, Nat.div_div_eq_div_mul]
          rw [hXj] at e4
          have hRb : R < 2 ^ (24 * 259) := p258 (Nat.lt_trans hR hg2)
          refine ⟨rfl, show ¬ (24 : Int32) = 0 by decide, hin, show ¬ (24 : Int32) = 0 by decide, 528, [.inl (nI 10), .inl ((I1 529 ((260 : Int32) * nI s + (nI (j + 1) - 1) / 24).toNatClampNeg >>> (((nI (j + 1) - 1) - (nI (j + 1) - 1) / 24 * 24) &&& 31)) &&& 1)], rfl, rfl, 10, R, X / 2 ^ j % 2, rfl, rfl, rfl, by rw [ebv], by decide, hb1, i10, hRb, fun I2 a1 a2 => ?_⟩
          have hd2 := hd1.c10 a1 a2
          have j7 := i7.sf a1 (by decide)
          have e5 : 2 * Q * g + (2 * R + X / 2 ^ j % 2) = X / 2 ^ j := by
            have : 2 * (Q * g + R) = 2 * (X / 2 ^ j / 2) := by rw [e4]
            rw [Nat.mul_assoc]
            omega
          refine ⟨528, [.inl (nI 10), .inl (nI 7)], rfl, rfl, 10, 7, _, _, rfl, rfl, rfl, rfl, by decide, by decide, a2, j7, ?_⟩
          rw [Int.natAbs_natCast, Int.natAbs_natCast]
          refine ⟨fun h2 => ?_, fun h2 => ?_⟩
          · have h2 : cmpN (2 * R + X / 2 ^ j % 2) g < 0 := h2
            have hlt : 2 * R + X / 2 ^ j % 2 < g := by
              unfold cmpN at h2
              by_cases q : 2 * R + X / 2 ^ j % 2 < g
              · exact q
              · rw [if_neg q] at h2
                split at h2 <;> exact absurd h2 (by decide)
            refine ⟨j + 1 + 1, 0, Or.inr ⟨rfl, by decide⟩, rfl, j + 1, Q, 2 * R + X / 2 ^ j % 2, hd2, hlt, hi, rfl, Or.inr ⟨rfl, rfl, 0, by omega, i0, ?_, ?_⟩⟩
            · rw [Nat.add_sub_cancel, ← ej]
              rfl
            · rw [Nat.add_sub_cancel, Nat.add_zero]
              exact e5
          · have h2 : ¬ cmpN (2 * R + X / 2 ^ j % 2) g < 0 := h2
            have hge : g ≤ 2 * R + X / 2 ^ j % 2 := by
              unfold cmpN at h2
              by_cases q : 2 * R + X / 2 ^ j % 2 < g
              · rw [if_pos q] at h2
                exact absurd (by decide) h2
              · omega
            obtain ⟨m10, y10, u10, v10⟩ := a2
            rw [Int.natAbs_natCast] at y10
            obtain ⟨m7, y7, u7, v7⟩ := j7
            rw [Int.natAbs_natCast] at y7
            have hlen : m7 ≤ m10 := ZIs.len (x := ((2 * R + X / 2 ^ j % 2 : Nat) : Int)) (y := (g : Int)) (by rw [Int.natAbs_natCast]; exact y10) (by rw [Int.natAbs_natCast]; exact y7) u7 (by rw [Int.natAbs_natCast, Int.natAbs_natCast]; exact hge)
            refine ⟨528, [.inl (nI 10), .inl (nI 7), .inl (nI 10)], rfl, rfl, 10, 7, 10, m10, m7, _, _, rfl, rfl, rfl, rfl, by decide, by decide, by decide, y10, y7, hlen, hge, fun I3 b1 b2 b3 => ?_⟩
            refine ⟨528, [.inl (nI 10)], rfl, rfl, 10, m10, ((2 * R + X / 2 ^ j % 2 - g : Nat) : Int), rfl, rfl, rfl, rfl, by decide, by rw [Int.natAbs_natCast]; exact b3, fun q => by omega, fun q => by rw [b2, v10]; exact sgI_p (by omega), fun I4 c1 c2 => ?_⟩
            refine ⟨j + 1 + 1, 0, Or.inr ⟨rfl, by decide⟩, rfl, j + 1, Q, 2 * R + X / 2 ^ j % 2 - g, hd2.c10 (b1.trans c1) c2, by omega, hi, rfl, Or.inr ⟨rfl, rfl, 1, by omega, i0, ?_, ?_⟩⟩
            · rw [Nat.add_sub_cancel, ← ej]
              rfl
            · rw [Nat.add_sub_cancel, Nat.add_mul, Nat.one_mul]
              omega
      · exact absurd q (by decide)
    · rcases m_cu1 hc with ⟨rfl, rfl⟩ | hc
      · rcases hI with ⟨q, -⟩ | ⟨-, rfl, bt, hbt, i0, rfl, e4⟩
        · exact absurd q (by decide)
        · have hQ : Q < 2 ^ (24 * 259) := by
            have h1 : X / 2 ^ (i - 1) ≤ X := Nat.div_le_self _ _
            have h2 : Q * 1 ≤ (2 * Q + bt) * g := Nat.mul_le_mul (by omega) hg
            exact p258 (by omega)
          refine ⟨528, [.inl (nI 9), .inl (nI bt)], rfl, rfl, 9, Q, bt, rfl, rfl, rfl, rfl, by decide, hbt, i9, hQ, fun I2 a1 a2 => ?_⟩
          refine ⟨i - 1 + 1, 1, Or.inl (by omega), rfl, i - 1, 2 * Q + bt, R, hd1.c9 a1 a2, hR, by omega, rfl, Or.inl ⟨rfl, rfl, ?_, e4⟩⟩
          exact congrArg (fun y => [Sum.inr (Sum.inr 528), Sum.inl (nI s), Sum.inl (sgI (σ s)), Sum.inl y]) (Int32.sub_eq_add_neg (nI (i - 1)) 1).symm
      · cases hc

