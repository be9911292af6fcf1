/-! ===== Hand: a fraction ===== -/
def HSh (sh : mSH) (rf : mRF) (h : Nat) : Prop := sh h = .inl 1 ∧ (∀ k, k < 4 → BSh sh rf (rf h k) 40) ∧ (∀ i j, i < 4 → j < 4 → rf h i = rf h j → i = j) ∧ BL sh rf
/-- nothing but the hand's own cells has changed -/
def HCh (rf : mRF) (I I1 : mPI) (h : Nat) : Prop := ∀ a, a ≠ h → (∀ k, k < 4 → a ≠ rf h k ∧ a ≠ rf (rf h k) 0) → I1 a = I a
/-- the hand holds the fraction U / L -/
def HIs (sh : mSH) (rf : mRF) (I : mPI) (h : Nat) (U L : Int) : Prop := ∃ u l : Int, BIs sh rf I (rf h 0) u ∧ BIs sh rf I (rf h 1) l ∧ 0 < l ∧ u * L = U * l ∧ (I h 4 = 0 ∨ I h 4 = 1 ∧ Nat.gcd u.natAbs l.natAbs = 1) ∧ u.natAbs < 2 ^ (32 * 38) ∧ l.natAbs < 2 ^ (32 * 38)
def sgA (z : Int) : Int32 := if z < 0 then 2 else if z = 0 then 0 else 1
theorem BIs.cap_lt {sh : mSH} {rf : mRF} {I : mPI} {b cap : Nat} {z : Int} (h : BIs sh rf I b z) (hb : BSh sh rf b cap) : z.natAbs < 2 ^ (32 * cap) := by
  obtain ⟨cap1, n, hB, h1, h2, h4, h5, h6⟩ := h
  obtain rfl := hB.cap hb
  rw [← h6]
  have a1 : dv (2 ^ 32) (bdg rf I b) n < (2 ^ 32) ^ n := dv_lt (fun i _ => bdg_lt rf I b i)
  rw [← Nat.pow_mul] at a1
  exact Nat.lt_of_lt_of_le a1 (Nat.pow_le_pow_right (by decide) (by omega))
theorem HSh.notbig {sh : mSH} {rf : mRF} {h b cap : Nat} (hh : HSh sh rf h) (hb : BSh sh rf b cap) : h ≠ b ∧ h ≠ rf b 0 := by
  refine ⟨fun e => ?_, fun e => ?_⟩
  · have := hb.1
    rw [← e, hh.1] at this
    cases this
  · have := hb.2.1
    rw [← e, hh.1] at this
    cases this
theorem odd_int {z : Int} {t y : Nat} (h : z.natAbs = 2 ^ t * (2 * y + 1)) : ∃ q : Int, z = 2 ^ t * q ∧ q.natAbs = 2 * y + 1 := by
  have hz : z ≠ 0 := by
    intro e
    rw [e] at h
    have h1 : 0 < 2 ^ t * (2 * y + 1) := Nat.mul_pos (Nat.two_pow_pos t) (by omega)
    have h2 : (0 : Int).natAbs = 0 := rfl
    omega
  refine ⟨z.sign * ((2 * y + 1 : Nat) : Int), ?_, ?_⟩
  · have e1 := Int.sign_mul_natAbs z
    have e2 : ((2 : Nat) : Int) = 2 := rfl
    rw [h, Int.natCast_mul, Int.natCast_pow, e2] at e1
    rw [Int.mul_left_comm]
    exact e1.symm
  · rw [Int.natAbs_mul, Int.natAbs_natCast]
    have : z.sign.natAbs = 1 := by
      rcases Int.lt_trichotomy z 0 with e | e | e
      · rw [Int.sign_eq_neg_one_of_neg e]; rfl
      · exact absurd e hz
      · rw [Int.sign_eq_one_of_pos e]; rfl
    rw [this, Nat.one_mul]
theorem gcd_odd2 {t m y : Nat} (hy : y % 2 = 1) : Nat.gcd (2 ^ t * m) y = Nat.gcd m y := by
  apply Nat.Coprime.gcd_mul_left_cancel
  apply Nat.Coprime.pow_left
  show Nat.gcd 2 y = 1
  rw [Nat.gcd_rec, hy]
  rfl
def pt_greatestOfOdd (sh : mSH) (rf : mRF) : mPT := fun As I J K => ∃ (f g : Nat) (x y : Int), As = [.inr (.inr f), .inr (.inr g)] ∧ f ≠ g ∧ BL sh rf ∧ BIs sh rf I f x ∧ BIs sh rf I g y ∧ x.natAbs % 2 = 1 ∧ y.natAbs % 2 = 1 ∧ blen x.natAbs + blen y.natAbs < 1000000 ∧ ∀ (r : Nat) (I1 : mPI) (v : Int), (r = f ∨ r = g) → BCh2 rf I I1 f g → BIs sh rf I1 r v → v.natAbs = Nat.gcd x.natAbs y.natAbs → K (some (.inr (.inr r))) I1 J
def gooInv (sh : mSH) (rf : mRF) (f g : Nat) (x y : Int) (I : mPI) (J : mPJ) : Nat → Nat → mCV := fun a b9 pc vs st I1 J1 => ∃ (gr sm s : Nat) (p q : Int), vs = [.inr (.inr gr), .inr (.inr sm), .inl (nI s)] ∧ st = [] ∧ J1 = J ∧ (gr = f ∧ sm = g ∨ gr = g ∧ sm = f) ∧ BCh2 rf I I1 f g ∧ BIs sh rf I1 gr p ∧ BIs sh rf I1 sm q ∧ p.natAbs % 2 = 1 ∧ q.natAbs % 2 = 1 ∧ Nat.gcd p.natAbs q.natAbs = Nat.gcd x.natAbs y.natAbs ∧ a = blen p.natAbs + blen q.natAbs ∧ s + a < 1000000 ∧ (pc = 7 ∧ b9 = 1 ∨ pc = 41 ∧ b9 = 0 ∧ q.natAbs < p.natAbs)
def ct_X1_greatestOfOdd (sh : mSH) (rf : mRF) : Nat → Option (Nat × Bool × mPT) := fun k => match k with
  | 77 => some (2, true, pt_compareSize sh rf)
  | 81 => some (2, true, pt_takeSize sh rf)
  | 54 => some (1, true, pt_twos sh rf)
  | 63 => some (2, true, pt_shiftRight sh rf)
  | _ => none
set_option maxRecDepth 20000 in
theorem ce_X1_greatestOfOdd : m_CE RX1 2 48 cX1_greatestOfOdd 7 ct_X1_greatestOfOdd := by
  intro p l e s m args below meth c Q D cs ad sh rf N hx hb hml hown hts hK hi hN k n vf pt h
  unfold ct_X1_greatestOfOdd at h
  split at h
  · cases h
    exact m_CG_V mt_X0_compareSize hx hb hml hown hts hK hi hN (ci := 0) m_pv_rec rfl rfl (m_wck_ok (l := [(Cond.methodLink RX1 77 yX0_compareSize, 592), (Cond.instanceMethod yX0_compareSize, 361), (Cond.selects RX0 yX0_compareSize yX0_compareSize, 362), (Cond.initialized RX0, 58), (Cond.code yX0_compareSize cX0_compareSize 3 (some .int), 363)]) (by decide +kernel)) ⟨rfl, by decide +kernel, by decide +kernel, by decide +kernel⟩ ⟨Nat.le_of_ble_eq_true rfl, Nat.le_of_ble_eq_true rfl⟩
  · cases h
    exact m_CG_V mt_X0_takeSize hx hb hml hown hts hK hi hN (ci := 0) m_pv_rec rfl rfl (m_wck_ok (l := [(Cond.methodLink RX1 81 yX0_takeSize, 593), (Cond.instanceMethod yX0_takeSize, 368), (Cond.selects RX0 yX0_takeSize yX0_takeSize, 369), (Cond.initialized RX0, 58), (Cond.code yX0_takeSize cX0_takeSize 5 none, 370)]) (by decide +kernel)) ⟨rfl, by decide +kernel, by decide +kernel, by decide +kernel⟩ ⟨Nat.le_of_ble_eq_true rfl, Nat.le_of_ble_eq_true rfl⟩
  · cases h
    exact m_CG_V mt_X0_twos hx hb hml hown hts hK hi hN (ci := 0) m_pv_rec rfl rfl (m_wck_ok (l := [(Cond.methodLink RX1 54 yX0_twos, 585), (Cond.instanceMethod yX0_twos, 541), (Cond.selects RX0 yX0_twos yX0_twos, 542), (Cond.initialized RX0, 58), (Cond.code yX0_twos cX0_twos 2 (some .int), 543)]) (by decide +kernel)) ⟨rfl, by decide +kernel, by decide +kernel, by decide +kernel⟩ ⟨Nat.le_of_ble_eq_true rfl, Nat.le_of_ble_eq_true rfl⟩
  · cases h
    exact m_CG_V mt_X0_shiftRight hx hb hml hown hts hK hi hN (ci := 0) m_pv_rec rfl rfl (m_wck_ok (l := [(Cond.methodLink RX1 63 yX0_shiftRight, 587), (Cond.instanceMethod yX0_shiftRight, 548), (Cond.selects RX0 yX0_shiftRight yX0_shiftRight, 549), (Cond.initialized RX0, 58), (Cond.code yX0_shiftRight cX0_shiftRight 8 none, 550)]) (by decide +kernel)) ⟨rfl, by decide +kernel, by decide +kernel, by decide +kernel⟩ ⟨Nat.le_of_ble_eq_true rfl, Nat.le_of_ble_eq_true rfl⟩
  · cases h
set_option maxHeartbeats 4000000 in
set_option maxRecDepth 100000 in
theorem mt_X1_greatestOfOdd : m_Mt yX1_greatestOfOdd cX1_greatestOfOdd 7 (some (.object "MomentDesk$Big")) 2 48 pt_greatestOfOdd := by
  refine m_methodG (fl := fl_X1) (kI := kI_X1) (kJ := kJ_X1) (ct := ct_X1_greatestOfOdd) (cd := cd_X1_greatestOfOdd) (cut := [(7, [2, 3, 4]), (41, [2, 3, 4])]) (rk := 4) (fu := 80) (by decide +kernel) fl_X1_ok kI_X1_ok kJ_X1_ok ce_X1_greatestOfOdd ⟨_, rfl, by first | exact Or.inl ⟨_, rfl⟩ | exact Or.inr ⟨_, rfl⟩⟩ ck_X1_greatestOfOdd ⟨_, _, rfl, rfl⟩ ?_
  intro sh rf As I J K hpt
  obtain ⟨f, g, x, y, rfl, hfg, hL, hx, hy, hox, hoy, hbl, hK⟩ := hpt
  obtain ⟨capf, hF⟩ := hx.sh
  obtain ⟨capg, hG⟩ := hy.sh
  refine ⟨Nat.le_of_ble_eq_true rfl, gooInv sh rf f g x y I J, ?_, ?_⟩
  · exact ⟨blen x.natAbs + blen y.natAbs, 1, f, g, 0, x, y, rfl, rfl, rfl, Or.inl ⟨rfl, rfl⟩, fun _ _ _ _ _ => rfl, hx, hy, hox, hoy, rfl, rfl, by omega, Or.inl ⟨rfl, rfl⟩⟩
  · intro pc ks a b9 vs st I1 J1 hc hI
    obtain ⟨gr, sm, s, p, q, rfl, rfl, rfl, hgs, hch, hp, hq, hop, hoq, hgcd, ha, hs, h5⟩ := hI
    obtain ⟨capp, hP⟩ := hp.sh
    obtain ⟨capq, hQ⟩ := hq.sh
    have hne : gr ≠ sm := by
      rcases hgs with ⟨rfl, rfl⟩ | ⟨rfl, rfl⟩
      · exact hfg
      · exact hfg.symm
    rcases m_cu1 hc with ⟨rfl, rfl⟩ | hc
    · obtain rfl : b9 = 1 := by omega
      refine ⟨fun h => ?_, fun h => ?_⟩
      · have h : nI 1000000 ≤ nI s := h
        have := (nI_leI (a := 1000000) (by decide) (by omega)).mp h
        omega
      · refine ⟨gr, [.inr (.inr sm)], rfl, hP.1, sm, p, q, rfl, hp, hq, fun h1 => ?_, fun h1 => ?_⟩
        · have h1 : ¬ cmpN p.natAbs q.natAbs = 0 := h1
          refine ⟨fun h2 => ?_, fun h2 => ?_⟩
          · have h2 : 0 ≤ cmpN p.natAbs q.natAbs := h2
            have hlt : q.natAbs < p.natAbs := by
              unfold cmpN at h1 h2
              rcases Nat.lt_or_ge p.natAbs q.natAbs with e | e
              · rw [if_pos e] at h2; exact absurd h2 (by decide)
              · rw [if_neg (by omega)] at h1
                rcases Nat.eq_or_lt_of_le e with e2 | e2
                · rw [if_pos e2.symm] at h1; exact absurd rfl h1
                · exact e2
            exact ⟨a, 0, Or.inr ⟨rfl, by omega⟩, gr, sm, s, p, q, rfl, rfl, rfl, hgs, hch, hp, hq, hop, hoq, hgcd, ha, hs, Or.inr ⟨rfl, rfl, hlt⟩⟩
          · have h2 : ¬ 0 ≤ cmpN p.natAbs q.natAbs := h2
            have hlt : p.natAbs < q.natAbs := by
              unfold cmpN at h2
              rcases Nat.lt_or_ge p.natAbs q.natAbs with e | e
              · exact e
              · rw [if_neg (by omega)] at h2
                split at h2 <;> exact absurd (by decide) h2
            exact ⟨a, 0, Or.inr ⟨rfl, by omega⟩, sm, gr, s, q, p, rfl, rfl, rfl, by rcases hgs with ⟨rfl, rfl⟩ | ⟨rfl, rfl⟩ <;> simp, hch, hq, hp, hoq, hop, by rw [Nat.gcd_comm]; exact hgcd, by omega, hs, Or.inr ⟨rfl, rfl, hlt⟩⟩
        · have h1 : cmpN p.natAbs q.natAbs = 0 := h1
          have he : p.natAbs = q.natAbs := by
            unfold cmpN at h1
            rcases Nat.lt_or_ge p.natAbs q.natAbs with e | e
            · rw [if_pos e] at h1; exact absurd h1 (by decide)
            · rw [if_neg (by omega)] at h1
              rcases Nat.eq_or_lt_of_le e with e2 | e2
              · exact e2.symm
              · rw [if_neg (by omega)] at h1; exact absurd h1 (by decide)
          refine hK sm I1 q (by rcases hgs with ⟨rfl, rfl⟩ | ⟨rfl, rfl⟩ <;> simp) hch hq ?_
          rw [← hgcd, he, Nat.gcd_self]
    rcases m_cu1 hc with ⟨rfl, rfl⟩ | hc
    · obtain ⟨rfl, hlt⟩ : b9 = 0 ∧ q.natAbs < p.natAbs := by
        rcases h5 with ⟨e, -⟩ | ⟨-, e1, e2⟩
        · cases e
        · exact ⟨e1, e2⟩
      refine ⟨gr, [.inr (.inr sm)], rfl, hP.1, sm, p, q, rfl, hL, hne.symm, hp, hq, by omega, fun I2 k1 k2 => ?_⟩
      have hq2 := hq.other hL hP hne.symm k1
      have hab : (if p < 0 then -((p.natAbs - q.natAbs : Nat) : Int) else ((p.natAbs - q.natAbs : Nat) : Int)).natAbs = p.natAbs - q.natAbs := by split <;> omega
      refine ⟨gr, [], rfl, hP.1, _, rfl, k2, fun e => ?_, fun t y0 hty ht => ?_⟩
      · exfalso
        rw [e] at hab
        have h2 : (0 : Int).natAbs = 0 := rfl
        omega
      · obtain ⟨q9, hq9, hq8⟩ := odd_int hty
        rw [hab] at hty
        refine ⟨gr, [.inl (nI t)], rfl, hP.1, t, _, q9, rfl, ht, k2, hq9, fun I3 k3 k4 => ?_⟩
        have hq3 := hq2.other hL hP hne.symm k3
        have ht1 : 1 ≤ t := by
          rcases Nat.eq_zero_or_pos t with e | e
          · rw [e] at hty
            omega
          · exact e
        have hle : 2 * (2 * y0 + 1) ≤ p.natAbs - q.natAbs := by
          rw [hty]
          exact Nat.mul_le_mul_right _ (by
            have : 2 ^ 1 ≤ 2 ^ t := Nat.pow_le_pow_right (by decide) ht1
            omega)
        have hb : blen q9.natAbs + 1 ≤ blen p.natAbs := by
          rw [hq8]
          have e1 := lt_blen p.natAbs
          have e2 : 1 ≤ blen p.natAbs := by
            rcases Nat.eq_zero_or_pos (blen p.natAbs) with e | e
            · rw [e] at e1; omega
            · exact e
          have e3 : 2 ^ blen p.natAbs = 2 * 2 ^ (blen p.natAbs - 1) := by
            rw [← Nat.pow_succ']
            congr 1
            omega
          have := blen_le (v := 2 * y0 + 1) (L := blen p.natAbs - 1) (by omega)
          omega
        refine ⟨blen q9.natAbs + blen q.natAbs, 1, Or.inl (by omega), gr, sm, s + 1, q9, q, by rw [← nI_1], rfl, rfl, hgs, ?_, k4, hq3, by omega, hoq, ?_, rfl, by omega, Or.inl ⟨rfl, rfl⟩⟩
        · intro c a1 a2 a3 a4
          have b1 : c ≠ gr ∧ c ≠ rf gr 0 := by
            rcases hgs with ⟨rfl, rfl⟩ | ⟨rfl, rfl⟩
            · exact ⟨a1, a2⟩
            · exact ⟨a3, a4⟩
          rw [k3 c b1.1 b1.2, k1 c b1.1 b1.2, hch c a1 a2 a3 a4]
        · rw [← hgcd, hq8]
          have e1 : Nat.gcd (p.natAbs - q.natAbs) q.natAbs = Nat.gcd p.natAbs q.natAbs := Nat.gcd_sub_self_left (by omega)
          rw [← e1, hty, gcd_odd2 hoq]
    · cases hc

def pt_signAnswer : mSH → mRF → mPT := m_pv 1 (fun sh rf h rest I J K => ∃ u : Int, rest = [] ∧ HSh sh rf h ∧ BIs sh rf I (rf h 0) u ∧ K (some (.inl (sgA u))) I J)
def pt_layWhole : mSH → mRF → mPT := m_pv 1 (fun sh rf h rest I J K => ∃ v : Int64, rest = [.inr (.inl v)] ∧ HSh sh rf h ∧ ∀ I1, HCh rf I I1 h → HIs sh rf I1 h v.toInt 1 → K (some (.inl (sgA v.toInt))) I1 J)
def pt_lay : mSH → mRF → mPT := m_pv 1 (fun sh rf h rest I J K => ∃ (f g : Nat) (U L : Int), rest = [.inr (.inr f), .inr (.inr g)] ∧ HSh sh rf h ∧ (∀ k, k < 4 → f ≠ rf h k ∧ g ≠ rf h k) ∧ BIs sh rf I f U ∧ BIs sh rf I g L ∧ U.natAbs < 2 ^ (32 * 38) ∧ L.natAbs < 2 ^ (32 * 38) ∧ L ≠ 0 ∧ ∀ I1, HCh rf I I1 h → HIs sh rf I1 h U L → K (some (.inl (sgA (U * L)))) I1 J)
def ct_X1_signAnswer (sh : mSH) (rf : mRF) : Nat → Option (Nat × Bool × mPT) := fun k => match k with
  | 45 => some (1, true, pt_signum sh rf)
  | _ => none
set_option maxRecDepth 20000 in
theorem ce_X1_signAnswer : m_CE RX1 1 20 cX1_signAnswer 2 ct_X1_signAnswer := by
  intro p l e s m args below meth c Q D cs ad sh rf N hx hb hml hown hts hK hi hN k n vf pt h
  unfold ct_X1_signAnswer at h
  split at h
  · cases h
    exact m_CG_V mt_X0_signum hx hb hml hown hts hK hi hN (ci := 0) m_pv_rec rfl rfl (m_wck_ok (l := [(Cond.methodLink RX1 45 yX0_signum, 412), (Cond.instanceMethod yX0_signum, 413), (Cond.selects RX0 yX0_signum yX0_signum, 414), (Cond.initialized RX0, 58), (Cond.code yX0_signum cX0_signum 1 (some .int), 415)]) (by decide +kernel)) ⟨rfl, by decide +kernel, by decide +kernel, by decide +kernel⟩ ⟨Nat.le_of_ble_eq_true rfl, Nat.le_of_ble_eq_true rfl⟩
  · cases h
set_option maxHeartbeats 4000000 in
set_option maxRecDepth 100000 in
theorem mt_X1_signAnswer : m_Mt yX1_signAnswer cX1_signAnswer 2 (some .int) 1 20 pt_signAnswer := by
  refine m_method0 80 (fl := fl_X1) (kI := kI_X1) (kJ := kJ_X1) (ct := ct_X1_signAnswer) (cd := cd_X1_signAnswer) (rk := 1) (by decide +kernel) fl_X1_ok kI_X1_ok kJ_X1_ok ce_X1_signAnswer rfl ck_X1_signAnswer ⟨_, _, rfl, rfl⟩ ?_
  intro sh rf As I J K hpt
  obtain ⟨h, rest, rfl, hh, u, rfl, hH, hu, hK⟩ := hpt
  have hU := hH.2.1 0 (by decide)
  refine ⟨Nat.le_of_ble_eq_true rfl, hh, rf h 0, [], rfl, hU.1, u, rfl, hu, fun h1 => ⟨fun h2 => ?_, fun h2 => ?_⟩, fun h1 => ?_⟩
  · have h1 : 0 ≤ sgI u := h1
    have h2 : sgI u ≤ 0 := h2
    have e : sgA u = 0 := by
      unfold sgI at h1 h2
      unfold sgA
      by_cases q : u < 0
      · rw [if_pos q] at h1; exact absurd h1 (by decide)
      · rw [if_neg q] at h2 ⊢
        by_cases q2 : u = 0
        · rw [if_pos q2]
        · rw [if_neg q2] at h2; exact absurd h2 (by decide)
    rw [e] at hK
    exact hK
  · have h1 : 0 ≤ sgI u := h1
    have h2 : ¬ sgI u ≤ 0 := h2
    have e : sgA u = 1 := by
      unfold sgI at h1 h2
      unfold sgA
      by_cases q : u < 0
      · rw [if_pos q] at h1; exact absurd h1 (by decide)
      · rw [if_neg q] at h2 ⊢
        by_cases q2 : u = 0
        · rw [if_pos q2] at h2; exact absurd (by decide) h2
        · rw [if_neg q2]
    rw [e] at hK
    exact hK
  · have h1 : ¬ 0 ≤ sgI u := h1
    have e : sgA u = 2 := by
      unfold sgI at h1
      unfold sgA
      by_cases q : u < 0
      · rw [if_pos q]
      · rw [if_neg q] at h1
        split at h1 <;> exact absurd (by decide) h1
    rw [e] at hK
    exact hK

theorem hand_40 {z : Int} (h : z.natAbs < 2 ^ (32 * 38)) : z.natAbs < 2 ^ (32 * 40) := Nat.lt_of_lt_of_le h (Nat.pow_le_pow_right (by decide) (by decide))
theorem hand_v (v : Int64) : v.toInt.natAbs < 2 ^ (32 * 38) := by
  have h1 := v.toInt_lt
  have h2 := v.le_toInt
  have h3 : v.toInt.natAbs < 2 ^ 64 := by omega
  exact Nat.lt_of_lt_of_le h3 (Nat.pow_le_pow_right (by decide) (by decide))
theorem HCh.of {rf : mRF} {I I1 : mPI} {h k : Nat} (hk : k < 4) (hc : BCh rf I I1 (rf h k)) : HCh rf I I1 h := fun a _ a2 => hc a (a2 k hk).1 (a2 k hk).2
theorem HCh.trans {rf : mRF} {I I1 I2 : mPI} {h : Nat} (h1 : HCh rf I I1 h) (h2 : HCh rf I1 I2 h) : HCh rf I I2 h := fun a a1 a2 => (h2 a a1 a2).trans (h1 a a1 a2)
theorem HCh.fld (rf : mRF) (I : mPI) (h k : Nat) (v : Int32) : HCh rf I (m_uI I h k v) h := fun _ a1 _ => uI_a _ _ _ a1
theorem BIs.fld {sh : mSH} {rf : mRF} {I : mPI} {h b k : Nat} {z : Int} {v : Int32} (hz : BIs sh rf I b z) (hh : HSh sh rf h) : BIs sh rf (m_uI I h k v) b z := by
  obtain ⟨cap, hB⟩ := hz.sh
  obtain ⟨n1, n2⟩ := hh.notbig hB
  exact hz.keep (uI_a _ _ _ n1.symm) (uI_a _ _ _ n2.symm)
def ct_X1_layWhole (sh : mSH) (rf : mRF) : Nat → Option (Nat × Bool × mPT) := fun k => match k with
  | 33 => some (2, true, pt_setLong sh rf)
  | 37 => some (1, true, pt_signAnswer sh rf)
  | _ => none
set_option maxRecDepth 20000 in
theorem ce_X1_layWhole : m_CE RX1 2 44 cX1_layWhole 3 ct_X1_layWhole := by
  intro p l e s m args below meth c Q D cs ad sh rf N hx hb hml hown hts hK hi hN k n vf pt h
  unfold ct_X1_layWhole at h
  split at h
  · cases h
    exact m_CG_V mt_X0_setLong hx hb hml hown hts hK hi hN (ci := 0) m_pv_rec rfl rfl (m_wck_ok (l := [(Cond.methodLink RX1 33 yX0_setLong, 175), (Cond.instanceMethod yX0_setLong, 176), (Cond.selects RX0 yX0_setLong yX0_setLong, 177), (Cond.initialized RX0, 58), (Cond.code yX0_setLong cX0_setLong 5 none, 178)]) (by decide +kernel)) ⟨rfl, by decide +kernel, by decide +kernel, by decide +kernel⟩ ⟨Nat.le_of_ble_eq_true rfl, Nat.le_of_ble_eq_true rfl⟩
  · cases h
    exact m_CG_V mt_X1_signAnswer hx hb hml hown hts hK hi hN (ci := 1) m_pv_rec rfl rfl (m_wck_ok (l := [(Cond.methodLink RX1 37 yX1_signAnswer, 408), (Cond.instanceMethod yX1_signAnswer, 409), (Cond.selects RX1 yX1_signAnswer yX1_signAnswer, 410), (Cond.initialized RX1, 61), (Cond.code yX1_signAnswer cX1_signAnswer 2 (some .int), 411)]) (by decide +kernel)) ⟨rfl, by decide +kernel, by decide +kernel, by decide +kernel⟩ ⟨Nat.le_of_ble_eq_true rfl, Nat.le_of_ble_eq_true rfl⟩
  · cases h
set_option maxHeartbeats 4000000 in
set_option maxRecDepth 100000 in
theorem mt_X1_layWhole : m_Mt yX1_layWhole cX1_layWhole 3 (some .int) 2 44 pt_layWhole := by
  refine m_method0 80 (fl := fl_X1) (kI := kI_X1) (kJ := kJ_X1) (ct := ct_X1_layWhole) (cd := cd_X1_layWhole) (rk := 1) (by decide +kernel) fl_X1_ok kI_X1_ok kJ_X1_ok ce_X1_layWhole rfl ck_X1_layWhole ⟨_, _, rfl, rfl⟩ ?_
  intro sh rf As I J K hpt
  obtain ⟨h, rest, rfl, hh, v, rfl, hH, hK⟩ := hpt
  have hU := hH.2.1 0 (by decide)
  have hLo := hH.2.1 1 (by decide)
  have hul : rf h 0 ≠ rf h 1 := fun e => absurd (hH.2.2.1 0 1 (by decide) (by decide) e) (by decide)
  refine ⟨Nat.le_of_ble_eq_true rfl, hh, rf h 0, _, rfl, hU.1, 40, v, rfl, hU, fun I1 k1 k2 => ?_⟩
  refine ⟨hh, rf h 1, _, rfl, hLo.1, 40, 1, rfl, hLo, fun I2 k3 k4 => ?_⟩
  have k5 := k2.other hH.2.2.2 hLo hul k3
  refine ⟨hh, Or.inr rfl, h, [], rfl, hh, v.toInt, rfl, hH, k5.fld hH, hK _ (((HCh.of (by decide) k1).trans (HCh.of (by decide) k3)).trans (HCh.fld rf I2 h 4 1)) ⟨v.toInt, 1, k5.fld hH, k4.fld hH, by decide, rfl, ⟨Or.inr ⟨uI_s _ _ _ _, Nat.gcd_one_right _⟩, hand_v v, by decide⟩⟩⟩

def ct_X1_lay (sh : mSH) (rf : mRF) : Nat → Option (Nat × Bool × mPT) := fun k => match k with
  | 41 => some (2, true, pt_setBig sh rf)
  | 45 => some (1, true, pt_signum sh rf)
  | 48 => some (1, true, pt_negate sh rf)
  | 37 => some (1, true, pt_signAnswer sh rf)
  | _ => none
set_option maxRecDepth 20000 in
theorem ce_X1_lay : m_CE RX1 2 81 cX1_lay 3 ct_X1_lay := by
  intro p l e s m args below meth c Q D cs ad sh rf N hx hb hml hown hts hK hi hN k n vf pt h
  unfold ct_X1_lay at h
  split at h
  · cases h
    exact m_CG_V mt_X0_setBig hx hb hml hown hts hK hi hN (ci := 0) m_pv_rec rfl rfl (m_wck_ok (l := [(Cond.methodLink RX1 41 yX0_setBig, 454), (Cond.instanceMethod yX0_setBig, 352), (Cond.selects RX0 yX0_setBig yX0_setBig, 353), (Cond.initialized RX0, 58), (Cond.code yX0_setBig cX0_setBig 2 none, 354)]) (by decide +kernel)) ⟨rfl, by decide +kernel, by decide +kernel, by decide +kernel⟩ ⟨Nat.le_of_ble_eq_true rfl, Nat.le_of_ble_eq_true rfl⟩
  · cases h
    exact m_CG_V mt_X0_signum hx hb hml hown hts hK hi hN (ci := 0) m_pv_rec rfl rfl (m_wck_ok (l := [(Cond.methodLink RX1 45 yX0_signum, 412), (Cond.instanceMethod yX0_signum, 413), (Cond.selects RX0 yX0_signum yX0_signum, 414), (Cond.initialized RX0, 58), (Cond.code yX0_signum cX0_signum 1 (some .int), 415)]) (by decide +kernel)) ⟨rfl, by decide +kernel, by decide +kernel, by decide +kernel⟩ ⟨Nat.le_of_ble_eq_true rfl, Nat.le_of_ble_eq_true rfl⟩
  · cases h
    exact m_CG_V mt_X0_negate hx hb hml hown hts hK hi hN (ci := 0) m_pv_rec rfl rfl (m_wck_ok (l := [(Cond.methodLink RX1 48 yX0_negate, 455), (Cond.instanceMethod yX0_negate, 456), (Cond.selects RX0 yX0_negate yX0_negate, 457), (Cond.initialized RX0, 58), (Cond.code yX0_negate cX0_negate 1 none, 458)]) (by decide +kernel)) ⟨rfl, by decide +kernel, by decide +kernel, by decide +kernel⟩ ⟨Nat.le_of_ble_eq_true rfl, Nat.le_of_ble_eq_true rfl⟩
  · cases h
    exact m_CG_V mt_X1_signAnswer hx hb hml hown hts hK hi hN (ci := 1) m_pv_rec rfl rfl (m_wck_ok (l := [(Cond.methodLink RX1 37 yX1_signAnswer, 408), (Cond.instanceMethod yX1_signAnswer, 409), (Cond.selects RX1 yX1_signAnswer yX1_signAnswer, 410), (Cond.initialized RX1, 61), (Cond.code yX1_signAnswer cX1_signAnswer 2 (some .int), 411)]) (by decide +kernel)) ⟨rfl, by decide +kernel, by decide +kernel, by decide +kernel⟩ ⟨Nat.le_of_ble_eq_true rfl, Nat.le_of_ble_eq_true rfl⟩
  · cases h
set_option maxHeartbeats 4000000 in
set_option maxRecDepth 100000 in
theorem mt_X1_lay : m_Mt yX1_lay cX1_lay 3 (some .int) 2 81 pt_lay := by
  refine m_method0 80 (fl := fl_X1) (kI := kI_X1) (kJ := kJ_X1) (ct := ct_X1_lay) (cd := cd_X1_lay) (rk := 1) (by decide +kernel) fl_X1_ok kI_X1_ok kJ_X1_ok ce_X1_lay rfl ck_X1_lay ⟨_, _, rfl, rfl⟩ ?_
  intro sh rf As I J K hpt
  obtain ⟨h, rest, rfl, hh, f, g, U, L, rfl, hH, hfg, hf, hg, hm1, hm2, hL0, hK⟩ := hpt
  have hU := hH.2.1 0 (by decide)
  have hLo := hH.2.1 1 (by decide)
  have hBL := hH.2.2.2
  have hul : rf h 0 ≠ rf h 1 := fun e => absurd (hH.2.2.1 0 1 (by decide) (by decide) e) (by decide)
  refine ⟨Nat.le_of_ble_eq_true rfl, hh, rf h 0, _, rfl, hU.1, 40, f, U, rfl, hU, hBL, (hfg 0 (by decide)).1, hf, hand_40 hm1, fun I1 k1 k2 => ?_⟩
  have hg1 := hg.other hBL hU (hfg 0 (by decide)).2 k1
  refine ⟨hh, rf h 1, _, rfl, hLo.1, 40, g, L, rfl, hLo, hBL, (hfg 1 (by decide)).2, hg1, hand_40 hm2, fun I2 k3 k4 => ?_⟩
  have k5 := k2.other hBL hLo hul k3
  refine ⟨hh, rf h 1, [], rfl, hLo.1, L, rfl, k4, fun h1 => ?_, fun h1 => ?_⟩
  · have h1 : 0 ≤ sgI L := h1
    have hpos : 0 < L := by
      unfold sgI at h1
      by_cases q : L < 0
      · rw [if_pos q] at h1; exact absurd h1 (by decide)
      · omega
    refine ⟨hh, Or.inl rfl, h, [], rfl, hh, U, rfl, hH, k5.fld hH, ?_⟩
    have e : sgA (U * L) = sgA U := by
      unfold sgA
      rcases Int.lt_trichotomy U 0 with q | q | q
      · rw [if_pos q, if_pos (Int.mul_neg_of_neg_of_pos q hpos)]
      · rw [q, Int.zero_mul]
      · have := Int.mul_pos q hpos
        rw [if_neg (by omega), if_neg (by omega), if_neg (by omega), if_neg (by omega)]
    rw [e] at hK
    exact hK _ (((HCh.of (by decide) k1).trans (HCh.of (by decide) k3)).trans (HCh.fld rf I2 h 4 0)) ⟨U, L, k5.fld hH, k4.fld hH, hpos, rfl, Or.inl (uI_s _ _ _ _), hm1, hm2⟩
  · have h1 : ¬ 0 ≤ sgI L := h1
    have hneg : L < 0 := by
      unfold sgI at h1
      by_cases q : L < 0
      · exact q
      · rw [if_neg q] at h1
        split at h1 <;> exact absurd (by decide) h1
    refine ⟨hh, rf h 0, [], rfl, hU.1, U, rfl, k5, fun I3 k6 k7 => ?_⟩
    have c6 : BCh rf I2 I3 (rf h 0) := fun a a1 _ => k6 a a1
    have k8 := k4.other hBL hU hul.symm c6
    refine ⟨hh, rf h 1, [], rfl, hLo.1, L, rfl, k8, fun I4 k9 k10 => ?_⟩
    have c9 : BCh rf I3 I4 (rf h 1) := fun a a1 _ => k9 a a1
    have k11 := k7.other hBL hLo hul c9
    refine ⟨hh, Or.inl rfl, h, [], rfl, hh, -U, rfl, hH, k11.fld hH, ?_⟩
    have e : sgA (U * L) = sgA (-U) := by
      unfold sgA
      rcases Int.lt_trichotomy U 0 with q | q | q
      · have := Int.mul_pos_of_neg_of_neg q hneg
        rw [if_neg (by omega), if_neg (by omega), if_neg (by omega), if_neg (by omega)]
      · rw [q, Int.zero_mul]
        rfl
      · have := Int.mul_neg_of_pos_of_neg q hneg
        rw [if_pos (by omega), if_pos (by omega)]
    rw [e] at hK
    exact hK _ (((((HCh.of (by decide) k1).trans (HCh.of (by decide) k3)).trans (HCh.of (by decide) c6)).trans (HCh.of (by decide) c9)).trans (HCh.fld rf I4 h 4 0)) ⟨-U, -L, k11.fld hH, k10.fld hH, by omega, by rw [Int.neg_mul, Int.mul_neg], Or.inl (uI_s _ _ _ _), by rw [Int.natAbs_neg]; exact hm1, by rw [Int.natAbs_neg]; exact hm2⟩

