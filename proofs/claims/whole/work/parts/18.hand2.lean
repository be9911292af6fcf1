/-! ===== Hand: lowest terms ===== -/
theorem gcd_parts {A B a b m n : Nat} (hA : A = 2 ^ a * m) (hB : B = 2 ^ b * n) (hm : m % 2 = 1) (hn : n % 2 = 1) (ho : A % 2 = 1 ∨ B % 2 = 1) : Nat.gcd A B = Nat.gcd m n := by
  have key : ∀ {X c k : Nat}, X = 2 ^ c * k → X % 2 = 1 → X = k := by
    intro X c k h1 h2
    rcases Nat.eq_zero_or_pos c with e | e
    · rw [h1, e]; simp
    · exfalso
      obtain ⟨d, rfl⟩ : ∃ d, c = d + 1 := ⟨c - 1, by omega⟩
      rw [Nat.pow_succ, Nat.mul_comm (2 ^ d) 2, Nat.mul_assoc] at h1
      omega
  rcases ho with e | e
  · rw [key hA e, hB, Nat.gcd_comm, gcd_odd2 hm, Nat.gcd_comm]
  · rw [key hB e, hA, gcd_odd2 hn]
theorem BIs.other2 {sh : mSH} {rf : mRF} {I I1 : mPI} {f g c capf capg : Nat} {z : Int} (hB : BL sh rf) (hf : BSh sh rf f capf) (hg : BSh sh rf g capg) (h : BIs sh rf I c z) (h1 : c ≠ f) (h2 : c ≠ g) (hc : BCh2 rf I I1 f g) : BIs sh rf I1 c z := by
  obtain ⟨cap2, n, a1, ar⟩ := id h
  exact h.keep (hc c h1 (a1.nex hf) h2 (a1.nex hg)) (hc (rf c 0) (fun e => hf.nex a1 e.symm) (fun e => h1 (hB c f a1.1 hf.1 e)) (fun e => hg.nex a1 e.symm) (fun e => h2 (hB c g a1.1 hg.1 e)))
theorem HSh.stay {sh : mSH} {rf : mRF} {I I1 : mPI} {h b cap : Nat} (hh : HSh sh rf h) (hb : BSh sh rf b cap) (hc : BCh rf I I1 b) : I1 h = I h := hc h (hh.notbig hb).1 (hh.notbig hb).2
def pt_bring : mSH → mRF → mPT := m_pv 1 (fun sh rf h rest I J K => ∃ u l : Int, rest = [] ∧ HSh sh rf h ∧ BIs sh rf I (rf h 0) u ∧ BIs sh rf I (rf h 1) l ∧ 0 < l ∧ ∀ I1, HCh rf I I1 h → I1 h = I h → BIs sh rf I1 (rf h 0) (u / ((Nat.gcd u.natAbs l.natAbs : Nat) : Int)) → BIs sh rf I1 (rf h 1) (l / ((Nat.gcd u.natAbs l.natAbs : Nat) : Int)) → K none I1 J)
def pt_lowestPart : mSH → mRF → mPT := m_pv 1 (fun sh rf h rest I J K => ∃ (wh : Int32) (U L : Int), rest = [.inl wh] ∧ HSh sh rf h ∧ L ≠ 0 ∧ HIs sh rf I h U L ∧ ∀ I1 (p q : Int), HCh rf I I1 h → HIs sh rf I1 h U L → BIs sh rf I1 (rf h 0) p → BIs sh rf I1 (rf h 1) q → 0 < q → Nat.gcd p.natAbs q.natAbs = 1 → p * L = U * q → K (some (.inr (.inr (if wh = 0 then rf h 0 else rf h 1)))) I1 J)
def ct_X1_bringToLowest (sh : mSH) (rf : mRF) : Nat → Option (Nat × Bool × mPT) := fun k => match k with
  | 45 => some (1, true, pt_signum sh rf)
  | 33 => some (2, true, pt_setLong sh rf)
  | 54 => some (1, true, pt_twos sh rf)
  | 57 => some (2, false, pt_min sh rf)
  | 63 => some (2, true, pt_shiftRight sh rf)
  | 41 => some (2, true, pt_setBig sh rf)
  | 66 => some (2, false, pt_greatestOfOdd sh rf)
  | 70 => some (1, true, pt_dropSign sh rf)
  | 73 => some (2, true, pt_divideByOdd sh rf)
  | _ => none
set_option maxRecDepth 20000 in
theorem ce_X1_bringToLowest : m_CE RX1 3 81 cX1_bringToLowest 3 ct_X1_bringToLowest := by
  intro p l e s m args below meth c Q D cs ad sh rf N hx hb hml hown hts hK hi hN k n vf pt h
  unfold ct_X1_bringToLowest at h
  split at h
  · cases h
    exact m_CG_V mt_X0_signum hx hb hml hown hts hK hi hN (ci := 0) m_pv_rec rfl rfl (m_wck_ok (l := [(Cond.methodLink RX1 45 yX0_signum, 412), (Cond.instanceMethod yX0_signum, 413), (Cond.selects RX0 yX0_signum yX0_signum, 414), (Cond.initialized RX0, 58), (Cond.code yX0_signum cX0_signum 1 (some .int), 415)]) (by decide +kernel)) ⟨rfl, by decide +kernel, by decide +kernel, by decide +kernel⟩ ⟨Nat.le_of_ble_eq_true rfl, Nat.le_of_ble_eq_true rfl⟩
  · cases h
    exact m_CG_V mt_X0_setLong hx hb hml hown hts hK hi hN (ci := 0) m_pv_rec rfl rfl (m_wck_ok (l := [(Cond.methodLink RX1 33 yX0_setLong, 175), (Cond.instanceMethod yX0_setLong, 176), (Cond.selects RX0 yX0_setLong yX0_setLong, 177), (Cond.initialized RX0, 58), (Cond.code yX0_setLong cX0_setLong 5 none, 178)]) (by decide +kernel)) ⟨rfl, by decide +kernel, by decide +kernel, by decide +kernel⟩ ⟨Nat.le_of_ble_eq_true rfl, Nat.le_of_ble_eq_true rfl⟩
  · cases h
    exact m_CG_V mt_X0_twos hx hb hml hown hts hK hi hN (ci := 0) m_pv_rec rfl rfl (m_wck_ok (l := [(Cond.methodLink RX1 54 yX0_twos, 585), (Cond.instanceMethod yX0_twos, 541), (Cond.selects RX0 yX0_twos yX0_twos, 542), (Cond.initialized RX0, 58), (Cond.code yX0_twos cX0_twos 2 (some .int), 543)]) (by decide +kernel)) ⟨rfl, by decide +kernel, by decide +kernel, by decide +kernel⟩ ⟨Nat.le_of_ble_eq_true rfl, Nat.le_of_ble_eq_true rfl⟩
  · cases h
    exact m_CG_min hx hb hml hown hts hK hi hN (m_wck_ok (l := [(Cond.methodLink RX1 57 Lib.Math.min.name, 586), (Cond.static Lib.Math.min.name, 335), (Cond.initialized "java/lang/Math", 59), (Cond.code Lib.Math.min.name Lib.Math.min.code 2 (some .int), 336)]) (by decide +kernel)) ⟨Nat.le_of_ble_eq_true rfl, Nat.le_of_ble_eq_true rfl⟩
  · cases h
    exact m_CG_V mt_X0_shiftRight hx hb hml hown hts hK hi hN (ci := 0) m_pv_rec rfl rfl (m_wck_ok (l := [(Cond.methodLink RX1 63 yX0_shiftRight, 587), (Cond.instanceMethod yX0_shiftRight, 548), (Cond.selects RX0 yX0_shiftRight yX0_shiftRight, 549), (Cond.initialized RX0, 58), (Cond.code yX0_shiftRight cX0_shiftRight 8 none, 550)]) (by decide +kernel)) ⟨rfl, by decide +kernel, by decide +kernel, by decide +kernel⟩ ⟨Nat.le_of_ble_eq_true rfl, Nat.le_of_ble_eq_true rfl⟩
  · cases h
    exact m_CG_V mt_X0_setBig hx hb hml hown hts hK hi hN (ci := 0) m_pv_rec rfl rfl (m_wck_ok (l := [(Cond.methodLink RX1 41 yX0_setBig, 454), (Cond.instanceMethod yX0_setBig, 352), (Cond.selects RX0 yX0_setBig yX0_setBig, 353), (Cond.initialized RX0, 58), (Cond.code yX0_setBig cX0_setBig 2 none, 354)]) (by decide +kernel)) ⟨rfl, by decide +kernel, by decide +kernel, by decide +kernel⟩ ⟨Nat.le_of_ble_eq_true rfl, Nat.le_of_ble_eq_true rfl⟩
  · cases h
    exact m_CG_S mt_X1_greatestOfOdd hx hb hml hown hts hK hi hN (m_wck_ok (l := [(Cond.methodLink RX1 66 yX1_greatestOfOdd, 588), (Cond.static yX1_greatestOfOdd, 589), (Cond.initialized RX1, 61), (Cond.code yX1_greatestOfOdd cX1_greatestOfOdd 7 (some (.object "MomentDesk$Big")), 590)]) (by decide +kernel)) ⟨by decide +kernel, by decide +kernel, by decide +kernel⟩ ⟨Nat.le_of_ble_eq_true rfl, Nat.le_of_ble_eq_true rfl⟩
  · cases h
    exact m_CG_V mt_X0_dropSign hx hb hml hown hts hK hi hN (ci := 0) m_pv_rec rfl rfl (m_wck_ok (l := [(Cond.methodLink RX1 70 yX0_dropSign, 594), (Cond.instanceMethod yX0_dropSign, 595), (Cond.selects RX0 yX0_dropSign yX0_dropSign, 596), (Cond.initialized RX0, 58), (Cond.code yX0_dropSign cX0_dropSign 1 none, 597)]) (by decide +kernel)) ⟨rfl, by decide +kernel, by decide +kernel, by decide +kernel⟩ ⟨Nat.le_of_ble_eq_true rfl, Nat.le_of_ble_eq_true rfl⟩
  · cases h
    exact m_CG_V mt_X0_divideByOdd hx hb hml hown hts hK hi hN (ci := 0) m_pv_rec rfl rfl (m_wck_ok (l := [(Cond.methodLink RX1 73 yX0_divideByOdd, 598), (Cond.instanceMethod yX0_divideByOdd, 552), (Cond.selects RX0 yX0_divideByOdd yX0_divideByOdd, 553), (Cond.initialized RX0, 58), (Cond.code yX0_divideByOdd cX0_divideByOdd 13 none, 554)]) (by decide +kernel)) ⟨rfl, by decide +kernel, by decide +kernel, by decide +kernel⟩ ⟨Nat.le_of_ble_eq_true rfl, Nat.le_of_ble_eq_true rfl⟩
  · cases h
set_option maxHeartbeats 4000000 in
set_option maxRecDepth 100000 in
theorem mt_X1_bringToLowest : m_Mt yX1_bringToLowest cX1_bringToLowest 3 none 3 81 pt_bring := by
  refine m_method0 120 (fl := fl_X1) (kI := kI_X1) (kJ := kJ_X1) (ct := ct_X1_bringToLowest) (cd := cd_X1_bringToLowest) (rk := 0) (by decide +kernel) fl_X1_ok kI_X1_ok kJ_X1_ok ce_X1_bringToLowest rfl ck_X1_bringToLowest ⟨_, _, rfl, rfl⟩ ?_
  intro sh rf As I J K hpt
  obtain ⟨h, rest, rfl, hh, u, l, rfl, hH, hu, hl, hl0, hK⟩ := hpt
  have hBL := hH.2.2.2
  have hU := hH.2.1 0 (by decide)
  have hLo := hH.2.1 1 (by decide)
  have hLf := hH.2.1 2 (by decide)
  have hRt := hH.2.1 3 (by decide)
  have n01 : rf h 0 ≠ rf h 1 := fun e => absurd (hH.2.2.1 0 1 (by decide) (by decide) e) (by decide)
  have n02 : rf h 0 ≠ rf h 2 := fun e => absurd (hH.2.2.1 0 2 (by decide) (by decide) e) (by decide)
  have n03 : rf h 0 ≠ rf h 3 := fun e => absurd (hH.2.2.1 0 3 (by decide) (by decide) e) (by decide)
  have n12 : rf h 1 ≠ rf h 2 := fun e => absurd (hH.2.2.1 1 2 (by decide) (by decide) e) (by decide)
  have n13 : rf h 1 ≠ rf h 3 := fun e => absurd (hH.2.2.1 1 3 (by decide) (by decide) e) (by decide)
  have n23 : rf h 2 ≠ rf h 3 := fun e => absurd (hH.2.2.1 2 3 (by decide) (by decide) e) (by decide)
  refine ⟨Nat.le_of_ble_eq_true rfl, hh, rf h 0, [], rfl, hU.1, u, rfl, hu, fun h1 => ?_, fun h1 => ?_⟩
  · have h1 : ¬ sgI u = 0 := h1
    have hu0 : u ≠ 0 := fun e => h1 (by rw [e]; rfl)
    refine ⟨hh, rf h 0, [], rfl, hU.1, u, rfl, hu, fun e => absurd e hu0, fun t1 y1 e1 b1 => ?_⟩
    refine ⟨hh, rf h 1, [], rfl, hLo.1, l, rfl, hl, fun e => absurd e (by omega), fun t2 y2 e2 b2 => ?_⟩
    obtain ⟨q1, g1, g2⟩ := odd_int e1
    obtain ⟨q2, g3, g4⟩ := odd_int e2
    obtain ⟨t, ht⟩ : ∃ t, t = min t1 t2 := ⟨_, rfl⟩
    refine ⟨nI t1, nI t2, rfl, ?_⟩
    have em : (if nI t2 < nI t1 then nI t2 else nI t1) = nI t := by
      by_cases q : t2 < t1
      · rw [if_pos ((nI_ltI (by omega) (by omega)).mpr q)]
        congr 1
        omega
      · rw [if_neg (fun z => q ((nI_ltI (by omega) (by omega)).mp z))]
        congr 1
        omega
    rw [em]
    have hu1 : u = 2 ^ t * (2 ^ (t1 - t) * q1) := by
      rw [g1, ← Int.mul_assoc, ← Int.pow_add]
      congr 2
      omega
    have hl1 : l = 2 ^ t * (2 ^ (t2 - t) * q2) := by
      rw [g3, ← Int.mul_assoc, ← Int.pow_add]
      congr 2
      omega
    have hodd : (2 ^ (t1 - t) * q1 : Int).natAbs % 2 = 1 ∨ (2 ^ (t2 - t) * q2 : Int).natAbs % 2 = 1 := by
      rcases (show t = t1 ∨ t = t2 by omega) with e | e
      · left
        rw [e, Nat.sub_self, Int.pow_zero, Int.one_mul, g2]
        omega
      · right
        rw [e, Nat.sub_self, Int.pow_zero, Int.one_mul, g4]
        omega
    have hl1p : (2 ^ (t2 - t) * q2 : Int) ≠ 0 := by
      intro e
      rw [e, Int.mul_zero] at hl1
      omega
    have hu1p : (2 ^ (t1 - t) * q1 : Int) ≠ 0 := by
      intro e
      rw [e, Int.mul_zero] at hu1
      exact hu0 hu1
    generalize (2 ^ (t1 - t) * q1 : Int) = u1 at hu1 hodd hu1p
    generalize (2 ^ (t2 - t) * q2 : Int) = l1 at hl1 hodd hl1p
    refine ⟨hh, rf h 0, [.inl (nI t)], rfl, hU.1, t, u, u1, rfl, by omega, hu, hu1, fun I1 c1 k1 => ?_⟩
    have l_1 := hl.other hBL hU n01.symm c1
    refine ⟨hh, rf h 1, [.inl (nI t)], rfl, hLo.1, t, l, l1, rfl, by omega, l_1, hl1, fun I2 c2 k2 => ?_⟩
    have u_2 := k1.other hBL hLo n01 c2
    refine ⟨hh, hh, rf h 2, _, rfl, hLf.1, 40, rf h 0, u1, rfl, hLf, hBL, n02, u_2, u_2.cap_lt hU, fun I3 c3 k3 => ?_⟩
    have u_3 := u_2.other hBL hLf n02 c3
    have l_3 := k2.other hBL hLf n12 c3
    refine ⟨hh, hh, rf h 3, _, rfl, hRt.1, 40, rf h 1, l1, rfl, hRt, hBL, n13, l_3, l_3.cap_lt hLo, fun I4 c4 k4 => ?_⟩
    have u_4 := u_3.other hBL hRt n03 c4
    have l_4 := l_3.other hBL hRt n13 c4
    have f_4 := k3.other hBL hRt n23 c4
    refine ⟨hh, hh, rf h 2, [], rfl, hLf.1, u1, rfl, f_4, fun e => absurd e hu1p, fun t3 y3 e3 b3 => ?_⟩
    obtain ⟨q3, g5, g6⟩ := odd_int e3
    refine ⟨rf h 2, [.inl (nI t3)], rfl, hLf.1, t3, u1, q3, rfl, b3, f_4, g5, fun I5 c5 k5 => ?_⟩
    have u_5 := u_4.other hBL hLf n02 c5
    have l_5 := l_4.other hBL hLf n12 c5
    have r_5 := k4.other hBL hLf n23.symm c5
    refine ⟨hh, hh, rf h 3, [], rfl, hRt.1, l1, rfl, r_5, fun e => absurd e hl1p, fun t4 y4 e4 b4 => ?_⟩
    obtain ⟨q4, g7, g8⟩ := odd_int e4
    refine ⟨rf h 3, [.inl (nI t4)], rfl, hRt.1, t4, l1, q4, rfl, b4, r_5, g7, fun I6 c6 k6 => ?_⟩
    have u_6 := u_5.other hBL hRt n03 c6
    have l_6 := l_5.other hBL hRt n13 c6
    have f_6 := k5.other hBL hRt n23 c6
    have bl3 := blen_le (f_6.cap_lt hLf)
    have bl4 := blen_le (k6.cap_lt hRt)
    refine ⟨hh, hh, rf h 2, rf h 3, q3, q4, rfl, n23, hBL, f_6, k6, by omega, by omega, by omega, fun r I7 v hr c7 k7 hv => ?_⟩
    have u_7 := u_6.other2 hBL hLf hRt n02 n03 c7
    have l_7 := l_6.other2 hBL hLf hRt n12 n13 c7
    have hR : BSh sh rf r 40 := by rcases hr with rfl | rfl <;> assumption
    have hr0 : rf h 0 ≠ r := by rcases hr with rfl | rfl <;> assumption
    have hr1 : rf h 1 ≠ r := by rcases hr with rfl | rfl <;> assumption
    refine ⟨r, [], rfl, hR.1, v, rfl, k7, fun I8 c8' k8 => ?_⟩
    have c8 : BCh rf I7 I8 r := fun a a1 _ => c8' a a1
    have u_8 := u_7.other hBL hR hr0 c8
    have l_8 := l_7.other hBL hR hr1 c8
    have hG : Nat.gcd u.natAbs l.natAbs = 2 ^ t * v.natAbs := by
      have e5 : u.natAbs = 2 ^ t * u1.natAbs := by rw [hu1, Int.natAbs_mul, Int.natAbs_pow]; rfl
      have e6 : l.natAbs = 2 ^ t * l1.natAbs := by rw [hl1, Int.natAbs_mul, Int.natAbs_pow]; rfl
      rw [e5, e6, Nat.gcd_mul_left, hv, gcd_parts e3 e4 (by omega) (by omega) hodd, g6, g8]
    have hvo : v.natAbs % 2 = 1 := by
      have d1 : v.natAbs ∣ q3.natAbs := by rw [hv]; exact Nat.gcd_dvd_left _ _
      obtain ⟨c, hc⟩ := d1
      rcases (show v.natAbs % 2 = 0 ∨ v.natAbs % 2 = 1 by omega) with e | e
      · have : v.natAbs * c % 2 = 0 := by rw [Nat.mul_mod, e]; simp
        omega
      · exact e
    have hdu : ∃ qu : Int, u1 = (v.natAbs : Int) * qu := by
      have d1 : v.natAbs ∣ q3.natAbs := by rw [hv]; exact Nat.gcd_dvd_left _ _
      have d2 : (v.natAbs : Int) ∣ q3 := Int.natAbs_dvd_natAbs.mp (by rw [Int.natAbs_natCast]; exact d1)
      obtain ⟨c, hc⟩ := d2
      exact ⟨2 ^ t3 * c, by rw [g5, hc]; grind⟩
    have hdl : ∃ ql : Int, l1 = (v.natAbs : Int) * ql := by
      have d1 : v.natAbs ∣ q4.natAbs := by rw [hv]; exact Nat.gcd_dvd_right _ _
      have d2 : (v.natAbs : Int) ∣ q4 := Int.natAbs_dvd_natAbs.mp (by rw [Int.natAbs_natCast]; exact d1)
      obtain ⟨c, hc⟩ := d2
      exact ⟨2 ^ t4 * c, by rw [g7, hc]; grind⟩
    obtain ⟨qu, hqu⟩ := hdu
    obtain ⟨ql, hql⟩ := hdl
    refine ⟨hh, rf h 0, _, rfl, hU.1, r, u1, (v.natAbs : Int), qu, rfl, hBL, hr0.symm, u_8, k8, by rw [Int.natAbs_natCast]; exact hvo, hqu, fun I9 c9 k9 => ?_⟩
    have l_9 := l_8.other hBL hU n01.symm c9
    have r_9 := k8.other hBL hU hr0.symm c9
    refine ⟨hh, rf h 1, _, rfl, hLo.1, r, l1, (v.natAbs : Int), ql, rfl, hBL, hr1.symm, l_9, r_9, by rw [Int.natAbs_natCast]; exact hvo, hql, fun I10 c10 k10 => ?_⟩
    have u_10 := k9.other hBL hLo n01 c10
    have c7h : HCh rf I6 I7 h := fun a a1 a2 => c7 a (a2 2 (by decide)).1 (a2 2 (by decide)).2 (a2 3 (by decide)).1 (a2 3 (by decide)).2
    have c8h : HCh rf I7 I8 h := by
      rcases hr with rfl | rfl
      · exact HCh.of (by decide) c8
      · exact HCh.of (by decide) c8
    have hgp : ((Nat.gcd u.natAbs l.natAbs : Nat) : Int) ≠ 0 := by
      have : 0 < Nat.gcd u.natAbs l.natAbs := Nat.gcd_pos_of_pos_right _ (by omega)
      omega
    have hGi : ((Nat.gcd u.natAbs l.natAbs : Nat) : Int) = 2 ^ t * (v.natAbs : Int) := by
      rw [hG, Int.natCast_mul, Int.natCast_pow]
      rfl
    have eu : u / ((Nat.gcd u.natAbs l.natAbs : Nat) : Int) = qu := by
      have : u = ((Nat.gcd u.natAbs l.natAbs : Nat) : Int) * qu := by rw [hGi, Int.mul_assoc, ← hqu]; exact hu1
      conv => lhs; lhs; rw [this]
      exact Int.mul_ediv_cancel_left _ hgp
    have el : l / ((Nat.gcd u.natAbs l.natAbs : Nat) : Int) = ql := by
      have : l = ((Nat.gcd u.natAbs l.natAbs : Nat) : Int) * ql := by rw [hGi, Int.mul_assoc, ← hql]; exact hl1
      conv => lhs; lhs; rw [this]
      exact Int.mul_ediv_cancel_left _ hgp
    rw [eu, el] at hK
    refine hK I10 ?_ ?_ u_10 k10
    · exact ((((((((((HCh.of (by decide) c1).trans (HCh.of (by decide) c2)).trans (HCh.of (by decide) c3)).trans (HCh.of (by decide) c4)).trans (HCh.of (by decide) c5)).trans (HCh.of (by decide) c6)).trans c7h).trans c8h).trans (HCh.of (by decide) c9)).trans (HCh.of (by decide) c10))
    · have hn2 := hH.notbig hLf
      have hn3 := hH.notbig hRt
      rw [hH.stay hLo c10, hH.stay hU c9, hH.stay hR c8, c7 h hn2.1 hn2.2 hn3.1 hn3.2, hH.stay hRt c6, hH.stay hLf c5, hH.stay hRt c4, hH.stay hLf c3, hH.stay hLo c2, hH.stay hU c1]
  · have h1 : sgI u = 0 := h1
    have hu0 : u = 0 := by
      unfold sgI at h1
      by_cases q : u < 0
      · rw [if_pos q] at h1; exact absurd h1 (by decide)
      · rw [if_neg q] at h1
        by_cases q2 : u = 0
        · exact q2
        · rw [if_neg q2] at h1; exact absurd h1 (by decide)
    subst hu0
    refine ⟨hh, rf h 1, _, rfl, hLo.1, 40, 1, rfl, hLo, fun I1 c1 k1 => ?_⟩
    have u_1 := hu.other hBL hLo n01 c1
    have e0 : Nat.gcd (0 : Int).natAbs l.natAbs = l.natAbs := Nat.gcd_zero_left _
    have e1 : ((l.natAbs : Nat) : Int) = l := by omega
    rw [e0, e1, Int.zero_ediv, Int.ediv_self (by omega)] at hK
    exact hK I1 (HCh.of (by decide) c1) (hH.stay hLo c1) u_1 k1

theorem hand_d {G : Nat} {u a : Int} (hG : 0 < G) (h : u = (G : Int) * a) (hu : u.natAbs < 2 ^ (32 * 38)) : a.natAbs < 2 ^ (32 * 38) := by
  rw [h, Int.natAbs_mul, Int.natAbs_natCast] at hu
  exact Nat.lt_of_le_of_lt (Nat.le_mul_of_pos_left _ hG) hu
def ct_X1_lowestPart (sh : mSH) (rf : mRF) : Nat → Option (Nat × Bool × mPT) := fun k => match k with
  | 51 => some (1, true, pt_bring sh rf)
  | _ => none
set_option maxRecDepth 20000 in
theorem ce_X1_lowestPart : m_CE RX1 4 103 cX1_lowestPart 2 ct_X1_lowestPart := by
  intro p l e s m args below meth c Q D cs ad sh rf N hx hb hml hown hts hK hi hN k n vf pt h
  unfold ct_X1_lowestPart at h
  split at h
  · cases h
    exact m_CG_V mt_X1_bringToLowest hx hb hml hown hts hK hi hN (ci := 1) m_pv_rec rfl rfl (m_wck_ok (l := [(Cond.methodLink RX1 51 yX1_bringToLowest, 581), (Cond.instanceMethod yX1_bringToLowest, 583), (Cond.selects RX1 yX1_bringToLowest yX1_bringToLowest, 10), (Cond.initialized RX1, 61), (Cond.code yX1_bringToLowest cX1_bringToLowest 3 none, 584)]) (by decide +kernel)) ⟨rfl, by decide +kernel, by decide +kernel, by decide +kernel⟩ ⟨Nat.le_of_ble_eq_true rfl, Nat.le_of_ble_eq_true rfl⟩
  · cases h
set_option maxHeartbeats 4000000 in
set_option maxRecDepth 100000 in
theorem mt_X1_lowestPart : m_Mt yX1_lowestPart cX1_lowestPart 2 (some (.object "MomentDesk$Big")) 4 103 pt_lowestPart := by
  refine m_method0 80 (fl := fl_X1) (kI := kI_X1) (kJ := kJ_X1) (ct := ct_X1_lowestPart) (cd := cd_X1_lowestPart) (rk := 4) (by decide +kernel) fl_X1_ok kI_X1_ok kJ_X1_ok ce_X1_lowestPart ⟨_, rfl, by first | exact Or.inl ⟨_, rfl⟩ | exact Or.inr ⟨_, rfl⟩⟩ ck_X1_lowestPart ⟨_, _, rfl, rfl⟩ ?_
  intro sh rf As I J K hpt
  obtain ⟨h, rest, rfl, hh, wh, U, L, rfl, hH, hL0, ⟨u, l, hu, hl, hl0, hul, hfl, hb1, hb2⟩, hK⟩ := hpt
  have fin : ∀ (I1 : mPI) (p q : Int), HCh rf I I1 h → BIs sh rf I1 (rf h 0) p → BIs sh rf I1 (rf h 1) q → 0 < q → Nat.gcd p.natAbs q.natAbs = 1 → p * L = U * q → I1 h 4 = 1 → p.natAbs < 2 ^ (32 * 38) → q.natAbs < 2 ^ (32 * 38) → (¬ wh = 0 → sh h = .inl 1 ∧ K (some (.inr (.inr (rf h 1)))) I1 J) ∧ (wh = 0 → sh h = .inl 1 ∧ K (some (.inr (.inr (rf h 0)))) I1 J) := by
    intro I1 p q c1 k1 k2 k3 k4 k5 k6 k8 k9
    have k7 := hK I1 p q c1 ⟨p, q, k1, k2, k3, k5, Or.inr ⟨k6, k4⟩, k8, k9⟩ k1 k2 k3 k4 k5
    refine ⟨fun e => ⟨hh, ?_⟩, fun e => ⟨hh, ?_⟩⟩
    · rw [if_neg e] at k7
      exact k7
    · rw [if_pos e] at k7
      exact k7
  refine ⟨Nat.le_of_ble_eq_true rfl, hh, fun h1 => ?_, fun h1 => ?_⟩
  · have h1 : ¬ I h 4 = 0 := h1
    obtain ⟨f1, f2⟩ := hfl.resolve_left h1
    exact fin I u l (fun _ _ _ => rfl) hu hl hl0 f2 hul f1 hb1 hb2
  · refine ⟨h, [], rfl, hh, u, l, rfl, hH, hu, hl, hl0, fun I1 c1 c2 k1 k2 => ?_⟩
    have hg : 0 < Nat.gcd u.natAbs l.natAbs := Nat.gcd_pos_of_pos_right _ (by omega)
    obtain ⟨a, ha⟩ : ((Nat.gcd u.natAbs l.natAbs : Nat) : Int) ∣ u := Int.natAbs_dvd_natAbs.mp (by rw [Int.natAbs_natCast]; exact Nat.gcd_dvd_left _ _)
    obtain ⟨b, hb⟩ : ((Nat.gcd u.natAbs l.natAbs : Nat) : Int) ∣ l := Int.natAbs_dvd_natAbs.mp (by rw [Int.natAbs_natCast]; exact Nat.gcd_dvd_right _ _)
    obtain ⟨G, hG⟩ : ∃ G, G = Nat.gcd u.natAbs l.natAbs := ⟨_, rfl⟩
    rw [← hG] at k1 k2 hg ha hb
    have hG0 : (G : Int) ≠ 0 := by omega
    have ea : u / (G : Int) = a := by rw [ha]; exact Int.mul_ediv_cancel_left _ hG0
    have eb : l / (G : Int) = b := by rw [hb]; exact Int.mul_ediv_cancel_left _ hG0
    rw [ea] at k1
    rw [eb] at k2
    have hbp : 0 < b := by
      rcases Int.lt_or_le 0 b with e | e
      · exact e
      · have := Int.mul_nonpos_of_nonneg_of_nonpos (show (0 : Int) ≤ G by omega) e
        omega
    have hco : Nat.gcd a.natAbs b.natAbs = 1 := by
      have e1 : u.natAbs = G * a.natAbs := by rw [ha, Int.natAbs_mul, Int.natAbs_natCast]
      have e2 : l.natAbs = G * b.natAbs := by rw [hb, Int.natAbs_mul, Int.natAbs_natCast]
      rw [e1, e2, Nat.gcd_mul_left] at hG
      have e3 : G * 1 = G * Nat.gcd a.natAbs b.natAbs := by rw [Nat.mul_one]; exact hG
      exact (Nat.eq_of_mul_eq_mul_left hg e3).symm
    have hpq : a * L = U * b := by
      apply Int.eq_of_mul_eq_mul_left hG0
      rw [ha, hb] at hul
      grind
    refine ⟨hh, Or.inr rfl, ?_⟩
    exact fin _ a b (c1.trans (HCh.fld rf I1 h 4 1)) (k1.fld hH) (k2.fld hH) hbp hco hpq (uI_s _ _ _ _) (hand_d hg ha hb1) (hand_d hg hb hb2)

