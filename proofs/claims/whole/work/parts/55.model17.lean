/-! ===== the reference: keep, back, word ===== -/
def KeepM (I : mPI) (J : mPJ) (I1 : mPI) (J1 : mPJ) (p : Nat) : Prop := (∀ a, a ≠ 538 → a ≠ 539 → a ≠ 540 → I1 a = I a) ∧ (∀ k, k < 10 → I1 538 (10 * p + k) = I 533 k ∧ I1 539 (10 * p + k) = I 534 k) ∧ (∀ j, j / 10 ≠ p → I1 538 j = I 538 j ∧ I1 539 j = I 539 j) ∧ (I1 540 (5 * p) = 1 ∧ I1 540 (5 * p + 1) = I 528 4 ∧ I1 540 (5 * p + 2) = I 528 5 ∧ I1 540 (5 * p + 3) = (if I 528 6 = 0 then 0 else 1) ∧ I1 540 (5 * p + 4) = I 528 7) ∧ (∀ j, j / 5 ≠ p → I1 540 j = I 540 j) ∧ (∀ a, a ≠ 537 → J1 a = J a) ∧ (∀ k, k < 12 → J1 537 (12 * p + k) = J 532 k) ∧ ∀ j, j / 12 ≠ p → J1 537 j = J 537 j
def pt_mkeep : mSH → mRF → mPT := m_pv 5 (fun sh rf d rest I J K => ∃ pl : Int32, sh = shL ∧ rf = rfL ∧ d = 528 ∧ rest = [.inl pl] ∧ (¬ (0 ≤ pl.toInt ∧ pl.toInt < 2) → K (some (.inl (-1))) I J) ∧ (∀ p, p < 2 → pl = nI p → ∀ I1 J1, KeepM I J I1 J1 p → K (some (.inl 1)) I1 J1))
def BackM (I : mPI) (J : mPJ) (I1 : mPI) (J1 : mPJ) (p : Nat) : Prop := (∀ a, a ≠ 528 → a ≠ 533 → a ≠ 534 → I1 a = I a) ∧ I1 528 4 = I 540 (5 * p + 1) ∧ I1 528 5 = I 540 (5 * p + 2) ∧ I1 528 6 = (if I 540 (5 * p + 3) = 1 then 1 else 0) ∧ I1 528 7 = I 540 (5 * p + 4) ∧ (∀ k, k < 10 → I1 533 k = I 538 (10 * p + k) ∧ I1 534 k = I 539 (10 * p + k)) ∧ (∀ a, a ≠ 532 → J1 a = J a) ∧ ∀ k, k < 12 → J1 532 k = J 537 (12 * p + k)
def pt_mback : mSH → mRF → mPT := m_pv 5 (fun sh rf d rest I J K => ∃ pl : Int32, sh = shL ∧ rf = rfL ∧ d = 528 ∧ rest = [.inl pl] ∧ (¬ isKM I pl → K (some (.inl (-1))) I J) ∧ (∀ p, p < 2 → pl = nI p → isKM I pl → ∀ I1 J1, BackM I J I1 J1 p → K (some (.inl (I 540 (5 * p + 2)))) I1 J1))
def pt_mword : mSH → mRF → mPT := m_pv 5 (fun sh rf d rest I J K => ∃ (wh k : Int32) (σ : Nat → Int), sh = shL ∧ rf = rfL ∧ d = 528 ∧ rest = [.inl wh, .inl k] ∧ MS I σ ∧ K (some (.inl (if (wh = 0 ∨ wh = 1) ∧ 0 ≤ k.toInt then nI ((if wh = 0 then (σ 0).natAbs else (σ 1).natAbs) / 2 ^ (16 * k.toInt.toNat) % 65536) else -2))) I J)
theorem m5 (p c : Nat) : (5 : Int32) * nI p + nI c = nI (5 * p + c) := by
  rw [show (5 : Int32) * nI p = nI (5 * p) from nI_m 5 p, nI_add]
theorem m10 (p c : Nat) : (10 : Int32) * nI p + nI c = nI (10 * p + c) := by
  rw [show (10 : Int32) * nI p = nI (10 * p) from nI_m 10 p, nI_add]
theorem m12 (p c : Nat) : (12 : Int32) * nI p + nI c = nI (12 * p + c) := by
  rw [show (12 : Int32) * nI p = nI (12 * p) from nI_m 12 p, nI_add]
theorem in01 {pl : Int32} : ((0 : Int64).toInt ≤ pl.toInt64.toInt ∧ pl.toInt64.toInt ≤ (1 : Int64).toInt) ↔ (0 ≤ pl.toInt ∧ pl.toInt < 2) := by
  rw [Int32.toInt_toInt64, show (0 : Int64).toInt = 0 from rfl, show (1 : Int64).toInt = 1 from rfl]
  omega
def kpA (I : mPI) (p k : Nat) (I1 : mPI) : Prop := (∀ a, a ≠ 538 → a ≠ 539 → I1 a = I a) ∧ (∀ j, j / 10 ≠ p → I1 538 j = I 538 j ∧ I1 539 j = I 539 j) ∧ ∀ j, j < k → I1 538 (10 * p + j) = I 533 j ∧ I1 539 (10 * p + j) = I 534 j
theorem kpA.step {I I1 : mPI} {p k i1 i2 : Nat} {x y : Int32} (h : kpA I p k I1) (hk : k < 10) (e1 : i1 = 10 * p + k) (e2 : i2 = 10 * p + k) (hx : x = I 533 k) (hy : y = I 534 k) : kpA I p (k + 1) (m_uI (m_uI I1 538 i1 x) 539 i2 y) := by
  subst e1 e2 hx hy
  obtain ⟨h1, h2, h3⟩ := h
  refine ⟨fun a q r => ?_, fun j hj => ⟨?_, ?_⟩, fun j hj => ?_⟩
  · rw [uI_a _ _ _ r, uI_a _ _ _ q]
    exact h1 a q r
  · rw [uI_a _ _ _ (by decide), uI_k _ _ _ (by omega)]
    exact (h2 j hj).1
  · rw [uI_k _ _ _ (by omega), uI_a _ _ _ (by decide)]
    exact (h2 j hj).2
  · by_cases q : j = k
    · subst q
      rw [uI_a _ _ _ (by decide), uI_s, uI_s]
      exact ⟨rfl, rfl⟩
    · rw [uI_a _ _ _ (by decide), uI_k _ _ _ (by omega), uI_k _ _ _ (by omega), uI_a _ _ _ (by decide)]
      exact h3 j (by omega)
theorem kp_end {I I1 : mPI} {J J1 : mPJ} {p i0 i1 i2 i3 i4 : Nat} {x1 x2 x3 x4 : Int32} (h : kpA I p 10 I1) (hp : p < 2) (e0 : i0 = 5 * p) (e1 : i1 = 5 * p + 1) (e2 : i2 = 5 * p + 2) (e3 : i3 = 5 * p + 3) (e4 : i4 = 5 * p + 4) (f1 : x1 = I 528 4) (f2 : x2 = I 528 5) (f3 : x3 = if I 528 6 = 0 then 0 else 1) (f4 : x4 = I 528 7) (hj : ∀ a, a ≠ 537 → J1 a = J a) (hj2 : ∀ j, j / 12 ≠ p → J1 537 j = J 537 j) (hj3 : ∀ j, j < 12 → J1 537 (12 * p + j) = J 532 j) : KeepM I J (m_uI (m_uI (m_uI (m_uI (m_uI I1 540 i0 1) 540 i1 x1) 540 i2 x2) 540 i3 x3) 540 i4 x4) J1 p := by
  subst e0 e1 e2 e3 e4 f1 f2 f3 f4
  obtain ⟨h1, h2, h3⟩ := h
  have ne : ∀ a, a ≠ 540 → m_uI (m_uI (m_uI (m_uI (m_uI I1 540 (5 * p) 1) 540 (5 * p + 1) (I 528 4)) 540 (5 * p + 2) (I 528 5)) 540 (5 * p + 3) (if I 528 6 = 0 then 0 else 1)) 540 (5 * p + 4) (I 528 7) a = I1 a := fun a q => by
    rw [uI_a _ _ _ q, uI_a _ _ _ q, uI_a _ _ _ q, uI_a _ _ _ q, uI_a _ _ _ q]
  refine ⟨fun a q r t => ?_, fun k hk => ?_, fun j hj => ?_, ⟨?_, ?_, ?_, ?_, uI_s _ _ _ _⟩, fun j hj => ?_, hj, hj3, hj2⟩
  · rw [ne a t]
    exact h1 a q r
  · rw [ne _ (by decide), ne _ (by decide)]
    exact h3 k hk
  · rw [ne _ (by decide), ne _ (by decide)]
    exact h2 j hj
  · rw [uI_k _ _ _ (by omega), uI_k _ _ _ (by omega), uI_k _ _ _ (by omega), uI_k _ _ _ (by omega), uI_s]
  · rw [uI_k _ _ _ (by omega), uI_k _ _ _ (by omega), uI_k _ _ _ (by omega), uI_s]
  · rw [uI_k _ _ _ (by omega), uI_k _ _ _ (by omega), uI_s]
  · rw [uI_k _ _ _ (by omega), uI_s]
  · rw [uI_k _ _ _ (by omega), uI_k _ _ _ (by omega), uI_k _ _ _ (by omega), uI_k _ _ _ (by omega), uI_k _ _ _ (by omega), h1 540 (by decide) (by decide)]

def ct_X5_keep (sh : mSH) (rf : mRF) : Nat → Option (Nat × Bool × mPT) := fun k => match k with
  | 134 => some (3, false, pt_in sh rf)
  | _ => none
set_option maxRecDepth 20000 in
theorem ce_X5_keep : m_CE RX5 1 25 cX5_keep 3 ct_X5_keep := by
  intro p l e s m args below meth c Q D cs ad sh rf N hx hb hml hown hts hK hi hN k n vf pt h
  unfold ct_X5_keep at h
  split at h
  · cases h
    exact m_CG_S mt_X5_in hx hb hml hown hts hK hi hN (m_wck_ok (l := [(Cond.methodLink RX5 134 yX5_in, 748), (Cond.static yX5_in, 749), (Cond.initialized RX5, 62), (Cond.code yX5_in cX5_in 6 (some .boolean), 750)]) (by decide +kernel)) ⟨by decide +kernel, by decide +kernel, by decide +kernel⟩ ⟨Nat.le_of_ble_eq_true rfl, Nat.le_of_ble_eq_true rfl⟩
  · cases h
set_option maxHeartbeats 4000000 in
set_option maxRecDepth 100000 in
theorem mt_X5_keep : m_Mt yX5_keep cX5_keep 3 (some .int) 1 25 pt_mkeep := by
  refine m_methodG (fl := fl_X5) (kI := kI_X5) (kJ := kJ_X5) (ct := ct_X5_keep) (cd := cd_X5_keep) (cut := [(14, [0, 1, 2]), (45, [0, 1, 2])]) (rk := 1) (fu := 80) (by decide +kernel) fl_X5_ok kI_X5_ok kJ_X5_ok ce_X5_keep rfl ck_X5_keep ⟨_, _, rfl, rfl⟩ ?_
  intro sh rf As I J K hpt
  obtain ⟨d, rest, rfl, hd, pl, rfl, rfl, rfl, rfl, hN, hK⟩ := hpt
  by_cases hpl : 0 ≤ pl.toInt ∧ pl.toInt < 2
  · obtain ⟨ep, -⟩ := i_nat hpl.1
    have hp : pl.toInt.toNat < 2 := by omega
    have hK2 := hK _ hp ep
    clear hK
    clear hN
    have hpl : ¬ (if (0 : Int64).toInt ≤ pl.toInt64.toInt ∧ pl.toInt64.toInt ≤ (1 : Int64).toInt then (1 : Int32) else 0) = 0 := by
      rw [if_pos (in01.mpr hpl)]
      decide
    generalize pl.toInt.toNat = p at ep hp hK2
    subst ep
    have m5' : ∀ c, c < 5 → (nI (5 * p + c)).toNatClampNeg = 5 * p + c := fun c hc => nI_clamp (by omega)
    refine ⟨Nat.le_of_ble_eq_true rfl, fun a9 b9 pc vs st I1 J1 => st = [] ∧ ∃ k, vs = [.inr (.inr 528), .inl (nI p), .inl (nI k)] ∧ (∀ a, a ≠ 537 → J1 a = J a) ∧ (∀ j, j / 12 ≠ p → J1 537 j = J 537 j) ∧ ((pc = 14 ∧ I1 = I ∧ a9 = 30 - k ∧ k ≤ 12 ∧ ∀ j, j < k → J1 537 (12 * p + j) = J 532 j) ∨ (pc = 45 ∧ a9 = 10 - k ∧ k ≤ 10 ∧ (∀ j, j < 12 → J1 537 (12 * p + j) = J 532 j) ∧ kpA I p k I1)), ?_, ?_⟩
    · exact ⟨(nI p).toInt64, 0, 1, rfl, fun _ => ⟨30 - 0, 0, rfl, 0, rfl, fun _ _ => rfl, fun _ _ => rfl, Or.inl ⟨rfl, rfl, rfl, by decide, fun j hj => absurd hj (Nat.not_lt_zero j)⟩⟩, fun h => absurd h hpl⟩
    · intro pc ks a9 b9 vs st I1 J1 hc hI
      obtain ⟨rfl, k, rfl, h6, h7, hI⟩ := hI
      rcases m_cu1 hc with ⟨rfl, rfl⟩ | hc
      · obtain ⟨rfl, rfl, hk, h8⟩ : I1 = I ∧ a9 = 30 - k ∧ k ≤ 12 ∧ ∀ j, j < k → J1 537 (12 * p + j) = J 532 j := by
          rcases hI with ⟨-, q⟩ | ⟨q, -⟩
          · exact q
          · exact absurd q (by decide)
        refine ⟨fun h => ?_, fun h => ?_⟩
        · have h : nI 11 < nI k := h
          rw [nI_ltI (by omega) (by omega)] at h
          exact ⟨10 - 0, 0, Or.inl (by omega), rfl, 0, rfl, h6, h7, Or.inr ⟨rfl, rfl, by decide, fun j hj => h8 j (by omega), fun _ _ _ => rfl, fun _ _ => ⟨rfl, rfl⟩, fun j hj => absurd hj (Nat.not_lt_zero j)⟩⟩
        · have h : ¬ nI 11 < nI k := h
          rw [nI_ltI (by omega) (by omega)] at h
          have hin : m_inb shL 537 1 ((12 : Int32) * nI p + nI k) := by
            rw [m12]
            exact m_inb_i (n := 24) rfl (vp_in_nI (by omega) (by decide))
          refine ⟨rfl, rfl, jin (by omega), hin, 30 - (k + 1), 0, Or.inl (by omega), rfl, k + 1, by rw [← nI_1 k], ?_⟩
          show (∀ a, a ≠ 537 → m_uJ J1 537 ((12 : Int32) * nI p + nI k).toNatClampNeg (J1 532 (nI k).toNatClampNeg) a = J a) ∧ (∀ j, j / 12 ≠ p → m_uJ J1 537 ((12 : Int32) * nI p + nI k).toNatClampNeg (J1 532 (nI k).toNatClampNeg) 537 j = J 537 j) ∧ ((14 = 14 ∧ I1 = I1 ∧ 30 - (k + 1) = 30 - (k + 1) ∧ k + 1 ≤ 12 ∧ ∀ j, j < k + 1 → m_uJ J1 537 ((12 : Int32) * nI p + nI k).toNatClampNeg (J1 532 (nI k).toNatClampNeg) 537 (12 * p + j) = J 532 j) ∨ _)
          rw [m12, nI_clamp (by omega), nI_clamp (by omega), h6 532 (by decide)]
          refine ⟨fun a ha => by rw [uJ_a _ _ _ ha]; exact h6 a ha, fun j hj => by rw [uJ_k _ _ _ (by omega)]; exact h7 j hj, Or.inl ⟨rfl, rfl, rfl, by omega, fun j hj => ?_⟩⟩
          by_cases q : j = k
          · rw [q, uJ_s]
          · rw [uJ_k _ _ _ (by omega)]
            exact h8 j (by omega)
      rcases m_cu1 hc with ⟨rfl, rfl⟩ | hc
      · obtain ⟨rfl, hk, h8, hA⟩ : a9 = 10 - k ∧ k ≤ 10 ∧ (∀ j, j < 12 → J1 537 (12 * p + j) = J 532 j) ∧ kpA I p k I1 := by
          rcases hI with ⟨q, -⟩ | ⟨-, q⟩
          · exact absurd q (by decide)
          · exact q
        have hA1 := hA.1
        refine ⟨fun h => ?_, fun h => ?_⟩
        · have h : nI 10 ≤ nI k := h
          rw [nI_leI (by omega) (by omega)] at h
          obtain rfl : k = 10 := by omega
          have e0 : (5 : Int32) * nI p = nI (5 * p) := nI_m 5 p
          have i0 : m_inb shL 540 0 ((5 : Int32) * nI p) := by
            rw [e0]
            exact rin (by omega)
          have ii : ∀ c, c < 5 → m_inb shL 540 0 ((5 : Int32) * nI p + nI c) := fun c hc => by
            rw [m5]
            exact rin (by omega)
          have cc0 : ((5 : Int32) * nI p).toNatClampNeg = 5 * p := by
            rw [e0]
            exact nI_clamp (by omega)
          have cc : ∀ c, c < 5 → ((5 : Int32) * nI p + nI c).toNatClampNeg = 5 * p + c := fun c hc => by
            rw [m5]
            exact nI_clamp (by omega)
          have r8 : ∀ c, I1 528 c = I 528 c := fun c => by rw [hA1 528 (by decide) (by decide)]
          refine ⟨rfl, i0, rfl, rfl, ii 1 (by decide), rfl, rfl, ii 2 (by decide), rfl, rfl, fun h6' => ?_, fun h6' => ?_⟩
          · have h6' : I1 528 6 = 0 := h6'
            refine ⟨ii 3 (by decide), rfl, rfl, ii 4 (by decide), hK2 _ _ (kp_end hA hp cc0 (cc 1 (by decide)) (cc 2 (by decide)) (cc 3 (by decide)) (cc 4 (by decide)) (r8 4) (r8 5) ?_ (r8 7) h6 h7 h8)⟩
            rw [← r8 6, if_pos h6']
          · have h6' : ¬ I1 528 6 = 0 := h6'
            refine ⟨ii 3 (by decide), rfl, rfl, ii 4 (by decide), hK2 _ _ (kp_end hA hp cc0 (cc 1 (by decide)) (cc 2 (by decide)) (cc 3 (by decide)) (cc 4 (by decide)) (r8 4) (r8 5) ?_ (r8 7) h6 h7 h8)⟩
            rw [← r8 6, if_neg h6']
        · have h : ¬ nI 10 ≤ nI k := h
          rw [nI_leI (by omega) (by omega)] at h
          have hin1 : m_inb shL 538 0 ((10 : Int32) * nI p + nI k) := by
            rw [m10]
            exact m_inb_i (n := 20) rfl (vp_in_nI (by omega) (by decide))
          have hin2 : m_inb shL 539 0 ((10 : Int32) * nI p + nI k) := by
            rw [m10]
            exact m_inb_i (n := 20) rfl (vp_in_nI (by omega) (by decide))
          have hi3 : m_inb shL 533 0 (nI k) := m_inb_i (n := 10) rfl (vp_in_nI (by omega) (by decide))
          have hi4 : m_inb shL 534 0 (nI k) := m_inb_i (n := 10) rfl (vp_in_nI (by omega) (by decide))
          have ecl : ((10 : Int32) * nI p + nI k).toNatClampNeg = 10 * p + k := by
            rw [m10]
            exact nI_clamp (by omega)
          have kcl : (nI k).toNatClampNeg = k := nI_clamp (by omega)
          have hst := kpA.step (x := I1 533 (nI k).toNatClampNeg) (y := m_uI I1 538 ((10 : Int32) * nI p + nI k).toNatClampNeg (I1 533 (nI k).toNatClampNeg) 534 (nI k).toNatClampNeg) hA (by omega) ecl ecl (by rw [kcl, hA1 533 (by decide) (by decide)]) (by rw [uI_a _ _ _ (by decide), kcl, hA1 534 (by decide) (by decide)])
          exact ⟨rfl, rfl, hi3, hin1, rfl, rfl, hi4, hin2, 10 - (k + 1), 0, Or.inl (by omega), rfl, k + 1, by rw [← nI_1 k], h6, h7, Or.inr ⟨rfl, rfl, by omega, h8, hst⟩⟩
      · cases hc
  · refine ⟨Nat.le_of_ble_eq_true rfl, fun _ _ _ _ _ _ _ => False, ?_, fun pc ks a b vs st I1 J1 _ h => h.elim⟩
    refine ⟨pl.toInt64, 0, 1, rfl, fun h => absurd (in01.mp (w_not0 h)) hpl, fun _ => hN hpl⟩

def bkA (I : mPI) (p k : Nat) (I1 : mPI) : Prop := (∀ a, a ≠ 528 → a ≠ 533 → a ≠ 534 → I1 a = I a) ∧ I1 528 5 = I 540 (5 * p + 2) ∧ ∀ j, j < k → I1 533 j = I 538 (10 * p + j) ∧ I1 534 j = I 539 (10 * p + j)
theorem bkA.step {I I1 : mPI} {p k i1 i2 : Nat} {x y : Int32} (h : bkA I p k I1) (e1 : i1 = k) (e2 : i2 = k) (hx : x = I 538 (10 * p + k)) (hy : y = I 539 (10 * p + k)) : bkA I p (k + 1) (m_uI (m_uI I1 533 i1 x) 534 i2 y) := by
  subst e1 e2 hx hy
  obtain ⟨h1, h2, h3⟩ := h
  refine ⟨fun a q r t => ?_, ?_, fun j hj => ?_⟩
  · rw [uI_a _ _ _ t, uI_a _ _ _ r]
    exact h1 a q r t
  · rw [uI_a _ _ _ (by decide), uI_a _ _ _ (by decide)]
    exact h2
  · by_cases q : j = i2
    · subst q
      rw [uI_a _ _ _ (by decide), uI_s, uI_s]
      exact ⟨rfl, rfl⟩
    · rw [uI_a _ _ _ (by decide), uI_k _ _ _ q, uI_k _ _ _ q, uI_a _ _ _ (by decide)]
      exact h3 j (by omega)
theorem bk_end {I I1 : mPI} {J J1 : mPJ} {p : Nat} {x4 x6 x7 : Int32} (h : bkA I p 10 I1) (f4 : x4 = I 540 (5 * p + 1)) (f6 : x6 = if I 540 (5 * p + 3) = 1 then 1 else 0) (f7 : x7 = I 540 (5 * p + 4)) (hj : ∀ a, a ≠ 532 → J1 a = J a) (hj2 : ∀ j, j < 12 → J1 532 j = J 537 (12 * p + j)) : BackM I J (m_uI (m_uI (m_uI I1 528 4 x4) 528 6 x6) 528 7 x7) J1 p := by
  subst f4 f6 f7
  obtain ⟨h1, h2, h3⟩ := h
  have ne : ∀ a, a ≠ 528 → m_uI (m_uI (m_uI I1 528 4 (I 540 (5 * p + 1))) 528 6 (if I 540 (5 * p + 3) = 1 then 1 else 0)) 528 7 (I 540 (5 * p + 4)) a = I1 a := fun a q => by
    rw [uI_a _ _ _ q, uI_a _ _ _ q, uI_a _ _ _ q]
  refine ⟨fun a q r t => ?_, ?_, ?_, ?_, uI_s _ _ _ _, fun k hk => ?_, hj, hj2⟩
  · rw [ne a q]
    exact h1 a q r t
  · rw [uI_k _ _ _ (by decide), uI_k _ _ _ (by decide), uI_s]
  · rw [uI_k _ _ _ (by decide), uI_k _ _ _ (by decide), uI_k _ _ _ (by decide)]
    exact h2
  · rw [uI_k _ _ _ (by decide), uI_s]
  · rw [ne _ (by decide), ne _ (by decide)]
    exact h3 k hk

def ct_X5_back (sh : mSH) (rf : mRF) : Nat → Option (Nat × Bool × mPT) := fun k => match k with
  | 251 => some (2, true, pt_misKept sh rf)
  | 254 => some (2, true, pt_mtake sh rf)
  | _ => none
set_option maxRecDepth 20000 in
theorem ce_X5_back : m_CE RX5 2 46 cX5_back 3 ct_X5_back := by
  intro p l e s m args below meth c Q D cs ad sh rf N hx hb hml hown hts hK hi hN k n vf pt h
  unfold ct_X5_back at h
  split at h
  · cases h
    exact m_CG_V mt_X5_isKept hx hb hml hown hts hK hi hN (ci := 5) m_pv_rec rfl rfl (m_wck_ok (l := [(Cond.methodLink RX5 251 yX5_isKept, 1028), (Cond.instanceMethod yX5_isKept, 1030), (Cond.selects RX5 yX5_isKept yX5_isKept, 51), (Cond.initialized RX5, 62), (Cond.code yX5_isKept cX5_isKept 2 (some .boolean), 1031)]) (by decide +kernel)) ⟨rfl, by decide +kernel, by decide +kernel, by decide +kernel⟩ ⟨Nat.le_of_ble_eq_true rfl, Nat.le_of_ble_eq_true rfl⟩
  · cases h
    exact m_CG_V mt_X5_take hx hb hml hown hts hK hi hN (ci := 5) m_pv_rec rfl rfl (m_wck_ok (l := [(Cond.methodLink RX5 254 yX5_take, 1032), (Cond.instanceMethod yX5_take, 1034), (Cond.selects RX5 yX5_take yX5_take, 52), (Cond.initialized RX5, 62), (Cond.code yX5_take cX5_take 3 none, 1035)]) (by decide +kernel)) ⟨rfl, by decide +kernel, by decide +kernel, by decide +kernel⟩ ⟨Nat.le_of_ble_eq_true rfl, Nat.le_of_ble_eq_true rfl⟩
  · cases h
set_option maxHeartbeats 4000000 in
set_option maxRecDepth 100000 in
theorem mt_X5_back : m_Mt yX5_back cX5_back 3 (some .int) 2 46 pt_mback := by
  refine m_methodG (fl := fl_X5) (kI := kI_X5) (kJ := kJ_X5) (ct := ct_X5_back) (cd := cd_X5_back) (cut := [(17, [0, 1, 2])]) (rk := 1) (fu := 80) (by decide +kernel) fl_X5_ok kI_X5_ok kJ_X5_ok ce_X5_back rfl ck_X5_back ⟨_, _, rfl, rfl⟩ ?_
  intro sh rf As I J K hpt
  obtain ⟨d, rest, rfl, hd, pl, rfl, rfl, rfl, rfl, hN, hK⟩ := hpt
  by_cases hkm : isKM I pl
  · obtain ⟨p, hp, ep⟩ : ∃ p : Nat, p < 2 ∧ pl = nI p := by
      rcases hkm with ⟨q, -⟩ | ⟨q, -⟩
      · exact ⟨0, by decide, q⟩
      · exact ⟨1, by decide, q⟩
    have hK2 := hK p hp ep hkm
    clear hK
    clear hN
    subst ep
    refine ⟨Nat.le_of_ble_eq_true rfl, fun a9 b9 pc vs st I1 J1 => st = [] ∧ ∃ k, vs = [.inr (.inr 528), .inl (nI p), .inl (nI k)] ∧ (∀ a, a ≠ 532 → J1 a = J a) ∧ (∀ j, j < 12 → J1 532 j = J 537 (12 * p + j)) ∧ a9 = 10 - k ∧ k ≤ 10 ∧ bkA I p k I1, ?_, ?_⟩
    · refine ⟨528, [.inl (nI p)], rfl, rfl, nI p, rfl, rfl, rfl, rfl, ?_⟩
      rw [if_pos hkm]
      refine ⟨fun _ => ⟨528, [.inl (nI p)], rfl, rfl, p, rfl, rfl, rfl, rfl, hp, fun J1 a1 a2 => ?_⟩, fun h => absurd h (by decide)⟩
      exact ⟨10 - 0, 0, rfl, 0, rfl, a1, a2, rfl, by decide, fun a q _ _ => uI_a _ _ _ q, uI_s _ _ _ _, fun j hj => absurd hj (Nat.not_lt_zero j)⟩
    · intro pc ks a9 b9 vs st I1 J1 hc hI
      obtain ⟨rfl, k, rfl, h6, h7, rfl, hk, hA⟩ := hI
      have hA1 := hA.1
      rcases m_cu1 hc with ⟨rfl, rfl⟩ | hc
      · refine ⟨fun h => ?_, fun h => ?_⟩
        · have h : nI 10 ≤ nI k := h
          rw [nI_leI (by omega) (by omega)] at h
          obtain rfl : k = 10 := by omega
          have ii : ∀ c, c < 5 → m_inb shL 540 0 ((5 : Int32) * nI p + nI c) := fun c hc => by
            rw [m5]
            exact rin (by omega)
          have cc : ∀ c, c < 5 → ((5 : Int32) * nI p + nI c).toNatClampNeg = 5 * p + c := fun c hc => by
            rw [m5]
            exact nI_clamp (by omega)
          have r0 : ∀ c, I1 540 c = I 540 c := fun c => by rw [hA1 540 (by decide) (by decide) (by decide)]
          have g4 : I1 540 ((5 : Int32) * nI p + nI 1).toNatClampNeg = I 540 (5 * p + 1) := by rw [cc 1 (by decide), r0]
          have g6 : ∀ x, m_uI I1 528 4 x 540 ((5 : Int32) * nI p + nI 3).toNatClampNeg = I 540 (5 * p + 3) := fun x => by rw [uI_a _ _ _ (by decide), cc 3 (by decide), r0]
          have g7 : ∀ x y, m_uI (m_uI I1 528 4 x) 528 6 y 540 ((5 : Int32) * nI p + nI 4).toNatClampNeg = I 540 (5 * p + 4) := fun x y => by rw [uI_a _ _ _ (by decide), uI_a _ _ _ (by decide), cc 4 (by decide), r0]
          have g5 : ∀ x y z, m_uI (m_uI (m_uI I1 528 4 x) 528 6 y) 528 7 z 528 5 = I 540 (5 * p + 2) := fun x y z => by
            rw [uI_k _ _ _ (by decide), uI_k _ _ _ (by decide), uI_k _ _ _ (by decide)]
            exact hA.2.1
          refine ⟨rfl, ii 1 (by decide), rfl, rfl, ii 3 (by decide), fun h3 => ?_, fun h3 => ?_⟩
          · have h3 : ¬ m_uI I1 528 4 (I1 540 ((5 : Int32) * nI p + nI 1).toNatClampNeg) 540 ((5 : Int32) * nI p + nI 3).toNatClampNeg = 1 := h3
            rw [g6] at h3
            refine ⟨rfl, Or.inl rfl, rfl, ii 4 (by decide), rfl, rfl, ?_⟩
            show K (some (.inl (m_uI (m_uI (m_uI I1 528 4 (I1 540 ((5 : Int32) * nI p + nI 1).toNatClampNeg)) 528 6 0) 528 7 (m_uI (m_uI I1 528 4 (I1 540 ((5 : Int32) * nI p + nI 1).toNatClampNeg)) 528 6 0 540 ((5 : Int32) * nI p + nI 4).toNatClampNeg) 528 5))) (m_uI (m_uI (m_uI I1 528 4 (I1 540 ((5 : Int32) * nI p + nI 1).toNatClampNeg)) 528 6 0) 528 7 (m_uI (m_uI I1 528 4 (I1 540 ((5 : Int32) * nI p + nI 1).toNatClampNeg)) 528 6 0 540 ((5 : Int32) * nI p + nI 4).toNatClampNeg)) J1
            rw [g5]
            exact hK2 _ _ (bk_end hA g4 (if_neg h3).symm (g7 _ _) h6 h7)
          · have h3 : m_uI I1 528 4 (I1 540 ((5 : Int32) * nI p + nI 1).toNatClampNeg) 540 ((5 : Int32) * nI p + nI 3).toNatClampNeg = 1 := h3
            rw [g6] at h3
            refine ⟨rfl, Or.inr rfl, rfl, ii 4 (by decide), rfl, rfl, ?_⟩
            show K (some (.inl (m_uI (m_uI (m_uI I1 528 4 (I1 540 ((5 : Int32) * nI p + nI 1).toNatClampNeg)) 528 6 1) 528 7 (m_uI (m_uI I1 528 4 (I1 540 ((5 : Int32) * nI p + nI 1).toNatClampNeg)) 528 6 1 540 ((5 : Int32) * nI p + nI 4).toNatClampNeg) 528 5))) (m_uI (m_uI (m_uI I1 528 4 (I1 540 ((5 : Int32) * nI p + nI 1).toNatClampNeg)) 528 6 1) 528 7 (m_uI (m_uI I1 528 4 (I1 540 ((5 : Int32) * nI p + nI 1).toNatClampNeg)) 528 6 1 540 ((5 : Int32) * nI p + nI 4).toNatClampNeg)) J1
            rw [g5]
            exact hK2 _ _ (bk_end hA g4 (if_pos h3).symm (g7 _ _) h6 h7)
        · have h : ¬ nI 10 ≤ nI k := h
          rw [nI_leI (by omega) (by omega)] at h
          have hin1 : m_inb shL 538 0 ((10 : Int32) * nI p + nI k) := by
            rw [m10]
            exact m_inb_i (n := 20) rfl (vp_in_nI (by omega) (by decide))
          have hin2 : m_inb shL 539 0 ((10 : Int32) * nI p + nI k) := by
            rw [m10]
            exact m_inb_i (n := 20) rfl (vp_in_nI (by omega) (by decide))
          have hi3 : m_inb shL 533 0 (nI k) := m_inb_i (n := 10) rfl (vp_in_nI (by omega) (by decide))
          have hi4 : m_inb shL 534 0 (nI k) := m_inb_i (n := 10) rfl (vp_in_nI (by omega) (by decide))
          have ecl : ((10 : Int32) * nI p + nI k).toNatClampNeg = 10 * p + k := by
            rw [m10]
            exact nI_clamp (by omega)
          have kcl : (nI k).toNatClampNeg = k := nI_clamp (by omega)
          have hst := bkA.step (x := I1 538 ((10 : Int32) * nI p + nI k).toNatClampNeg) (y := m_uI I1 533 (nI k).toNatClampNeg (I1 538 ((10 : Int32) * nI p + nI k).toNatClampNeg) 539 ((10 : Int32) * nI p + nI k).toNatClampNeg) hA kcl kcl (by rw [ecl, hA1 538 (by decide) (by decide) (by decide)]) (by rw [uI_a _ _ _ (by decide), ecl, hA1 539 (by decide) (by decide) (by decide)])
          exact ⟨rfl, rfl, hin1, hi3, rfl, rfl, hin2, hi4, 10 - (k + 1), 0, Or.inl (by omega), rfl, k + 1, by rw [← nI_1 k], h6, h7, rfl, by omega, hst⟩
      · cases hc
  · refine ⟨Nat.le_of_ble_eq_true rfl, fun _ _ _ _ _ _ _ => False, ?_, fun pc ks a b vs st I1 J1 _ h => h.elim⟩
    refine ⟨528, [.inl pl], rfl, rfl, pl, rfl, rfl, rfl, rfl, ?_⟩
    rw [if_neg hkm]
    exact ⟨fun h => absurd rfl h, fun _ => hN hkm⟩

theorem wd_step (X a m : Nat) : X / 2 ^ a % 2 ^ (m + 1) = X / 2 ^ (a + 1) % 2 ^ m * 2 + X / 2 ^ a % 2 := by
  have h1 : X / 2 ^ (a + 1) = X / 2 ^ a / 2 := by rw [Nat.pow_succ, Nat.div_div_eq_div_mul]
  rw [h1, show 2 ^ (m + 1) = 2 * 2 ^ m by rw [Nat.pow_succ, Nat.mul_comm], Nat.mod_mul]
  omega

def ct_X5_word (sh : mSH) (rf : mRF) : Nat → Option (Nat × Bool × mPT) := fun k => match k with
  | 134 => some (3, false, pt_in sh rf)
  | _ => none
set_option maxRecDepth 20000 in
theorem ce_X5_word : m_CE RX5 1 25 cX5_word 9 ct_X5_word := by
  intro p l e s m args below meth c Q D cs ad sh rf N hx hb hml hown hts hK hi hN k n vf pt h
  unfold ct_X5_word at h
  split at h
  · cases h
    exact m_CG_S mt_X5_in hx hb hml hown hts hK hi hN (m_wck_ok (l := [(Cond.methodLink RX5 134 yX5_in, 748), (Cond.static yX5_in, 749), (Cond.initialized RX5, 62), (Cond.code yX5_in cX5_in 6 (some .boolean), 750)]) (by decide +kernel)) ⟨by decide +kernel, by decide +kernel, by decide +kernel⟩ ⟨Nat.le_of_ble_eq_true rfl, Nat.le_of_ble_eq_true rfl⟩
  · cases h
set_option maxHeartbeats 4000000 in
set_option maxRecDepth 100000 in
theorem mt_X5_word : m_Mt yX5_word cX5_word 9 (some .int) 1 25 pt_mword := by
  refine m_methodG (fl := fl_X5) (kI := kI_X5) (kJ := kJ_X5) (ct := ct_X5_word) (cd := cd_X5_word) (cut := [(34, [0, 2, 3, 4, 5])]) (rk := 1) (fu := 80) (by decide +kernel) fl_X5_ok kI_X5_ok kJ_X5_ok ce_X5_word rfl ck_X5_word ⟨_, _, rfl, rfl⟩ ?_
  intro sh rf As I J K hpt
  obtain ⟨d, rest, rfl, hd, wh, k, σ, rfl, rfl, rfl, rfl, hM, hK⟩ := hpt
  have l24 : ¬ (24 : Int64) = 0 := by decide
  refine ⟨Nat.le_of_ble_eq_true rfl, fun a9 b9 pc vs st I1 J1 => st = [] ∧ I1 = I ∧ J1 = J ∧ (wh = 0 ∨ wh = 1) ∧ ∃ kk, k = nI kk ∧ kk < 2 ^ 31 ∧ ∃ s X c : Nat, s < 40 ∧ c ≤ 16 ∧ a9 = c ∧ X = (if wh = 0 then (σ 0).natAbs else (σ 1).natAbs) ∧ (∃ n, ZR I s n X) ∧ vs = [.inr (.inr 528), .inl k, .inl (nI s), .inl (nI (X / 2 ^ (16 * kk + c) % 2 ^ (16 - c))), .inl (nI c - 1)], ?_, ?_⟩
  · have wh01 : ((0 : Int64).toInt ≤ wh.toInt64.toInt ∧ wh.toInt64.toInt ≤ (1 : Int64).toInt) ↔ (wh = 0 ∨ wh = 1) := by
      rw [in01]
      constructor
      · intro q
        obtain ⟨e, -⟩ := i_nat q.1
        have : wh.toInt.toNat = 0 ∨ wh.toInt.toNat = 1 := by omega
        rcases this with r | r
        · rw [r] at e
          exact Or.inl e
        · rw [r] at e
          exact Or.inr e
      · rintro (q | q) <;> rw [q] <;> decide
    refine ⟨wh.toInt64, 0, 1, rfl, fun h => ?_, fun h => ⟨fun h2 => ?_, fun h2 => ?_⟩⟩
    · have h := mt wh01.mpr (w_is0 h)
      rw [if_neg (fun q => h q.1)] at hK
      exact hK
    · have h := wh01.mp (w_not0 h)
      have h2 := i_le0.mp h2
      obtain ⟨ek, hk⟩ := i_nat h2
      refine ⟨fun h3 => ?_, fun h3 => ?_⟩
      · have h3 : ¬ wh = 0 := h3
        obtain ⟨n, z1, -, -⟩ := hM 1 (by decide)
        refine ⟨16, 0, rfl, rfl, rfl, h, k.toInt.toNat, ek, hk, 1, (σ 1).natAbs, 16, by decide, by decide, rfl, (if_neg h3).symm, ⟨n, z1⟩, ?_⟩
        rw [Nat.sub_self, Nat.pow_zero, Nat.mod_one]
        rfl
      · have h3 : wh = 0 := h3
        obtain ⟨n, z1, -, -⟩ := hM 0 (by decide)
        refine ⟨16, 0, rfl, rfl, rfl, h, k.toInt.toNat, ek, hk, 0, (σ 0).natAbs, 16, by decide, by decide, rfl, (if_pos h3).symm, ⟨n, z1⟩, ?_⟩
        rw [Nat.sub_self, Nat.pow_zero, Nat.mod_one]
        rfl
    · have h2 := mt i_le0.mpr h2
      rw [if_neg (fun q => h2 q.2)] at hK
      exact hK
  · intro pc ks a9 b9 vs st I1 J1 hc hI
    rcases m_cu1 hc with ⟨rfl, rfl⟩ | hc
    · obtain ⟨rfl, rfl, rfl, hw, kk, rfl, hkk, s, X, c, hs, hc16, rfl, hX, ⟨n, hz⟩, rfl⟩ := hI
      obtain ⟨⟨w1, w2, w3⟩, w4⟩ := id hz
      refine ⟨fun h => ?_, fun h => ?_⟩
      · have h : nI a9 - nI 1 < 0 := h
        have j0 : a9 = 0 := by
          rcases Nat.eq_zero_or_pos a9 with q | q
          · exact q
          · rw [pk_sub (by omega)] at h
            exact absurd h (nI_pos (by omega))
        subst j0
        rw [nI_toInt hkk, if_pos ⟨hw, by omega⟩, ← hX, show ((kk : Nat) : Int).toNat = kk by omega] at hK
        exact hK
      · have c0 : 0 < a9 := by
          rcases Nat.eq_zero_or_pos a9 with q | q
          · rw [q] at h
            exact absurd (by decide) h
          · exact q
        obtain ⟨b, rfl⟩ : ∃ b, a9 = b + 1 := ⟨a9 - 1, by omega⟩
        have eb : nI (b + 1) - 1 = nI b := nI_pred b
        have ei : (16 : Int64) * (nI kk).toInt64 + (nI (b + 1) - 1).toInt64 = lN (16 * kk + b) := by
          rw [eb, nI_l hkk, nI_l (by omega), show (16 : Int64) = lN 16 from rfl, lN_mul, lN_add]
        have ed : lN (16 * kk + b) / 24 = lN ((16 * kk + b) / 24) := pk_lDiv (b := 24) (by omega) (by decide) (by decide)
        have er : lN (16 * kk + b) - lN (16 * kk + b) / 24 * 24 = lN ((16 * kk + b) % 24) := pk_lRem (b := 24) (by omega) (by decide) (by decide)
        have hlong : (I1 530 (nI s).toNatClampNeg).toInt64 = lN n := by rw [scl hs, w1, nI_l (by omega)]
        have hmod : (16 * kk + b) % 24 < 24 := Nat.mod_lt _ (by decide)
        have vb : X / 2 ^ (16 * kk + (b + 1)) % 2 ^ (16 - (b + 1)) < 2 ^ 16 := Nat.lt_of_lt_of_le (Nat.mod_lt _ (Nat.two_pow_pos _)) (Nat.pow_le_pow_right (by decide) (by omega))
        have fin : ∀ (D : Nat), D < 2 ^ 31 → D / 2 ^ ((16 * kk + b) % 24) % 2 = X / 2 ^ (16 * kk + b) % 2 → nI (X / 2 ^ (16 * kk + (b + 1)) % 2 ^ (16 - (b + 1))) * 2 + (nI D >>> ((lN (16 * kk + b) - lN (16 * kk + b) / 24 * 24).toInt32 &&& 31) &&& 1) = nI (X / 2 ^ (16 * kk + b) % 2 ^ (16 - b)) := by
          intro D hD hbit
          have hle : D / 2 ^ ((16 * kk + b) % 24) ≤ D := Nat.div_le_self _ _
          rw [er, lN_i, i_sarn hD (by omega), and1' (by omega), hbit, show (2 : Int32) = nI 2 from rfl, nI_m, nI_add, show 16 - b = (16 - (b + 1)) + 1 by omega, wd_step, show 16 * kk + b + 1 = 16 * kk + (b + 1) by omega]
        have go : ∀ v, v = nI (X / 2 ^ (16 * kk + b) % 2 ^ (16 - b)) → ∃ a1 b1, (a1 < b + 1 ∨ a1 = b + 1 ∧ b1 < b9) ∧ ([] : List mPV) = [] ∧ I1 = I1 ∧ J1 = J1 ∧ (wh = 0 ∨ wh = 1) ∧ ∃ kk', nI kk = nI kk' ∧ kk' < 2 ^ 31 ∧ ∃ s' X' c' : Nat, s' < 40 ∧ c' ≤ 16 ∧ a1 = c' ∧ X' = (if wh = 0 then (σ 0).natAbs else (σ 1).natAbs) ∧ (∃ n, ZR I1 s' n X') ∧ ([.inr (.inr 528), .inl (nI kk), .inl (nI s), .inl v, .inl (nI (b + 1) - 1 + (-1))] : List mPV) = [.inr (.inr 528), .inl (nI kk), .inl (nI s'), .inl (nI (X' / 2 ^ (16 * kk' + c') % 2 ^ (16 - c'))), .inl (nI c' - 1)] := by
          intro v hv
          refine ⟨b, 0, Or.inl (by omega), rfl, rfl, rfl, hw, kk, rfl, hkk, s, X, b, hs, by omega, rfl, hX, ⟨n, hz⟩, ?_⟩
          rw [hv, eb, Int32.sub_eq_add_neg]
        refine ⟨l24, rfl, lin hs, fun h5 => ?_, fun h5 => ?_⟩
        · have h5 : 0 ≤ lg_cmp (((16 : Int64) * (nI kk).toInt64 + (nI (b + 1) - 1).toInt64) / 24) (I1 530 (nI s).toNatClampNeg).toInt64 := h5
          rw [ei, ed, hlong, lg_cmp_ge, pk_lLE (by omega) (by omega)] at h5
          refine ⟨l24, go _ ?_⟩
          show nI (X / 2 ^ (16 * kk + (b + 1)) % 2 ^ (16 - (b + 1))) * 2 + (nI 0 >>> (((16 : Int64) * (nI kk).toInt64 + (nI (b + 1) - 1).toInt64 - ((16 : Int64) * (nI kk).toInt64 + (nI (b + 1) - 1).toInt64) / 24 * 24).toInt32 &&& 31) &&& 1) = _
          rw [ei]
          refine fin 0 (by decide) ?_
          have hlt : X < 2 ^ (16 * kk + b) := by
            rw [← w4]
            refine Nat.lt_of_lt_of_le (dv_lt w3) ?_
            rw [← Nat.pow_mul]
            exact Nat.pow_le_pow_right (by decide) (by omega)
          rw [Nat.div_eq_of_lt hlt, Nat.zero_div]
        · have h5 : ¬ 0 ≤ lg_cmp (((16 : Int64) * (nI kk).toInt64 + (nI (b + 1) - 1).toInt64) / 24) (I1 530 (nI s).toNatClampNeg).toInt64 := h5
          rw [ei, ed, hlong, lg_cmp_ge, pk_lLE (by omega) (by omega)] at h5
          have hidx : (((16 : Int64) * (nI kk).toInt64 + (nI (b + 1) - 1).toInt64) / 24).toInt32 = nI ((16 * kk + b) / 24) := by rw [ei, ed, lN_i]
          have hin : m_inb shL 529 0 ((260 : Int32) * nI s + (((16 : Int64) * (nI kk).toInt64 + (nI (b + 1) - 1).toInt64) / 24).toInt32) := by
            rw [hidx]
            exact zin hs (by omega)
          have hval : I1 529 ((260 : Int32) * nI s + (((16 : Int64) * (nI kk).toInt64 + (nI (b + 1) - 1).toInt64) / 24).toInt32).toNatClampNeg = nI (zd I1 s ((16 * kk + b) / 24)) := by
            rw [hidx, zrd I1 hs (by omega)]
          have hd24 := w3 ((16 * kk + b) / 24) (by omega)
          refine ⟨rfl, l24, hin, l24, go _ ?_⟩
          show nI (X / 2 ^ (16 * kk + (b + 1)) % 2 ^ (16 - (b + 1))) * 2 + (I1 529 ((260 : Int32) * nI s + (((16 : Int64) * (nI kk).toInt64 + (nI (b + 1) - 1).toInt64) / 24).toInt32).toNatClampNeg >>> (((16 : Int64) * (nI kk).toInt64 + (nI (b + 1) - 1).toInt64 - ((16 : Int64) * (nI kk).toInt64 + (nI (b + 1) - 1).toInt64) / 24 * 24).toInt32 &&& 31) &&& 1) = _
          rw [hval, ei]
          exact fin _ (by omega) (bit_dig hz (by omega)).symm
    · cases hc

