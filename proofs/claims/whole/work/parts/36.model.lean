/-! ===== the reference: its numbers, in slots of 260 digits ===== -/
def zd (I : mPI) (s k : Nat) : Nat := u32 (I 529 (260 * s + k))
def WF (I : mPI) (s n : Nat) : Prop := I 530 s = nI n ∧ n ≤ 260 ∧ ∀ k, k < n → zd I s k < 2 ^ 24
def ZR (I : mPI) (s n v : Nat) : Prop := WF I s n ∧ dv (2 ^ 24) (zd I s) n = v
def ZIs (I : mPI) (s : Nat) (z : Int) : Prop := ∃ n, ZR I s n z.natAbs ∧ (0 < n → zd I s (n - 1) ≠ 0) ∧ I 531 s = sgI z
/-- nothing but slot t is changed -/
def SF (I I1 : mPI) (t : Nat) : Prop := (∀ a, a ≠ 529 → a ≠ 530 → a ≠ 531 → I1 a = I a) ∧ (∀ s, s ≠ t → I1 530 s = I 530 s) ∧ (∀ s, s ≠ t → I1 531 s = I 531 s) ∧ ∀ i, i / 260 ≠ t → I1 529 i = I 529 i
theorem SF.rfl' (I : mPI) (t : Nat) : SF I I t := ⟨fun _ _ _ _ => rfl, fun _ _ => rfl, fun _ _ => rfl, fun _ _ => rfl⟩
theorem SF.trans {I I1 I2 : mPI} {t : Nat} (h : SF I I1 t) (g : SF I1 I2 t) : SF I I2 t := ⟨fun a p q r => (g.1 a p q r).trans (h.1 a p q r), fun s q => (g.2.1 s q).trans (h.2.1 s q), fun s q => (g.2.2.1 s q).trans (h.2.2.1 s q), fun i q => (g.2.2.2 i q).trans (h.2.2.2 i q)⟩
theorem sf_z (I : mPI) {t k : Nat} (hk : k < 260) (x : Int32) : SF I (m_uI I 529 (260 * t + k) x) t := ⟨fun a p _ _ => uI_a _ _ _ p, fun s _ => by rw [uI_a _ _ _ (by decide)], fun s _ => by rw [uI_a _ _ _ (by decide)], fun i q => uI_k _ _ _ (fun e => q (by rw [e]; omega))⟩
theorem sf_l (I : mPI) (t : Nat) (x : Int32) : SF I (m_uI I 530 t x) t := ⟨fun a _ q _ => uI_a _ _ _ q, fun s q => uI_k _ _ _ q, fun s _ => by rw [uI_a _ _ _ (by decide)], fun i _ => by rw [uI_a _ _ _ (by decide)]⟩
theorem sf_s (I : mPI) (t : Nat) (x : Int32) : SF I (m_uI I 531 t x) t := ⟨fun a _ _ q => uI_a _ _ _ q, fun s _ => by rw [uI_a _ _ _ (by decide)], fun s q => uI_k _ _ _ q, fun i _ => by rw [uI_a _ _ _ (by decide)]⟩
theorem zd_cg {I I1 : mPI} {s k : Nat} (h : I1 529 = I 529) : zd I1 s k = zd I s k := by
  unfold zd
  rw [h]
theorem SF.zd {I I1 : mPI} {t s k : Nat} (h : SF I I1 t) (hs : s ≠ t) (hk : k < 260) : zd I1 s k = zd I s k := by
  unfold Jvm.Pilot.CMomentDeskLaw_law_r2060_3202d2.zd
  rw [h.2.2.2 _ (by omega)]
theorem WF.sf {I I1 : mPI} {t s n : Nat} (hw : WF I s n) (h : SF I I1 t) (hs : s ≠ t) : WF I1 s n := ⟨(h.2.1 s hs).trans hw.1, hw.2.1, fun k hk => by rw [h.zd hs (by have := hw.2.1; omega)]; exact hw.2.2 k hk⟩
theorem ZR.sf {I I1 : mPI} {t s n v : Nat} (hw : ZR I s n v) (h : SF I I1 t) (hs : s ≠ t) : ZR I1 s n v := ⟨hw.1.sf h hs, by rw [dv_congr (fun k hk => h.zd hs (by have := hw.1.2.1; omega))]; exact hw.2⟩
theorem ZIs.sf {I I1 : mPI} {t s : Nat} {z : Int} (hw : ZIs I s z) (h : SF I I1 t) (hs : s ≠ t) : ZIs I1 s z := by
  obtain ⟨n, h1, h2, h3⟩ := hw
  exact ⟨n, h1.sf h hs, fun q => by rw [h.zd hs (by have := h1.1.2.1; omega)]; exact h2 q, (h.2.2.1 s hs).trans h3⟩
theorem zx (s k : Nat) : (260 : Int32) * nI s + nI k = nI (260 * s + k) := by
  rw [show (260 : Int32) * nI s = nI (260 * s) from (Int32.ofNat_mul 260 s).symm, nI_add]
theorem zcl {s k : Nat} (hs : s < 40) (hk : k < 260) : ((260 : Int32) * nI s + nI k).toNatClampNeg = 260 * s + k := by
  rw [zx, nI_clamp (by omega)]
theorem zin {s k : Nat} (hs : s < 40) (hk : k < 260) : m_inb shL 529 0 ((260 : Int32) * nI s + nI k) := by
  rw [zx]
  exact m_inb_i (n := 10400) rfl (vp_in_nI (by omega) (by decide))
theorem lin {s : Nat} (hs : s < 40) : m_inb shL 530 0 (nI s) := m_inb_i (n := 40) rfl (vp_in_nI hs (by decide))
theorem sin {s : Nat} (hs : s < 40) : m_inb shL 531 0 (nI s) := m_inb_i (n := 40) rfl (vp_in_nI hs (by decide))
theorem scl {s : Nat} (hs : s < 40) : (nI s).toNatClampNeg = s := nI_clamp (by omega)
theorem u32n {n : Nat} (h : n < 2 ^ 32) : u32 (nI n) = n := by rw [u32_nI, Nat.mod_eq_of_lt h]
theorem zd_w (I : mPI) (s k : Nat) (x : Int32) : zd (m_uI I 529 (260 * s + k) x) s k = u32 x := by
  unfold zd
  rw [uI_s]
theorem zd_o (I : mPI) {s k j : Nat} (h : j ≠ k) (x : Int32) : zd (m_uI I 529 (260 * s + k) x) s j = zd I s j := by
  unfold zd
  rw [uI_k _ _ _ (by omega)]
theorem zd_l (I : mPI) (t : Nat) (x : Int32) (s k : Nat) : zd (m_uI I 530 t x) s k = zd I s k := zd_cg (uI_a _ _ _ (by decide))
theorem zd_s (I : mPI) (t : Nat) (x : Int32) (s k : Nat) : zd (m_uI I 531 t x) s k = zd I s k := zd_cg (uI_a _ _ _ (by decide))
theorem zrd (I : mPI) {s k : Nat} (hs : s < 40) (hk : k < 260) : I 529 ((260 : Int32) * nI s + nI k).toNatClampNeg = nI (zd I s k) := by
  rw [zcl hs hk]
  exact nI_of32 _
theorem ZIs.lim {I : mPI} {s n m : Nat} {z : Int} (h1 : ZR I s n z.natAbs) (h2 : 0 < n → zd I s (n - 1) ≠ 0) (hm : z.natAbs < 2 ^ (24 * m)) : n ≤ m := by
  rcases Nat.eq_zero_or_pos n with q | q
  · omega
  · obtain ⟨k, rfl⟩ : ∃ k, n = k + 1 := ⟨n - 1, by omega⟩
    have b1 : (2 ^ 24) ^ k ≤ dv (2 ^ 24) (zd I s) (k + 1) := dv_top (h2 q)
    rw [h1.2, ← Nat.pow_mul] at b1
    have b2 : 2 ^ (24 * k) < 2 ^ (24 * m) := Nat.lt_of_le_of_lt b1 hm
    have := (Nat.pow_lt_pow_iff_right (by decide)).mp b2
    omega
theorem ZIs.zero {I : mPI} {s n : Nat} {z : Int} (h1 : ZR I s n z.natAbs) (h2 : 0 < n → zd I s (n - 1) ≠ 0) : n = 0 ↔ z = 0 := by
  constructor
  · intro e
    have := h1.2
    rw [e, dv] at this
    omega
  · intro e
    have := ZIs.lim (m := 0) h1 h2 (by rw [e]; decide)
    omega
theorem ZIs.lt {I : mPI} {s : Nat} {z : Int} (h : ZIs I s z) : z.natAbs < 2 ^ (24 * 260) := by
  obtain ⟨n, h1, h2, h3⟩ := h
  have := dv_lt (B := 2 ^ 24) (g := zd I s) (n := n) h1.1.2.2
  rw [h1.2, ← Nat.pow_mul] at this
  exact Nat.lt_of_lt_of_le this (Nat.pow_le_pow_right (by decide) (Nat.mul_le_mul_left _ h1.1.2.1))
def lm (I : mPI) (s n k : Nat) : Nat := if k < n then zd I s k else 0
def pt_limb : mSH → mRF → mPT := m_pv 5 (fun sh rf d rest I J K => ∃ s k n : Nat, sh = shL ∧ rf = rfL ∧ d = 528 ∧ rest = [.inl (nI s), .inl (nI k)] ∧ s < 40 ∧ k < 2 ^ 30 ∧ WF I s n ∧ K (some (.inl (nI (lm I s n k)))) I J)
def pt_mcut : mSH → mRF → mPT := m_pv 5 (fun sh rf d rest I J K => ∃ (s n : Nat) (z : Int), sh = shL ∧ rf = rfL ∧ d = 528 ∧ rest = [.inl (nI s)] ∧ s < 40 ∧ ZR I s n z.natAbs ∧ (z < 0 → I 531 s = -1) ∧ (0 < z → I 531 s = 1) ∧ ∀ I1, SF I I1 s → ZIs I1 s z → K none I1 J)
def pt_mcopy : mSH → mRF → mPT := m_pv 5 (fun sh rf d rest I J K => ∃ f t n : Nat, sh = shL ∧ rf = rfL ∧ d = 528 ∧ rest = [.inl (nI f), .inl (nI t)] ∧ f < 40 ∧ t < 40 ∧ WF I f n ∧ ∀ I1, SF I I1 t → I1 530 t = I 530 f → I1 531 t = I 531 f → (∀ k, k < n → zd I1 t k = zd I f k) → K none I1 J)
def pt_mcompare : mSH → mRF → mPT := m_pv 5 (fun sh rf d rest I J K => ∃ (a b : Nat) (x y : Int), sh = shL ∧ rf = rfL ∧ d = 528 ∧ rest = [.inl (nI a), .inl (nI b)] ∧ a < 40 ∧ b < 40 ∧ ZIs I a x ∧ ZIs I b y ∧ K (some (.inl (cmpN x.natAbs y.natAbs))) I J)
theorem ZIs.copy {I I1 : mPI} {f t n : Nat} {z : Int} (hw : WF I f n) (h : ZIs I f z) (h1 : I1 530 t = I 530 f) (h2 : I1 531 t = I 531 f) (h3 : ∀ k, k < n → zd I1 t k = zd I f k) : ZIs I1 t z := by
  obtain ⟨m, g1, g2, g3⟩ := h
  obtain rfl : m = n := (nI_eq (by have := g1.1.2.1; omega) (by have := hw.2.1; omega)).mp (g1.1.1.symm.trans hw.1)
  exact ⟨m, ⟨⟨h1.trans g1.1.1, g1.1.2.1, fun k hk => by rw [h3 k hk]; exact g1.1.2.2 k hk⟩, by rw [dv_congr h3]; exact g1.2⟩, fun q => by rw [h3 _ (by omega)]; exact g2 q, h2.trans g3⟩

set_option maxHeartbeats 4000000 in
set_option maxRecDepth 100000 in
theorem mt_X5_limb : m_Mt yX5_limb cX5_limb 3 (some .int) 0 0 pt_limb := by
  refine m_method0 80 (fl := fl_X5) (kI := kI_X5) (kJ := kJ_X5) (ct := ct_none) (cd := cd_X5_limb) (rk := 1) (by decide +kernel) fl_X5_ok kI_X5_ok kJ_X5_ok (ce_none _ _ _ _ _) rfl ck_X5_limb ⟨_, _, rfl, rfl⟩ ?_
  intro sh rf As I J K hpt
  obtain ⟨d, rest, rfl, hd, s, k, n, rfl, rfl, rfl, rfl, hs, hk, hw, hK⟩ := hpt
  obtain ⟨w1, w2, w3⟩ := hw
  unfold lm at hK
  refine ⟨Nat.le_of_ble_eq_true rfl, rfl, lin hs, fun h => ?_, fun h => ?_⟩
  · have h : I 530 (nI s).toNatClampNeg ≤ nI k := h
    rw [scl hs, w1, nI_leI (by omega) (by omega)] at h
    rw [if_neg (by omega)] at hK
    exact hK
  · have h : ¬ I 530 (nI s).toNatClampNeg ≤ nI k := h
    rw [scl hs, w1, nI_leI (by omega) (by omega)] at h
    rw [if_pos (by omega)] at hK
    refine ⟨rfl, zin hs (by omega), ?_⟩
    show K (some (.inl (I 529 ((260 : Int32) * nI s + nI k).toNatClampNeg))) I J
    rw [zrd I hs (by omega)]
    exact hK

set_option maxHeartbeats 4000000 in
set_option maxRecDepth 100000 in
theorem mt_X5_cut : m_Mt yX5_cut cX5_cut 2 none 0 0 pt_mcut := by
  refine m_methodG (fl := fl_X5) (kI := kI_X5) (kJ := kJ_X5) (ct := ct_none) (cd := cd_X5_cut) (cut := [(0, [0, 1])]) (rk := 0) (fu := 80) (by decide +kernel) fl_X5_ok kI_X5_ok kJ_X5_ok (ce_none _ _ _ _ _) rfl ck_X5_cut ⟨_, _, rfl, rfl⟩ ?_
  intro sh rf As I J K hpt
  obtain ⟨d, rest, rfl, hd, s, n, z, rfl, rfl, rfl, rfl, hs, hz, hneg, hpos, hK⟩ := hpt
  refine ⟨Nat.le_of_ble_eq_true rfl, fun a9 b9 pc vs st I1 J1 => ∃ j, vs = [.inr (.inr 528), .inl (nI s)] ∧ st = [] ∧ J1 = J ∧ a9 = j + 1 ∧ SF I I1 s ∧ ZR I1 s j z.natAbs ∧ I1 531 s = I 531 s, ?_, ?_⟩
  · exact ⟨n + 1, 0, n, rfl, rfl, rfl, rfl, SF.rfl' I s, hz, rfl⟩
  · intro pc ks a9 b9 vs st I1 J1 hc hI
    rcases m_cu1 hc with ⟨rfl, rfl⟩ | hc
    · obtain ⟨j, rfl, rfl, rfl, rfl, hsf, ⟨⟨w1, w2, w3⟩, w4⟩, hsg⟩ := hI
      have fin : (0 < j → zd I1 s (j - 1) ≠ 0) → (¬ I1 530 s = 0 → shL 528 = .inl 5 ∧ m_inb shL 531 0 (nI s) ∧ m_inb shL 531 0 (nI s) ∧ K none (m_uI I1 531 (nI s).toNatClampNeg (I1 531 (nI s).toNatClampNeg)) J1) ∧ (I1 530 s = 0 → m_inb shL 531 0 (nI s) ∧ K none (m_uI I1 531 (nI s).toNatClampNeg 0) J1) := by
        intro ht
        have hzz := ZIs.zero ⟨⟨w1, w2, w3⟩, w4⟩ ht
        have mk : ∀ x : Int32, x = sgI z → K none (m_uI I1 531 s x) J1 := by
          intro x hx
          refine hK _ (hsf.trans (sf_s I1 s x)) ⟨j, ⟨⟨by rw [uI_a _ _ _ (by decide)]; exact w1, w2, fun k hk => by rw [zd_s]; exact w3 k hk⟩, by rw [dv_congr (fun k _ => zd_s I1 s x s k)]; exact w4⟩, fun q => by rw [zd_s]; exact ht q, by rw [uI_s]; exact hx⟩
        rw [scl hs]
        refine ⟨fun q => ⟨rfl, sin hs, sin hs, mk _ ?_⟩, fun q => ⟨sin hs, mk 0 ?_⟩⟩
        · rw [hsg]
          have j0 : j ≠ 0 := fun r => q (by rw [w1, r]; rfl)
          have z0 : z ≠ 0 := fun r => j0 (hzz.mpr r)
          unfold sgI
          rcases Int.lt_trichotomy z 0 with r | r | r
          · rw [if_pos r]
            exact hneg r
          · exact absurd r z0
          · rw [if_neg (by omega), if_neg z0]
            exact hpos r
        · rw [w1] at q
          have j0 : j = 0 := (nI_eq (b := 0) (by omega) (by omega)).mp q
          rw [hzz.mp j0]
          rfl
      refine ⟨rfl, lin hs, fun h => ?_, fun h => ?_⟩
      · have h : I1 530 (nI s).toNatClampNeg ≤ nI 0 := h
        rw [scl hs, w1, nI_leI (by omega) (by omega)] at h
        obtain ⟨f1, f2⟩ := fin (fun q => by omega)
        refine ⟨rfl, rfl, lin hs, fun h2 => ?_, fun h2 => ?_⟩
        · have h2 : ¬ I1 530 (nI s).toNatClampNeg = 0 := h2
          rw [scl hs] at h2
          exact f1 h2
        · have h2 : I1 530 (nI s).toNatClampNeg = 0 := h2
          rw [scl hs] at h2
          exact f2 h2
      · have h : ¬ I1 530 (nI s).toNatClampNeg ≤ nI 0 := h
        rw [scl hs, w1, nI_leI (by omega) (by omega)] at h
        have ex : (260 : Int32) * nI s + I1 530 (nI s).toNatClampNeg - 1 = (260 : Int32) * nI s + nI (j - 1) := by
          rw [scl hs, w1, zx, zx, show 260 * s + (j - 1) = 260 * s + j - 1 by omega]
          exact pk_sub (b := 1) (by omega)
        refine ⟨rfl, rfl, lin hs, ?_⟩
        show m_inb shL 529 0 ((260 : Int32) * nI s + I1 530 (nI s).toNatClampNeg - 1) ∧ (¬ I1 529 ((260 : Int32) * nI s + I1 530 (nI s).toNatClampNeg - 1).toNatClampNeg = 0 → _) ∧ (I1 529 ((260 : Int32) * nI s + I1 530 (nI s).toNatClampNeg - 1).toNatClampNeg = 0 → _)
        rw [ex, zrd I1 hs (by omega)]
        refine ⟨zin hs (by omega), fun h2 => ?_, fun h2 => ?_⟩
        · obtain ⟨f1, f2⟩ := fin (fun _ e => h2 (by rw [e]; rfl))
          refine ⟨rfl, rfl, lin hs, fun h3 => ?_, fun h3 => ?_⟩
          · have h3 : ¬ I1 530 (nI s).toNatClampNeg = 0 := h3
            rw [scl hs] at h3
            exact f1 h3
          · have h3 : I1 530 (nI s).toNatClampNeg = 0 := h3
            rw [scl hs] at h3
            exact f2 h3
        · have hz0 : zd I1 s (j - 1) = 0 := by
            have := w3 (j - 1) (by omega)
            exact (nI_eq (b := 0) (by omega) (by omega)).mp h2
          refine ⟨rfl, lin hs, lin hs, j - 1 + 1, 0, Or.inl (by omega), j - 1, rfl, rfl, rfl, rfl, ?_⟩
          show SF I (m_uI I1 530 (nI s).toNatClampNeg (I1 530 (nI s).toNatClampNeg - 1)) s ∧ ZR (m_uI I1 530 (nI s).toNatClampNeg (I1 530 (nI s).toNatClampNeg - 1)) s (j - 1) z.natAbs ∧ m_uI I1 530 (nI s).toNatClampNeg (I1 530 (nI s).toNatClampNeg - 1) 531 s = I 531 s
          rw [scl hs, w1, show nI j - 1 = nI (j - 1) from pk_sub (b := 1) (by omega)]
          refine ⟨hsf.trans (sf_l I1 s _), ⟨⟨uI_s _ _ _ _, by omega, fun k hk => by rw [zd_l]; exact w3 k (by omega)⟩, ?_⟩, by rw [uI_a _ _ _ (by decide)]; exact hsg⟩
          rw [dv_congr (fun k _ => zd_l I1 s _ s k), ← w4]
          exact (dv_ext (n := j - 1) (m := j) (by omega) (fun i a b => by rw [show i = j - 1 by omega]; exact hz0)).symm
    · cases hc

set_option maxHeartbeats 4000000 in
set_option maxRecDepth 100000 in
theorem mt_X5_copy : m_Mt yX5_copy cX5_copy 4 none 0 0 pt_mcopy := by
  refine m_methodG (fl := fl_X5) (kI := kI_X5) (kJ := kJ_X5) (ct := ct_none) (cd := cd_X5_copy) (cut := [(2, [0, 1, 2, 3])]) (rk := 0) (fu := 80) (by decide +kernel) fl_X5_ok kI_X5_ok kJ_X5_ok (ce_none _ _ _ _ _) rfl ck_X5_copy ⟨_, _, rfl, rfl⟩ ?_
  intro sh rf As I J K hpt
  obtain ⟨d, rest, rfl, hd, f, t, n, rfl, rfl, rfl, rfl, hf, ht, hw, hK⟩ := hpt
  obtain ⟨w1, w2, w3⟩ := hw
  refine ⟨Nat.le_of_ble_eq_true rfl, fun a9 b9 pc vs st I1 J1 => ∃ j, vs = [.inr (.inr 528), .inl (nI f), .inl (nI t), .inl (nI j)] ∧ st = [] ∧ J1 = J ∧ a9 = n - j ∧ j ≤ n ∧ SF I I1 t ∧ I1 530 = I 530 ∧ I1 531 = I 531 ∧ (∀ k, k < j → zd I1 t k = zd I f k) ∧ ∀ k, j ≤ k → k < 260 → zd I1 t k = zd I t k, ?_, ?_⟩
  · exact ⟨n - 0, 0, 0, rfl, rfl, rfl, rfl, Nat.zero_le _, SF.rfl' I t, rfl, rfl, fun k hk => absurd hk (Nat.not_lt_zero k), fun _ _ _ => rfl⟩
  · intro pc ks a9 b9 vs st I1 J1 hc hI
    rcases m_cu1 hc with ⟨rfl, rfl⟩ | hc
    · obtain ⟨j, rfl, rfl, rfl, rfl, hj, hsf, e0, e1, e2, e3⟩ := hI
      refine ⟨rfl, lin hf, fun h => ?_, fun h => ?_⟩
      · have h : I1 530 (nI f).toNatClampNeg ≤ nI j := h
        rw [scl hf, e0, w1, nI_leI (by omega) (by omega)] at h
        obtain rfl : j = n := by omega
        refine ⟨rfl, rfl, lin hf, lin ht, rfl, rfl, sin hf, sin ht, ?_⟩
        show K none (m_uI (m_uI I1 530 (nI t).toNatClampNeg (I1 530 (nI f).toNatClampNeg)) 531 (nI t).toNatClampNeg ((m_uI I1 530 (nI t).toNatClampNeg (I1 530 (nI f).toNatClampNeg)) 531 (nI f).toNatClampNeg)) J1
        rw [scl hf, scl ht, uI_a _ _ _ (show (531 : Nat) ≠ 530 by decide), e0, e1]
        refine hK _ ((hsf.trans (sf_l I1 t _)).trans (sf_s _ t _)) ?_ (uI_s _ _ _ _) (fun k hk => ?_)
        · rw [uI_a _ _ _ (by decide), uI_s]
        · rw [zd_s, zd_l]
          exact e2 k hk
      · have h : ¬ I1 530 (nI f).toNatClampNeg ≤ nI j := h
        rw [scl hf, e0, w1, nI_leI (by omega) (by omega)] at h
        have hrd : zd I1 f j = zd I f j := by
          by_cases q : f = t
          · rw [q]
            exact e3 j (Nat.le_refl _) (by omega)
          · exact hsf.zd q (by omega)
        refine ⟨rfl, rfl, zin hf (by omega), zin ht (by omega), n - (j + 1), 0, Or.inl (by omega), j + 1, by rw [← nI_1 j], rfl, rfl, rfl, by omega, ?_⟩
        show SF I (m_uI I1 529 ((260 : Int32) * nI t + nI j).toNatClampNeg (I1 529 ((260 : Int32) * nI f + nI j).toNatClampNeg)) t ∧ (m_uI I1 529 ((260 : Int32) * nI t + nI j).toNatClampNeg (I1 529 ((260 : Int32) * nI f + nI j).toNatClampNeg)) 530 = I 530 ∧ (m_uI I1 529 ((260 : Int32) * nI t + nI j).toNatClampNeg (I1 529 ((260 : Int32) * nI f + nI j).toNatClampNeg)) 531 = I 531 ∧ (∀ k, k < j + 1 → zd (m_uI I1 529 ((260 : Int32) * nI t + nI j).toNatClampNeg (I1 529 ((260 : Int32) * nI f + nI j).toNatClampNeg)) t k = zd I f k) ∧ ∀ k, j + 1 ≤ k → k < 260 → zd (m_uI I1 529 ((260 : Int32) * nI t + nI j).toNatClampNeg (I1 529 ((260 : Int32) * nI f + nI j).toNatClampNeg)) t k = zd I t k
        rw [zrd I1 hf (by omega), zcl ht (by omega)]
        refine ⟨hsf.trans (sf_z I1 (by omega) _), by rw [uI_a _ _ _ (by decide)]; exact e0, by rw [uI_a _ _ _ (by decide)]; exact e1, fun k hk => ?_, fun k h1 h2 => ?_⟩
        · by_cases q : k = j
          · rw [q, zd_w, u32n (by have := u32_lt (I1 529 (260 * f + j)); unfold zd; omega)]
            exact hrd
          · rw [zd_o I1 q]
            exact e2 k (by omega)
        · rw [zd_o I1 (by omega)]
          exact e3 k (by omega) h2
    · cases hc

set_option maxHeartbeats 4000000 in
set_option maxRecDepth 100000 in
theorem mt_X5_compare : m_Mt yX5_compare cX5_compare 6 (some .int) 0 0 pt_mcompare := by
  refine m_methodG (fl := fl_X5) (kI := kI_X5) (kJ := kJ_X5) (ct := ct_none) (cd := cd_X5_compare) (cut := [(45, [0, 1, 2, 3])]) (rk := 1) (fu := 80) (by decide +kernel) fl_X5_ok kI_X5_ok kJ_X5_ok (ce_none _ _ _ _ _) rfl ck_X5_compare ⟨_, _, rfl, rfl⟩ ?_
  intro sh rf As I J K hpt
  obtain ⟨d, rest, rfl, hd, a, b, x, y, rfl, rfl, rfl, rfl, ha, hb, ⟨n, ⟨⟨h1, h2, h3⟩, h4⟩, h5, h6⟩, ⟨m, ⟨⟨g1, g2, g3⟩, g4⟩, g5, g6⟩, hK⟩ := hpt
  have big : ∀ {s1 s2 n1 n2 : Nat}, n2 < n1 → (0 < n1 → zd I s1 (n1 - 1) ≠ 0) → (∀ k, k < n2 → zd I s2 k < 2 ^ 24) → dv (2 ^ 24) (zd I s2) n2 < dv (2 ^ 24) (zd I s1) n1 := by
    intro s1 s2 n1 n2 q1 q2 q3
    obtain ⟨k, rfl⟩ : ∃ k, n1 = k + 1 := ⟨n1 - 1, by omega⟩
    have b1 : (2 ^ 24) ^ k ≤ dv (2 ^ 24) (zd I s1) (k + 1) := dv_top (q2 (by omega))
    have b2 := dv_lt (B := 2 ^ 24) (g := zd I s2) (n := n2) q3
    have b3 : (2 ^ 24) ^ n2 ≤ (2 ^ 24) ^ k := Nat.pow_le_pow_right (by decide) (by omega)
    omega
  refine ⟨Nat.le_of_ble_eq_true rfl, fun a9 b9 pc vs st I1 J1 => ∃ j, vs = [.inr (.inr 528), .inl (nI a), .inl (nI b), .inl (nI j - 1)] ∧ st = [] ∧ I1 = I ∧ J1 = J ∧ a9 = j + 1 ∧ m = n ∧ j ≤ n ∧ (∀ i, j ≤ i → i < n → zd I a i = zd I b i), ?_, ?_⟩
  · refine ⟨rfl, lin ha, rfl, lin hb, fun h => ?_, fun h => ⟨rfl, lin ha, rfl, lin hb, fun h7 => ?_, fun h7 => ?_⟩⟩
    · have h : I 530 (nI a).toNatClampNeg = I 530 (nI b).toNatClampNeg := h
      rw [scl ha, scl hb, h1, g1, nI_eq (by omega) (by omega)] at h
      refine ⟨rfl, lin ha, n + 1, 0, n, ?_, rfl, rfl, rfl, rfl, h.symm, Nat.le_refl _, fun i a1 a2 => absurd a2 (by omega)⟩
      show ([.inr (.inr 528), .inl (nI a), .inl (nI b), .inl (I 530 (nI a).toNatClampNeg - 1)] : List mPV) = _
      rw [scl ha, h1]
    · have h : ¬ I 530 (nI a).toNatClampNeg = I 530 (nI b).toNatClampNeg := h
      have h7 : I 530 (nI b).toNatClampNeg ≤ I 530 (nI a).toNatClampNeg := h7
      rw [scl ha, scl hb, h1, g1, nI_eq (by omega) (by omega)] at h
      rw [scl ha, scl hb, h1, g1, nI_leI (by omega) (by omega)] at h7
      have := big (s1 := a) (s2 := b) (n1 := n) (n2 := m) (by omega) h5 g3
      have e : cmpN x.natAbs y.natAbs = 1 := by
        unfold cmpN
        rw [if_neg (by omega), if_neg (by omega)]
      rw [e] at hK
      exact hK
    · have h : ¬ I 530 (nI a).toNatClampNeg = I 530 (nI b).toNatClampNeg := h
      have h7 : ¬ I 530 (nI b).toNatClampNeg ≤ I 530 (nI a).toNatClampNeg := h7
      rw [scl ha, scl hb, h1, g1, nI_eq (by omega) (by omega)] at h
      rw [scl ha, scl hb, h1, g1, nI_leI (by omega) (by omega)] at h7
      have := big (s1 := b) (s2 := a) (n1 := m) (n2 := n) (by omega) g5 h3
      have e : cmpN x.natAbs y.natAbs = -1 := by
        unfold cmpN
        rw [if_pos (by omega)]
      rw [e] at hK
      exact hK
  · intro pc ks a9 b9 vs st I1 J1 hc hI
    rcases m_cu1 hc with ⟨rfl, rfl⟩ | hc
    · obtain ⟨j, rfl, rfl, rfl, rfl, rfl, rfl, hj, hz⟩ := hI
      refine ⟨fun h => ?_, fun h => ?_⟩
      · have h : nI j - nI 1 < 0 := h
        have j0 : j = 0 := by
          rcases Nat.eq_zero_or_pos j with q | q
          · exact q
          · rw [pk_sub (by omega)] at h
            exact absurd h (nI_pos (by omega))
        have e : cmpN x.natAbs y.natAbs = 0 := by
          have : x.natAbs = y.natAbs := by
            rw [← h4, ← g4]
            exact dv_congr (fun i hi => hz i (by omega) hi)
          unfold cmpN
          rw [if_neg (by omega), if_pos this]
        rw [e] at hK
        exact hK
      · have j1 : 0 < j := by
          rcases Nat.eq_zero_or_pos j with q | q
          · rw [q] at h
            exact absurd (by decide) h
          · exact q
        have e6 : nI j - 1 = nI (j - 1) := pk_sub (b := 1) (by omega)
        refine ⟨rfl, ?_⟩
        show m_inb shL 529 0 ((260 : Int32) * nI a + (nI j - 1)) ∧ shL 528 = .inl 5 ∧ m_inb shL 529 0 ((260 : Int32) * nI b + (nI j - 1)) ∧ (I1 529 ((260 : Int32) * nI a + (nI j - 1)).toNatClampNeg = I1 529 ((260 : Int32) * nI b + (nI j - 1)).toNatClampNeg → _) ∧ (¬ I1 529 ((260 : Int32) * nI a + (nI j - 1)).toNatClampNeg = I1 529 ((260 : Int32) * nI b + (nI j - 1)).toNatClampNeg → (I1 529 ((260 : Int32) * nI b + (nI j - 1)).toNatClampNeg ≤ I1 529 ((260 : Int32) * nI a + (nI j - 1)).toNatClampNeg → K (some (.inl 1)) I1 J1) ∧ (¬ I1 529 ((260 : Int32) * nI b + (nI j - 1)).toNatClampNeg ≤ I1 529 ((260 : Int32) * nI a + (nI j - 1)).toNatClampNeg → K (some (.inl (-1))) I1 J1))
        rw [e6, zrd I1 ha (by omega), zrd I1 hb (by omega)]
        have l1 := h3 (j - 1) (by omega)
        have l2 := g3 (j - 1) (by omega)
        refine ⟨zin ha (by omega), rfl, zin hb (by omega), fun h7 => ?_, fun h7 => ⟨fun h8 => ?_, fun h8 => ?_⟩⟩
        · rw [nI_eq (by omega) (by omega)] at h7
          refine ⟨j - 1 + 1, 0, Or.inl (by omega), j - 1, ?_, rfl, rfl, rfl, rfl, rfl, by omega, fun i q1 q2 => ?_⟩
          · exact congrArg (fun y => [Sum.inr (Sum.inr 528), Sum.inl (nI a), Sum.inl (nI b), Sum.inl y]) (Int32.sub_eq_add_neg (nI (j - 1)) 1).symm
          · rcases Nat.lt_or_ge i j with r | r
            · rw [show i = j - 1 by omega]
              exact h7
            · exact hz i r q2
        · rw [nI_eq (by omega) (by omega)] at h7
          rw [nI_leI (by omega) (by omega)] at h8
          have := dv_cmp (B := 2 ^ 24) (g := zd I1 b) (h := zd I1 a) (k := j - 1) (n := m) (fun i hi => g3 i (by omega)) (by omega) (by omega) (fun i q1 q2 => (hz i (by omega) q2).symm)
          have e : cmpN x.natAbs y.natAbs = 1 := by
            unfold cmpN
            rw [if_neg (by omega), if_neg (by omega)]
          rw [e] at hK
          exact hK
        · rw [nI_leI (by omega) (by omega)] at h8
          have := dv_cmp (B := 2 ^ 24) (g := zd I1 a) (h := zd I1 b) (k := j - 1) (n := m) (fun i hi => h3 i (by omega)) (by omega) (by omega) (fun i q1 q2 => hz i (by omega) q2)
          have e : cmpN x.natAbs y.natAbs = -1 := by
            unfold cmpN
            rw [if_pos (by omega)]
          rw [e] at hK
          exact hK
    · cases hc

