/-! ===== the desk: moment, span, counted, by, mirror, keep, back ===== -/
def momO (kd pts ch : Int32) (k v : Int) : Int32 ⊕ Unit := if ¬ (0 ≤ k ∧ k ≤ 11) then .inl (-1) else if ¬ win v 1000000 then .inl (-2) else if ¬ ch = 0 ∨ ¬ ((kd = 0 ∧ pts = 0) ∨ kd = 1) then .inl (-3) else .inr ()
def pt_moment : mSH → mRF → mPT := m_pv 4 (fun sh rf d rest I J K => ∃ k v : Int32, sh = shL ∧ rf = rfL ∧ d = 523 ∧ rest = [.inl k, .inl v] ∧ CI I J ∧ Out (momO (I 513 0) (I 513 2) (I 513 3) k.toInt v.toInt) (fun r => ∀ I1 J1, SameC I J I1 J1 → K (some (.inl r)) I1 J1) (∀ I1 J1, UpdC I J I1 J1 1 (I 513 1) (I 513 2) (I 513 3) (fun x => I 516 x) (fun j => if j = k.toInt.toNat then v.toInt64 else J 519 j) → K (some (.inl (nI (nzc (J1 519) 12)))) I1 J1))
def spanO (a b : Int) : Int32 ⊕ Unit := if -9 ≤ a ∧ a < b ∧ b ≤ 9 then .inr () else .inl (-2)
def spM (a b : Int32) (k : Nat) : Int64 := (nI (27720 / (k + 1))).toInt64 * (pwL b.toInt64 (k + 1) - pwL a.toInt64 (k + 1))
def pt_span : mSH → mRF → mPT := m_pv 4 (fun sh rf d rest I J K => ∃ a b : Int32, sh = shL ∧ rf = rfL ∧ d = 523 ∧ rest = [.inl a, .inl b] ∧ CI I J ∧ Out (spanO a.toInt b.toInt) (fun r => ∀ I1 J1, SameC I J I1 J1 → K (some (.inl r)) I1 J1) (∀ I1 J1, UpdC I J I1 J1 2 11 0 0 (fun _ => 0) (spM a b) → K (some (.inl 1)) I1 J1))
theorem spM_le {a b : Int32} (ha : win a.toInt 9) (hb : win b.toInt 9) {k : Nat} (hk : k < 12) : (spM a b k).toInt.natAbs ≤ MB := by
  obtain ⟨a1, a2, -⟩ := pwL_int ha (k := k + 1) (by omega)
  obtain ⟨b1, b2, -⟩ := pwL_int hb (k := k + 1) (by omega)
  have hs : (pwL b.toInt64 (k + 1) - pwL a.toInt64 (k + 1)).toInt = b.toInt ^ (k + 1) - a.toInt ^ (k + 1) := by
    rw [l_subT (by rw [a1, b1]; omega), a1, b1]
  have h0 : 27720 / (k + 1) ≤ 27720 := Nat.div_le_self _ _
  have hq : ((nI (27720 / (k + 1))).toInt64).toInt = ((27720 / (k + 1) : Nat) : Int) := by
    rw [Int32.toInt_toInt64, nI_toInt (by omega)]
  have hm : (((27720 / (k + 1) : Nat) : Int) * (b.toInt ^ (k + 1) - a.toInt ^ (k + 1))).natAbs ≤ 27720 * (2 * 9 ^ 12) := by
    rw [Int.natAbs_mul, Int.natAbs_natCast]
    exact Nat.mul_le_mul h0 (by omega)
  unfold spM
  rw [l_mulT (by rw [hq, hs]; exact Nat.le_trans hm (by decide)), hq, hs]
  exact Nat.le_trans hm (by decide)
/-! counted -/
abbrev cOK (wh n u v : Int) : Prop := (wh = 0 ∧ 1 ≤ n ∧ n ≤ 9) ∨ (wh = 1 ∧ (1 ≤ n ∧ n ≤ 6) ∧ (1 ≤ u ∧ u ≤ 3) ∧ 1 ≤ v ∧ v ≤ 3) ∨ (wh = 2 ∧ (1 ≤ n ∧ n ≤ 6) ∧ (1 ≤ u ∧ u ≤ 9) ∧ (1 ≤ v ∧ v ≤ 9) ∧ n ≤ u + v)
def cwF (wh : Int32) (n u v x : Nat) : Int64 := if wh = 1 then lN (chs n x) * pwL (nI u).toInt64 x * pwL (nI v).toInt64 (n - x) else if wh = 2 then lN (chs u x) * lN (chs v (n - x)) else 1
def csum (f : Nat → Int64) (k : Nat) : Nat → Int64
  | 0 => 0
  | x + 1 => csum f k x + f x * pwL (nI x).toInt64 k
def cnz (f : Nat → Int64) : Nat → Nat
  | 0 => 0
  | x + 1 => cnz f x + (if f x = 0 then 0 else 1)
def pt_isCountable (_ : mSH) (_ : mRF) : mPT := fun As I J K => ∃ wh n u v : Int32, As = [.inl wh, .inl n, .inl u, .inl v] ∧ K (some (.inl (if cOK wh.toInt n.toInt u.toInt v.toInt then 1 else 0))) I J
def pt_cWeight (_ : mSH) (_ : mRF) : mPT := fun As I J K => ∃ (wh u v : Int32) (n x uu vv : Nat), As = [.inl wh, .inl (nI n), .inl u, .inl v, .inl (nI x)] ∧ n < 10 ∧ x ≤ n ∧ (wh = 1 ∨ wh = 2 → u = nI uu ∧ v = nI vv ∧ uu < 12 ∧ vv < 12) ∧ K (some (.inr (.inl (cwF wh n uu vv x)))) I J
def pt_counted : mSH → mRF → mPT := m_pv 4 (fun sh rf d rest I J K => ∃ wh n u v : Int32, sh = shL ∧ rf = rfL ∧ d = 523 ∧ rest = [.inl wh, .inl n, .inl u, .inl v] ∧ CI I J ∧ Out (if cOK wh.toInt n.toInt u.toInt v.toInt then .inr () else .inl (-2)) (fun r => ∀ I1 J1, SameC I J I1 J1 → K (some (.inl r)) I1 J1) (∀ I1 J1, UpdC I J I1 J1 3 11 0 0 (fun _ => 0) (fun k => csum (cwF wh n.toInt.toNat u.toInt.toNat v.toInt.toNat) k (n.toInt.toNat + 1)) → K (some (.inl (nI (cnz (cwF wh n.toInt.toNat u.toInt.toNat v.toInt.toNat) (n.toInt.toNat + 1))))) I1 J1))
theorem cw1_le : ∀ n, n < 7 → ∀ u, u < 4 → ∀ v, v < 4 → ∀ x, x < 7 → (lN (chs n x) * pwL (nI u).toInt64 x * pwL (nI v).toInt64 (n - x)).toInt.natAbs ≤ 2 ^ 16 := by decide +kernel
theorem cw2_le : ∀ n, n < 7 → ∀ u, u < 10 → ∀ v, v < 10 → ∀ x, x < 7 → (lN (chs u x) * lN (chs v (n - x))).toInt.natAbs ≤ 2 ^ 16 := by decide +kernel
theorem cwF_le {wh : Int32} {n u v x : Nat} (h : cOK wh.toInt n u v) (hx : x ≤ n) : (cwF wh n u v x).toInt.natAbs ≤ 2 ^ 16 := by
  have e1 : (1 : Int32).toInt = 1 := rfl
  have e2 : (2 : Int32).toInt = 2 := rfl
  unfold cwF
  rcases h with ⟨h1, h2, h3⟩ | ⟨h1, h2, h3, h4⟩ | ⟨h1, h2, h3, h4, h5⟩
  · rw [if_neg (fun q => by rw [q, e1] at h1; omega), if_neg (fun q => by rw [q, e2] at h1; omega)]
    decide
  · rw [if_pos (Int32.toInt_inj.mp (h1.trans e1.symm))]
    exact cw1_le n (by omega) u (by omega) v (by omega) x (by omega)
  · rw [if_neg (fun q => by rw [q, e1] at h1; omega), if_pos (Int32.toInt_inj.mp (h1.trans e2.symm))]
    exact cw2_le n (by omega) u (by omega) v (by omega) x (by omega)
theorem csum_le {f : Nat → Int64} {n k : Nat} (hn : n ≤ 9) (hk : k < 12) (hf : ∀ x, x ≤ n → (f x).toInt.natAbs ≤ 2 ^ 16) : ∀ x, x ≤ n + 1 → (csum f k x).toInt.natAbs ≤ x * 2 ^ 51
  | 0, _ => by show (0 : Int64).toInt.natAbs ≤ _; decide
  | x + 1, hx => by
    have ih := csum_le hn hk hf x (by omega)
    have e : (nI x).toInt = x := nI_toInt (by omega)
    obtain ⟨p1, p2, p3⟩ := pwL_int (x := nI x) (by rw [e]; exact ⟨by omega, by omega⟩) (k := k) (by omega)
    have h3 : ((f x).toInt * (pwL (nI x).toInt64 k).toInt).natAbs ≤ 2 ^ 51 := by
      rw [Int.natAbs_mul, p1]
      exact Nat.le_trans (Nat.mul_le_mul (hf x (by omega)) (p3 hk)) (by decide)
    have := (madd_T (a := csum f k x) (t := f x) (p := pwL (nI x).toInt64 k) ih h3 (by omega)).2
    rw [csum]
    omega
/-! by and mirror -/
def byV (mo : Nat → Int) (c : Int) (k : Nat) : Int := mo (k + 1) + mo k * -c
def byO (l : Nat) (mo : Nat → Int) (c : Int) : Int32 ⊕ Unit := if ¬ win c 9 then .inl (-2) else if l ≤ 3 then .inl (-3) else if ∀ k, k < l → (byV mo c k).natAbs < 2 ^ 62 then .inr () else .inl (-4)
def gF (c : Int32) (k j : Nat) : Int64 := lN (chs k j) * pwL c.toInt64 (k - j)
def mirS (mo : Nat → Int) (c : Int32) (k : Nat) : Nat → Int
  | 0 => 0
  | j + 1 => mirS mo c k j + mo j * (if j % 2 = 0 then gF c k j else -gF c k j).toInt
def mirO (l : Nat) (mo : Nat → Int) (c : Int32) : Int32 ⊕ Unit := if ¬ win c.toInt 9 then .inl (-2) else if ∀ k, k < l + 1 → (mirS mo c k (k + 1)).natAbs < 2 ^ 62 then .inr () else .inl (-4)
def pt_addMT : mSH → mRF → mPT := m_pv 4 (fun sh rf d rest I J K => ∃ (k m : Nat) (f : Int64) (z : Int), sh = shL ∧ rf = rfL ∧ d = 523 ∧ rest = [.inl (nI k), .inr (.inl f)] ∧ k < 12 ∧ BIs shL rfL I 496 z ∧ z.natAbs < 2 ^ (32 * m) ∧ 4 ≤ m ∧ m + 1 ≤ 40 ∧ ∀ I1, Wk I I1 → BIs shL rfL I1 496 (z + moC J 0 k * f.toInt) → K none I1 J)
def pt_takesSum : mSH → mRF → mPT := m_pv 4 (fun sh rf d rest I J K => ∃ (k : Nat) (z : Int), sh = shL ∧ rf = rfL ∧ d = 523 ∧ rest = [.inl (nI k)] ∧ k < 12 ∧ BIs shL rfL I 496 z ∧ (z.natAbs < 2 ^ 62 → K (some (.inl 1)) I (m_uJ J 526 k (Int64.ofInt z))) ∧ (¬ z.natAbs < 2 ^ 62 → K (some (.inl 0)) I J))
def pt_by : mSH → mRF → mPT := m_pv 4 (fun sh rf d rest I J K => ∃ (c : Int32) (l : Nat), sh = shL ∧ rf = rfL ∧ d = 523 ∧ rest = [.inl c] ∧ CI I J ∧ I 513 1 = nI l ∧ l ≤ 11 ∧ Out (byO l (moC J 0) c.toInt) (fun r => ∀ I1 J1, SameC I J I1 J1 → K (some (.inl r)) I1 J1) (∀ I1 J1, UpdC I J I1 J1 (I 513 0) (nI (l - 1)) (I 513 2) 1 (fun x => I 516 x) (fun k => if k < l then Int64.ofInt (byV (moC J 0) c.toInt k) else J 519 k) → K (some (.inl (nI (l - 1)))) I1 J1))
def pt_mirror : mSH → mRF → mPT := m_pv 4 (fun sh rf d rest I J K => ∃ (c : Int32) (l : Nat), sh = shL ∧ rf = rfL ∧ d = 523 ∧ rest = [.inl c] ∧ CI I J ∧ I 513 1 = nI l ∧ l ≤ 11 ∧ Out (mirO l (moC J 0) c) (fun r => ∀ I1 J1, SameC I J I1 J1 → K (some (.inl r)) I1 J1) (∀ I1 J1, UpdC I J I1 J1 (I 513 0) (nI l) (I 513 2) 1 (fun x => I 516 x) (fun k => if k < l + 1 then Int64.ofInt (mirS (moC J 0) c k (k + 1)) else J 519 k) → K (some (.inl 1)) I1 J1))
/-! kept weights -/
def KeepC (I : mPI) (J : mPJ) (I1 : mPI) (J1 : mPJ) (p : Nat) : Prop := (∀ a, a ≠ 514 + p → a ≠ 517 + p → a ≠ 525 → I1 a = I a) ∧ (∀ k, k < 4 → I1 (514 + p) k = I 513 k) ∧ (∀ x, x < 19 → I1 (517 + p) x = I 516 x) ∧ I1 525 p = 1 ∧ (∀ q, q ≠ p → I1 525 q = I 525 q) ∧ (∀ a, a ≠ 520 + p → J1 a = J a) ∧ (∀ k, k < 12 → J1 (520 + p) k = J 519 k) ∧ CI I1 J1
def pt_keep : mSH → mRF → mPT := m_pv 4 (fun sh rf d rest I J K => ∃ pl : Int32, sh = shL ∧ rf = rfL ∧ d = 523 ∧ rest = [.inl pl] ∧ CI I J ∧ (¬ (0 ≤ pl.toInt ∧ pl.toInt < 2) → K (some (.inl (-1))) I J) ∧ (∀ p, p < 2 → pl = nI p → ∀ I1 J1, KeepC I J I1 J1 p → K (some (.inl 1)) I1 J1))
def pt_back : mSH → mRF → mPT := m_pv 4 (fun sh rf d rest I J K => ∃ pl : Int32, sh = shL ∧ rf = rfL ∧ d = 523 ∧ rest = [.inl pl] ∧ CI I J ∧ (¬ isK I pl → K (some (.inl (-1))) I J) ∧ (∀ p, p < 2 → pl = nI p → isK I pl → ∀ I1 J1, UpdC I J I1 J1 (I (514 + p) 0) (I (514 + p) 1) (I (514 + p) 2) (I (514 + p) 3) (I (517 + p)) (J (520 + p)) → K (some (.inl (I (514 + p) 1))) I1 J1))
theorem v64 (v : Int64) : v.toInt.natAbs < 2 ^ (32 * 2) := by
  have h1 := v.toInt_lt
  have h2 := v.le_toInt
  omega

def ct_X4_moment (sh : mSH) (rf : mRF) : Nat → Option (Nat × Bool × mPT) := fun k => match k with
  | 64 => some (2, false, pt_isWithin sh rf)
  | 87 => some (3, true, pt_wtell sh rf)
  | 90 => some (1, true, pt_wnz sh rf)
  | _ => none
set_option maxRecDepth 20000 in
theorem ce_X4_moment : m_CE RX4 1 22 cX4_moment 4 ct_X4_moment := by
  intro p l e s m args below meth c Q D cs ad sh rf N hx hb hml hown hts hK hi hN k n vf pt h
  unfold ct_X4_moment at h
  split at h
  · cases h
    exact m_CG_S mt_X4_isWithin hx hb hml hown hts hK hi hN (m_wck_ok (l := [(Cond.methodLink RX4 64 yX4_isWithin, 253), (Cond.static yX4_isWithin, 254), (Cond.initialized RX4, 55), (Cond.code yX4_isWithin cX4_isWithin 2 (some .boolean), 255)]) (by decide +kernel)) ⟨by decide +kernel, by decide +kernel, by decide +kernel⟩ ⟨Nat.le_of_ble_eq_true rfl, Nat.le_of_ble_eq_true rfl⟩
  · cases h
    exact m_CG_V mt_X3_tellMoment hx hb hml hown hts hK hi hN (ci := 3) m_pv_rec rfl rfl (m_wck_ok (l := [(Cond.methodLink RX4 87 yX3_tellMoment, 269), (Cond.instanceMethod yX3_tellMoment, 270), (Cond.selects RX3 yX3_tellMoment yX3_tellMoment, 271), (Cond.initialized RX3, 56), (Cond.code yX3_tellMoment cX3_tellMoment 3 none, 272)]) (by decide +kernel)) ⟨rfl, by decide +kernel, by decide +kernel, by decide +kernel⟩ ⟨Nat.le_of_ble_eq_true rfl, Nat.le_of_ble_eq_true rfl⟩
  · cases h
    exact m_CG_V mt_X3_momentsNotZero hx hb hml hown hts hK hi hN (ci := 3) m_pv_rec rfl rfl (m_wck_ok (l := [(Cond.methodLink RX4 90 yX3_momentsNotZero, 273), (Cond.instanceMethod yX3_momentsNotZero, 274), (Cond.selects RX3 yX3_momentsNotZero yX3_momentsNotZero, 275), (Cond.initialized RX3, 56), (Cond.code yX3_momentsNotZero cX3_momentsNotZero 3 (some .int), 276)]) (by decide +kernel)) ⟨rfl, by decide +kernel, by decide +kernel, by decide +kernel⟩ ⟨Nat.le_of_ble_eq_true rfl, Nat.le_of_ble_eq_true rfl⟩
  · cases h
set_option maxHeartbeats 4000000 in
set_option maxRecDepth 100000 in
theorem mt_X4_moment : m_Mt yX4_moment cX4_moment 4 (some .int) 1 22 pt_moment := by
  refine m_methodG (fl := fl_X4) (kI := kI_X4) (kJ := kJ_X4) (ct := ct_X4_moment) (cd := cd_X4_moment) (cut := [(50, [0, 1, 2, 3]), (78, [0, 1, 2])]) (rk := 1) (fu := 80) (by decide +kernel) fl_X4_ok kI_X4_ok kJ_X4_ok ce_X4_moment rfl ck_X4_moment ⟨_, _, rfl, rfl⟩ ?_
  intro sh rf As I J K hpt
  obtain ⟨d, rest, rfl, hd, k, v, rfl, rfl, rfl, rfl, hC, hS, hU⟩ := hpt
  obtain ⟨l, h1, h2, h3, hm, hch, hLI⟩ := hC.kind
  have e11 : (11 : Int32).toInt = 11 := rfl
  have eM : (1000000 : Int32).toInt = 1000000 := rfl
  refine ⟨Nat.le_of_ble_eq_true rfl, fun a9 b9 pc vs st I1 J1 => st = [] ∧ I1 = I ∧ J1 = J ∧ (0 ≤ k.toInt ∧ k.toInt ≤ 11) ∧ win v.toInt 1000000 ∧ ((pc = 50 ∧ a9 = 1 ∧ vs = [.inr (.inr 523), .inl k, .inl v, .inl (if I 513 0 = 0 ∧ I 513 2 = 0 then 1 else 0)]) ∨ (pc = 78 ∧ a9 = 0 ∧ vs = [.inr (.inr 523), .inl k, .inl v] ∧ I 513 3 = 0 ∧ ((I 513 0 = 0 ∧ I 513 2 = 0) ∨ I 513 0 = 1))), ?_, ?_⟩
  · have k1 : ¬ (0 ≤ k.toInt ∧ k.toInt ≤ 11) → K (some (.inl (-1))) I J := fun q => hS _ (if_pos q) I J (SameC.rfl' I J)
    refine ⟨fun h => ?_, fun h => ⟨fun h4 => ⟨v, 1000000, rfl, fun h5 => ?_, fun h5 => ?_⟩, fun h4 => ?_⟩⟩
    · exact k1 (fun q => absurd (i_lt0.mp h) (by omega))
    · have h := mt i_lt0.mpr h
      have h4 : k ≤ 11 := h4
      rw [Int32.le_iff_toInt_le, e11] at h4
      have hv := (within_i (by decide)).mp (w_not0 h5)
      rw [eM] at hv
      refine ⟨rfl, rfl, fun h6 => ?_, fun h6 => ⟨rfl, rfl, fun h7 => ?_, fun h7 => ?_⟩⟩
      · refine ⟨1, 0, rfl, rfl, rfl, ⟨by omega, h4⟩, hv, Or.inl ⟨rfl, rfl, ?_⟩⟩
        have h6 : ¬ I 513 0 = 0 := h6
        rw [if_neg (fun q => h6 q.1)]
      · refine ⟨1, 0, rfl, rfl, rfl, ⟨by omega, h4⟩, hv, Or.inl ⟨rfl, rfl, ?_⟩⟩
        have h7 : ¬ I 513 2 = 0 := h7
        rw [if_neg (fun q => h7 q.2)]
      · refine ⟨1, 0, rfl, rfl, rfl, ⟨by omega, h4⟩, hv, Or.inl ⟨rfl, rfl, ?_⟩⟩
        have h6 : I 513 0 = 0 := h6
        have h7 : I 513 2 = 0 := h7
        rw [if_pos ⟨h6, h7⟩]
    · have h := mt i_lt0.mpr h
      have h4 : k ≤ 11 := h4
      rw [Int32.le_iff_toInt_le, e11] at h4
      have h5 := mt (within_i (by decide)).mpr (w_is0 h5)
      rw [eM] at h5
      exact hS _ (by unfold momO; rw [if_neg (fun q => q ⟨by omega, h4⟩), if_pos h5]) I J (SameC.rfl' I J)
    · have h4 : ¬ k ≤ 11 := h4
      rw [Int32.le_iff_toInt_le, e11] at h4
      exact k1 (fun q => h4 q.2)
  · intro pc ks a9 b9 vs st I1 J1 hc hI
    obtain ⟨rfl, rfl, rfl, hk, hv, hI⟩ := hI
    have c1 : ¬ ¬ (0 ≤ k.toInt ∧ k.toInt ≤ 11) := fun q => q hk
    have c2 : ¬ ¬ win v.toInt 1000000 := fun q => q hv
    have k3 : (¬ I1 513 3 = 0 ∨ ¬ ((I1 513 0 = 0 ∧ I1 513 2 = 0) ∨ I1 513 0 = 1)) → K (some (.inl (-3))) I1 J1 := fun q => hS _ (by unfold momO; rw [if_neg c1, if_neg c2, if_pos q]) I1 J1 (SameC.rfl' I1 J1)
    rcases m_cu1 hc with ⟨rfl, rfl⟩ | hc
    · rcases hI with ⟨-, rfl, rfl⟩ | ⟨q, -⟩
      · refine ⟨rfl, rfl, fun h4 => k3 (Or.inl h4), fun h4 => ⟨fun h5 => ?_, fun h5 => ⟨rfl, rfl, fun h6 => ?_, fun h6 => ?_⟩⟩⟩
        · exact ⟨0, 0, Or.inl (by decide), rfl, rfl, rfl, hk, hv, Or.inr ⟨rfl, rfl, rfl, h4, Or.inl (w_not0 h5)⟩⟩
        · exact ⟨0, 0, Or.inl (by decide), rfl, rfl, rfl, hk, hv, Or.inr ⟨rfl, rfl, rfl, h4, Or.inr h6⟩⟩
        · exact k3 (Or.inr (fun q => q.elim (w_is0 h5) h6))
      · exact absurd q (by decide)
    · rcases m_cu1 hc with ⟨rfl, rfl⟩ | hc
      · rcases hI with ⟨q, -⟩ | ⟨-, rfl, rfl, h4, h5⟩
        · exact absurd q (by decide)
        · obtain ⟨ek, -⟩ := i_nat hk.1
          have hlt : k.toInt.toNat < 12 := by omega
          have hU2 := hU (by unfold momO; rw [if_neg c1, if_neg c2, if_neg (fun q => q.elim (fun r => r h4) (fun r => r h5))])
          clear hU
          generalize k.toInt.toNat = kk at ek hlt hU2
          clear hk c1
          subst ek
          refine ⟨rfl, 513, [.inl (nI kk), .inl v], rfl, rfl, kk, v, rfl, hlt, lay_W0, ?_⟩
          refine ⟨rfl, 513, [], rfl, rfl, rfl, lay_W0, ?_⟩
          have e5 : rfL 513 5 = 519 := rfl
          rw [e5]
          refine hU2 (m_uI (m_uI I1 513 0 1) 513 7 1) (m_uJ J1 519 kk v.toInt64) ⟨fun a _ q1 q2 => ?_, ?_, ?_, ?_, ?_, fun x hx => ?_, fun a q1 q2 => ?_, fun j hj => ?_, ?_⟩
          · rw [uI_a _ _ _ q1, uI_a _ _ _ q1]
          · rw [uI_k _ _ _ (by decide), uI_s]
          · rw [uI_k _ _ _ (by decide), uI_k _ _ _ (by decide)]
          · rw [uI_k _ _ _ (by decide), uI_k _ _ _ (by decide)]
          · rw [uI_k _ _ _ (by decide), uI_k _ _ _ (by decide)]
          · rw [uI_a _ _ _ (by decide), uI_a _ _ _ (by decide)]
          · funext j
            unfold m_uJ
            rw [if_neg (fun q => q1 q.1)]
          · unfold m_uJ
            by_cases r : j = kk
            · rw [if_pos ⟨rfl, r⟩]
              exact (if_pos r).symm
            · rw [if_neg (fun q => r q.2)]
              exact (if_neg r).symm
          · refine CI_upd (l := l) hC (fun a _ q1 q2 => by rw [uI_a _ _ _ q1, uI_a _ _ _ q1]) (fun a q1 q2 => ?_) (by rw [uI_k _ _ _ (by decide), uI_k _ _ _ (by decide)]; exact h1) h2 h3 (fun j hj => ?_) ?_ (uI_s _ _ _ _) (fun q => ?_)
            · funext j
              unfold m_uJ
              rw [if_neg (fun q => q1 q.1)]
            · unfold m_uJ
              by_cases r : j = kk
              · rw [if_pos ⟨rfl, r⟩, Int32.toInt_toInt64]
                have := MB62
                omega
              · rw [if_neg (fun q => r q.2)]
                exact hm j hj
            · rw [uI_k _ _ _ (by decide), uI_k _ _ _ (by decide)]
              exact hch
            · have q : (m_uI (m_uI I1 513 0 1) 513 7 1) 513 0 = 0 := q
              rw [uI_k _ _ _ (by decide), uI_s] at q
              exact absurd q (by decide)
      · cases hc

def ct_X4_span (sh : mSH) (rf : mRF) : Nat → Option (Nat × Bool × mPT) := fun k => match k with
  | 61 => some (2, true, pt_wbegin sh rf)
  | 94 => some (3, true, pt_wspread sh rf)
  | _ => none
set_option maxRecDepth 20000 in
theorem ce_X4_span : m_CE RX4 2 47 cX4_span 3 ct_X4_span := by
  intro p l e s m args below meth c Q D cs ad sh rf N hx hb hml hown hts hK hi hN k n vf pt h
  unfold ct_X4_span at h
  split at h
  · cases h
    exact m_CG_V mt_X3_begin hx hb hml hown hts hK hi hN (ci := 3) m_pv_rec rfl rfl (m_wck_ok (l := [(Cond.methodLink RX4 61 yX3_begin, 239), (Cond.instanceMethod yX3_begin, 240), (Cond.selects RX3 yX3_begin yX3_begin, 241), (Cond.initialized RX3, 56), (Cond.code yX3_begin cX3_begin 2 none, 242)]) (by decide +kernel)) ⟨rfl, by decide +kernel, by decide +kernel, by decide +kernel⟩ ⟨Nat.le_of_ble_eq_true rfl, Nat.le_of_ble_eq_true rfl⟩
  · cases h
    exact m_CG_V mt_X3_spread hx hb hml hown hts hK hi hN (ci := 3) m_pv_rec rfl rfl (m_wck_ok (l := [(Cond.methodLink RX4 94 yX3_spread, 281), (Cond.instanceMethod yX3_spread, 282), (Cond.selects RX3 yX3_spread yX3_spread, 283), (Cond.initialized RX3, 56), (Cond.code yX3_spread cX3_spread 4 none, 284)]) (by decide +kernel)) ⟨rfl, by decide +kernel, by decide +kernel, by decide +kernel⟩ ⟨Nat.le_of_ble_eq_true rfl, Nat.le_of_ble_eq_true rfl⟩
  · cases h
set_option maxHeartbeats 4000000 in
set_option maxRecDepth 100000 in
theorem mt_X4_span : m_Mt yX4_span cX4_span 3 (some .int) 2 47 pt_span := by
  refine m_method0 80 (fl := fl_X4) (kI := kI_X4) (kJ := kJ_X4) (ct := ct_X4_span) (cd := cd_X4_span) (rk := 1) (by decide +kernel) fl_X4_ok kI_X4_ok kJ_X4_ok ce_X4_span rfl ck_X4_span ⟨_, _, rfl, rfl⟩ ?_
  intro sh rf As I J K hpt
  obtain ⟨d, rest, rfl, hd, a, b, rfl, rfl, rfl, rfl, hC, hS, hU⟩ := hpt
  have e9 : (9 : Int32).toInt = 9 := rfl
  have em9 : (-9 : Int32).toInt = -9 := rfl
  have k2 : ¬ (-9 ≤ a.toInt ∧ a.toInt < b.toInt ∧ b.toInt ≤ 9) → K (some (.inl (-2))) I J := fun q => hS _ (if_neg q) I J (SameC.rfl' I J)
  refine ⟨Nat.le_of_ble_eq_true rfl, fun h => ?_, fun h => ⟨fun h2 => ?_, fun h2 => ⟨fun h3 => ?_, fun h3 => ?_⟩⟩⟩
  · have h : a < -9 := h
    rw [Int32.lt_iff_toInt_lt, em9] at h
    exact k2 (fun q => by omega)
  · have h2 : b ≤ a := h2
    rw [Int32.le_iff_toInt_le] at h2
    exact k2 (fun q => by omega)
  · have h : ¬ a < -9 := h
    have h2 : ¬ b ≤ a := h2
    have h3 : b ≤ 9 := h3
    rw [Int32.lt_iff_toInt_lt, em9] at h
    rw [Int32.le_iff_toInt_le] at h2 h3
    rw [e9] at h3
    have hU := hU (if_pos ⟨by omega, by omega, h3⟩)
    refine ⟨rfl, 513, [.inl 2], rfl, rfl, 2, rfl, lay_W0, fun I1 J1 a1 a2 a3 a4 a5 a6 a7 a8 a9 => ?_⟩
    have hb := beg_upd hC a1 a2 a3 a4 a5 a6 a7 a8 a9
    obtain ⟨u1, u2, u3, u4, u5, u6, u7, u8, u9⟩ := hb
    refine ⟨rfl, 513, [.inl a, .inl b], rfl, rfl, a, b, rfl, lay_W0, fun J2 b1 b2 => ?_⟩
    have e5 : rfL 513 5 = 519 := rfl
    rw [e5] at b1 b2
    refine hU I1 J2 ⟨u1, u2, u3, u4, u5, u6, fun q q1 q2 => (b1 q q1).trans (u7 q q1 q2), b2, ?_⟩
    refine CI_upd (l := 11) hC u1 (fun q q1 q2 => (b1 q q1).trans (u7 q q1 q2)) u3 (by decide) (by decide) (fun k hk => ?_) (Or.inl u5) a6 (fun q => ?_)
    · have : J2 519 k = spM a b k := b2 k hk
      rw [this]
      exact spM_le ⟨by omega, by omega⟩ ⟨by omega, by omega⟩ hk
    · exact absurd (u2.symm.trans q) (by decide)
  · have h3 : ¬ b ≤ 9 := h3
    rw [Int32.le_iff_toInt_le, e9] at h3
    exact k2 (fun q => h3 q.2.2)

set_option maxHeartbeats 4000000 in
set_option maxRecDepth 100000 in
theorem mt_X4_isCountable : m_Mt yX4_isCountable cX4_isCountable 4 (some .boolean) 0 0 pt_isCountable := by
  refine m_method0 120 (fl := fl_X4) (kI := kI_X4) (kJ := kJ_X4) (ct := ct_none) (cd := cd_X4_isCountable) (rk := 3) (by decide +kernel) fl_X4_ok kI_X4_ok kJ_X4_ok (ce_none _ _ _ _ _) rfl ck_X4_isCountable ⟨_, _, rfl, rfl⟩ ?_
  intro sh rf As I J K hpt
  obtain ⟨wh, n, u, v, rfl, hK⟩ := hpt
  have b0 : ¬ cOK wh.toInt n.toInt u.toInt v.toInt → ((0 : Int32) = 0 ∨ (0 : Int32) = 1) ∧ K (some (.inl 0)) I J := fun q => by
    rw [if_neg q] at hK
    exact ⟨Or.inl rfl, hK⟩
  have b1 : cOK wh.toInt n.toInt u.toInt v.toInt → ((1 : Int32) = 0 ∨ (1 : Int32) = 1) ∧ K (some (.inl 1)) I J := fun q => by
    rw [if_pos q] at hK
    exact ⟨Or.inr rfl, hK⟩
  have e1 : (1 : Int32).toInt = 1 := rfl
  have e2 : (2 : Int32).toInt = 2 := rfl
  have e3 : (3 : Int32).toInt = 3 := rfl
  have e6 : (6 : Int32).toInt = 6 := rfl
  have e9 : (9 : Int32).toInt = 9 := rfl
  refine ⟨Nat.le_of_ble_eq_true rfl, fun j hj e => ?_, fun h => b0 (fun q => ?_)⟩
  · have hj : j < 3 := hj
    have e : wh = Int32.ofNat j := e
    rcases (show j = 0 ∨ j = 1 ∨ j = 2 by omega) with r | r | r <;> subst r
    · have ew : wh.toInt = 0 := by rw [e]; rfl
      rw [ew] at b0 b1
      refine ⟨fun h => b0 ?_, fun h => ⟨fun h2 => b0 ?_, fun h2 => b1 ?_⟩⟩
      · have h : n < 1 := h
        rw [Int32.lt_iff_toInt_lt, e1] at h
        omega
      · have h2 : 9 < n := h2
        rw [Int32.lt_iff_toInt_lt, e9] at h2
        omega
      · have h : ¬ n < 1 := h
        have h2 : ¬ 9 < n := h2
        rw [Int32.lt_iff_toInt_lt, e1] at h
        rw [Int32.lt_iff_toInt_lt, e9] at h2
        omega
    · have ew : wh.toInt = 1 := by rw [e]; rfl
      rw [ew] at b0 b1
      refine ⟨fun h => b0 ?_, fun ha => ⟨fun h => b0 ?_, fun hb => ⟨fun h => b0 ?_, fun hc => ⟨fun h => b0 ?_, fun hd => ⟨fun h => b0 ?_, fun he => ⟨fun h => b0 ?_, fun hf => b1 ?_⟩⟩⟩⟩⟩⟩
      · have h : n < 1 := h
        rw [Int32.lt_iff_toInt_lt, e1] at h
        omega
      · have h : 6 < n := h
        rw [Int32.lt_iff_toInt_lt, e6] at h
        omega
      · have h : u < 1 := h
        rw [Int32.lt_iff_toInt_lt, e1] at h
        omega
      · have h : 3 < u := h
        rw [Int32.lt_iff_toInt_lt, e3] at h
        omega
      · have h : v < 1 := h
        rw [Int32.lt_iff_toInt_lt, e1] at h
        omega
      · have h : 3 < v := h
        rw [Int32.lt_iff_toInt_lt, e3] at h
        omega
      · have ha : ¬ n < 1 := ha
        have hb : ¬ 6 < n := hb
        have hc : ¬ u < 1 := hc
        have hd : ¬ 3 < u := hd
        have he : ¬ v < 1 := he
        have hf : ¬ 3 < v := hf
        rw [Int32.lt_iff_toInt_lt, e1] at ha hc he
        rw [Int32.lt_iff_toInt_lt, e6] at hb
        rw [Int32.lt_iff_toInt_lt, e3] at hd hf
        omega
    · have ew : wh.toInt = 2 := by rw [e]; rfl
      rw [ew] at b0 b1
      refine ⟨fun h => b0 ?_, fun ha => ⟨fun h => b0 ?_, fun hb => ⟨fun h => b0 ?_, fun hc => ⟨fun h => b0 ?_, fun hd => ⟨fun h => b0 ?_, fun he => ⟨fun h => b0 ?_, fun hf => ?_⟩⟩⟩⟩⟩⟩
      · have h : n < 1 := h
        rw [Int32.lt_iff_toInt_lt, e1] at h
        omega
      · have h : 6 < n := h
        rw [Int32.lt_iff_toInt_lt, e6] at h
        omega
      · have h : u < 1 := h
        rw [Int32.lt_iff_toInt_lt, e1] at h
        omega
      · have h : 9 < u := h
        rw [Int32.lt_iff_toInt_lt, e9] at h
        omega
      · have h : v < 1 := h
        rw [Int32.lt_iff_toInt_lt, e1] at h
        omega
      · have h : 9 < v := h
        rw [Int32.lt_iff_toInt_lt, e9] at h
        omega
      · have ha : ¬ n < 1 := ha
        have hb : ¬ 6 < n := hb
        have hc : ¬ u < 1 := hc
        have hd : ¬ 9 < u := hd
        have he : ¬ v < 1 := he
        have hf : ¬ 9 < v := hf
        rw [Int32.lt_iff_toInt_lt, e1] at ha hc he
        rw [Int32.lt_iff_toInt_lt, e6] at hb
        rw [Int32.lt_iff_toInt_lt, e9] at hd hf
        have es : (u + v).toInt = u.toInt + v.toInt := i_addT (by omega) (by omega)
        refine ⟨fun h => b0 ?_, fun h => b1 ?_⟩
        · have h : u + v < n := h
          rw [Int32.lt_iff_toInt_lt, es] at h
          omega
        · have h : ¬ u + v < n := h
          rw [Int32.lt_iff_toInt_lt, es] at h
          omega
  · have h : wh < 0 ∨ Int32.ofNat 3 ≤ wh := h
    have e30 : (Int32.ofNat 3).toInt = 3 := rfl
    rw [i_lt0, Int32.le_iff_toInt_le, e30] at h
    omega

def ct_X4_countedWeight (sh : mSH) (rf : mRF) : Nat → Option (Nat × Bool × mPT) := fun k => match k with
  | 127 => some (2, false, pt_ways sh rf)
  | 131 => some (2, false, pt_power sh rf)
  | _ => none
set_option maxRecDepth 20000 in
theorem ce_X4_countedWeight : m_CE RX4 1 24 cX4_countedWeight 5 ct_X4_countedWeight := by
  intro p l e s m args below meth c Q D cs ad sh rf N hx hb hml hown hts hK hi hN k n vf pt h
  unfold ct_X4_countedWeight at h
  split at h
  · cases h
    exact m_CG_S mt_X4_ways hx hb hml hown hts hK hi hN (m_wck_ok (l := [(Cond.methodLink RX4 127 yX4_ways, 298), (Cond.static yX4_ways, 299), (Cond.initialized RX4, 55), (Cond.code yX4_ways cX4_ways 5 (some .long), 300)]) (by decide +kernel)) ⟨by decide +kernel, by decide +kernel, by decide +kernel⟩ ⟨Nat.le_of_ble_eq_true rfl, Nat.le_of_ble_eq_true rfl⟩
  · cases h
    exact m_CG_S mt_X4_power hx hb hml hown hts hK hi hN (m_wck_ok (l := [(Cond.methodLink RX4 131 yX4_power, 301), (Cond.static yX4_power, 286), (Cond.initialized RX4, 55), (Cond.code yX4_power cX4_power 5 (some .long), 287)]) (by decide +kernel)) ⟨by decide +kernel, by decide +kernel, by decide +kernel⟩ ⟨Nat.le_of_ble_eq_true rfl, Nat.le_of_ble_eq_true rfl⟩
  · cases h
set_option maxHeartbeats 4000000 in
set_option maxRecDepth 100000 in
theorem mt_X4_countedWeight : m_Mt yX4_countedWeight cX4_countedWeight 5 (some .long) 1 24 pt_cWeight := by
  refine m_method0 80 (fl := fl_X4) (kI := kI_X4) (kJ := kJ_X4) (ct := ct_X4_countedWeight) (cd := cd_X4_countedWeight) (rk := 2) (by decide +kernel) fl_X4_ok kI_X4_ok kJ_X4_ok ce_X4_countedWeight rfl ck_X4_countedWeight ⟨_, _, rfl, rfl⟩ ?_
  intro sh rf As I J K hpt
  obtain ⟨wh, u, v, n, x, uu, vv, rfl, hn, hx, hw, hK⟩ := hpt
  unfold cwF at hK
  have es : nI n - nI x = nI (n - x) := pk_sub hx
  refine ⟨Nat.le_of_ble_eq_true rfl, fun h => ?_, fun h => ?_, fun h => ?_⟩
  · have h : wh = 1 := h
    obtain ⟨rfl, rfl, h1, h2⟩ := hw (Or.inl h)
    rw [if_pos h] at hK
    refine ⟨n, x, rfl, by omega, by omega, nI uu, x, rfl, by omega, nI vv, n - x, ?_, by omega, hK⟩
    exact congrArg (fun y => [Sum.inl (nI vv), Sum.inl y]) es
  · have h : wh = 2 := h
    obtain ⟨rfl, rfl, h1, h2⟩ := hw (Or.inr h)
    rw [if_neg (by rw [h]; decide), if_pos h] at hK
    refine ⟨uu, x, rfl, by omega, by omega, vv, n - x, ?_, by omega, by omega, hK⟩
    exact congrArg (fun y => [Sum.inl (nI vv), Sum.inl y]) es
  · have h : ¬ wh = 1 ∧ ¬ wh = 2 := h
    rw [if_neg h.1, if_neg h.2] at hK
    exact hK

def ct_X4_counted (sh : mSH) (rf : mRF) : Nat → Option (Nat × Bool × mPT) := fun k => match k with
  | 97 => some (4, false, pt_isCountable sh rf)
  | 61 => some (2, true, pt_wbegin sh rf)
  | 101 => some (5, false, pt_cWeight sh rf)
  | 105 => some (3, true, pt_wadd sh rf)
  | _ => none
set_option maxRecDepth 20000 in
theorem ce_X4_counted : m_CE RX4 2 48 cX4_counted 9 ct_X4_counted := by
  intro p l e s m args below meth c Q D cs ad sh rf N hx hb hml hown hts hK hi hN k n vf pt h
  unfold ct_X4_counted at h
  split at h
  · cases h
    exact m_CG_S mt_X4_isCountable hx hb hml hown hts hK hi hN (m_wck_ok (l := [(Cond.methodLink RX4 97 yX4_isCountable, 292), (Cond.static yX4_isCountable, 293), (Cond.initialized RX4, 55), (Cond.code yX4_isCountable cX4_isCountable 4 (some .boolean), 294)]) (by decide +kernel)) ⟨by decide +kernel, by decide +kernel, by decide +kernel⟩ ⟨Nat.le_of_ble_eq_true rfl, Nat.le_of_ble_eq_true rfl⟩
  · cases h
    exact m_CG_V mt_X3_begin hx hb hml hown hts hK hi hN (ci := 3) m_pv_rec rfl rfl (m_wck_ok (l := [(Cond.methodLink RX4 61 yX3_begin, 239), (Cond.instanceMethod yX3_begin, 240), (Cond.selects RX3 yX3_begin yX3_begin, 241), (Cond.initialized RX3, 56), (Cond.code yX3_begin cX3_begin 2 none, 242)]) (by decide +kernel)) ⟨rfl, by decide +kernel, by decide +kernel, by decide +kernel⟩ ⟨Nat.le_of_ble_eq_true rfl, Nat.le_of_ble_eq_true rfl⟩
  · cases h
    exact m_CG_S mt_X4_countedWeight hx hb hml hown hts hK hi hN (m_wck_ok (l := [(Cond.methodLink RX4 101 yX4_countedWeight, 295), (Cond.static yX4_countedWeight, 296), (Cond.initialized RX4, 55), (Cond.code yX4_countedWeight cX4_countedWeight 5 (some .long), 297)]) (by decide +kernel)) ⟨by decide +kernel, by decide +kernel, by decide +kernel⟩ ⟨Nat.le_of_ble_eq_true rfl, Nat.le_of_ble_eq_true rfl⟩
  · cases h
    exact m_CG_V mt_X3_addToMoments hx hb hml hown hts hK hi hN (ci := 3) m_pv_rec rfl rfl (m_wck_ok (l := [(Cond.methodLink RX4 105 yX3_addToMoments, 302), (Cond.instanceMethod yX3_addToMoments, 261), (Cond.selects RX3 yX3_addToMoments yX3_addToMoments, 262), (Cond.initialized RX3, 56), (Cond.code yX3_addToMoments cX3_addToMoments 7 none, 263)]) (by decide +kernel)) ⟨rfl, by decide +kernel, by decide +kernel, by decide +kernel⟩ ⟨Nat.le_of_ble_eq_true rfl, Nat.le_of_ble_eq_true rfl⟩
  · cases h
set_option maxHeartbeats 4000000 in
set_option maxRecDepth 100000 in
theorem mt_X4_counted : m_Mt yX4_counted cX4_counted 9 (some .int) 2 48 pt_counted := by
  refine m_methodG (fl := fl_X4) (kI := kI_X4) (kJ := kJ_X4) (ct := ct_X4_counted) (cd := cd_X4_counted) (cut := [(28, [0, 1, 2, 3, 4, 5, 6])]) (rk := 1) (fu := 80) (by decide +kernel) fl_X4_ok kI_X4_ok kJ_X4_ok ce_X4_counted rfl ck_X4_counted ⟨_, _, rfl, rfl⟩ ?_
  intro sh rf As I J K hpt
  obtain ⟨d, rest, rfl, hd, wh, n, u, v, rfl, rfl, rfl, rfl, hC, hS, hU⟩ := hpt
  refine ⟨Nat.le_of_ble_eq_true rfl, fun a9 b9 pc vs st I1 J1 => ∃ (nn x : Nat), vs = [.inr (.inr 523), .inl wh, .inl n, .inl u, .inl v, .inl (nI (cnz (cwF wh nn u.toInt.toNat v.toInt.toNat) x)), .inl (nI x)] ∧ st = [] ∧ a9 = nn + 1 - x ∧ x ≤ nn + 1 ∧ n = nI nn ∧ nn ≤ 9 ∧ n.toInt = nn ∧ cOK wh.toInt n.toInt u.toInt v.toInt ∧ (∀ a, a ≠ 513 → a ≠ 516 → I1 a = I a) ∧ I1 513 0 = 3 ∧ I1 513 1 = 11 ∧ I1 513 2 = 0 ∧ I1 513 3 = 0 ∧ I1 513 7 = 1 ∧ (∀ y, y < 19 → I1 516 y = 0) ∧ (∀ a, a ≠ 519 → J1 a = J a) ∧ ∀ k, k < 12 → J1 519 k = csum (cwF wh nn u.toInt.toNat v.toInt.toNat) k x, ?_, ?_⟩
  · refine ⟨wh, n, u, v, rfl, fun h => ?_, fun h => hS _ (if_neg (w_is0 h)) I J (SameC.rfl' I J)⟩
    have hc := w_not0 h
    refine ⟨rfl, 513, [.inl 3], rfl, rfl, 3, rfl, lay_W0, fun I1 J1 a1 a2 a3 a4 a5 a6 a7 a8 a9 => ?_⟩
    have e4 : rfL 513 4 = 516 := rfl
    have e5 : rfL 513 5 = 519 := rfl
    rw [e4] at a1 a7
    rw [e5] at a8 a9
    obtain ⟨en, -⟩ := i_nat (k := n) (by omega)
    exact ⟨n.toInt.toNat + 1 - 0, 0, n.toInt.toNat, 0, rfl, rfl, rfl, by omega, en, by omega, by omega, hc, a1, a2, a3, a4, a5, a6, a7, a8, a9⟩
  · intro pc ks a9 b9 vs st I1 J1 hc hI
    rcases m_cu1 hc with ⟨rfl, rfl⟩ | hc
    · obtain ⟨nn, x, rfl, rfl, rfl, hx, en, hn9, en2, hcc, a1, a2, a3, a4, a5, a6, a7, a8, a9⟩ := hI
      have et : n.toInt.toNat = nn := by omega
      have ecl : (cnz (cwF wh nn u.toInt.toNat v.toInt.toNat) x) ≤ x := by
        clear a9 hx
        induction x with
        | zero => exact Nat.le_refl 0
        | succ x ih =>
          rw [cnz]
          split <;> omega
      refine ⟨fun h => ?_, fun h => ?_⟩
      · have h : n < nI x := h
        rw [en, nI_ltI (by omega) (by omega)] at h
        obtain rfl : x = nn + 1 := by omega
        have hU := hU (if_pos hcc)
        rw [et] at hU
        refine hU I1 J1 ⟨fun a _ => a1 a, a2, a3, a4, a5, a7, fun a q _ => a8 a q, a9, ?_⟩
        refine CI_upd (l := 11) hC (fun a _ => a1 a) (fun a q _ => a8 a q) a3 (by decide) (by decide) (fun k hk => ?_) (Or.inl a5) a6 (fun q => absurd (a2.symm.trans q) (by decide))
        rw [a9 k hk]
        have hf : ∀ y, y ≤ nn → (cwF wh nn u.toInt.toNat v.toInt.toNat y).toInt.natAbs ≤ 2 ^ 16 := by
          intro y hy
          by_cases q0 : wh.toInt = 0
          · unfold cwF
            rw [if_neg (fun q => by rw [q] at q0; exact absurd q0 (by decide)), if_neg (fun q => by rw [q] at q0; exact absurd q0 (by decide))]
            decide
          · refine cwF_le ?_ hy
            rw [en2] at hcc
            have e1 : ((u.toInt.toNat : Nat) : Int) = u.toInt := by omega
            have e2 : ((v.toInt.toNat : Nat) : Int) = v.toInt := by omega
            rw [e1, e2]
            exact hcc
        have := csum_le hn9 hk hf (nn + 1) (Nat.le_refl _)
        have := MB62
        omega
      · have h : ¬ n < nI x := h
        rw [en, nI_ltI (by omega) (by omega)] at h
        refine ⟨wh, u, v, nn, x, u.toInt.toNat, v.toInt.toNat, by rw [en]; rfl, by omega, by omega, fun q => ?_, ?_⟩
        · have q0 : wh.toInt ≠ 0 := by
            rcases q with q | q <;> rw [q] <;> decide
          obtain ⟨eu, -⟩ := i_nat (k := u) (by omega)
          obtain ⟨ev, -⟩ := i_nat (k := v) (by omega)
          exact ⟨eu, ev, by omega, by omega⟩
        · refine ⟨rfl, 513, [.inl (nI x), .inr (.inl (cwF wh nn u.toInt.toNat v.toInt.toNat x))], rfl, rfl, nI x, cwF wh nn u.toInt.toNat v.toInt.toNat x, rfl, lay_W0, fun J2 b1 b2 => ?_⟩
          have e5 : rfL 513 5 = 519 := rfl
          rw [e5] at b1 b2
          have hj : ∀ k, k < 12 → J2 519 k = csum (cwF wh nn u.toInt.toNat v.toInt.toNat) k (x + 1) := fun k hk => by
            rw [b2 k hk, a9 k hk]
            rfl
          have hi : ∀ k, k ≠ 7 → m_uI I1 513 7 1 513 k = I1 513 k := fun k hk => uI_k _ _ _ hk
          refine ⟨fun h2 => ?_, fun h2 => ?_⟩
          · have h2 : lg_cmp (cwF wh nn u.toInt.toNat v.toInt.toNat x) 0 = 0 := h2
            have h2 := (lg_eq0 _).mp h2
            refine ⟨nn + 1 - (x + 1), 0, Or.inl (by omega), nn, x + 1, ?_, rfl, rfl, by omega, en, hn9, en2, hcc, fun a q1 q2 => by rw [uI_a _ _ _ q1]; exact a1 a q1 q2, by rw [hi 0 (by decide)]; exact a2, by rw [hi 1 (by decide)]; exact a3, by rw [hi 2 (by decide)]; exact a4, by rw [hi 3 (by decide)]; exact a5, uI_s _ _ _ _, fun y hy => by rw [uI_a _ _ _ (by decide)]; exact a7 y hy, fun a q => (b1 a q).trans (a8 a q), hj⟩
            rw [cnz, if_pos h2, ← nI_1 x]
            rfl
          · have h2 : ¬ lg_cmp (cwF wh nn u.toInt.toNat v.toInt.toNat x) 0 = 0 := h2
            have h2 := mt (lg_eq0 _).mpr h2
            refine ⟨nn + 1 - (x + 1), 0, Or.inl (by omega), nn, x + 1, ?_, rfl, rfl, by omega, en, hn9, en2, hcc, fun a q1 q2 => by rw [uI_a _ _ _ q1]; exact a1 a q1 q2, by rw [hi 0 (by decide)]; exact a2, by rw [hi 1 (by decide)]; exact a3, by rw [hi 2 (by decide)]; exact a4, by rw [hi 3 (by decide)]; exact a5, uI_s _ _ _ _, fun y hy => by rw [uI_a _ _ _ (by decide)]; exact a7 y hy, fun a q => (b1 a q).trans (a8 a q), hj⟩
            rw [cnz, if_neg h2, ← nI_1 x, ← nI_1 (cnz (cwF wh nn u.toInt.toNat v.toInt.toNat) x)]
    · cases hc

