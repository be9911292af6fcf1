/-! ===== the desk: the hand asked; rules, values, products, shares ===== -/
theorem bmul {x y : Int} {a b : Nat} (hx : x.natAbs < 2 ^ (32 * a)) (hy : y.natAbs < 2 ^ (32 * b)) : (x * y).natAbs < 2 ^ (32 * (a + b)) := by
  rw [Int.natAbs_mul, Nat.mul_add, Nat.pow_add]
  exact Nat.mul_lt_mul'' hx hy
theorem badd {x y : Int} {m : Nat} (hx : x.natAbs < 2 ^ (32 * m)) (hy : y.natAbs < 2 ^ (32 * m)) : (x + y).natAbs < 2 ^ (32 * (m + 1)) := by
  have e : 2 ^ (32 * (m + 1)) = 2 ^ (32 * m) * 2 ^ 32 := by rw [Nat.mul_add, Nat.pow_add]
  have h := Int.natAbs_add_le x y
  rw [e]
  generalize 2 ^ (32 * m) = t at *
  omega
theorem bsub {x y : Int} {m : Nat} (hx : x.natAbs < 2 ^ (32 * m)) (hy : y.natAbs < 2 ^ (32 * m)) : (x - y).natAbs < 2 ^ (32 * (m + 1)) := by
  have := badd (y := -y) hx (by rw [Int.natAbs_neg]; exact hy)
  rwa [← Int.sub_eq_add_neg] at this
theorem bup {x : Int} {a b : Nat} (h : x.natAbs < 2 ^ (32 * a)) (hab : a ≤ b) : x.natAbs < 2 ^ (32 * b) := big_lt h (by omega)
theorem sg_tri {a b k m : Int} (hk : 0 < k) (hm : 0 < m) (h : a * k = b * m) : (a < 0 ↔ b < 0) ∧ (a = 0 ↔ b = 0) := by
  have up : ∀ {x y k m : Int}, 0 < k → 0 < m → x * k = y * m → x < 0 → y < 0 := by
    intro x y k m hk hm h hx
    have h1 := Int.mul_neg_of_neg_of_pos hx hk
    rcases (show y < 0 ∨ 0 ≤ y by omega) with r | r
    · exact r
    · have := Int.mul_nonneg r (Int.le_of_lt hm)
      omega
  have uz : ∀ {x y k m : Int}, 0 < k → 0 < m → x * k = y * m → x = 0 → y = 0 := by
    intro x y k m hk hm h hx
    rw [hx, Int.zero_mul] at h
    rcases Int.mul_eq_zero.mp h.symm with r | r
    · exact r
    · omega
  exact ⟨⟨up hk hm h, up hm hk h.symm⟩, ⟨uz hk hm h, uz hm hk h.symm⟩⟩
theorem sgI_scale {a b k m : Int} (hk : 0 < k) (hm : 0 < m) (h : a * k = b * m) : sgI a = sgI b := by
  obtain ⟨h1, h2⟩ := sg_tri hk hm h
  unfold sgI
  simp only [h1, h2]
theorem sgA_scale {a b k m : Int} (hk : 0 < k) (hm : 0 < m) (h : a * k = b * m) : sgA a = sgA b := by
  obtain ⟨h1, h2⟩ := sg_tri hk hm h
  unfold sgA
  simp only [h1, h2]
theorem sgI_0 {z : Int} : sgI z = 0 ↔ z = 0 := by
  unfold sgI
  by_cases h : z < 0
  · rw [if_pos h]
    exact ⟨fun e => absurd e (by decide), fun e => by omega⟩
  · rw [if_neg h]
    by_cases h2 : z = 0
    · rw [if_pos h2]
      exact ⟨fun _ => h2, fun _ => rfl⟩
    · rw [if_neg h2]
      exact ⟨fun e => absurd e (by decide), fun e => absurd e h2⟩
theorem sgI_x (a b : Int) : sgI a * sgI b = sgI (a * b) := by
  rcases Int.lt_trichotomy a 0 with p | p | p <;> rcases Int.lt_trichotomy b 0 with q | q | q
  · have := Int.mul_pos_of_neg_of_neg p q
    unfold sgI
    rw [if_pos p, if_pos q, if_neg (by omega), if_neg (by omega)]
    rfl
  · rw [q, Int.mul_zero]
    unfold sgI
    rw [if_pos p]
    rfl
  · have := Int.mul_neg_of_neg_of_pos p q
    unfold sgI
    rw [if_pos p, if_pos this, if_neg (by omega), if_neg (by omega)]
    rfl
  · rw [p, Int.zero_mul]
    unfold sgI
    rw [if_pos q]
    rfl
  · rw [p, q]
    rfl
  · rw [p, Int.zero_mul]
    unfold sgI
    rw [if_neg (by omega : ¬ b < 0), if_neg (by omega : ¬ b = 0)]
    rfl
  · have := Int.mul_neg_of_pos_of_neg p q
    unfold sgI
    rw [if_pos q, if_pos this, if_neg (by omega), if_neg (by omega)]
    rfl
  · rw [q, Int.mul_zero]
    unfold sgI
    rw [if_neg (by omega), if_neg (by omega)]
    rfl
  · have := Int.mul_pos p q
    unfold sgI
    rw [if_neg (by omega), if_neg (by omega), if_neg (by omega), if_neg (by omega), if_neg (by omega), if_neg (by omega)]
    rfl
theorem lowP {I : mPI} {J : mPJ} {K : mKT} {wh : Int32} {p q : Int} (hw : wh = 0 ∨ wh = 1) (hq : 0 < q) (hg : Nat.gcd p.natAbs q.natAbs = 1) (hH : HIs shL rfL I 522 p q) (h : ∀ I1 b, Fr I I1 → HIs shL rfL I1 522 p q → BIs shL rfL I1 b (if wh = 0 then p else q) → shL b = .inl 0 → K (some (.inr (.inr b))) I1 J) : pt_lowestPart shL rfL [.inr (.inr 522), .inl wh] I J K := by
  refine ⟨522, [.inl wh], rfl, rfl, wh, p, q, rfl, lay_H.1, by omega, hH, fun I1 p' q' c1 c2 c3 c4 c5 c6 c7 => ?_⟩
  obtain ⟨rfl, rfl⟩ := low_unique c5 hq c6 hg c7
  have hf := hch_fr c1
  rcases hw with rfl | rfl
  · exact h I1 468 hf c2 c3 rfl
  · exact h I1 470 hf c2 c4 rfl
abbrev isFr (u v : Int) : Prop := (-1000000 ≤ u ∧ u ≤ 1000000) ∧ 1 ≤ v ∧ v ≤ 1000000
theorem isFr_i {u v : Int32} : ((-1000000 ≤ u ∧ u ≤ 1000000) ∧ 1 ≤ v ∧ v ≤ 1000000) ↔ isFr u.toInt v.toInt := by
  have e1 : (-1000000 : Int32).toInt = -1000000 := rfl
  have e2 : (1000000 : Int32).toInt = 1000000 := rfl
  have e3 : (1 : Int32).toInt = 1 := rfl
  rw [Int32.le_iff_toInt_le, Int32.le_iff_toInt_le, Int32.le_iff_toInt_le, Int32.le_iff_toInt_le, e1, e2, e3]
def spAgainst (u v : Int) (U L : Int) : Int32 := if isFr u v then sgI ((U * v - L * u) * L) else -20
def pt_against : mSH → mRF → mPT := m_pv 4 (fun sh rf d rest I J K => ∃ u v : Int32, sh = shL ∧ rf = rfL ∧ d = 523 ∧ rest = [.inl u, .inl v] ∧ Tel I J K (fun U L _ => spAgainst u.toInt v.toInt U L))
def toldF (I : mPI) (mo : Nat → Int) (wh : Int32) (l : Nat) : Int32 := if wh = 0 then I 513 0 else if wh = 1 then I 513 1 else if wh = 2 then I 513 2 else if wh = 3 then I 513 3 else if wh = 4 then nI (tpf mo l) else -2
def pt_told : mSH → mRF → mPT := m_pv 4 (fun sh rf d rest I J K => ∃ wh : Int32, sh = shL ∧ rf = rfL ∧ d = 523 ∧ rest = [.inl wh] ∧ Tel I J K (fun _ _ l => toldF I (moC J 0) wh l))
def pt_good : mSH → mRF → mPT := m_pv 4 (fun sh rf d rest I J K => sh = shL ∧ rf = rfL ∧ d = 523 ∧ rest = [] ∧ Tel I J K (fun _ _ l => nI (gwf (moC J 0) l)))
/-! the rule of three lines -/
def ruleA (mo : Nat → Int) (k : Nat) : Int × Int := ((if k = 0 then 0 else Nm mo k (k - 1) * Dt mo (k + 1)) - Nm mo (k + 1) k * Dt mo k, Dt mo k * Dt mo (k + 1))
def ruleB (mo : Nat → Int) (k : Nat) : Int × Int := if k = 0 then (Dt mo 1, Dt mo 0) else (Dt mo (k + 1) * Dt mo (k - 1), Dt mo k * Dt mo k)
def spRule (mo : Nat → Int) (k wh : Int) (l : Nat) : mSL := if 0 ≤ k ∧ k < tpf mo l then (if wh = 0 then .inr (ruleA mo k.toNat) else if wh = 1 then .inr (ruleB mo k.toNat) else .inl (-2)) else .inl (-1)
def ptRb (f : (Nat → Int) → Nat → Int × Int) : mSH → mRF → Nat → List mPV → mPI → mPJ → mKT → Prop := fun sh rf d rest I J K => ∃ (k l : Nat) (mo : Nat → Int), sh = shL ∧ rf = rfL ∧ d = 523 ∧ rest = [.inr (.inr 504), .inl (nI k)] ∧ PIs shL rfL I 504 mo l ∧ k < tpf mo l ∧ ∀ I1, Fr I I1 → HIs shL rfL I1 522 (f mo k).1 (f mo k).2 → K (some (.inl (sgA ((f mo k).1 * (f mo k).2)))) I1 J
def pt_layRuleA : mSH → mRF → mPT := m_pv 4 (ptRb ruleA)
def pt_layRuleB : mSH → mRF → mPT := m_pv 4 (ptRb ruleB)
def pt_layRule : mSH → mRF → mPT := m_pv 4 (fun sh rf d rest I J K => ∃ k wh : Int32, sh = shL ∧ rf = rfL ∧ d = 523 ∧ rest = [.inl k, .inl wh] ∧ Ask I J K (spRule (moC J 0) k.toInt wh.toInt))
def spValue (mo : Nat → Int) (k u v : Int) (l : Nat) : mSL := if hasP mo l k then (if isFr u v then .inr (evN mo k.toNat u v k.toNat, Dt mo k.toNat * v ^ k.toNat) else .inl (-2)) else .inl (-1)
def pt_layValue : mSH → mRF → mPT := m_pv 4 (fun sh rf d rest I J K => ∃ k u v : Int32, sh = shL ∧ rf = rfL ∧ d = 523 ∧ rest = [.inl k, .inl u, .inl v] ∧ Ask I J K (spValue (moC J 0) k.toInt u.toInt v.toInt))
def spProduct (mo : Nat → Int) (i j : Int) (l : Nat) : mSL := if hasP mo l i ∧ hasP mo l j ∧ i + j ≤ l then (if i = j then .inr (Dt mo (i.toNat + 1), Dt mo i.toNat) else .inr (0, 1)) else .inl (-1)
def pt_layProduct : mSH → mRF → mPT := m_pv 4 (fun sh rf d rest I J K => ∃ i j : Int32, sh = shL ∧ rf = rfL ∧ d = 523 ∧ rest = [.inl i, .inl j] ∧ Ask I J K (spProduct (moC J 0) i.toInt j.toInt))
def spShare (mo : Nat → Int) (d k : Int) (l : Nat) : mSL := if hasW mo l k ∧ 0 ≤ d ∧ d ≤ l - k then (if Dt mo (k.toNat + 1) = 0 then .inl (-5) else .inr (ofN mo k.toNat d.toNat (k.toNat + 1), Dt mo (k.toNat + 1))) else .inl (-1)
def pt_layShare : mSH → mRF → mPT := m_pv 4 (fun sh rf d rest I J K => ∃ e k : Int32, sh = shL ∧ rf = rfL ∧ d = 523 ∧ rest = [.inl e, .inl k] ∧ Ask I J K (spShare (moC J 0) e.toInt k.toInt))
theorem nI_lt_i {k : Int32} {n : Nat} (h : n < 2 ^ 31) : k < nI n ↔ k.toInt < n := by rw [Int32.lt_iff_toInt_lt, nI_toInt h]
theorem i_lt0 {k : Int32} : k < 0 ↔ k.toInt < 0 := by rw [Int32.lt_iff_toInt_lt, z0I]
theorem i_le0 {k : Int32} : 0 ≤ k ↔ 0 ≤ k.toInt := by rw [Int32.le_iff_toInt_le, z0I]
theorem L40 {b : Nat} (h1 : 234 ≤ b) (h2 : b < 252) : BSh shL rfL (2 * b) 40 := lay_40 h1 h2

def ct_X4_word (sh : mSH) (rf : mRF) : Nat → Option (Nat × Bool × mPT) := fun k => match k with
  | 212 => some (2, true, pt_lowestPart sh rf)
  | 218 => some (2, true, pt_sixteenBits sh rf)
  | _ => none
set_option maxRecDepth 20000 in
theorem ce_X4_word : m_CE RX4 5 124 cX4_word 3 ct_X4_word := by
  intro p l e s m args below meth c Q D cs ad sh rf N hx hb hml hown hts hK hi hN k n vf pt h
  unfold ct_X4_word at h
  split at h
  · cases h
    exact m_CG_V mt_X1_lowestPart hx hb hml hown hts hK hi hN (ci := 1) m_pv_rec rfl rfl (m_wck_ok (l := [(Cond.methodLink RX4 212 yX1_lowestPart, 577), (Cond.instanceMethod yX1_lowestPart, 578), (Cond.selects RX1 yX1_lowestPart yX1_lowestPart, 579), (Cond.initialized RX1, 61), (Cond.code yX1_lowestPart cX1_lowestPart 2 (some (.object "MomentDesk$Big")), 580)]) (by decide +kernel)) ⟨rfl, by decide +kernel, by decide +kernel, by decide +kernel⟩ ⟨Nat.le_of_ble_eq_true rfl, Nat.le_of_ble_eq_true rfl⟩
  · cases h
    exact m_CG_V mt_X0_sixteenBits hx hb hml hown hts hK hi hN (ci := 0) m_pv_rec rfl rfl (m_wck_ok (l := [(Cond.methodLink RX4 218 yX0_sixteenBits, 603), (Cond.instanceMethod yX0_sixteenBits, 604), (Cond.selects RX0 yX0_sixteenBits yX0_sixteenBits, 605), (Cond.initialized RX0, 58), (Cond.code yX0_sixteenBits cX0_sixteenBits 3 (some .int), 606)]) (by decide +kernel)) ⟨rfl, by decide +kernel, by decide +kernel, by decide +kernel⟩ ⟨Nat.le_of_ble_eq_true rfl, Nat.le_of_ble_eq_true rfl⟩
  · cases h
set_option maxHeartbeats 4000000 in
set_option maxRecDepth 100000 in
theorem mt_X4_word : m_Mt yX4_word cX4_word 3 (some .int) 5 124 pt_word := by
  refine m_method0 80 (fl := fl_X4) (kI := kI_X4) (kJ := kJ_X4) (ct := ct_X4_word) (cd := cd_X4_word) (rk := 1) (by decide +kernel) fl_X4_ok kI_X4_ok kJ_X4_ok ce_X4_word rfl ck_X4_word ⟨_, _, rfl, rfl⟩ ?_
  intro sh rf As I J K hpt
  obtain ⟨d, rest, rfl, hd, wh, k, p, q, rfl, rfl, rfl, rfl, hq, hg, hH, hC, hK⟩ := hpt
  have lq : wh = 0 ∨ wh = 1 → 0 ≤ k.toInt → pt_lowestPart shL rfL [.inr (.inr 522), .inl wh] I J (fun r I1 J1 => ∃ b, r = some (.inr (.inr b)) ∧ pt_sixteenBits shL rfL [.inr (.inr b), .inl k] I1 J1 K) := by
    intro hw h0
    obtain ⟨e1, e2⟩ := i_nat h0
    refine lowP hw hq hg hH (fun I1 b a1 a2 a3 a4 => ⟨b, rfl, b, [.inl k], rfl, a4, _, k.toInt.toNat, congrArg (fun x => [Sum.inl x]) e1, e2, a3, ?_⟩)
    have := hK I1 a1.vis (hC.fr a1) a2
    rw [if_pos ⟨hw, h0⟩] at this
    rcases hw with rfl | rfl
    · exact this
    · exact this
  have go : wh = 0 ∨ wh = 1 → (0 ≤ k → shL 523 = .inl 4 ∧ pt_lowestPart shL rfL [.inr (.inr 522), .inl wh] I J (fun r I1 J1 => ∃ b, r = some (.inr (.inr b)) ∧ pt_sixteenBits shL rfL [.inr (.inr b), .inl k] I1 J1 K)) ∧ (¬ 0 ≤ k → K (some (.inl (-2))) I J) := by
    intro hw
    refine ⟨fun h => ⟨rfl, lq hw (i_le0.mp h)⟩, fun h => ?_⟩
    have := hK I (Fr.rfl' I).vis hC hH
    rw [if_neg (fun q => h (i_le0.mpr q.2))] at this
    exact this
  have un : ∀ h : pt_lowestPart shL rfL [.inr (.inr 522), .inl wh] I J (fun r I1 J1 => ∃ b, r = some (.inr (.inr b)) ∧ pt_sixteenBits shL rfL [.inr (.inr b), .inl k] I1 J1 K), pt_lowestPart shL rfL [.inr (.inr 522), .inl wh] I J (fun r I1 J1 => match r with | some (.inr (.inr b)) => pt_sixteenBits shL rfL [.inr (.inr b), .inl k] I1 J1 K | _ => False) := by
    intro h
    obtain ⟨h, rest, e1, e2, wh', U, L, e3, e4, e5, e6, e7⟩ := h
    refine ⟨h, rest, e1, e2, wh', U, L, e3, e4, e5, e6, fun I1 p' q' c1 c2 c3 c4 c5 c6 c7 => ?_⟩
    obtain ⟨b, f1, f2⟩ := e7 I1 p' q' c1 c2 c3 c4 c5 c6 c7
    cases f1
    exact f2
  have fin : wh = 0 ∨ wh = 1 → 0 ≤ k → ∃ h rest, ([.inr (.inr 522), .inl wh] : List mPV) = .inr (.inr h) :: rest ∧ shL h = .inl 1 ∧ ∃ (wh' : Int32) (U L : Int), rest = [.inl wh'] ∧ HSh shL rfL h ∧ L ≠ 0 ∧ HIs shL rfL I h U L ∧ ∀ I1 (p q : Int), HCh rfL I I1 h → HIs shL rfL I1 h U L → BIs shL rfL I1 (rfL h 0) p → BIs shL rfL I1 (rfL h 1) q → 0 < q → Nat.gcd p.natAbs q.natAbs = 1 → p * L = U * q → pt_sixteenBits shL rfL [.inr (.inr (if wh' = 0 then rfL h 0 else rfL h 1)), .inl k] I1 J K := by
    intro hw h0
    exact un ((go hw).1 h0).2
  refine ⟨Nat.le_of_ble_eq_true rfl, fun h => ⟨fun h2 => ?_, fun h2 => ?_⟩, fun h => ⟨fun h2 => ?_, fun h2 => ⟨fun h3 => ?_, fun h3 => ?_⟩⟩⟩
  · have h : wh = 0 := h
    obtain ⟨h, rest, e1, e2, wh', U, L, e3, e4, e5, e6, e7⟩ := fin (Or.inl h) h2
    exact ⟨rfl, h, rest, e1, e2, wh', U, L, e3, e4, e5, e6, e7⟩
  · have h : wh = 0 := h
    exact (go (Or.inl h)).2 h2
  · have h : ¬ wh = 0 := h
    have h2 : ¬ wh = 1 := h2
    have := hK I (Fr.rfl' I).vis hC hH
    rw [if_neg (fun q => by rcases q.1 with r | r; exact h r; exact h2 r)] at this
    exact this
  · have h2 : wh = 1 := h2
    obtain ⟨h, rest, e1, e2, wh', U, L, e3, e4, e5, e6, e7⟩ := fin (Or.inr h2) h3
    exact ⟨rfl, h, rest, e1, e2, wh', U, L, e3, e4, e5, e6, e7⟩
  · have h2 : wh = 1 := h2
    exact (go (Or.inr h2)).2 h3

def ct_X4_against (sh : mSH) (rf : mRF) : Nat → Option (Nat × Bool × mPT) := fun k => match k with
  | 172 => some (2, false, pt_isFraction sh rf)
  | 179 => some (2, true, pt_setBig sh rf)
  | 183 => some (2, true, pt_timesInt sh rf)
  | 227 => some (2, true, pt_take sh rf)
  | 230 => some (1, true, pt_signum sh rf)
  | _ => none
set_option maxRecDepth 20000 in
theorem ce_X4_against : m_CE RX4 4 124 cX4_against 3 ct_X4_against := by
  intro p l e s m args below meth c Q D cs ad sh rf N hx hb hml hown hts hK hi hN k n vf pt h
  unfold ct_X4_against at h
  split at h
  · cases h
    exact m_CG_S mt_X4_isFraction hx hb hml hown hts hK hi hN (m_wck_ok (l := [(Cond.methodLink RX4 172 yX4_isFraction, 493), (Cond.static yX4_isFraction, 494), (Cond.initialized RX4, 55), (Cond.code yX4_isFraction cX4_isFraction 2 (some .boolean), 495)]) (by decide +kernel)) ⟨by decide +kernel, by decide +kernel, by decide +kernel⟩ ⟨Nat.le_of_ble_eq_true rfl, Nat.le_of_ble_eq_true rfl⟩
  · cases h
    exact m_CG_V mt_X0_setBig hx hb hml hown hts hK hi hN (ci := 0) m_pv_rec rfl rfl (m_wck_ok (l := [(Cond.methodLink RX4 179 yX0_setBig, 510), (Cond.instanceMethod yX0_setBig, 352), (Cond.selects RX0 yX0_setBig yX0_setBig, 353), (Cond.initialized RX0, 58), (Cond.code yX0_setBig cX0_setBig 2 none, 354)]) (by decide +kernel)) ⟨rfl, by decide +kernel, by decide +kernel, by decide +kernel⟩ ⟨Nat.le_of_ble_eq_true rfl, Nat.le_of_ble_eq_true rfl⟩
  · cases h
    exact m_CG_V mt_X0_timesInt hx hb hml hown hts hK hi hN (ci := 0) m_pv_rec rfl rfl (m_wck_ok (l := [(Cond.methodLink RX4 183 yX0_timesInt, 511), (Cond.instanceMethod yX0_timesInt, 502), (Cond.selects RX0 yX0_timesInt yX0_timesInt, 503), (Cond.initialized RX0, 58), (Cond.code yX0_timesInt cX0_timesInt 7 none, 504)]) (by decide +kernel)) ⟨rfl, by decide +kernel, by decide +kernel, by decide +kernel⟩ ⟨Nat.le_of_ble_eq_true rfl, Nat.le_of_ble_eq_true rfl⟩
  · cases h
    exact m_CG_V mt_X0_take hx hb hml hown hts hK hi hN (ci := 0) m_pv_rec rfl rfl (m_wck_ok (l := [(Cond.methodLink RX4 227 yX0_take, 481), (Cond.instanceMethod yX0_take, 482), (Cond.selects RX0 yX0_take yX0_take, 483), (Cond.initialized RX0, 58), (Cond.code yX0_take cX0_take 2 none, 484)]) (by decide +kernel)) ⟨rfl, by decide +kernel, by decide +kernel, by decide +kernel⟩ ⟨Nat.le_of_ble_eq_true rfl, Nat.le_of_ble_eq_true rfl⟩
  · cases h
    exact m_CG_V mt_X0_signum hx hb hml hown hts hK hi hN (ci := 0) m_pv_rec rfl rfl (m_wck_ok (l := [(Cond.methodLink RX4 230 yX0_signum, 612), (Cond.instanceMethod yX0_signum, 413), (Cond.selects RX0 yX0_signum yX0_signum, 414), (Cond.initialized RX0, 58), (Cond.code yX0_signum cX0_signum 1 (some .int), 415)]) (by decide +kernel)) ⟨rfl, by decide +kernel, by decide +kernel, by decide +kernel⟩ ⟨Nat.le_of_ble_eq_true rfl, Nat.le_of_ble_eq_true rfl⟩
  · cases h
set_option maxHeartbeats 4000000 in
set_option maxRecDepth 100000 in
theorem mt_X4_against : m_Mt yX4_against cX4_against 3 (some .int) 4 124 pt_against := by
  refine m_method0 80 (fl := fl_X4) (kI := kI_X4) (kJ := kJ_X4) (ct := ct_X4_against) (cd := cd_X4_against) (rk := 1) (by decide +kernel) fl_X4_ok kI_X4_ok kJ_X4_ok ce_X4_against rfl ck_X4_against ⟨_, _, rfl, rfl⟩ ?_
  intro sh rf As I J K hpt
  obtain ⟨d, rest, rfl, hd, u, v, rfl, rfl, rfl, rfl, l, U, L, hC, hH, hL, h1, hl, hK⟩ := hpt
  obtain ⟨a, b, b1, b2, b3, b4, -, b5, b6⟩ := id hH
  have e0 : rfL 522 0 = 468 := rfl
  have e1 : rfL 522 1 = 470 := rfl
  rw [e0] at b1
  rw [e1] at b2
  refine ⟨Nat.le_of_ble_eq_true rfl, u, v, rfl, fun h => ?_, fun h => ?_⟩
  · have h : ¬ (if (-1000000 ≤ u ∧ u ≤ 1000000) ∧ 1 ≤ v ∧ v ≤ 1000000 then (1 : Int32) else 0) = 0 := h
    have hfr : isFr u.toInt v.toInt := by
      by_cases q : (-1000000 ≤ u ∧ u ≤ 1000000) ∧ 1 ≤ v ∧ v ≤ 1000000
      · exact isFr_i.mp q
      · rw [if_neg q] at h
        exact absurd rfl h
    have hu : u.toInt.natAbs < 2 ^ (32 * 1) := by omega
    have hv : v.toInt.natAbs < 2 ^ (32 * 1) := by omega
    refine ⟨rfl, rfl, rfl, 498, [.inr (.inr 468)], rfl, rfl, 40, 468, a, rfl, L40 (b := 249) (by decide) (by decide), lay_BL, by decide, b1, bup b5 (by decide), fun I1 c1 c2 => ?_⟩
    have w1 := bch_wk (b := 498) (by decide) (by decide) c1
    refine ⟨rfl, 498, [.inl v], rfl, rfl, 40, 38, a, v, rfl, L40 (b := 249) (by decide) (by decide), c2, b5, by decide, fun I2 c3 c4 => ?_⟩
    have w2 := w1.trans (bch_wk (b := 498) (by decide) (by decide) c3)
    have b2' := b2.wk (by decide) (by unfold wkA; decide) (by unfold wkA; decide) w2
    refine ⟨rfl, rfl, rfl, 500, [.inr (.inr 470)], rfl, rfl, 40, 470, b, rfl, L40 (b := 250) (by decide) (by decide), lay_BL, by decide, b2', bup b6 (by decide), fun I3 c5 c6 => ?_⟩
    have w3 := w2.trans (bch_wk (b := 500) (by decide) (by decide) c5)
    have c4' := c4.other lay_BL (L40 (b := 250) (by decide) (by decide)) (by decide) c5
    refine ⟨rfl, 500, [.inl u], rfl, rfl, 40, 38, b, u, rfl, L40 (b := 250) (by decide) (by decide), c6, b6, by decide, fun I4 c7 c8 => ?_⟩
    have w4 := w3.trans (bch_wk (b := 500) (by decide) (by decide) c7)
    have c4'' := c4'.other lay_BL (L40 (b := 250) (by decide) (by decide)) (by decide) c7
    refine ⟨rfl, rfl, 498, [.inr (.inr 500)], rfl, rfl, 40, 500, 39, a * v.toInt, b * u.toInt, rfl, L40 (b := 249) (by decide) (by decide), lay_BL, by decide, c4'', c8, bmul b5 hv, bmul b6 hu, by decide, fun I5 c9 c10 => ?_⟩
    have w5 := w4.trans (bch_wk (b := 498) (by decide) (by decide) c9)
    refine ⟨rfl, 498, [], rfl, rfl, _, rfl, c10, ?_⟩
    have : K (some (.inl (spAgainst u.toInt v.toInt U L))) I5 J := hK I5 w5.fr.vis (hC.fr w5.fr) (hH.wk w5)
    have e : spAgainst u.toInt v.toInt U L = sgI (a * v.toInt - b * u.toInt) := by
      unfold spAgainst
      rw [if_pos hfr]
      have l2 : 0 < L * L := by
        rcases Int.lt_or_gt_of_ne hL with q | q
        · exact Int.mul_pos_of_neg_of_neg q q
        · exact Int.mul_pos q q
      refine sgI_scale b3 l2 ?_
      grind
    rw [e] at this
    exact this
  · have h : (if (-1000000 ≤ u ∧ u ≤ 1000000) ∧ 1 ≤ v ∧ v ≤ 1000000 then (1 : Int32) else 0) = 0 := h
    have : K (some (.inl (spAgainst u.toInt v.toInt U L))) I J := hK I (Fr.rfl' I).vis hC hH
    have e : spAgainst u.toInt v.toInt U L = -20 := by
      refine if_neg (fun q => ?_)
      rw [if_pos (isFr_i.mpr q)] at h
      exact absurd h (by decide)
    rw [e] at this
    exact this

def ct_X4_told (sh : mSH) (rf : mRF) : Nat → Option (Nat × Bool × mPT) := fun k => match k with
  | 138 => some (1, true, pt_wpolys sh rf)
  | _ => none
set_option maxRecDepth 20000 in
theorem ce_X4_told : m_CE RX4 6 173 cX4_told 2 ct_X4_told := by
  intro p l e s m args below meth c Q D cs ad sh rf N hx hb hml hown hts hK hi hN k n vf pt h
  unfold ct_X4_told at h
  split at h
  · cases h
    exact m_CG_V mt_X3_polys hx hb hml hown hts hK hi hN (ci := 3) m_pv_rec rfl rfl (m_wck_ok (l := [(Cond.methodLink RX4 138 yX3_polys, 420), (Cond.instanceMethod yX3_polys, 421), (Cond.selects RX3 yX3_polys yX3_polys, 422), (Cond.initialized RX3, 56), (Cond.code yX3_polys cX3_polys 1 (some (.object "MomentDesk$Polys")), 423)]) (by decide +kernel)) ⟨rfl, by decide +kernel, by decide +kernel, by decide +kernel⟩ ⟨Nat.le_of_ble_eq_true rfl, Nat.le_of_ble_eq_true rfl⟩
  · cases h
set_option maxHeartbeats 4000000 in
set_option maxRecDepth 100000 in
theorem mt_X4_told : m_Mt yX4_told cX4_told 2 (some .int) 6 173 pt_told := by
  refine m_method0 80 (fl := fl_X4) (kI := kI_X4) (kJ := kJ_X4) (ct := ct_X4_told) (cd := cd_X4_told) (rk := 1) (by decide +kernel) fl_X4_ok kI_X4_ok kJ_X4_ok ce_X4_told rfl ck_X4_told ⟨_, _, rfl, rfl⟩ ?_
  intro sh rf As I J K hpt
  obtain ⟨d, rest, rfl, hd, wh, rfl, rfl, rfl, rfl, l, U, L, hC, hH, hL, h1, hl, hK⟩ := hpt
  obtain ⟨h3, hmo, hold⟩ := hC.cur h1 hl
  obtain ⟨l', q1, q2, q3, q4, q5, q6, q7⟩ := hC 0 (by decide)
  have k0 := hK I (Fr.rfl' I).vis hC hH
  refine ⟨Nat.le_of_ble_eq_true rfl, fun j hj e => ?_, fun h => ?_⟩
  · have e : wh = Int32.ofNat j := e
    have hj : j < 5 := hj
    rcases (show j = 0 ∨ j = 1 ∨ j = 2 ∨ j = 3 ∨ j = 4 by omega) with r | r | r | r | r <;> subst r
    · subst e
      exact ⟨rfl, rfl, k0⟩
    · subst e
      exact ⟨rfl, rfl, k0⟩
    · subst e
      exact ⟨rfl, rfl, k0⟩
    · subst e
      refine ⟨rfl, rfl, fun e => ?_, fun e => ?_⟩
      · have e : I 513 3 = 0 := e
        have k0 : K (some (.inl (I 513 3))) I J := k0
        rw [e] at k0
        exact k0
      · have e : ¬ I 513 3 = 0 := e
        have k0 : K (some (.inl (I 513 3))) I J := k0
        rw [q5.resolve_left e] at k0
        exact k0
    · subst e
      refine ⟨rfl, 513, [], rfl, rfl, l, rfl, lay_W0, h1, hl, hmo, hold, fun I1 a1 a2 a3 a4 => ?_⟩
      obtain ⟨hPf, hC1, hP⟩ := polys_post (p := 0) (by decide) hC h1 hl a1 a2 a4
      have hV := hPf.vis (by decide)
      have hH1 := hH.pf (by decide) hPf
      have := hK I1 hV hC1 hH1
      refine ⟨rfl, ?_⟩
      have e : I1 504 5 = toldF I (moC J 0) 4 l := hP.2.1
      show K (some (.inl (I1 504 5))) I1 J
      rw [e]
      exact this
  · have h : wh < 0 ∨ Int32.ofNat 5 ≤ wh := h
    have e : toldF I (moC J 0) wh l = -2 := by
      unfold toldF
      rw [if_neg, if_neg, if_neg, if_neg, if_neg] <;> intro e <;> subst e <;> exact absurd h (by decide)
    have k0 : K (some (.inl (toldF I (moC J 0) wh l))) I J := k0
    rw [e] at k0
    exact k0

def ct_X4_good (sh : mSH) (rf : mRF) : Nat → Option (Nat × Bool × mPT) := fun k => match k with
  | 138 => some (1, true, pt_wpolys sh rf)
  | 233 => some (1, true, pt_pgood sh rf)
  | _ => none
set_option maxRecDepth 20000 in
theorem ce_X4_good : m_CE RX4 6 173 cX4_good 1 ct_X4_good := by
  intro p l e s m args below meth c Q D cs ad sh rf N hx hb hml hown hts hK hi hN k n vf pt h
  unfold ct_X4_good at h
  split at h
  · cases h
    exact m_CG_V mt_X3_polys hx hb hml hown hts hK hi hN (ci := 3) m_pv_rec rfl rfl (m_wck_ok (l := [(Cond.methodLink RX4 138 yX3_polys, 420), (Cond.instanceMethod yX3_polys, 421), (Cond.selects RX3 yX3_polys yX3_polys, 422), (Cond.initialized RX3, 56), (Cond.code yX3_polys cX3_polys 1 (some (.object "MomentDesk$Polys")), 423)]) (by decide +kernel)) ⟨rfl, by decide +kernel, by decide +kernel, by decide +kernel⟩ ⟨Nat.le_of_ble_eq_true rfl, Nat.le_of_ble_eq_true rfl⟩
  · cases h
    exact m_CG_V mt_X2_goodWorths hx hb hml hown hts hK hi hN (ci := 2) m_pv_rec rfl rfl (m_wck_ok (l := [(Cond.methodLink RX4 233 yX2_goodWorths, 617), (Cond.instanceMethod yX2_goodWorths, 618), (Cond.selects RX2 yX2_goodWorths yX2_goodWorths, 619), (Cond.initialized RX2, 57), (Cond.code yX2_goodWorths cX2_goodWorths 2 (some .int), 620)]) (by decide +kernel)) ⟨rfl, by decide +kernel, by decide +kernel, by decide +kernel⟩ ⟨Nat.le_of_ble_eq_true rfl, Nat.le_of_ble_eq_true rfl⟩
  · cases h
set_option maxHeartbeats 4000000 in
set_option maxRecDepth 100000 in
theorem mt_X4_good : m_Mt yX4_good cX4_good 1 (some .int) 6 173 pt_good := by
  refine m_method0 80 (fl := fl_X4) (kI := kI_X4) (kJ := kJ_X4) (ct := ct_X4_good) (cd := cd_X4_good) (rk := 1) (by decide +kernel) fl_X4_ok kI_X4_ok kJ_X4_ok ce_X4_good rfl ck_X4_good ⟨_, _, rfl, rfl⟩ ?_
  intro sh rf As I J K hpt
  obtain ⟨d, rest, rfl, hd, rfl, rfl, rfl, rfl, l, U, L, hC, hH, hL, h1, hl, hK⟩ := hpt
  obtain ⟨h3, hmo, hold⟩ := hC.cur h1 hl
  refine ⟨Nat.le_of_ble_eq_true rfl, rfl, 513, [], rfl, rfl, l, rfl, lay_W0, h1, hl, hmo, hold, fun I1 a1 a2 a3 a4 => ?_⟩
  obtain ⟨hPf, hC1, hP⟩ := polys_post (p := 0) (by decide) hC h1 hl a1 a2 a4
  exact ⟨504, [], rfl, rfl, moC J 0, l, rfl, lay_P (p := 0) (by decide), hP, hK I1 (hPf.vis (by decide)) hC1 (hH.pf (by decide) hPf)⟩

def ct_X4_layRuleA (sh : mSH) (rf : mRF) : Nat → Option (Nat × Bool × mPT) := fun k => match k with
  | 147 => some (2, true, pt_pdet sh rf)
  | 112 => some (2, true, pt_setLong sh rf)
  | 158 => some (3, true, pt_pnum sh rf)
  | 198 => some (4, true, pt_addProduct sh rf)
  | 259 => some (3, true, pt_setProduct sh rf)
  | 227 => some (2, true, pt_take sh rf)
  | 151 => some (3, true, pt_lay sh rf)
  | _ => none
set_option maxRecDepth 20000 in
theorem ce_X4_layRuleA : m_CE RX4 4 126 cX4_layRuleA 5 ct_X4_layRuleA := by
  intro p l e s m args below meth c Q D cs ad sh rf N hx hb hml hown hts hK hi hN k n vf pt h
  unfold ct_X4_layRuleA at h
  split at h
  · cases h
    exact m_CG_V mt_X2_determinant hx hb hml hown hts hK hi hN (ci := 2) m_pv_rec rfl rfl (m_wck_ok (l := [(Cond.methodLink RX4 147 yX2_determinant, 449), (Cond.instanceMethod yX2_determinant, 438), (Cond.selects RX2 yX2_determinant yX2_determinant, 439), (Cond.initialized RX2, 57), (Cond.code yX2_determinant cX2_determinant 2 (some (.object "MomentDesk$Big")), 440)]) (by decide +kernel)) ⟨rfl, by decide +kernel, by decide +kernel, by decide +kernel⟩ ⟨Nat.le_of_ble_eq_true rfl, Nat.le_of_ble_eq_true rfl⟩
  · cases h
    exact m_CG_V mt_X0_setLong hx hb hml hown hts hK hi hN (ci := 0) m_pv_rec rfl rfl (m_wck_ok (l := [(Cond.methodLink RX4 112 yX0_setLong, 307), (Cond.instanceMethod yX0_setLong, 176), (Cond.selects RX0 yX0_setLong yX0_setLong, 177), (Cond.initialized RX0, 58), (Cond.code yX0_setLong cX0_setLong 5 none, 178)]) (by decide +kernel)) ⟨rfl, by decide +kernel, by decide +kernel, by decide +kernel⟩ ⟨Nat.le_of_ble_eq_true rfl, Nat.le_of_ble_eq_true rfl⟩
  · cases h
    exact m_CG_V mt_X2_number hx hb hml hown hts hK hi hN (ci := 2) m_pv_rec rfl rfl (m_wck_ok (l := [(Cond.methodLink RX4 158 yX2_number, 468), (Cond.instanceMethod yX2_number, 469), (Cond.selects RX2 yX2_number yX2_number, 470), (Cond.initialized RX2, 57), (Cond.code yX2_number cX2_number 3 (some (.object "MomentDesk$Big")), 471)]) (by decide +kernel)) ⟨rfl, by decide +kernel, by decide +kernel, by decide +kernel⟩ ⟨Nat.le_of_ble_eq_true rfl, Nat.le_of_ble_eq_true rfl⟩
  · cases h
    exact m_CG_V mt_X0_addProduct hx hb hml hown hts hK hi hN (ci := 0) m_pv_rec rfl rfl (m_wck_ok (l := [(Cond.methodLink RX4 198 yX0_addProduct, 312), (Cond.instanceMethod yX0_addProduct, 313), (Cond.selects RX0 yX0_addProduct yX0_addProduct, 314), (Cond.initialized RX0, 58), (Cond.code yX0_addProduct cX0_addProduct 4 none, 315)]) (by decide +kernel)) ⟨rfl, by decide +kernel, by decide +kernel, by decide +kernel⟩ ⟨Nat.le_of_ble_eq_true rfl, Nat.le_of_ble_eq_true rfl⟩
  · cases h
    exact m_CG_V mt_X0_setProduct hx hb hml hown hts hK hi hN (ci := 0) m_pv_rec rfl rfl (m_wck_ok (l := [(Cond.methodLink RX4 259 yX0_setProduct, 480), (Cond.instanceMethod yX0_setProduct, 317), (Cond.selects RX0 yX0_setProduct yX0_setProduct, 318), (Cond.initialized RX0, 58), (Cond.code yX0_setProduct cX0_setProduct 10 none, 319)]) (by decide +kernel)) ⟨rfl, by decide +kernel, by decide +kernel, by decide +kernel⟩ ⟨Nat.le_of_ble_eq_true rfl, Nat.le_of_ble_eq_true rfl⟩
  · cases h
    exact m_CG_V mt_X0_take hx hb hml hown hts hK hi hN (ci := 0) m_pv_rec rfl rfl (m_wck_ok (l := [(Cond.methodLink RX4 227 yX0_take, 481), (Cond.instanceMethod yX0_take, 482), (Cond.selects RX0 yX0_take yX0_take, 483), (Cond.initialized RX0, 58), (Cond.code yX0_take cX0_take 2 none, 484)]) (by decide +kernel)) ⟨rfl, by decide +kernel, by decide +kernel, by decide +kernel⟩ ⟨Nat.le_of_ble_eq_true rfl, Nat.le_of_ble_eq_true rfl⟩
  · cases h
    exact m_CG_V mt_X1_lay hx hb hml hown hts hK hi hN (ci := 1) m_pv_rec rfl rfl (m_wck_ok (l := [(Cond.methodLink RX4 151 yX1_lay, 450), (Cond.instanceMethod yX1_lay, 451), (Cond.selects RX1 yX1_lay yX1_lay, 452), (Cond.initialized RX1, 61), (Cond.code yX1_lay cX1_lay 3 (some .int), 453)]) (by decide +kernel)) ⟨rfl, by decide +kernel, by decide +kernel, by decide +kernel⟩ ⟨Nat.le_of_ble_eq_true rfl, Nat.le_of_ble_eq_true rfl⟩
  · cases h
set_option maxHeartbeats 4000000 in
set_option maxRecDepth 100000 in
theorem mt_X4_layRuleA : m_Mt yX4_layRuleA cX4_layRuleA 5 (some .int) 4 126 pt_layRuleA := by
  refine m_methodG (fl := fl_X4) (kI := kI_X4) (kJ := kJ_X4) (ct := ct_X4_layRuleA) (cd := cd_X4_layRuleA) (cut := [(48, [0, 1, 2, 3, 4])]) (rk := 1) (fu := 80) (by decide +kernel) fl_X4_ok kI_X4_ok kJ_X4_ok ce_X4_layRuleA rfl ck_X4_layRuleA ⟨_, _, rfl, rfl⟩ ?_
  intro sh rf As I J K hpt
  obtain ⟨d, rest, rfl, hd, k, l, mo, rfl, rfl, rfl, rfl, hP, hk, hK⟩ := hpt
  have tl := tpf_le mo l
  have hl := hP.2.2.1
  refine ⟨Nat.le_of_ble_eq_true rfl, fun a9 b9 pc vs st I1 J1 => vs = [.inr (.inr 523), .inr (.inr 504), .inl (nI k), .inr (.inr (pbg rfL 504 (2 ^ k - 1))), .inr (.inr (pbg rfL 504 (2 ^ (k + 1) - 1)))] ∧ st = [] ∧ J1 = J ∧ Wk I I1 ∧ BIs shL rfL I1 496 (if k = 0 then 0 else Nm mo k (k - 1) * Dt mo (k + 1)), ?_, ?_⟩
  · refine ⟨504, [.inl (nI k)], rfl, rfl, k, rfl, by omega, lay_P (p := 0) (by decide), 504, [.inl (nI k + 1)], rfl, rfl, k + 1, congrArg (fun x => [Sum.inl x]) (nI_1 k), by omega, lay_P (p := 0) (by decide), rfl, 496, [.inr (.inl 0)], rfl, rfl, 40, 0, rfl, L40 (b := 248) (by decide) (by decide), fun I1 c1 c2 => ?_⟩
    have w1 := bch_wk (b := 496) (by decide) (by decide) c1
    refine ⟨fun h => ?_, fun h => ?_⟩
    · have h : nI k ≤ nI 0 := h
      have h := (nI_leI (by omega) (by omega)).mp h
      refine ⟨0, 0, rfl, rfl, rfl, w1, ?_⟩
      rw [if_pos (by omega)]
      exact c2
    · have h : ¬ nI k ≤ nI 0 := h
      have h : 0 < k := by
        rcases Nat.eq_zero_or_pos k with q | q
        · exact absurd ((nI_leI (by omega) (by omega)).mpr (by omega)) h
        · exact q
      have hP1 := PIs.fr (p := 0) (by decide) hP w1.fr
      obtain ⟨n1, n2⟩ := P_num (p := 0) (k := k) (i := k - 1) hP1 (by omega) (by omega) (by omega)
      obtain ⟨d1, d2⟩ := P_det (p := 0) (k := k + 1) hP1 (by omega) (by omega)
      have ek : nI k - 1 = nI (k - 1) := pk_sub (b := 1) (by omega)
      refine ⟨rfl, 504, [.inl (nI k), .inl (nI k - 1)], rfl, rfl, k, k - 1, congrArg (fun x => [Sum.inl (nI k), Sum.inl x]) ek, by omega, by omega, lay_P (p := 0) (by decide), rfl, 496, [.inr (.inr (pbg rfL 504 ((2 ^ (k + 1) - 1) ^^^ 2 ^ (k - 1)))), .inr (.inr (pbg rfL 504 (2 ^ (k + 1) - 1))), .inr (.inr 502)], rfl, rfl, 40, pbg rfL 504 ((2 ^ (k + 1) - 1) ^^^ 2 ^ (k - 1)), pbg rfL 504 (2 ^ (k + 1) - 1), 502, 40, 12, 12, 24, 0, Nm mo k (k - 1), Dt mo (k + 1), rfl, L40 (b := 248) (by decide) (by decide), L40 (b := 251) (by decide) (by decide), lay_BL, pbg_ne (p := 0) (by decide) (num64 (by omega) (by omega)) (by decide), pbg_ne (p := 0) (by decide) (det64 (by omega)) (by decide), by decide, c2, n1, d1, n2, d2, by decide, by decide, bmul n2 d2, by decide, fun I2 c3 c4 => ?_⟩
      refine ⟨0, 0, rfl, rfl, rfl, w1.trans (bch2_wk (by decide) (by decide) (by decide) (by decide) c3), ?_⟩
      rw [if_neg (by omega)]
      rw [Int.zero_add] at c4
      exact c4
  · intro pc ks a9 b9 vs st I1 J1 hc hI
    rcases m_cu1 hc with ⟨rfl, rfl⟩ | hc
    · obtain ⟨rfl, rfl, rfl, w1, hs⟩ := hI
      have hP1 := PIs.fr (p := 0) (by decide) hP w1.fr
      obtain ⟨n1, n2⟩ := P_num (p := 0) (k := k + 1) (i := k) hP1 (by omega) (by omega) (by omega)
      obtain ⟨d1, d2⟩ := P_det (p := 0) (k := k) hP1 (by omega) (by omega)
      obtain ⟨-, d4⟩ := P_det (p := 0) (k := k + 1) hP1 (by omega) (by omega)
      have bs : (if k = 0 then 0 else Nm mo k (k - 1) * Dt mo (k + 1)).natAbs < 2 ^ (32 * 24) := by
        split
        · decide
        · exact bmul (P_num (p := 0) (k := k) (i := k - 1) hP1 (by omega) (by omega) (by omega)).2 d4
      refine ⟨rfl, 504, [.inl (nI k + 1), .inl (nI k)], rfl, rfl, k + 1, k, congrArg (fun x => [Sum.inl x, Sum.inl (nI k)]) (nI_1 k), by omega, by omega, lay_P (p := 0) (by decide), 498, [.inr (.inr (pbg rfL 504 ((2 ^ (k + 1 + 1) - 1) ^^^ 2 ^ k))), .inr (.inr (pbg rfL 504 (2 ^ k - 1)))], rfl, rfl, 40, pbg rfL 504 ((2 ^ (k + 1 + 1) - 1) ^^^ 2 ^ k), pbg rfL 504 (2 ^ k - 1), 12, 12, Nm mo (k + 1) k, Dt mo k, rfl, L40 (b := 249) (by decide) (by decide), lay_BL, pbg_ne (p := 0) (by decide) (num64 (by omega) (by omega)) (by decide), pbg_ne (p := 0) (by decide) (det64 (by omega)) (by decide), n1, d1, n2, d2, by decide, fun I2 c1 c2 => ?_⟩
      have w2 := w1.trans (bch_wk (b := 498) (by decide) (by decide) c1)
      have hs2 := hs.other lay_BL (L40 (b := 249) (by decide) (by decide)) (by decide) c1
      refine ⟨rfl, rfl, 496, [.inr (.inr 498)], rfl, rfl, 40, 498, 24, _, _, rfl, L40 (b := 248) (by decide) (by decide), lay_BL, by decide, hs2, c2, bs, bmul n2 d2, by decide, fun I3 c3 c4 => ?_⟩
      have w3 := w2.trans (bch_wk (b := 496) (by decide) (by decide) c3)
      have hP3 := PIs.fr (p := 0) (by decide) hP w3.fr
      obtain ⟨e1, e2⟩ := P_det (p := 0) (k := k) hP3 (by omega) (by omega)
      obtain ⟨e3, e4⟩ := P_det (p := 0) (k := k + 1) hP3 (by omega) (by omega)
      refine ⟨rfl, 500, [.inr (.inr (pbg rfL 504 (2 ^ k - 1))), .inr (.inr (pbg rfL 504 (2 ^ (k + 1) - 1)))], rfl, rfl, 40, pbg rfL 504 (2 ^ k - 1), pbg rfL 504 (2 ^ (k + 1) - 1), 12, 12, Dt mo k, Dt mo (k + 1), rfl, L40 (b := 250) (by decide) (by decide), lay_BL, pbg_ne (p := 0) (by decide) (det64 (by omega)) (by decide), pbg_ne (p := 0) (by decide) (det64 (by omega)) (by decide), e1, e3, e2, e4, by decide, fun I4 c5 c6 => ?_⟩
      have w4 := w3.trans (bch_wk (b := 500) (by decide) (by decide) c5)
      have c4' := c4.other lay_BL (L40 (b := 250) (by decide) (by decide)) (by decide) c5
      refine ⟨rfl, rfl, rfl, 522, [.inr (.inr 496), .inr (.inr 500)], rfl, rfl, 496, 500, _, _, rfl, lay_H.1, fun i hi => by rw [lay_H.2]; omega, c4', c6, bup (bsub bs (bmul n2 d2)) (by decide), bup (bmul e2 e4) (by decide), ?_, fun I5 b1 b2 => ?_⟩
      · exact Int.mul_ne_zero (top_nz (l := l) (by omega)) (top_nz (l := l) (by omega))
      · exact hK I5 (w4.fr.trans (hch_fr b1)) b2
    · cases hc

def ct_X4_layRuleB (sh : mSH) (rf : mRF) : Nat → Option (Nat × Bool × mPT) := fun k => match k with
  | 147 => some (2, true, pt_pdet sh rf)
  | 151 => some (3, true, pt_lay sh rf)
  | 259 => some (3, true, pt_setProduct sh rf)
  | _ => none
set_option maxRecDepth 20000 in
theorem ce_X4_layRuleB : m_CE RX4 3 103 cX4_layRuleB 3 ct_X4_layRuleB := by
  intro p l e s m args below meth c Q D cs ad sh rf N hx hb hml hown hts hK hi hN k n vf pt h
  unfold ct_X4_layRuleB at h
  split at h
  · cases h
    exact m_CG_V mt_X2_determinant hx hb hml hown hts hK hi hN (ci := 2) m_pv_rec rfl rfl (m_wck_ok (l := [(Cond.methodLink RX4 147 yX2_determinant, 449), (Cond.instanceMethod yX2_determinant, 438), (Cond.selects RX2 yX2_determinant yX2_determinant, 439), (Cond.initialized RX2, 57), (Cond.code yX2_determinant cX2_determinant 2 (some (.object "MomentDesk$Big")), 440)]) (by decide +kernel)) ⟨rfl, by decide +kernel, by decide +kernel, by decide +kernel⟩ ⟨Nat.le_of_ble_eq_true rfl, Nat.le_of_ble_eq_true rfl⟩
  · cases h
    exact m_CG_V mt_X1_lay hx hb hml hown hts hK hi hN (ci := 1) m_pv_rec rfl rfl (m_wck_ok (l := [(Cond.methodLink RX4 151 yX1_lay, 450), (Cond.instanceMethod yX1_lay, 451), (Cond.selects RX1 yX1_lay yX1_lay, 452), (Cond.initialized RX1, 61), (Cond.code yX1_lay cX1_lay 3 (some .int), 453)]) (by decide +kernel)) ⟨rfl, by decide +kernel, by decide +kernel, by decide +kernel⟩ ⟨Nat.le_of_ble_eq_true rfl, Nat.le_of_ble_eq_true rfl⟩
  · cases h
    exact m_CG_V mt_X0_setProduct hx hb hml hown hts hK hi hN (ci := 0) m_pv_rec rfl rfl (m_wck_ok (l := [(Cond.methodLink RX4 259 yX0_setProduct, 480), (Cond.instanceMethod yX0_setProduct, 317), (Cond.selects RX0 yX0_setProduct yX0_setProduct, 318), (Cond.initialized RX0, 58), (Cond.code yX0_setProduct cX0_setProduct 10 none, 319)]) (by decide +kernel)) ⟨rfl, by decide +kernel, by decide +kernel, by decide +kernel⟩ ⟨Nat.le_of_ble_eq_true rfl, Nat.le_of_ble_eq_true rfl⟩
  · cases h
set_option maxHeartbeats 4000000 in
set_option maxRecDepth 100000 in
theorem mt_X4_layRuleB : m_Mt yX4_layRuleB cX4_layRuleB 3 (some .int) 3 103 pt_layRuleB := by
  refine m_method0 80 (fl := fl_X4) (kI := kI_X4) (kJ := kJ_X4) (ct := ct_X4_layRuleB) (cd := cd_X4_layRuleB) (rk := 1) (by decide +kernel) fl_X4_ok kI_X4_ok kJ_X4_ok ce_X4_layRuleB rfl ck_X4_layRuleB ⟨_, _, rfl, rfl⟩ ?_
  intro sh rf As I J K hpt
  obtain ⟨d, rest, rfl, hd, k, l, mo, rfl, rfl, rfl, rfl, hP, hk, hK⟩ := hpt
  have tl := tpf_le mo l
  have hl := hP.2.2.1
  refine ⟨Nat.le_of_ble_eq_true rfl, fun h => ?_, fun h => ?_⟩
  · have h : ¬ nI k = 0 := h
    have h0 : k ≠ 0 := fun e => h (by rw [e]; rfl)
    have ek : nI k - 1 = nI (k - 1) := pk_sub (b := 1) (by omega)
    have er : ruleB mo k = (Dt mo (k + 1) * Dt mo (k - 1), Dt mo k * Dt mo k) := if_neg h0
    rw [er] at hK
    obtain ⟨d1, d2⟩ := P_det (p := 0) (k := k + 1) hP (by omega) (by omega)
    obtain ⟨d3, d4⟩ := P_det (p := 0) (k := k - 1) hP (by omega) (by omega)
    refine ⟨rfl, 504, [.inl (nI k + 1)], rfl, rfl, k + 1, congrArg (fun x => [Sum.inl x]) (nI_1 k), by omega, lay_P (p := 0) (by decide), 504, [.inl (nI k - 1)], rfl, rfl, k - 1, congrArg (fun x => [Sum.inl x]) ek, by omega, lay_P (p := 0) (by decide), 498, [.inr (.inr (pbg rfL 504 (2 ^ (k + 1) - 1))), .inr (.inr (pbg rfL 504 (2 ^ (k - 1) - 1)))], rfl, rfl, 40, pbg rfL 504 (2 ^ (k + 1) - 1), pbg rfL 504 (2 ^ (k - 1) - 1), 12, 12, Dt mo (k + 1), Dt mo (k - 1), rfl, L40 (b := 249) (by decide) (by decide), lay_BL, pbg_ne (p := 0) (by decide) (det64 (by omega)) (by decide), pbg_ne (p := 0) (by decide) (det64 (by omega)) (by decide), d1, d3, d2, d4, by decide, fun I2 c1 c2 => ?_⟩
    have w2 := bch_wk (b := 498) (by decide) (by decide) c1
    have hP2 := PIs.fr (p := 0) (by decide) hP w2.fr
    obtain ⟨e1, e2⟩ := P_det (p := 0) (k := k) hP2 (by omega) (by omega)
    refine ⟨rfl, 504, [.inl (nI k)], rfl, rfl, k, rfl, by omega, lay_P (p := 0) (by decide), 504, [.inl (nI k)], rfl, rfl, k, rfl, by omega, lay_P (p := 0) (by decide), 500, [.inr (.inr (pbg rfL 504 (2 ^ k - 1))), .inr (.inr (pbg rfL 504 (2 ^ k - 1)))], rfl, rfl, 40, pbg rfL 504 (2 ^ k - 1), pbg rfL 504 (2 ^ k - 1), 12, 12, Dt mo k, Dt mo k, rfl, L40 (b := 250) (by decide) (by decide), lay_BL, pbg_ne (p := 0) (by decide) (det64 (by omega)) (by decide), pbg_ne (p := 0) (by decide) (det64 (by omega)) (by decide), e1, e1, e2, e2, by decide, fun I4 c5 c6 => ?_⟩
    have w4 := w2.trans (bch_wk (b := 500) (by decide) (by decide) c5)
    have c4' := c2.other lay_BL (L40 (b := 250) (by decide) (by decide)) (by decide) c5
    refine ⟨rfl, rfl, rfl, 522, [.inr (.inr 498), .inr (.inr 500)], rfl, rfl, 498, 500, _, _, rfl, lay_H.1, fun i hi => by rw [lay_H.2]; omega, c4', c6, bup (bmul d2 d4) (by decide), bup (bmul e2 e2) (by decide), ?_, fun I5 b1 b2 => ?_⟩
    · exact Int.mul_ne_zero (top_nz (l := l) (by omega)) (top_nz (l := l) (by omega))
    · exact hK I5 (w4.fr.trans (hch_fr b1)) b2
  · have h : nI k = nI 0 := h
    obtain rfl : k = 0 := (nI_eq (by omega) (by omega)).mp h
    obtain ⟨d1, d2⟩ := P_det (p := 0) (k := 1) hP (by omega) (by omega)
    obtain ⟨d3, d4⟩ := P_det (p := 0) (k := 0) hP (by omega) (by omega)
    refine ⟨rfl, 504, [.inl 1], rfl, rfl, 1, rfl, by omega, lay_P (p := 0) (by decide), 504, [.inl 0], rfl, rfl, 0, rfl, by omega, lay_P (p := 0) (by decide), 522, [.inr (.inr (pbg rfL 504 (2 ^ 1 - 1))), .inr (.inr (pbg rfL 504 (2 ^ 0 - 1)))], rfl, rfl, pbg rfL 504 (2 ^ 1 - 1), pbg rfL 504 (2 ^ 0 - 1), _, _, rfl, lay_H.1, fun i _ => ⟨pbg_nh (p := 0) (by decide) (det64 (by omega)) i, pbg_nh (p := 0) (by decide) (det64 (by omega)) i⟩, d1, d3, bup d2 (by decide), bup d4 (by decide), top_nz (l := l) (by omega), fun I2 b1 b2 => ?_⟩
    exact hK I2 (hch_fr b1) b2

def ct_X4_layRule (sh : mSH) (rf : mRF) : Nat → Option (Nat × Bool × mPT) := fun k => match k with
  | 138 => some (1, true, pt_wpolys sh rf)
  | 165 => some (3, true, pt_layRuleA sh rf)
  | 169 => some (3, true, pt_layRuleB sh rf)
  | _ => none
set_option maxRecDepth 20000 in
theorem ce_X4_layRule : m_CE RX4 6 173 cX4_layRule 4 ct_X4_layRule := by
  intro p l e s m args below meth c Q D cs ad sh rf N hx hb hml hown hts hK hi hN k n vf pt h
  unfold ct_X4_layRule at h
  split at h
  · cases h
    exact m_CG_V mt_X3_polys hx hb hml hown hts hK hi hN (ci := 3) m_pv_rec rfl rfl (m_wck_ok (l := [(Cond.methodLink RX4 138 yX3_polys, 420), (Cond.instanceMethod yX3_polys, 421), (Cond.selects RX3 yX3_polys yX3_polys, 422), (Cond.initialized RX3, 56), (Cond.code yX3_polys cX3_polys 1 (some (.object "MomentDesk$Polys")), 423)]) (by decide +kernel)) ⟨rfl, by decide +kernel, by decide +kernel, by decide +kernel⟩ ⟨Nat.le_of_ble_eq_true rfl, Nat.le_of_ble_eq_true rfl⟩
  · cases h
    exact m_CG_V mt_X4_layRuleA hx hb hml hown hts hK hi hN (ci := 4) m_pv_rec rfl rfl (m_wck_ok (l := [(Cond.methodLink RX4 165 yX4_layRuleA, 476), (Cond.instanceMethod yX4_layRuleA, 478), (Cond.selects RX4 yX4_layRuleA yX4_layRuleA, 7), (Cond.initialized RX4, 55), (Cond.code yX4_layRuleA cX4_layRuleA 5 (some .int), 479)]) (by decide +kernel)) ⟨rfl, by decide +kernel, by decide +kernel, by decide +kernel⟩ ⟨Nat.le_of_ble_eq_true rfl, Nat.le_of_ble_eq_true rfl⟩
  · cases h
    exact m_CG_V mt_X4_layRuleB hx hb hml hown hts hK hi hN (ci := 4) m_pv_rec rfl rfl (m_wck_ok (l := [(Cond.methodLink RX4 169 yX4_layRuleB, 485), (Cond.instanceMethod yX4_layRuleB, 487), (Cond.selects RX4 yX4_layRuleB yX4_layRuleB, 8), (Cond.initialized RX4, 55), (Cond.code yX4_layRuleB cX4_layRuleB 3 (some .int), 488)]) (by decide +kernel)) ⟨rfl, by decide +kernel, by decide +kernel, by decide +kernel⟩ ⟨Nat.le_of_ble_eq_true rfl, Nat.le_of_ble_eq_true rfl⟩
  · cases h
set_option maxHeartbeats 4000000 in
set_option maxRecDepth 100000 in
theorem mt_X4_layRule : m_Mt yX4_layRule cX4_layRule 4 (some .int) 6 173 pt_layRule := by
  refine m_method0 80 (fl := fl_X4) (kI := kI_X4) (kJ := kJ_X4) (ct := ct_X4_layRule) (cd := cd_X4_layRule) (rk := 1) (by decide +kernel) fl_X4_ok kI_X4_ok kJ_X4_ok ce_X4_layRule rfl ck_X4_layRule ⟨_, _, rfl, rfl⟩ ?_
  intro sh rf As I J K hpt
  obtain ⟨d, rest, rfl, hd, k, wh, rfl, rfl, rfl, rfl, l, U, L, hC, hH, hL, h1, hl, hK⟩ := hpt
  obtain ⟨h3, hmo, hold⟩ := hC.cur h1 hl
  refine ⟨Nat.le_of_ble_eq_true rfl, rfl, 513, [], rfl, rfl, l, rfl, lay_W0, h1, hl, hmo, hold, fun I1 a1 a2 a3 a4 => ?_⟩
  obtain ⟨hPf, hC1, hP⟩ := polys_post (p := 0) (by decide) hC h1 hl a1 a2 a4
  have hV := hPf.vis (by decide)
  have hH1 := hH.pf (by decide) hPf
  have tl := tpf_le (moC J 0) l
  have h11 : I1 513 1 = nI l := (hV.2 0 (by decide) 1 (by decide)).trans h1
  have k1 : ¬ (0 ≤ k.toInt ∧ k.toInt < tpf (moC J 0) l) → K (some (.inl (-1))) I1 J := fun q => by
    have e : spRule (moC J 0) k.toInt wh.toInt l = .inl (-1) := if_neg q
    rw [e] at hK
    exact hK I1 hV hC1 hH1
  have k2 : ∀ j : Nat, k = nI j → j < tpf (moC J 0) l → ∀ f, spRule (moC J 0) k.toInt wh.toInt l = .inr (f (moC J 0) j) → m_pv 4 (ptRb f) shL rfL [.inr (.inr 523), .inr (.inr 504), .inl k] I1 J K := by
    intro j ej hj f ef
    refine ⟨523, [.inr (.inr 504), .inl k], rfl, rfl, j, l, moC J 0, rfl, rfl, rfl, by rw [ej], hP, hj, fun I2 f1 f2 => ?_⟩
    rw [ef] at hK
    exact hK I2 (hV.trans f1.vis) (hC1.fr f1) f2
  refine ⟨fun h => ?_, fun h => ⟨rfl, fun h2 => ?_, fun h2 => ?_⟩⟩
  · exact k1 (fun q => absurd (i_lt0.mp h) (by omega))
  · have h2 : k < I1 504 5 := h2
    rw [hP.2.1, nI_lt_i (by omega)] at h2
    have h0 : 0 ≤ k.toInt := by
      have := mt i_lt0.mpr h
      omega
    obtain ⟨ek, hk⟩ := i_nat h0
    have e1 : (1 : Int32).toInt = 1 := rfl
    have sp : spRule (moC J 0) k.toInt wh.toInt l = if wh.toInt = 0 then .inr (ruleA (moC J 0) k.toInt.toNat) else if wh.toInt = 1 then .inr (ruleB (moC J 0) k.toInt.toNat) else .inl (-2) := if_pos ⟨h0, h2⟩
    have z0 : wh = 0 ↔ wh.toInt = 0 := by rw [← Int32.toInt_inj, z0I]
    have z1 : wh = 1 ↔ wh.toInt = 1 := by rw [← Int32.toInt_inj, e1]
    refine ⟨fun h4 => ⟨fun h5 => ?_, fun h5 => ?_⟩, fun h4 => ⟨fun h6 => ⟨fun h5 => ?_, fun h5 => ?_⟩, fun h6 => ?_⟩⟩
    · exact absurd h4 h5
    · have h4 : wh = 0 := h4
      rw [if_pos (z0.mp h4)] at sp
      obtain ⟨b, rest, g⟩ := k2 _ ek (by omega) ruleA sp
      exact ⟨b, rest, g⟩
    · have h6 : wh = 1 := h6
      rw [if_neg (fun q => h4 (z0.mpr q)), if_pos (z1.mp h6)] at sp
      obtain ⟨b, rest, g⟩ := k2 _ ek (by omega) ruleB sp
      exact ⟨b, rest, g⟩
    · exact absurd h5 h4
    · have h6 : ¬ wh = 1 := h6
      rw [if_neg (fun q => h4 (z0.mpr q)), if_neg (fun q => h6 (z1.mpr q))] at sp
      rw [sp] at hK
      exact hK I1 hV hC1 hH1
  · have h2 : ¬ k < I1 504 5 := h2
    rw [hP.2.1, nI_lt_i (by omega)] at h2
    exact k1 (fun q => h2 q.2)

