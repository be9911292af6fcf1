/-! ===== the desk: what is left ===== -/
/-- the side: what stands for x to the n - 1 + t, by P(n), times its lead to the t -/
def sd (mo : Nat → Int) (n : Nat) : Nat → Nat → Int
  | 0, i => if i + 1 = n then 1 else 0
  | t + 1, i => (match i with | 0 => 0 | i + 1 => Dt mo n * sd mo n t i) - sd mo n t (n - 1) * Nm mo n i
def sdp (mo : Nat → Int) (n t : Nat) : Nat → Int
  | 0 => 0
  | i + 1 => sd mo n t i
theorem sd_s (mo : Nat → Int) (n t i : Nat) : sd mo n (t + 1) i = Dt mo n * sdp mo n t i - sd mo n t (n - 1) * Nm mo n i := by
  cases i with
  | zero => rw [sd, sdp, Int.mul_zero]
  | succ i => rw [sd, sdp]
def qq (mo : Nat → Int) (n j : Nat) : Int := sd mo n j (n - 1)
def hqf (mo : Nat → Int) (n j t : Nat) : Nat → Int
  | 0 => 0
  | s + 1 => hqf mo n j t s * Dt mo n + Nm mo n (n - (t - s)) * qq mo n (j - (t - s))
theorem hq_sd {mo : Nat → Int} {n j t : Nat} (hn : 1 ≤ n) (hj : 1 ≤ j) (ht : t = min j n) : ∀ s, s ≤ t → hqf mo n j t s = -sdp mo n (j - (t - s)) (n - (t - s))
  | 0, _ => by
    rw [hqf, Nat.sub_zero]
    rcases Nat.lt_or_ge j n with q | q
    · have e : t = j := by omega
      rw [e, Nat.sub_self]
      obtain ⟨r, hr⟩ : ∃ r, n - j = r + 1 := ⟨n - j - 1, by omega⟩
      rw [hr, sdp, sd, if_neg (by omega)]
      rfl
    · have e : t = n := by omega
      rw [e, Nat.sub_self, sdp]
      rfl
  | s + 1, hs => by
    have ih := hq_sd (mo := mo) hn hj ht s (by omega)
    rw [hqf, ih]
    obtain ⟨r, hr⟩ : ∃ r, n - (t - (s + 1)) = r + 1 := ⟨n - (t - (s + 1)) - 1, by omega⟩
    have e1 : n - (t - s) = r := by omega
    have e2 : j - (t - (s + 1)) = j - (t - s) + 1 := by omega
    rw [hr, sdp, e2, sd_s, e1]
    unfold qq
    grind
theorem qq_rec {mo : Nat → Int} {n j t : Nat} (hn : 1 ≤ n) (hj : 1 ≤ j) (ht : t = min j n) : -hqf mo n j t t = qq mo n j := by
  rw [hq_sd hn hj ht t (Nat.le_refl _), Nat.sub_self, Nat.sub_zero, Nat.sub_zero, Int.neg_neg]
  obtain ⟨r, hr⟩ : ∃ r, n = r + 1 := ⟨n - 1, by omega⟩
  rw [hr, sdp]
  rfl
theorem qq_0 (mo : Nat → Int) {n : Nat} (hn : 1 ≤ n) : qq mo n 0 = 1 := by
  unfold qq
  rw [sd, if_pos (by omega)]
def bt (n : Nat) : Nat := match n with | 0 => 0 | 1 => 62 | 2 => 125 | 3 => 189 | 4 => 253 | _ => 317
theorem bt_t : ∀ n, n < 6 → fac n * (2 ^ 62) ^ n ≤ 2 ^ bt n ∧ popc (2 ^ n - 1) = n := by decide +kernel
theorem Nm_bt {mo : Nat → Int} (hm : ∀ k, k < 12 → (mo k).natAbs ≤ MB) {n i : Nat} (hn : n ≤ 5) (hi : i ≤ n) : (Nm mo n i).natAbs ≤ 2 ^ bt n := by
  have h1 : ∀ k, k < 12 → (mo k).natAbs ≤ 2 ^ 62 := fun k hk => Nat.le_trans (hm k hk) (by unfold MB; omega)
  obtain ⟨-, c1, c2, -⟩ := cm_t n (by omega) i (by omega)
  have := mn_le h1 (cm n i) c1
  rw [c2] at this
  exact Nat.le_trans this (bt_t n (by omega)).1
theorem Dt_bt {mo : Nat → Int} (hm : ∀ k, k < 12 → (mo k).natAbs ≤ MB) {n : Nat} (hn : n ≤ 5) : (Dt mo n).natAbs ≤ 2 ^ bt n := by
  have h1 : ∀ k, k < 12 → (mo k).natAbs ≤ 2 ^ 62 := fun k hk => Nat.le_trans (hm k hk) (by unfold MB; omega)
  have := mn_le h1 (2 ^ n - 1) (by have := (shl_det n (by omega)).2; omega)
  rw [(bt_t n (by omega)).2] at this
  exact Nat.le_trans this (bt_t n (by omega)).1
theorem p2_mul {x y : Int} {a b : Nat} (hx : x.natAbs ≤ 2 ^ a) (hy : y.natAbs ≤ 2 ^ b) : (x * y).natAbs ≤ 2 ^ (a + b) := by
  rw [Int.natAbs_mul, Nat.pow_add]
  exact Nat.mul_le_mul hx hy
theorem p2_add {x y : Int} {a : Nat} (hx : x.natAbs ≤ 2 ^ a) (hy : y.natAbs ≤ 2 ^ a) : (x + y).natAbs ≤ 2 ^ (a + 1) := by
  have := Int.natAbs_add_le x y
  rw [Nat.pow_succ]
  omega
theorem p2_up {x : Int} {a b : Nat} (hx : x.natAbs ≤ 2 ^ a) (h : a ≤ b) : x.natAbs ≤ 2 ^ b := Nat.le_trans hx (Nat.pow_le_pow_right (by decide) h)
theorem sdp_le {mo : Nat → Int} (hm : ∀ k, k < 12 → (mo k).natAbs ≤ MB) {n : Nat} (hn : n ≤ 5) (h1 : 1 ≤ n) : ∀ t i, i ≤ n → (sdp mo n t i).natAbs ≤ 2 ^ ((bt n + 1) * t)
  | 0, i, hi => by
    rw [Nat.mul_zero]
    cases i with
    | zero => rw [sdp]; decide
    | succ i =>
      rw [sdp, sd]
      split <;> decide
  | t + 1, 0, _ => by rw [sdp]; exact Nat.zero_le _
  | t + 1, i + 1, hi => by
    have a1 := sdp_le hm hn h1 t i (by omega)
    have a2 := sdp_le hm hn h1 t n (Nat.le_refl _)
    obtain ⟨r, hr⟩ : ∃ r, n = r + 1 := ⟨n - 1, by omega⟩
    have e : sdp mo n t n = sd mo n t (n - 1) := by
      rw [hr, sdp]
      rfl
    rw [e] at a2
    rw [sdp, sd_s]
    have b1 := p2_mul (Dt_bt hm hn) a1
    have b2 := p2_mul a2 (Nm_bt hm hn (i := i) (by omega))
    have b3 : (-(sd mo n t (n - 1) * Nm mo n i)).natAbs ≤ 2 ^ (bt n + (bt n + 1) * t) := by
      rw [Int.natAbs_neg]
      exact p2_up b2 (by omega)
    have := p2_add b1 b3
    rw [← Int.sub_eq_add_neg] at this
    exact p2_up this (by rw [Nat.mul_succ]; omega)
theorem qq_le {mo : Nat → Int} (hm : ∀ k, k < 12 → (mo k).natAbs ≤ MB) {n : Nat} (hn : n ≤ 5) (h1 : 1 ≤ n) (j : Nat) : (qq mo n j).natAbs ≤ 2 ^ ((bt n + 1) * j) := by
  have := sdp_le hm hn h1 j n (Nat.le_refl _)
  obtain ⟨r, hr⟩ : ∃ r, n = r + 1 := ⟨n - 1, by omega⟩
  have e : sdp mo n j n = qq mo n j := by
    unfold qq
    rw [hr, sdp]
    rfl
  rw [e] at this
  exact this
theorem hqf_le {mo : Nat → Int} (hm : ∀ k, k < 12 → (mo k).natAbs ≤ MB) {n j t s : Nat} (hn : n ≤ 5) (h1 : 1 ≤ n) (hj : 1 ≤ j) (ht : t = min j n) (hs : s ≤ t) : (hqf mo n j t s).natAbs ≤ 2 ^ ((bt n + 1) * (j - (t - s))) := by
  rw [hq_sd h1 hj ht s hs, Int.natAbs_neg]
  exact sdp_le hm hn h1 _ _ (by omega)
theorem ofN_bt {mo : Nat → Int} (hm : ∀ k, k < 12 → (mo k).natAbs ≤ MB) {k i : Nat} (hk : k ≤ 5) (hi : i + k ≤ 11) : ∀ j, j ≤ k + 1 → (ofN mo k i j).natAbs ≤ j * 2 ^ (bt k + 62)
  | 0, _ => by rw [ofN]; exact Nat.zero_le _
  | j + 1, hj => by
    have ih := ofN_bt hm hk hi j (by omega)
    have a2 : (mo (i + j)).natAbs ≤ 2 ^ 62 := Nat.le_trans (hm _ (by omega)) (by unfold MB; omega)
    have a3 := p2_mul (Nm_bt hm hk (i := j) (by omega)) a2
    have := Int.natAbs_add_le (ofN mo k i j) (Nm mo k j * mo (i + j))
    rw [ofN, Nat.add_mul, Nat.one_mul]
    exact Nat.le_trans this (Nat.add_le_add ih a3)
theorem of_le {mo : Nat → Int} (hm : ∀ k, k < 12 → (mo k).natAbs ≤ MB) {k i : Nat} (hk : k ≤ 5) (hi : i + k ≤ 11) : (ofN mo k i (k + 1)).natAbs ≤ 2 ^ (bt k + 65) := by
  refine Nat.le_trans (ofN_bt hm hk hi (k + 1) (Nat.le_refl _)) ?_
  rw [show bt k + 65 = 3 + (bt k + 62) by omega, Nat.pow_add 2 3]
  exact Nat.mul_le_mul_right _ (by omega)
/-- the class's sum after j of them -/
def lefS (mo : Nat → Int) (n d : Nat) : Nat → Int
  | 0 => 0
  | j + 1 => lefS mo n d j * Dt mo n + qq mo n j * ofN mo n (d - n - j) (n + 1)
theorem lefS_le {mo : Nat → Int} (hm : ∀ k, k < 12 → (mo k).natAbs ≤ MB) {n d : Nat} (hn : n ≤ 5) (h1 : 1 ≤ n) (hd : d ≤ 11) (hnd : n ≤ d) : ∀ j, (lefS mo n d j).natAbs ≤ 2 ^ ((bt n + 1) * j + 65)
  | 0 => by rw [lefS]; exact Nat.zero_le _
  | j + 1 => by
    have a1 := p2_mul (lefS_le hm hn h1 hd hnd j) (Dt_bt hm hn)
    have a2 := p2_mul (qq_le hm hn h1 j) (of_le hm hn (i := d - n - j) (by omega))
    have := p2_add a1 (p2_up (b := (bt n + 1) * j + 65 + bt n) a2 (by omega))
    rw [lefS]
    exact p2_up this (by rw [Nat.mul_succ]; omega)
theorem Dpow_le {mo : Nat → Int} (hm : ∀ k, k < 12 → (mo k).natAbs ≤ MB) {n : Nat} (hn : n ≤ 5) : ∀ j, (Dt mo n ^ j).natAbs ≤ 2 ^ (bt n * j)
  | 0 => by rw [Int.pow_zero, Nat.mul_zero]; decide
  | j + 1 => by
    rw [Int.pow_succ]
    exact p2_up (p2_mul (Dpow_le hm hn j) (Dt_bt hm hn)) (by rw [Nat.mul_succ]; omega)
def lb (e : Nat) : Nat := e / 32 + 1
theorem lb_lt {z : Int} {e : Nat} (h : z.natAbs ≤ 2 ^ e) : z.natAbs < 2 ^ (32 * lb e) := by
  refine Nat.lt_of_le_of_lt h (Nat.pow_lt_pow_right (by decide) ?_)
  unfold lb
  omega
def limB (n j : Nat) : Bool := Nat.ble (lb ((bt n + 1) * (j - 1)) + lb (bt n)) 40 && (Nat.ble (lb ((bt n + 1) * (j - 1) + bt n) + 1) 40 && (Nat.ble (lb ((bt n + 1) * j + 65) + lb (bt n)) 40 && (Nat.ble (lb (bt n * j) + lb (bt n)) 40 && (Nat.ble (lb ((bt n + 1) * j) + lb (bt n + 65)) 40 && (Nat.ble (lb ((bt n + 1) * j + 65 + bt n) + 1) 40 && (Nat.ble (lb ((bt n + 1) * (j + 1) + 65)) 38 && (Nat.ble (lb (bt n * (j + 1))) 38 && Nat.ble (lb ((bt n + 1) * j)) 39)))))))
theorem lim_b : ∀ n, n < 5 → ∀ j, j < 12 - 2 * (n + 1) → limB (n + 1) j = true := by decide +kernel
theorem lim_t (n : Nat) (hn : n < 6) (h1 : 1 ≤ n) (j : Nat) (hj : j < 12 - 2 * n) : lb ((bt n + 1) * (j - 1)) + lb (bt n) ≤ 40 ∧ lb ((bt n + 1) * (j - 1) + bt n) + 1 ≤ 40 ∧ lb ((bt n + 1) * j + 65) + lb (bt n) ≤ 40 ∧ lb (bt n * j) + lb (bt n) ≤ 40 ∧ lb ((bt n + 1) * j) + lb (bt n + 65) ≤ 40 ∧ lb ((bt n + 1) * j + 65 + bt n) + 1 ≤ 40 ∧ lb ((bt n + 1) * (j + 1) + 65) ≤ 38 ∧ lb (bt n * (j + 1)) ≤ 38 ∧ lb ((bt n + 1) * j) ≤ 39 := by
  obtain ⟨r, rfl⟩ : ∃ r, n = r + 1 := ⟨n - 1, by omega⟩
  have h := lim_b r (by omega) j hj
  unfold limB at h
  simp only [Bool.and_eq_true, Nat.ble_eq] at h
  exact h
def pt_setQuot : mSH → mRF → mPT := m_pv 4 (fun sh rf d rest I J K => ∃ (n st l : Nat) (mo : Nat → Int), sh = shL ∧ rf = rfL ∧ d = 523 ∧ rest = [.inr (.inr 504), .inl (nI n), .inl (nI st)] ∧ PIs shL rfL I 504 mo l ∧ 1 ≤ n ∧ n ≤ tpf mo l ∧ 2 * n + st ≤ 11 ∧ ∀ I1, Wk I I1 → (∀ j, j ≤ st → BIs shL rfL I1 (476 + 2 * j) (qq mo n j)) → K none I1 J)
def spLeft (mo : Nat → Int) (n d : Int) (l : Nat) : mSL := if n ≠ 0 ∧ hasP mo l n ∧ 0 ≤ d ∧ d ≤ l then (if d - 2 * n < 0 then .inr (0, 1) else .inr (lefS mo n.toNat d.toNat (d.toNat - 2 * n.toNat + 1), Dt mo n.toNat ^ (d.toNat - 2 * n.toNat + 1))) else .inl (-1)
def pt_layLeft : mSH → mRF → mPT := m_pv 4 (fun sh rf d rest I J K => ∃ n e : Int32, sh = shL ∧ rf = rfL ∧ d = 523 ∧ rest = [.inl n, .inl e] ∧ Ask I J K (spLeft (moC J 0) n.toInt e.toInt))
theorem qref {j : Nat} (h : j < 10) : rfL 527 (nI j).toNatClampNeg = 476 + 2 * j := by
  rw [nI_clamp (by omega)]
  unfold rfL
  rw [if_neg (by omega), if_neg (by omega), if_neg (by omega), if_neg (by omega), if_neg (by omega), if_neg (by omega), if_neg (by omega), if_neg (by omega), if_pos rfl]
  omega
theorem Lq {j : Nat} (h : j < 10) : BSh shL rfL (476 + 2 * j) 40 := by
  rw [show 476 + 2 * j = 2 * (238 + j) by omega]
  exact lay_40 (by omega) (by omega)

def ct_X4_setQuotient (sh : mSH) (rf : mRF) : Nat → Option (Nat × Bool × mPT) := fun k => match k with
  | 147 => some (2, true, pt_pdet sh rf)
  | 112 => some (2, true, pt_setLong sh rf)
  | 262 => some (2, false, pt_min sh rf)
  | 194 => some (3, true, pt_times sh rf)
  | 158 => some (3, true, pt_pnum sh rf)
  | 198 => some (4, true, pt_addProduct sh rf)
  | 268 => some (1, true, pt_negate sh rf)
  | _ => none
set_option maxRecDepth 20000 in
theorem ce_X4_setQuotient : m_CE RX4 4 126 cX4_setQuotient 8 ct_X4_setQuotient := by
  intro p l e s m args below meth c Q D cs ad sh rf N hx hb hml hown hts hK hi hN k n vf pt h
  unfold ct_X4_setQuotient at h
  split at h
  · cases h
    exact m_CG_V mt_X2_determinant hx hb hml hown hts hK hi hN (ci := 2) m_pv_rec rfl rfl (m_wck_ok (l := [(Cond.methodLink RX4 147 yX2_determinant, 449), (Cond.instanceMethod yX2_determinant, 438), (Cond.selects RX2 yX2_determinant yX2_determinant, 439), (Cond.initialized RX2, 57), (Cond.code yX2_determinant cX2_determinant 2 (some (.object "MomentDesk$Big")), 440)]) (by decide +kernel)) ⟨rfl, by decide +kernel, by decide +kernel, by decide +kernel⟩ ⟨Nat.le_of_ble_eq_true rfl, Nat.le_of_ble_eq_true rfl⟩
  · cases h
    exact m_CG_V mt_X0_setLong hx hb hml hown hts hK hi hN (ci := 0) m_pv_rec rfl rfl (m_wck_ok (l := [(Cond.methodLink RX4 112 yX0_setLong, 307), (Cond.instanceMethod yX0_setLong, 176), (Cond.selects RX0 yX0_setLong yX0_setLong, 177), (Cond.initialized RX0, 58), (Cond.code yX0_setLong cX0_setLong 5 none, 178)]) (by decide +kernel)) ⟨rfl, by decide +kernel, by decide +kernel, by decide +kernel⟩ ⟨Nat.le_of_ble_eq_true rfl, Nat.le_of_ble_eq_true rfl⟩
  · cases h
    exact m_CG_min hx hb hml hown hts hK hi hN (m_wck_ok (l := [(Cond.methodLink RX4 262 Lib.Math.min.name, 566), (Cond.static Lib.Math.min.name, 335), (Cond.initialized "java/lang/Math", 59), (Cond.code Lib.Math.min.name Lib.Math.min.code 2 (some .int), 336)]) (by decide +kernel)) ⟨Nat.le_of_ble_eq_true rfl, Nat.le_of_ble_eq_true rfl⟩
  · cases h
    exact m_CG_V mt_X0_times hx hb hml hown hts hK hi hN (ci := 0) m_pv_rec rfl rfl (m_wck_ok (l := [(Cond.methodLink RX4 194 yX0_times, 532), (Cond.instanceMethod yX0_times, 533), (Cond.selects RX0 yX0_times yX0_times, 534), (Cond.initialized RX0, 58), (Cond.code yX0_times cX0_times 3 none, 535)]) (by decide +kernel)) ⟨rfl, by decide +kernel, by decide +kernel, by decide +kernel⟩ ⟨Nat.le_of_ble_eq_true rfl, Nat.le_of_ble_eq_true rfl⟩
  · cases h
    exact m_CG_V mt_X2_number hx hb hml hown hts hK hi hN (ci := 2) m_pv_rec rfl rfl (m_wck_ok (l := [(Cond.methodLink RX4 158 yX2_number, 468), (Cond.instanceMethod yX2_number, 469), (Cond.selects RX2 yX2_number yX2_number, 470), (Cond.initialized RX2, 57), (Cond.code yX2_number cX2_number 3 (some (.object "MomentDesk$Big")), 471)]) (by decide +kernel)) ⟨rfl, by decide +kernel, by decide +kernel, by decide +kernel⟩ ⟨Nat.le_of_ble_eq_true rfl, Nat.le_of_ble_eq_true rfl⟩
  · cases h
    exact m_CG_V mt_X0_addProduct hx hb hml hown hts hK hi hN (ci := 0) m_pv_rec rfl rfl (m_wck_ok (l := [(Cond.methodLink RX4 198 yX0_addProduct, 312), (Cond.instanceMethod yX0_addProduct, 313), (Cond.selects RX0 yX0_addProduct yX0_addProduct, 314), (Cond.initialized RX0, 58), (Cond.code yX0_addProduct cX0_addProduct 4 none, 315)]) (by decide +kernel)) ⟨rfl, by decide +kernel, by decide +kernel, by decide +kernel⟩ ⟨Nat.le_of_ble_eq_true rfl, Nat.le_of_ble_eq_true rfl⟩
  · cases h
    exact m_CG_V mt_X0_negate hx hb hml hown hts hK hi hN (ci := 0) m_pv_rec rfl rfl (m_wck_ok (l := [(Cond.methodLink RX4 268 yX0_negate, 567), (Cond.instanceMethod yX0_negate, 456), (Cond.selects RX0 yX0_negate yX0_negate, 457), (Cond.initialized RX0, 58), (Cond.code yX0_negate cX0_negate 1 none, 458)]) (by decide +kernel)) ⟨rfl, by decide +kernel, by decide +kernel, by decide +kernel⟩ ⟨Nat.le_of_ble_eq_true rfl, Nat.le_of_ble_eq_true rfl⟩
  · cases h
set_option maxHeartbeats 4000000 in
set_option maxRecDepth 100000 in
theorem mt_X4_setQuotient : m_Mt yX4_setQuotient cX4_setQuotient 8 none 4 126 pt_setQuot := by
  refine m_methodG (fl := fl_X4) (kI := kI_X4) (kJ := kJ_X4) (ct := ct_X4_setQuotient) (cd := cd_X4_setQuotient) (cut := [(20, [0, 1, 2, 3, 4, 5]), (59, [0, 1, 2, 3, 4, 5, 6, 7])]) (rk := 0) (fu := 120) (by decide +kernel) fl_X4_ok kI_X4_ok kJ_X4_ok ce_X4_setQuotient rfl ck_X4_setQuotient ⟨_, _, rfl, rfl⟩ ?_
  intro sh rf As I J K hpt
  obtain ⟨d, rest, rfl, hd, n, sp, l, mo, rfl, rfl, rfl, rfl, hP, hn1, hn, hsp, hK⟩ := hpt
  have tl := tpf_le mo l
  have hl := hP.2.2.1
  have hm := hP.2.2.2.1
  refine ⟨Nat.le_of_ble_eq_true rfl, fun a9 b9 pc vs st I1 J1 => ∃ j, st = [] ∧ J1 = J ∧ a9 = sp + 1 - j ∧ 1 ≤ j ∧ j ≤ sp + 1 ∧ Wk I I1 ∧ (∀ q, q < j → BIs shL rfL I1 (476 + 2 * q) (qq mo n q)) ∧ ((pc = 20 ∧ b9 = 100 ∧ vs = [.inr (.inr 523), .inr (.inr 504), .inl (nI n), .inl (nI sp), .inr (.inr (pbg rfL 504 (2 ^ n - 1))), .inl (nI j)]) ∨ (pc = 59 ∧ j ≤ sp ∧ ∃ s, s ≤ min j n ∧ b9 = min j n - s ∧ vs = [.inr (.inr 523), .inr (.inr 504), .inl (nI n), .inl (nI sp), .inr (.inr (pbg rfL 504 (2 ^ n - 1))), .inl (nI j), .inr (.inr (476 + 2 * j)), .inl (nI (min j n - s))] ∧ BIs shL rfL I1 (476 + 2 * j) (hqf mo n j (min j n) s))), ?_, ?_⟩
  · refine ⟨504, [.inl (nI n)], rfl, rfl, n, rfl, by omega, lay_P (p := 0) (by decide), rfl, m_inr_i (t := 3) (n := 10) rfl (Or.inl rfl) (vp_in_nI (n := 0) (by decide) (by decide)), 476, [.inr (.inl 1)], rfl, rfl, 40, 1, rfl, Lq (j := 0) (by decide), fun I1 c1 c2 => ?_⟩
    refine ⟨sp + 1 - 1, 100, 1, rfl, rfl, rfl, by omega, by omega, bch_wk (b := 476) (by decide) (by decide) c1, fun q hq => ?_, Or.inl ⟨rfl, rfl, rfl⟩⟩
    obtain rfl : q = 0 := by omega
    rw [qq_0 mo hn1]
    exact c2
  · intro pc ks a9 b9 vs st I1 J1 hcu hI
    obtain ⟨j, rfl, rfl, rfl, hj1, hj, w1, hq, hI⟩ := hI
    rcases m_cu1 hcu with ⟨rfl, rfl⟩ | hcu
    · rcases hI with ⟨-, rfl, rfl⟩ | ⟨q, -⟩
      · refine ⟨fun h => ?_, fun h => ⟨rfl, show (3 : Nat) < 5 by decide, fun h2 => ?_, fun h2 => ?_⟩⟩
        · have h : nI sp < nI j := h
          rw [nI_ltI (by omega) (by omega)] at h
          exact hK I1 w1 (fun q hq2 => hq q (by omega))
        · have h : ¬ nI sp < nI j := h
          rw [nI_ltI (by omega) (by omega)] at h
          have h2 : nI 10 ≤ nI j := h2
          rw [nI_leI (by omega) (by omega)] at h2
          omega
        · have h : ¬ nI sp < nI j := h
          rw [nI_ltI (by omega) (by omega)] at h
          have hj10 : j < 10 := by omega
          refine ⟨rfl, m_inr_i (t := 3) (n := 10) rfl (Or.inl rfl) (vp_in_nI hj10 (by decide)), rfL 527 (nI j).toNatClampNeg, [.inr (.inl 0)], rfl, by rw [qref hj10]; exact (Lq hj10).1, 40, 0, rfl, by rw [qref hj10]; exact Lq hj10, fun I2 c1 c2 => ?_⟩
          rw [qref hj10] at c1 c2
          have w2 := w1.trans (bch_wk (b := 476 + 2 * j) (by omega) (by omega) c1)
          refine ⟨nI j, nI n, rfl, sp + 1 - j, min j n - 0, Or.inr ⟨rfl, by omega⟩, j, rfl, rfl, rfl, hj1, hj, w2, fun q hq2 => (hq q hq2).other lay_BL (Lq hj10) (by omega) c1, Or.inr ⟨rfl, by omega, 0, Nat.zero_le _, rfl, ?_, c2⟩⟩
          rw [Nat.sub_zero]
          have e : (if nI n < nI j then nI n else nI j) = nI (min j n) := by
            by_cases r : n < j
            · rw [if_pos ((nI_ltI (by omega) (by omega)).mpr r), Nat.min_eq_right (by omega)]
            · rw [if_neg (fun r2 => r ((nI_ltI (by omega) (by omega)).mp r2)), Nat.min_eq_left (by omega)]
          rw [← e, ← qref hj10]
          rfl
      · exact absurd q (by decide)
    · rcases m_cu1 hcu with ⟨rfl, rfl⟩ | hcu
      · rcases hI with ⟨q, -⟩ | ⟨-, hjs, s, hs, rfl, rfl, hz⟩
        · exact absurd q (by decide)
        · have hj10 : j < 10 := by omega
          have hqn := (Lq hj10).1
          obtain ⟨t1, t2, -, -, -, -, -, -, t9⟩ := lim_t n (by omega) hn1 j (by omega)
          refine ⟨fun h => ?_, fun h => ?_⟩
          · have h : nI (min j n - s) < nI 1 := h
            rw [nI_ltI (by omega) (by omega)] at h
            obtain rfl : s = min j n := by omega
            refine ⟨476 + 2 * j, [], rfl, hqn, _, rfl, hz, fun I2 c1 c2 => ?_⟩
            rw [qq_rec hn1 hj1 rfl] at c2
            have c3 : BCh rfL I1 I2 (476 + 2 * j) := fun a q _ => c1 a q
            refine ⟨sp + 1 - (j + 1), 100, Or.inl (by omega), j + 1, rfl, rfl, rfl, by omega, by omega, w1.trans (bch_wk (b := 476 + 2 * j) (by omega) (by omega) c3), fun q hq2 => ?_, Or.inl ⟨rfl, rfl, by rw [← nI_1 j]⟩⟩
            by_cases r : q = j
            · rw [r]
              exact c2
            · exact (hq q (by omega)).other lay_BL (Lq hj10) (by omega) c3
          · have h : ¬ nI (min j n - s) < nI 1 := h
            rw [nI_ltI (by omega) (by omega)] at h
            have hst : s < min j n := by omega
            have hP1 := PIs.fr (p := 0) (by decide) hP w1.fr
            obtain ⟨d1, -⟩ := P_det (p := 0) (k := n) hP1 (by omega) (by omega)
            have d2 := lb_lt (Dt_bt hm (n := n) (by omega))
            have z2 := p2_up (hqf_le hm (n := n) (j := j) (t := min j n) (s := s) (by omega) hn1 hj1 rfl hs) (b := (bt n + 1) * (j - 1)) (Nat.mul_le_mul_left _ (by omega))
            have z3 := p2_mul z2 (Dt_bt hm (n := n) (by omega))
            refine ⟨rfl, 476 + 2 * j, [.inr (.inr (pbg rfL 504 (2 ^ n - 1))), .inr (.inr 502)], rfl, hqn, 40, pbg rfL 504 (2 ^ n - 1), 502, 40, lb ((bt n + 1) * (j - 1)), lb (bt n), _, _, rfl, Lq hj10, L40 (b := 251) (by decide) (by decide), lay_BL, pbg_ne (p := 0) (by decide) (det64 (by omega)) (by decide), by omega, hz, d1, lb_lt z2, d2, t1, bup (lb_lt z3) (by omega), fun I2 c1 c2 => ?_⟩
            have w2 := w1.trans (bch2_wk (b := 476 + 2 * j) (by omega) (by omega) (by decide) (by decide) c1)
            have hP2 := PIs.fr (p := 0) (by decide) hP w2.fr
            have ei : nI n - nI (min j n - s) = nI (n - (min j n - s)) := pk_sub (by omega)
            have ej : nI j - nI (min j n - s) = nI (j - (min j n - s)) := pk_sub (by omega)
            obtain ⟨n1, -⟩ := P_num (p := 0) (k := n) (i := n - (min j n - s)) hP2 (by omega) (by omega) (by omega)
            have n2 := Nm_bt hm (n := n) (i := n - (min j n - s)) (by omega) (by omega)
            have q1 := hq (j - (min j n - s)) (by omega)
            have q2 := q1.other2 lay_BL (Lq hj10) (L40 (b := 251) (by decide) (by decide)) (by omega) (by omega) c1
            have q3 := p2_up (qq_le hm (n := n) (by omega) hn1 (j - (min j n - s))) (b := (bt n + 1) * (j - 1)) (Nat.mul_le_mul_left _ (by omega))
            have p3 := p2_mul n2 q3
            have hin : m_inr shL 527 (nI j - nI (min j n - s)) := by
              rw [ej]
              exact m_inr_i (t := 3) (n := 10) rfl (Or.inl rfl) (vp_in_nI (by omega) (by decide))
            refine ⟨504, [.inl (nI n), .inl (nI n - nI (min j n - s))], rfl, rfl, n, n - (min j n - s), congrArg (fun x => [Sum.inl (nI n), Sum.inl x]) ei, by omega, by omega, lay_P (p := 0) (by decide), rfl, hin, rfl, 476 + 2 * j, [.inr (.inr (pbg rfL 504 ((2 ^ (n + 1) - 1) ^^^ 2 ^ (n - (min j n - s))))), .inr (.inr (rfL 527 (nI j - nI (min j n - s)).toNatClampNeg)), .inr (.inr 502)], rfl, hqn, 40, pbg rfL 504 ((2 ^ (n + 1) - 1) ^^^ 2 ^ (n - (min j n - s))), 476 + 2 * (j - (min j n - s)), 502, 40, lb (bt n), lb ((bt n + 1) * (j - 1)), lb ((bt n + 1) * (j - 1) + bt n), _, _, _, ?_, Lq hj10, L40 (b := 251) (by decide) (by decide), lay_BL, pbg_ne (p := 0) (by decide) (num64 (by omega) (by omega)) (by decide), by omega, by omega, c2, n1, q2, lb_lt n2, lb_lt q3, by omega, lb_lt z3, ?_, t2, fun I3 c3 c4 => ?_⟩
            · rw [ej, qref (by omega)]
            · have := lb_lt p3
              rw [Nat.add_comm (bt n)] at this
              exact this
            · refine ⟨sp + 1 - j, min j n - (s + 1), Or.inr ⟨rfl, by omega⟩, j, rfl, rfl, rfl, hj1, hj, w2.trans (bch2_wk (b := 476 + 2 * j) (by omega) (by omega) (by decide) (by decide) c3), fun q hq2 => ?_, Or.inr ⟨rfl, hjs, s + 1, hst, rfl, ?_, c4⟩⟩
              · exact ((hq q hq2).other2 lay_BL (Lq hj10) (L40 (b := 251) (by decide) (by decide)) (by omega) (by omega) c1).other2 lay_BL (Lq hj10) (L40 (b := 251) (by decide) (by decide)) (by omega) (by omega) c3
              · have e : nI (min j n - s) + (-1) = nI (min j n - (s + 1)) := by
                  have : min j n - s = (min j n - (s + 1)) + 1 := by omega
                  rw [this]
                  exact nI_dec (k := 1) (by decide)
                rw [← e]
      · cases hcu

def ct_X4_layLeft (sh : mSH) (rf : mRF) : Nat → Option (Nat × Bool × mPT) := fun k => match k with
  | 138 => some (1, true, pt_wpolys sh rf)
  | 155 => some (2, true, pt_phas sh rf)
  | 134 => some (2, true, pt_layWhole sh rf)
  | 205 => some (4, true, pt_setQuot sh rf)
  | 147 => some (2, true, pt_pdet sh rf)
  | 112 => some (2, true, pt_setLong sh rf)
  | 194 => some (3, true, pt_times sh rf)
  | 190 => some (4, true, pt_psetOf sh rf)
  | 198 => some (4, true, pt_addProduct sh rf)
  | 151 => some (3, true, pt_lay sh rf)
  | _ => none
set_option maxRecDepth 20000 in
theorem ce_X4_layLeft : m_CE RX4 6 173 cX4_layLeft 7 ct_X4_layLeft := by
  intro p l e s m args below meth c Q D cs ad sh rf N hx hb hml hown hts hK hi hN k n vf pt h
  unfold ct_X4_layLeft at h
  split at h
  · cases h
    exact m_CG_V mt_X3_polys hx hb hml hown hts hK hi hN (ci := 3) m_pv_rec rfl rfl (m_wck_ok (l := [(Cond.methodLink RX4 138 yX3_polys, 420), (Cond.instanceMethod yX3_polys, 421), (Cond.selects RX3 yX3_polys yX3_polys, 422), (Cond.initialized RX3, 56), (Cond.code yX3_polys cX3_polys 1 (some (.object "MomentDesk$Polys")), 423)]) (by decide +kernel)) ⟨rfl, by decide +kernel, by decide +kernel, by decide +kernel⟩ ⟨Nat.le_of_ble_eq_true rfl, Nat.le_of_ble_eq_true rfl⟩
  · cases h
    exact m_CG_V mt_X2_has hx hb hml hown hts hK hi hN (ci := 2) m_pv_rec rfl rfl (m_wck_ok (l := [(Cond.methodLink RX4 155 yX2_has, 467), (Cond.instanceMethod yX2_has, 446), (Cond.selects RX2 yX2_has yX2_has, 447), (Cond.initialized RX2, 57), (Cond.code yX2_has cX2_has 2 (some .boolean), 448)]) (by decide +kernel)) ⟨rfl, by decide +kernel, by decide +kernel, by decide +kernel⟩ ⟨Nat.le_of_ble_eq_true rfl, Nat.le_of_ble_eq_true rfl⟩
  · cases h
    exact m_CG_V mt_X1_layWhole hx hb hml hown hts hK hi hN (ci := 1) m_pv_rec rfl rfl (m_wck_ok (l := [(Cond.methodLink RX4 134 yX1_layWhole, 404), (Cond.instanceMethod yX1_layWhole, 405), (Cond.selects RX1 yX1_layWhole yX1_layWhole, 406), (Cond.initialized RX1, 61), (Cond.code yX1_layWhole cX1_layWhole 3 (some .int), 407)]) (by decide +kernel)) ⟨rfl, by decide +kernel, by decide +kernel, by decide +kernel⟩ ⟨Nat.le_of_ble_eq_true rfl, Nat.le_of_ble_eq_true rfl⟩
  · cases h
    exact m_CG_V mt_X4_setQuotient hx hb hml hown hts hK hi hN (ci := 4) m_pv_rec rfl rfl (m_wck_ok (l := [(Cond.methodLink RX4 205 yX4_setQuotient, 562), (Cond.instanceMethod yX4_setQuotient, 564), (Cond.selects RX4 yX4_setQuotient yX4_setQuotient, 9), (Cond.initialized RX4, 55), (Cond.code yX4_setQuotient cX4_setQuotient 8 none, 565)]) (by decide +kernel)) ⟨rfl, by decide +kernel, by decide +kernel, by decide +kernel⟩ ⟨Nat.le_of_ble_eq_true rfl, Nat.le_of_ble_eq_true rfl⟩
  · cases h
    exact m_CG_V mt_X2_determinant hx hb hml hown hts hK hi hN (ci := 2) m_pv_rec rfl rfl (m_wck_ok (l := [(Cond.methodLink RX4 147 yX2_determinant, 449), (Cond.instanceMethod yX2_determinant, 438), (Cond.selects RX2 yX2_determinant yX2_determinant, 439), (Cond.initialized RX2, 57), (Cond.code yX2_determinant cX2_determinant 2 (some (.object "MomentDesk$Big")), 440)]) (by decide +kernel)) ⟨rfl, by decide +kernel, by decide +kernel, by decide +kernel⟩ ⟨Nat.le_of_ble_eq_true rfl, Nat.le_of_ble_eq_true rfl⟩
  · cases h
    exact m_CG_V mt_X0_setLong hx hb hml hown hts hK hi hN (ci := 0) m_pv_rec rfl rfl (m_wck_ok (l := [(Cond.methodLink RX4 112 yX0_setLong, 307), (Cond.instanceMethod yX0_setLong, 176), (Cond.selects RX0 yX0_setLong yX0_setLong, 177), (Cond.initialized RX0, 58), (Cond.code yX0_setLong cX0_setLong 5 none, 178)]) (by decide +kernel)) ⟨rfl, by decide +kernel, by decide +kernel, by decide +kernel⟩ ⟨Nat.le_of_ble_eq_true rfl, Nat.le_of_ble_eq_true rfl⟩
  · cases h
    exact m_CG_V mt_X0_times hx hb hml hown hts hK hi hN (ci := 0) m_pv_rec rfl rfl (m_wck_ok (l := [(Cond.methodLink RX4 194 yX0_times, 532), (Cond.instanceMethod yX0_times, 533), (Cond.selects RX0 yX0_times yX0_times, 534), (Cond.initialized RX0, 58), (Cond.code yX0_times cX0_times 3 none, 535)]) (by decide +kernel)) ⟨rfl, by decide +kernel, by decide +kernel, by decide +kernel⟩ ⟨Nat.le_of_ble_eq_true rfl, Nat.le_of_ble_eq_true rfl⟩
  · cases h
    exact m_CG_V mt_X2_setOf hx hb hml hown hts hK hi hN (ci := 2) m_pv_rec rfl rfl (m_wck_ok (l := [(Cond.methodLink RX4 190 yX2_setOf, 524), (Cond.instanceMethod yX2_setOf, 525), (Cond.selects RX2 yX2_setOf yX2_setOf, 526), (Cond.initialized RX2, 57), (Cond.code yX2_setOf cX2_setOf 5 none, 527)]) (by decide +kernel)) ⟨rfl, by decide +kernel, by decide +kernel, by decide +kernel⟩ ⟨Nat.le_of_ble_eq_true rfl, Nat.le_of_ble_eq_true rfl⟩
  · cases h
    exact m_CG_V mt_X0_addProduct hx hb hml hown hts hK hi hN (ci := 0) m_pv_rec rfl rfl (m_wck_ok (l := [(Cond.methodLink RX4 198 yX0_addProduct, 312), (Cond.instanceMethod yX0_addProduct, 313), (Cond.selects RX0 yX0_addProduct yX0_addProduct, 314), (Cond.initialized RX0, 58), (Cond.code yX0_addProduct cX0_addProduct 4 none, 315)]) (by decide +kernel)) ⟨rfl, by decide +kernel, by decide +kernel, by decide +kernel⟩ ⟨Nat.le_of_ble_eq_true rfl, Nat.le_of_ble_eq_true rfl⟩
  · cases h
    exact m_CG_V mt_X1_lay hx hb hml hown hts hK hi hN (ci := 1) m_pv_rec rfl rfl (m_wck_ok (l := [(Cond.methodLink RX4 151 yX1_lay, 450), (Cond.instanceMethod yX1_lay, 451), (Cond.selects RX1 yX1_lay yX1_lay, 452), (Cond.initialized RX1, 61), (Cond.code yX1_lay cX1_lay 3 (some .int), 453)]) (by decide +kernel)) ⟨rfl, by decide +kernel, by decide +kernel, by decide +kernel⟩ ⟨Nat.le_of_ble_eq_true rfl, Nat.le_of_ble_eq_true rfl⟩
  · cases h
set_option maxHeartbeats 4000000 in
set_option maxRecDepth 100000 in
theorem mt_X4_layLeft : m_Mt yX4_layLeft cX4_layLeft 7 (some .int) 6 173 pt_layLeft := by
  refine m_methodG (fl := fl_X4) (kI := kI_X4) (kJ := kJ_X4) (ct := ct_X4_layLeft) (cd := cd_X4_layLeft) (cut := [(92, [0, 1, 2, 3, 4, 5, 6])]) (rk := 1) (fu := 120) (by decide +kernel) fl_X4_ok kI_X4_ok kJ_X4_ok ce_X4_layLeft rfl ck_X4_layLeft ⟨_, _, rfl, rfl⟩ ?_
  intro sh rf As I J K hpt
  obtain ⟨d, rest, rfl, hd, n, e, rfl, rfl, rfl, rfl, l, U, L, hC, hH, hL, h1, hl, hK⟩ := hpt
  obtain ⟨h3, hmo, hold⟩ := hC.cur h1 hl
  refine ⟨Nat.le_of_ble_eq_true rfl, fun a9 b9 pc vs st I2 J2 => ∃ (I1 : mPI) (nn dd j : Nat), vs = [.inr (.inr 523), .inl (nI nn), .inl (nI dd), .inr (.inr 504), .inl (nI (dd - 2 * nn)), .inr (.inr (pbg rfL 504 (2 ^ nn - 1))), .inl (nI j)] ∧ st = [] ∧ J2 = J ∧ a9 = dd - 2 * nn + 1 - j ∧ j ≤ dd - 2 * nn + 1 ∧ 1 ≤ nn ∧ nn ≤ tpf (moC J 0) l ∧ 2 * nn ≤ dd ∧ dd ≤ l ∧ spLeft (moC J 0) n.toInt e.toInt l = .inr (lefS (moC J 0) nn dd (dd - 2 * nn + 1), Dt (moC J 0) nn ^ (dd - 2 * nn + 1)) ∧ Bse I I1 J l ∧ Wk I1 I2 ∧ (∀ q, q ≤ dd - 2 * nn → BIs shL rfL I2 (476 + 2 * q) (qq (moC J 0) nn q)) ∧ BIs shL rfL I2 496 (lefS (moC J 0) nn dd j) ∧ BIs shL rfL I2 500 (Dt (moC J 0) nn ^ j), ?_, ?_⟩
  · refine ⟨rfl, 513, [], rfl, rfl, l, rfl, lay_W0, h1, hl, hmo, hold, fun I1 a1 a2 a3 a4 => ?_⟩
    obtain ⟨hPf, hC1, hP⟩ := polys_post (p := 0) (by decide) hC h1 hl a1 a2 a4
    have hV := hPf.vis (by decide)
    have hH1 := hH.pf (by decide) hPf
    have tl := tpf_le (moC J 0) l
    have h11 : I1 513 1 = nI l := (hV.2 0 (by decide) 1 (by decide)).trans h1
    have k1 : ¬ (n.toInt ≠ 0 ∧ hasP (moC J 0) l n.toInt ∧ 0 ≤ e.toInt ∧ e.toInt ≤ l) → K (some (.inl (-1))) I1 J := fun q => by
      have e : spLeft (moC J 0) n.toInt e.toInt l = .inl (-1) := if_neg q
      rw [e] at hK
      exact hK I1 hV hC1 hH1
    refine ⟨fun h => ?_, fun h => ⟨504, [.inl n], rfl, rfl, n, tpf (moC J 0) l, rfl, hP.2.1, tl.1, fun nn hnn hk => ?_, fun hn => ?_⟩⟩
    · have h : n = 0 := h
      exact k1 (fun q => q.1 (by rw [h]; rfl))
    · have en : n.toInt = nn := by rw [hk, nI_toInt (by omega)]
      have hnz : nn ≠ 0 := fun q => h (by rw [hk, q]; rfl)
      refine ⟨fun r => absurd r (by decide), fun _ => ⟨fun h2 => ?_, fun h2 => ⟨rfl, rfl, fun h4 => ?_, fun h4 => ?_⟩⟩⟩
      · exact k1 (fun q => absurd (i_lt0.mp h2) (by omega))
      · have h2 := mt i_lt0.mpr h2
        have h4 : e ≤ I1 513 1 := h4
        rw [h11, Int32.le_iff_toInt_le, nI_toInt (by omega)] at h4
        obtain ⟨ee, -⟩ := i_nat (k := e) (by omega)
        have hsp : spLeft (moC J 0) n.toInt e.toInt l = if (e.toInt.toNat : Int) - 2 * nn < 0 then .inr (0, 1) else .inr (lefS (moC J 0) nn e.toInt.toNat (e.toInt.toNat - 2 * nn + 1), Dt (moC J 0) nn ^ (e.toInt.toNat - 2 * nn + 1)) := by
          unfold spLeft
          rw [if_pos ⟨by omega, ⟨by omega, by omega⟩, by omega, h4⟩, en]
          have : ((e.toInt.toNat : Nat) : Int) = e.toInt := by omega
          rw [this]
          rfl
        have hdl : e.toInt.toNat ≤ l := by omega
        generalize e.toInt.toNat = dd at ee hsp hdl
        have etm : (2 : Int32) * n = nI (2 * nn) := by
          rw [hk]
          exact (Int32.ofNat_mul 2 nn).symm
        have est : (e - 2 * n).toInt = (dd : Int) - 2 * nn := by
          rw [etm, ee, i_subT] <;> rw [nI_toInt (by omega), nI_toInt (by omega)] <;> omega
        refine ⟨fun h5 => ?_, fun h5 => ?_⟩
        · have h5 : 0 ≤ e - 2 * n := h5
          rw [i_le0, est] at h5
          rw [if_neg (by omega)] at hsp
          have es2 : e - 2 * n = nI (dd - 2 * nn) := by
            rw [etm, ee]
            exact pk_sub (by omega)
          refine ⟨523, [.inr (.inr 504), .inl n, .inl (e - 2 * n)], rfl, rfl, nn, dd - 2 * nn, l, moC J 0, rfl, rfl, rfl, by rw [es2, hk], hP, by omega, hnn, by omega, fun I2 w1 hq => ?_⟩
          refine ⟨504, [.inl n], rfl, rfl, nn, by rw [hk], by omega, lay_P (p := 0) (by decide), rfl, 496, [.inr (.inl 0)], rfl, rfl, 40, 0, rfl, L40 (b := 248) (by decide) (by decide), fun I3 c1 c2 => ?_⟩
          have w2 := w1.trans (bch_wk (b := 496) (by decide) (by decide) c1)
          refine ⟨rfl, 500, [.inr (.inl 1)], rfl, rfl, 40, 1, rfl, L40 (b := 250) (by decide) (by decide), fun I4 c3 c4 => ?_⟩
          refine ⟨dd - 2 * nn + 1 - 0, 0, I1, nn, dd, 0, ?_, rfl, rfl, rfl, by omega, by omega, hnn, by omega, hdl, hsp, ⟨hPf, hC1, hP⟩, w2.trans (bch_wk (b := 500) (by decide) (by decide) c3), fun q hq2 => ((hq q hq2).other lay_BL (L40 (b := 248) (by decide) (by decide)) (by omega) c1).other lay_BL (L40 (b := 250) (by decide) (by decide)) (by omega) c3, c2.other lay_BL (L40 (b := 250) (by decide) (by decide)) (by decide) c3, ?_⟩
          · rw [← es2, ← hk, ← ee]
            rfl
          · rw [Int.pow_zero]
            exact c4
        · have h5 : ¬ 0 ≤ e - 2 * n := h5
          rw [i_le0, est] at h5
          rw [if_pos (by omega)] at hsp
          rw [hsp] at hK
          refine ⟨rfl, 522, [.inr (.inl 0)], rfl, rfl, 0, rfl, lay_H.1, fun I2 b1 b2 => ?_⟩
          have hf := hch_fr b1
          exact hK I2 (hV.trans hf.vis) (hC1.fr hf) b2
      · have h4 : ¬ e ≤ I1 513 1 := h4
        rw [h11, Int32.le_iff_toInt_le, nI_toInt (by omega)] at h4
        exact k1 (fun q => h4 q.2.2.2)
    · refine ⟨fun _ => k1 (fun q => ?_), fun h => absurd rfl h⟩
      exact hn n.toInt.toNat (by have := q.2.1.2; omega) (i_nat q.2.1.1).1
  · intro pc ks a9 b9 vs st I2 J2 hcu hI
    rcases m_cu1 hcu with ⟨rfl, rfl⟩ | hcu
    · obtain ⟨I1, nn, dd, j, rfl, rfl, rfl, rfl, hj, hn1, hnn, h2n, hdl, hsp, ⟨hPf, hC1, hP⟩, w1, hq, hs, ho⟩ := hI
      have tl := tpf_le (moC J2 0) l
      have hm := hP.2.2.2.1
      refine ⟨fun h => ?_, fun h => ?_⟩
      · have h : nI (dd - 2 * nn) < nI j := h
        rw [nI_ltI (by omega) (by omega)] at h
        obtain rfl : j = dd - 2 * nn + 1 := by omega
        rw [hsp] at hK
        obtain ⟨-, -, -, -, -, -, t7, t8, -⟩ := lim_t nn (by omega) hn1 (dd - 2 * nn) (by omega)
        refine ⟨rfl, rfl, rfl, 522, [.inr (.inr 496), .inr (.inr 500)], rfl, rfl, 496, 500, _, _, rfl, lay_H.1, fun i hi => by rw [lay_H.2]; omega, hs, ho, bup (lb_lt (lefS_le hm (by omega) hn1 (by omega) (by omega) _)) t7, bup (lb_lt (Dpow_le hm (by omega) _)) t8, Int.pow_ne_zero (top_nz hnn), fun I5 b1 b2 => ?_⟩
        have hf := w1.fr.trans (hch_fr b1)
        exact hK I5 ((hPf.vis (by decide)).trans hf.vis) (hC1.fr hf) b2
      · have h : ¬ nI (dd - 2 * nn) < nI j := h
        rw [nI_ltI (by omega) (by omega)] at h
        obtain ⟨-, -, t3, t4, t5, t6, -, -, -⟩ := lim_t nn (by omega) hn1 j (by omega)
        have hP2 := PIs.fr (p := 0) (by decide) hP w1.fr
        obtain ⟨d1, -⟩ := P_det (p := 0) (k := nn) hP2 (by omega) (by omega)
        have db := Dt_bt hm (n := nn) (by omega)
        have sb := lefS_le hm (n := nn) (d := dd) (by omega) hn1 (by omega) (by omega) j
        have pb2 := Dpow_le hm (n := nn) (by omega) j
        have sb2 := p2_mul sb db
        have pb3 := p2_mul pb2 db
        refine ⟨rfl, rfl, 496, [.inr (.inr (pbg rfL 504 (2 ^ nn - 1))), .inr (.inr 502)], rfl, rfl, 40, pbg rfL 504 (2 ^ nn - 1), 502, 40, lb ((bt nn + 1) * j + 65), lb (bt nn), _, _, rfl, L40 (b := 248) (by decide) (by decide), L40 (b := 251) (by decide) (by decide), lay_BL, pbg_ne (p := 0) (by decide) (det64 (by omega)) (by decide), by decide, hs, d1, lb_lt sb, lb_lt db, t3, bup (lb_lt sb2) (by omega), fun I3 c1 c2 => ?_⟩
        have w2 := w1.trans (bch2_wk (by decide) (by decide) (by decide) (by decide) c1)
        have hP3 := PIs.fr (p := 0) (by decide) hP w2.fr
        obtain ⟨d3, -⟩ := P_det (p := 0) (k := nn) hP3 (by omega) (by omega)
        have o2 := ho.other2 lay_BL (L40 (b := 248) (by decide) (by decide)) (L40 (b := 251) (by decide) (by decide)) (by decide) (by decide) c1
        refine ⟨rfl, rfl, 500, [.inr (.inr (pbg rfL 504 (2 ^ nn - 1))), .inr (.inr 502)], rfl, rfl, 40, pbg rfL 504 (2 ^ nn - 1), 502, 40, lb (bt nn * j), lb (bt nn), _, _, rfl, L40 (b := 250) (by decide) (by decide), L40 (b := 251) (by decide) (by decide), lay_BL, pbg_ne (p := 0) (by decide) (det64 (by omega)) (by decide), by decide, o2, d3, lb_lt pb2, lb_lt db, t4, bup (lb_lt pb3) (by unfold lb at t4 ⊢; omega), fun I4 c3 c4 => ?_⟩
        have w3 := w2.trans (bch2_wk (by decide) (by decide) (by decide) (by decide) c3)
        have hP4 := PIs.fr (p := 0) (by decide) hP w3.fr
        have s3 := c2.other2 lay_BL (L40 (b := 250) (by decide) (by decide)) (L40 (b := 251) (by decide) (by decide)) (by decide) (by decide) c3
        have ei : nI dd - nI nn - nI j = nI (dd - nn - j) := by
          rw [show nI dd - nI nn = nI (dd - nn) from pk_sub (by omega)]
          exact pk_sub (by omega)
        refine ⟨rfl, 504, [.inr (.inr 498), .inl (nI nn), .inl (nI dd - nI nn - nI j)], rfl, rfl, 498, nn, dd - nn - j, l, moC J2 0, by rw [ei], lay_P (p := 0) (by decide), hP4, by omega, by omega, by omega, L40 (b := 249) (by decide) (by decide), fun j hj => (pbg_ne (p := 0) (by decide) hj (by decide)).symm, fun I5 c5 c6 => ?_⟩
        have w4 := w3.trans (bch2_wkp (p := 0) (by decide) (by decide) (by decide) c5)
        have kp : ∀ {b : Nat} {z : Int}, 476 ≤ b → b < 503 → b ≠ 498 → b % 2 = 0 → BIs shL rfL I4 b z → BIs shL rfL I5 b z := by
          intro b z g1 g2 g3 g4 g5
          refine g5.keep (c5 b g3 (by show b ≠ 499; omega) (pbg_ne (p := 0) (by decide) (by decide) (by omega)).symm ?_) ?_
          · rw [lay_pbg (p := 0) (by decide) (by decide), rf0 (by decide)]
            omega
          · rw [rf0 (by omega)]
            refine c5 _ (by omega) (by show b + 1 ≠ 499; omega) ?_ ?_
            · rw [lay_pbg (p := 0) (by decide) (by decide)]
              omega
            · rw [lay_pbg (p := 0) (by decide) (by decide), rf0 (by decide)]
              omega
        have s4 := kp (by decide) (by decide) (by decide) (by decide) s3
        have o4 := kp (by decide) (by decide) (by decide) (by decide) c4
        have q4 : ∀ q, q ≤ dd - 2 * nn → BIs shL rfL I5 (476 + 2 * q) (qq (moC J2 0) nn q) := fun q hq2 => kp (by omega) (by omega) (by omega) (by omega) (((hq q hq2).other2 lay_BL (L40 (b := 248) (by decide) (by decide)) (L40 (b := 251) (by decide) (by decide)) (by omega) (by omega) c1).other2 lay_BL (L40 (b := 250) (by decide) (by decide)) (L40 (b := 251) (by decide) (by decide)) (by omega) (by omega) c3)
        have hj10 : j < 10 := by omega
        have qb := qq_le hm (n := nn) (by omega) hn1 j
        have ob := of_le hm (k := nn) (i := dd - nn - j) (by omega) (by omega)
        have qo := p2_mul qb ob
        refine ⟨rfl, rfl, m_inr_i (t := 3) (n := 10) rfl (Or.inl rfl) (vp_in_nI hj10 (by decide)), rfl, rfl, 496, [.inr (.inr (rfL 527 (nI j).toNatClampNeg)), .inr (.inr 498), .inr (.inr 502)], rfl, rfl, 40, 476 + 2 * j, 498, 502, 40, lb ((bt nn + 1) * j), lb (bt nn + 65), lb ((bt nn + 1) * j + 65 + bt nn), _, _, _, by rw [qref hj10], L40 (b := 248) (by decide) (by decide), L40 (b := 251) (by decide) (by decide), lay_BL, by omega, by decide, by decide, s4, q4 j (by omega), c6, lb_lt qb, lb_lt ob, t5, lb_lt sb2, ?_, t6, fun I6 c7 c8 => ?_⟩
        · have := lb_lt qo
          rw [show (bt nn + 1) * j + (bt nn + 65) = (bt nn + 1) * j + 65 + bt nn by omega] at this
          exact this
        · refine ⟨dd - 2 * nn + 1 - (j + 1), 0, Or.inl (by omega), I1, nn, dd, j + 1, by rw [← nI_1 j], rfl, rfl, rfl, by omega, hn1, hnn, h2n, hdl, hsp, ⟨hPf, hC1, hP⟩, w4.trans (bch2_wk (by decide) (by decide) (by decide) (by decide) c7), fun q hq2 => (q4 q hq2).other2 lay_BL (L40 (b := 248) (by decide) (by decide)) (L40 (b := 251) (by decide) (by decide)) (by omega) (by omega) c7, c8, ?_⟩
          rw [Int.pow_succ]
          exact o4.other2 lay_BL (L40 (b := 248) (by decide) (by decide)) (L40 (b := 251) (by decide) (by decide)) (by decide) (by decide) c7
    · cases hcu

