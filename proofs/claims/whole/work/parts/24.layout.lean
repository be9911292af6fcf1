/-! ===== the layout of names ===== -/
def capB (b : Nat) : Nat := if b < 234 then pcap (b % 78) else 40
def shL : mSH := fun i =>
  if i < 504 then (if i % 2 = 0 then .inl 0 else .inr (0, capB (i / 2)))
  else if i < 507 then .inl 2
  else if i < 510 then .inr (3, 64)
  else if i < 513 then .inr (3, 12)
  else if i < 516 then .inl 3
  else if i < 519 then .inr (0, 19)
  else if i < 522 then .inr (1, 12)
  else if i = 522 then .inl 1
  else if i = 523 then .inl 4
  else if i = 524 then .inr (4, 2)
  else if i = 525 then .inr (2, 2)
  else if i = 526 then .inr (1, 12)
  else if i = 527 then .inr (3, 10)
  else if i = 528 then .inl 5
  else if i = 529 then .inr (0, 10400)
  else if i < 532 then .inr (0, 40)
  else if i = 532 then .inr (1, 12)
  else if i < 535 then .inr (0, 10)
  else if i = 535 then .inr (1, 12)
  else if i = 536 then .inr (0, 6)
  else if i = 537 then .inr (1, 24)
  else if i < 540 then .inr (0, 20)
  else if i = 540 then .inr (0, 10)
  else if i = 541 then .inr (1, 12)
  else .inr (9, 0)
def rfL : mRF := fun i k =>
  if i < 504 then i + 1
  else if i < 507 then (if k = 0 then i + 3 else if k = 1 then i + 6 else if k = 2 then 2 * (78 * (i - 504) + 76) else 2 * (78 * (i - 504) + 77))
  else if i < 510 then 2 * (78 * (i - 507) + k)
  else if i < 513 then 2 * (78 * (i - 510) + (64 + k))
  else if i < 516 then (if k = 4 then i + 3 else if k = 5 then i + 6 else i - 9)
  else if i = 522 then 2 * (234 + k)
  else if i = 523 then (if k = 0 then 513 else if k = 1 then 524 else if k = 2 then 525 else if k = 3 then 522 else if k = 4 then 526 else if k = 5 then 527 else 2 * (242 + k))
  else if i = 524 then 514 + k
  else if i = 527 then 2 * (238 + k)
  else if i = 528 then (if k < 4 then 529 + k else 525 + k)
  else 0
theorem popc_le (c : Nat) : popc c ≤ 6 := by unfold popc; omega
theorem pcap_in (j : Nat) : 2 ≤ pcap j ∧ pcap j < 2 ^ 20 := by
  have := popc_le j
  unfold pcap
  split
  · omega
  · split <;> omega
theorem capB_in (b : Nat) : 2 ≤ capB b ∧ capB b < 2 ^ 20 := by
  unfold capB
  split
  · exact pcap_in _
  · omega
theorem lay_b {b : Nat} (h : b < 252) : shL (2 * b) = .inl 0 ∧ rfL (2 * b) 0 = 2 * b + 1 ∧ shL (2 * b + 1) = .inr (0, capB b) := by
  refine ⟨?_, ?_, ?_⟩
  · unfold shL
    rw [if_pos (by omega), if_pos (by omega)]
  · unfold rfL
    rw [if_pos (by omega)]
  · unfold shL
    rw [if_pos (by omega), if_neg (by omega), show (2 * b + 1) / 2 = b by omega]
theorem lay_B {b : Nat} (h : b < 252) : BSh shL rfL (2 * b) (capB b) := by
  obtain ⟨h1, h2, h3⟩ := lay_b h
  obtain ⟨h4, h5⟩ := capB_in b
  exact ⟨h1, by rw [h2]; exact h3, h4, h5⟩
theorem iteNe {α : Type} {c : Prop} [Decidable c] {x y z : α} (h : (if c then x else y) = z) (hx : x ≠ z) : y = z := by
  by_cases q : c
  · rw [if_pos q] at h
    exact absurd h hx
  · rwa [if_neg q] at h
theorem lay_0 {b : Nat} (h : shL b = .inl 0) : b < 504 ∧ b % 2 = 0 := by
  rcases Nat.lt_or_ge b 504 with q | q
  · refine ⟨q, ?_⟩
    unfold shL at h
    rw [if_pos q] at h
    by_cases q2 : b % 2 = 0
    · exact q2
    · rw [if_neg q2] at h
      cases h
  · exfalso
    unfold shL at h
    rw [if_neg (by omega)] at h
    repeat (replace h := iteNe h (by decide))
    exact absurd h (by decide)
theorem lay_BL : BL shL rfL := by
  intro b c hb hc e
  obtain ⟨b1, b2⟩ := lay_0 hb
  obtain ⟨c1, c2⟩ := lay_0 hc
  unfold rfL at e
  rw [if_pos b1, if_pos c1] at e
  omega
theorem lay_pbg {p j : Nat} (hp : p < 3) (hj : j < 78) : pbg rfL (504 + p) j = 2 * (78 * p + j) := by
  have r0 : rfL (504 + p) 0 = 507 + p := by
    unfold rfL
    rw [if_neg (by omega), if_pos (by omega), if_pos rfl]
    omega
  have r1 : rfL (504 + p) 1 = 510 + p := by
    unfold rfL
    rw [if_neg (by omega), if_pos (by omega), if_neg (by decide), if_pos rfl]
    omega
  have r2 : rfL (504 + p) 2 = 2 * (78 * p + 76) := by
    unfold rfL
    rw [if_neg (by omega), if_pos (by omega), if_neg (by decide), if_neg (by decide), if_pos rfl]
    omega
  have r3 : rfL (504 + p) 3 = 2 * (78 * p + 77) := by
    unfold rfL
    rw [if_neg (by omega), if_pos (by omega), if_neg (by decide), if_neg (by decide), if_neg (by decide)]
    omega
  unfold pbg
  rw [r0, r1, r2, r3]
  split
  · unfold rfL
    rw [if_neg (by omega), if_neg (by omega), if_pos (by omega)]
    omega
  · split
    · unfold rfL
      rw [if_neg (by omega), if_neg (by omega), if_neg (by omega), if_pos (by omega)]
      omega
    · split <;> omega
theorem lay_P {p : Nat} (hp : p < 3) : PSh shL rfL (504 + p) := by
  have r0 : rfL (504 + p) 0 = 507 + p := by
    unfold rfL
    rw [if_neg (by omega), if_pos (by omega), if_pos rfl]
    omega
  have r1 : rfL (504 + p) 1 = 510 + p := by
    unfold rfL
    rw [if_neg (by omega), if_pos (by omega), if_neg (by decide), if_pos rfl]
    omega
  refine ⟨?_, ?_, ?_, ?_, ?_, lay_BL⟩
  · unfold shL
    rw [if_neg (by omega), if_pos (by omega)]
  · rw [r0]
    unfold shL
    rw [if_neg (by omega), if_neg (by omega), if_pos (by omega)]
  · rw [r1]
    unfold shL
    rw [if_neg (by omega), if_neg (by omega), if_neg (by omega), if_pos (by omega)]
  · intro j hj
    rw [lay_pbg hp hj]
    have := lay_B (b := 78 * p + j) (by omega)
    have e : capB (78 * p + j) = pcap j := by
      unfold capB
      rw [if_pos (by omega), show (78 * p + j) % 78 = j by omega]
    rw [e] at this
    exact this
  · intro i j hi hj e
    rw [lay_pbg hp hi, lay_pbg hp hj] at e
    omega
theorem lay_W {p : Nat} (hp : p < 3) : WSh shL rfL (513 + p) ∧ rfL (513 + p) 4 = 516 + p ∧ rfL (513 + p) 5 = 519 + p ∧ rfL (513 + p) 6 = 504 + p := by
  have r4 : rfL (513 + p) 4 = 516 + p := by
    unfold rfL
    rw [if_neg (by omega), if_neg (by omega), if_neg (by omega), if_neg (by omega), if_pos (by omega), if_pos rfl]
    omega
  have r5 : rfL (513 + p) 5 = 519 + p := by
    unfold rfL
    rw [if_neg (by omega), if_neg (by omega), if_neg (by omega), if_neg (by omega), if_pos (by omega), if_neg (by decide), if_pos rfl]
    omega
  have r6 : rfL (513 + p) 6 = 504 + p := by
    unfold rfL
    rw [if_neg (by omega), if_neg (by omega), if_neg (by omega), if_neg (by omega), if_pos (by omega), if_neg (by decide), if_neg (by decide)]
    omega
  refine ⟨⟨?_, ?_, ?_, ?_⟩, r4, r5, r6⟩
  · unfold shL
    rw [if_neg (by omega), if_neg (by omega), if_neg (by omega), if_neg (by omega), if_pos (by omega)]
  · rw [r4]
    unfold shL
    rw [if_neg (by omega), if_neg (by omega), if_neg (by omega), if_neg (by omega), if_neg (by omega), if_pos (by omega)]
  · rw [r5]
    unfold shL
    rw [if_neg (by omega), if_neg (by omega), if_neg (by omega), if_neg (by omega), if_neg (by omega), if_neg (by omega), if_pos (by omega)]
  · rw [r6]
    exact lay_P hp
theorem lay_H : HSh shL rfL 522 ∧ ∀ k, rfL 522 k = 2 * (234 + k) := by
  have r : ∀ k, rfL 522 k = 2 * (234 + k) := fun k => rfl
  refine ⟨⟨rfl, fun k hk => ?_, fun i j hi hj e => ?_, lay_BL⟩, r⟩
  · rw [r]
    have := lay_B (b := 234 + k) (by omega)
    have e : capB (234 + k) = 40 := by
      unfold capB
      rw [if_neg (by omega)]
    rw [e] at this
    exact this
  · rw [r, r] at e
    omega
theorem lay_40 {b : Nat} (h1 : 234 ≤ b) (h2 : b < 252) : BSh shL rfL (2 * b) 40 := by
  have := lay_B h2
  have e : capB b = 40 := by
    unfold capB
    rw [if_neg (by omega)]
  rw [e] at this
  exact this
theorem lay_N (i : Nat) (h : shL i ≠ .inr (9, 0)) : i < 542 := by
  rcases Nat.lt_or_ge i 542 with q | q
  · exact q
  · refine absurd ?_ h
    unfold shL
    rw [if_neg (by omega), if_neg (by omega), if_neg (by omega), if_neg (by omega), if_neg (by omega), if_neg (by omega), if_neg (by omega), if_neg (by omega), if_neg (by omega), if_neg (by omega), if_neg (by omega), if_neg (by omega), if_neg (by omega), if_neg (by omega), if_neg (by omega), if_neg (by omega), if_neg (by omega), if_neg (by omega), if_neg (by omega), if_neg (by omega), if_neg (by omega), if_neg (by omega), if_neg (by omega), if_neg (by omega)]
/-! ===== the desk's static helpers ===== -/
def pt_isWithin (_ : mSH) (_ : mRF) : mPT := fun As I J K => ∃ v m : Int32, As = [.inl v, .inl m] ∧ K (some (.inl (if -m ≤ v ∧ v ≤ m then 1 else 0))) I J
def pt_isFraction (_ : mSH) (_ : mRF) : mPT := fun As I J K => ∃ u v : Int32, As = [.inl u, .inl v] ∧ K (some (.inl (if (-1000000 ≤ u ∧ u ≤ 1000000) ∧ 1 ≤ v ∧ v ≤ 1000000 then 1 else 0))) I J
/-- n over x, as it is counted -/
def chsF (n : Nat) : Nat → Nat
  | 0 => 1
  | i + 1 => chsF n i * (n - i) / (i + 1)
def chs (n x : Nat) : Nat := if n < x then 0 else chsF n x
theorem chs_b : ∀ n, n < 12 → ∀ i, i < 12 → chsF n i * (n - i) < 2 ^ 31 ∧ chsF n i < 2 ^ 31 := by decide +kernel
def pt_ways (_ : mSH) (_ : mRF) : mPT := fun As I J K => ∃ n x : Nat, As = [.inl (nI n), .inl (nI x)] ∧ n < 12 ∧ x < 12 ∧ K (some (.inr (.inl (lN (chs n x))))) I J
set_option maxHeartbeats 4000000 in
set_option maxRecDepth 100000 in
theorem mt_X4_isWithin : m_Mt yX4_isWithin cX4_isWithin 2 (some .boolean) 0 0 pt_isWithin := by
  refine m_method0 80 (fl := fl_X4) (kI := kI_X4) (kJ := kJ_X4) (ct := ct_none) (cd := cd_X4_isWithin) (rk := 3) (by decide +kernel) fl_X4_ok kI_X4_ok kJ_X4_ok (ce_none _ _ _ _ _) rfl ck_X4_isWithin ⟨_, _, rfl, rfl⟩ ?_
  intro sh rf As I J K hpt
  obtain ⟨v, m, rfl, hK⟩ := hpt
  refine ⟨Nat.le_of_ble_eq_true rfl, fun h => ?_, fun h => ?_⟩
  · have hn : ¬ (-m ≤ v ∧ v ≤ m) := fun q => by
      rw [Int32.lt_iff_toInt_lt] at h
      have := Int32.le_iff_toInt_le.mp q.1
      omega
    rw [if_neg hn] at hK
    exact ⟨Or.inl rfl, hK⟩
  · refine ⟨fun h2 => ?_, fun h2 => ?_⟩
    · have hn : ¬ (-m ≤ v ∧ v ≤ m) := fun q => by
        rw [Int32.lt_iff_toInt_lt] at h2
        have := Int32.le_iff_toInt_le.mp q.2
        omega
      rw [if_neg hn] at hK
      exact ⟨Or.inl rfl, hK⟩
    · have hn : -m ≤ v ∧ v ≤ m := by
        rw [Int32.lt_iff_toInt_lt] at h h2
        exact ⟨by rw [Int32.le_iff_toInt_le]; omega, by rw [Int32.le_iff_toInt_le]; omega⟩
      rw [if_pos hn] at hK
      exact ⟨Or.inr rfl, hK⟩

def ct_X4_isFraction (sh : mSH) (rf : mRF) : Nat → Option (Nat × Bool × mPT) := fun k => match k with
  | 64 => some (2, false, pt_isWithin sh rf)
  | _ => none
set_option maxRecDepth 20000 in
theorem ce_X4_isFraction : m_CE RX4 1 21 cX4_isFraction 2 ct_X4_isFraction := by
  intro p l e s m args below meth c Q D cs ad sh rf N hx hb hml hown hts hK hi hN k n vf pt h
  unfold ct_X4_isFraction at h
  split at h
  · cases h
    exact m_CG_S mt_X4_isWithin hx hb hml hown hts hK hi hN (m_wck_ok (l := [(Cond.methodLink RX4 64 yX4_isWithin, 253), (Cond.static yX4_isWithin, 254), (Cond.initialized RX4, 55), (Cond.code yX4_isWithin cX4_isWithin 2 (some .boolean), 255)]) (by decide +kernel)) ⟨by decide +kernel, by decide +kernel, by decide +kernel⟩ ⟨Nat.le_of_ble_eq_true rfl, Nat.le_of_ble_eq_true rfl⟩
  · cases h
set_option maxHeartbeats 4000000 in
set_option maxRecDepth 100000 in
theorem mt_X4_isFraction : m_Mt yX4_isFraction cX4_isFraction 2 (some .boolean) 1 21 pt_isFraction := by
  refine m_method0 80 (fl := fl_X4) (kI := kI_X4) (kJ := kJ_X4) (ct := ct_X4_isFraction) (cd := cd_X4_isFraction) (rk := 3) (by decide +kernel) fl_X4_ok kI_X4_ok kJ_X4_ok ce_X4_isFraction rfl ck_X4_isFraction ⟨_, _, rfl, rfl⟩ ?_
  intro sh rf As I J K hpt
  obtain ⟨u, v, rfl, hK⟩ := hpt
  refine ⟨Nat.le_of_ble_eq_true rfl, u, 1000000, rfl, fun h => ?_, fun h => ?_⟩
  · have h : (if -1000000 ≤ u ∧ u ≤ 1000000 then (1 : Int32) else 0) = 0 := h
    have hn : ¬ ((-1000000 ≤ u ∧ u ≤ 1000000) ∧ 1 ≤ v ∧ v ≤ 1000000) := fun q => by rw [if_pos q.1] at h; exact absurd h (by decide)
    rw [if_neg hn] at hK
    exact ⟨Or.inl rfl, hK⟩
  · have h : ¬ (if -1000000 ≤ u ∧ u ≤ 1000000 then (1 : Int32) else 0) = 0 := h
    have hu : -1000000 ≤ u ∧ u ≤ 1000000 := by
      by_cases q : -1000000 ≤ u ∧ u ≤ 1000000
      · exact q
      · rw [if_neg q] at h; exact absurd rfl h
    refine ⟨fun h2 => ?_, fun h2 => ⟨fun h3 => ?_, fun h3 => ?_⟩⟩
    · have hn : ¬ ((-1000000 ≤ u ∧ u ≤ 1000000) ∧ 1 ≤ v ∧ v ≤ 1000000) := fun q => by
        rw [Int32.lt_iff_toInt_lt] at h2
        have := Int32.le_iff_toInt_le.mp q.2.1
        omega
      rw [if_neg hn] at hK
      exact ⟨Or.inl rfl, hK⟩
    · have hn : ¬ ((-1000000 ≤ u ∧ u ≤ 1000000) ∧ 1 ≤ v ∧ v ≤ 1000000) := fun q => by
        rw [Int32.lt_iff_toInt_lt] at h3
        have := Int32.le_iff_toInt_le.mp q.2.2
        omega
      rw [if_neg hn] at hK
      exact ⟨Or.inl rfl, hK⟩
    · have hn : (-1000000 ≤ u ∧ u ≤ 1000000) ∧ 1 ≤ v ∧ v ≤ 1000000 := by
        rw [Int32.lt_iff_toInt_lt] at h2 h3
        exact ⟨hu, by rw [Int32.le_iff_toInt_le]; omega, by rw [Int32.le_iff_toInt_le]; omega⟩
      rw [if_pos hn] at hK
      exact ⟨Or.inr rfl, hK⟩

set_option maxHeartbeats 4000000 in
set_option maxRecDepth 100000 in
theorem mt_X4_ways : m_Mt yX4_ways cX4_ways 5 (some .long) 0 0 pt_ways := by
  refine m_methodG (fl := fl_X4) (kI := kI_X4) (kJ := kJ_X4) (ct := ct_none) (cd := cd_X4_ways) (cut := [(16, [0, 1, 2, 4])]) (rk := 2) (fu := 80) (by decide +kernel) fl_X4_ok kI_X4_ok kJ_X4_ok (ce_none _ _ _ _ _) rfl ck_X4_ways ⟨_, _, rfl, rfl⟩ ?_
  intro sh rf As I J K hpt
  obtain ⟨n, x, rfl, hn, hx, hK⟩ := hpt
  refine ⟨Nat.le_of_ble_eq_true rfl, fun a9 b9 pc vs st I1 J1 => ∃ i, vs = [.inl (nI n), .inl (nI x), .inr (.inl (lN (chsF n i))), .inl (nI i)] ∧ st = [] ∧ I1 = I ∧ J1 = J ∧ a9 = x - i ∧ i ≤ x ∧ x ≤ n, ?_, ?_⟩
  · refine ⟨fun h => absurd h (nI_pos (by omega)), fun _ => ⟨fun h => ?_, fun h => ?_⟩⟩
    · have hle : x ≤ n := (nI_leI (by omega) (by omega)).mp h
      exact ⟨x - 0, 0, 0, rfl, rfl, rfl, rfl, rfl, Nat.zero_le _, hle⟩
    · have hlt : n < x := by
        rcases Nat.lt_or_ge n x with q | q
        · exact q
        · exact absurd (nI_le q (by omega)) h
      unfold chs at hK
      rw [if_pos hlt] at hK
      exact hK
  · intro pc ks a9 b9 vs st I1 J1 hc hI
    rcases m_cu1 hc with ⟨rfl, rfl⟩ | hc
    · obtain ⟨i, rfl, rfl, rfl, rfl, rfl, hi, hxn⟩ := hI
      refine ⟨fun h => ?_, fun h => ?_⟩
      · have := (nI_leI (by omega) (by omega)).mp h
        obtain rfl : i = x := by omega
        unfold chs at hK
        rw [if_neg (by omega)] at hK
        exact hK
      · have hlt : i < x := by
          rcases Nat.lt_or_ge i x with q | q
          · exact q
          · exact absurd (nI_le q (by omega)) h
        obtain ⟨c1, c2⟩ := chs_b n hn i (by omega)
        have e1 : (nI n - nI i).toInt64 = lN (n - i) := by rw [pk_sub (by omega), nI_l (by omega)]
        have e2 : (nI i + 1).toInt64 = lN (i + 1) := by rw [nI_1, nI_l (by omega)]
        refine ⟨?_, x - (i + 1), 0, Or.inl (by omega), i + 1, ?_, rfl, rfl, rfl, rfl, by omega, hxn⟩
        · show ¬ (nI i + 1).toInt64 = 0
          rw [e2]
          intro q
          have := (pk_lEQ (a := i + 1) (b := 0) (by omega) (by decide)).mp q
          omega
        · rw [e1, e2, lN_mul, pk_lDiv (by omega) (by omega) (by omega), ← nI_1]
          rfl
    · cases hc

