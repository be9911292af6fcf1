/-! ===== Polys: minors of the moments ===== -/
/-- columns left out of c before j -/
def zb (c : Nat) : Nat → Nat
  | 0 => 0
  | j + 1 => zb c j + (if c.testBit j then 0 else 1)
/-- by the last row, the columns before j -/
def mnS (mo : Nat → Int) (M : Nat → Int) (c : Nat) : Nat → Int
  | 0 => 0
  | j + 1 => mnS mo M c j + (if c.testBit j then (if zb c j % 2 = 1 then -(M (c ^^^ 2 ^ j) * mo (popc c - 1 + j)) else M (c ^^^ 2 ^ j) * mo (popc c - 1 + j)) else 0)
def mnT (mo : Nat → Int) : Nat → Nat → Int
  | 0 => fun _ => 0
  | c + 1 => fun x => if x = c then (if c = 0 then 1 else mnS mo (mnT mo c) c 6) else mnT mo c x
/-- the minor of the columns c (a bit each), with its sign -/
def mn (mo : Nat → Int) (c : Nat) : Int := mnT mo (c + 1) c
theorem mnS_congr {mo M M' : Nat → Int} {c : Nat} : ∀ {j : Nat}, (∀ i, i < j → c.testBit i = true → M (c ^^^ 2 ^ i) = M' (c ^^^ 2 ^ i)) → mnS mo M c j = mnS mo M' c j
  | 0, _ => rfl
  | j + 1, h => by
    rw [mnS, mnS, mnS_congr (fun i hi => h i (by omega))]
    by_cases q : c.testBit j = true
    · rw [if_pos q, if_pos q, h j (by omega) q]
    · rw [if_neg q, if_neg q]
theorem mnT_ge (mo : Nat → Int) {x : Nat} : ∀ {c : Nat}, x < c → mnT mo c x = mn mo x
  | 0, h => absurd h (Nat.not_lt_zero x)
  | c + 1, h => by
    by_cases e : x = c
    · subst e
      rfl
    · rw [mnT]
      show (if x = c then _ else mnT mo c x) = _
      rw [if_neg e]
      exact mnT_ge mo (by omega)
theorem xor_lt : ∀ c, c < 64 → ∀ j, j < 6 → c.testBit j = true → c ^^^ 2 ^ j < c := by decide +kernel
theorem mn_0 (mo : Nat → Int) : mn mo 0 = 1 := rfl
theorem mn_eq (mo : Nat → Int) {c : Nat} (h0 : c ≠ 0) (h : c < 64) : mn mo c = mnS mo (mn mo) c 6 := by
  show (if c = c then (if c = 0 then 1 else mnS mo (mnT mo c) c 6) else mnT mo c c) = _
  rw [if_pos rfl, if_neg h0]
  exact mnS_congr (fun i hi hb => mnT_ge mo (xor_lt c h i hi hb))
def fac : Nat → Nat
  | 0 => 1
  | n + 1 => (n + 1) * fac n
theorem popc_xor : ∀ c, c < 64 → ∀ j, j < 6 → c.testBit j = true → popc (c ^^^ 2 ^ j) + 1 = popc c := by decide +kernel
theorem popc_pos : ∀ c, c < 64 → c ≠ 0 → 1 ≤ popc c ∧ popc c ≤ 6 := by decide +kernel
/-- ones of c before j -/
def ob (c : Nat) : Nat → Nat
  | 0 => 0
  | j + 1 => ob c j + (if c.testBit j then 1 else 0)
theorem ob_pc : ∀ c, c < 64 → ob c 6 = popc c := by decide +kernel
theorem mnS_le {mo M : Nat → Int} {c B P : Nat} (hm : ∀ k, k < 12 → (mo k).natAbs ≤ B) (hp : popc c ≤ 6) : ∀ {j : Nat}, j ≤ 6 → (∀ i, i < 6 → c.testBit i = true → (M (c ^^^ 2 ^ i)).natAbs ≤ P) → (mnS mo M c j).natAbs ≤ ob c j * (P * B)
  | 0, _, _ => by simp [mnS, ob]
  | j + 1, hj, h => by
    have ih := mnS_le (M := M) (P := P) hm hp (j := j) (by omega) h
    rw [mnS, ob]
    by_cases q : c.testBit j = true
    · rw [if_pos q, if_pos q]
      have a1 : (M (c ^^^ 2 ^ j) * mo (popc c - 1 + j)).natAbs ≤ P * B := by
        rw [Int.natAbs_mul]
        exact Nat.mul_le_mul (h j (by omega) q) (hm _ (by omega))
      rw [Nat.add_mul, Nat.one_mul]
      split
      · refine Nat.le_trans (Int.natAbs_add_le _ _) ?_
        rw [Int.natAbs_neg]
        omega
      · refine Nat.le_trans (Int.natAbs_add_le _ _) ?_
        omega
    · rw [if_neg q, if_neg q, Int.add_zero, Nat.add_zero]
      exact ih
/-- the size of a minor of k columns: at most k! B^k -/
theorem mn_le {mo : Nat → Int} {B : Nat} (hm : ∀ k, k < 12 → (mo k).natAbs ≤ B) : ∀ c, c < 64 → (mn mo c).natAbs ≤ fac (popc c) * B ^ popc c := by
  intro c
  induction c using Nat.strongRecOn with
  | ind c ih =>
    intro h
    by_cases h0 : c = 0
    · subst h0
      show (1 : Int).natAbs ≤ 1 * B ^ 0
      rw [Nat.pow_zero]
      decide
    · obtain ⟨p1, p2⟩ := popc_pos c h h0
      rw [mn_eq mo h0 h]
      have key := mnS_le (M := mn mo) (c := c) (P := fac (popc c - 1) * B ^ (popc c - 1)) hm p2 (j := 6) (by omega) (fun i hi hb => by
        have e := popc_xor c h i hi hb
        have := ih _ (xor_lt c h i hi hb) (by have := xor_lt c h i hi hb; omega)
        rw [show popc (c ^^^ 2 ^ i) = popc c - 1 by omega] at this
        exact this)
      rw [ob_pc c h] at key
      refine Nat.le_trans key ?_
      obtain ⟨k, hk⟩ : ∃ k, popc c = k + 1 := ⟨popc c - 1, by omega⟩
      rw [hk, Nat.add_sub_cancel, fac, Nat.pow_succ, Nat.mul_assoc, Nat.mul_assoc]
      exact Nat.le_refl _
def MB : Nat := 2 ^ 62 - 1
theorem fac_lt : ∀ k, k < 7 → 1 ≤ k → fac k * (2 ^ 62) ^ k < 2 ^ (32 * (2 * k)) := by decide +kernel
theorem fac_lt2 : ∀ k, k < 7 → fac k * (2 ^ 62) ^ k < 2 ^ (32 * 12) := by decide +kernel
/-! ===== its cells ===== -/
def pbg (rf : mRF) (p j : Nat) : Nat := if j < 64 then rf (rf p 0) j else if j < 76 then rf (rf p 1) (j - 64) else if j = 76 then rf p 2 else rf p 3
def pcap (j : Nat) : Nat := if j < 64 then max (2 * popc j + 1) 2 else if j < 76 then 2 else 14
def PSh (sh : mSH) (rf : mRF) (p : Nat) : Prop := sh p = .inl 2 ∧ sh (rf p 0) = .inr (3, 64) ∧ sh (rf p 1) = .inr (3, 12) ∧ (∀ j, j < 78 → BSh sh rf (pbg rf p j) (pcap j)) ∧ (∀ i j, i < 78 → j < 78 → pbg rf p i = pbg rf p j → i = j) ∧ BL sh rf
/-- nothing but the Bigs of p, and p, changed -/
def PCh (rf : mRF) (I I1 : mPI) (p : Nat) : Prop := ∀ a, a ≠ p → (∀ j, j < 78 → a ≠ pbg rf p j ∧ a ≠ rf (pbg rf p j) 0) → I1 a = I a
def pw (last : Nat) : Nat := min 6 ((last + 1) / 2 + 1)
def tpF (mo : Nat → Int) (last : Nat) : Nat → Nat → Nat
  | 0, k => k
  | n + 1, k => if k < 5 ∧ 2 * k + 1 ≤ last ∧ mn mo (2 ^ (k + 1) - 1) ≠ 0 then tpF mo last n (k + 1) else k
def tpf (mo : Nat → Int) (last : Nat) : Nat := tpF mo last 6 0
def PIs (sh : mSH) (rf : mRF) (I : mPI) (p : Nat) (mo : Nat → Int) (last : Nat) : Prop := I p 4 = nI last ∧ I p 5 = nI (tpf mo last) ∧ last ≤ 11 ∧ (∀ k, k < 12 → (mo k).natAbs ≤ MB) ∧ (∀ k, k < 12 → BIs sh rf I (pbg rf p (64 + k)) (mo k)) ∧ (∀ c, c < 2 ^ pw last → BIs sh rf I (pbg rf p c) (mn mo c))
theorem tpF_le (mo : Nat → Int) (last : Nat) : ∀ n k, k ≤ 5 → tpF mo last n k ≤ 5 ∧ (tpF mo last n k = k ∨ 2 * (tpF mo last n k - 1) + 1 ≤ last)
  | 0, k, h => ⟨h, Or.inl rfl⟩
  | n + 1, k, h => by
    rw [tpF]
    split
    · rename_i q
      obtain ⟨a1, a2⟩ := tpF_le mo last n (k + 1) (by omega)
      refine ⟨a1, Or.inr ?_⟩
      rcases a2 with e | e
      · rw [e]; omega
      · exact e
    · exact ⟨h, Or.inl rfl⟩
theorem tpf_le (mo : Nat → Int) (last : Nat) : tpf mo last ≤ 5 ∧ 2 * tpf mo last ≤ last + 1 := by
  obtain ⟨a1, a2⟩ := tpF_le mo last 6 0 (by omega)
  unfold tpf
  refine ⟨a1, ?_⟩
  rcases a2 with e | e
  · rw [e]; omega
  · omega
theorem PSh.notbig {sh : mSH} {rf : mRF} {h b cap : Nat} (hh : sh h = .inl 2) (hb : BSh sh rf b cap) : h ≠ b ∧ h ≠ rf b 0 := by
  refine ⟨fun e => ?_, fun e => ?_⟩
  · have := hb.1
    rw [← e, hh] at this
    cases this
  · have := hb.2.1
    rw [← e, hh] at this
    cases this
/-! contracts -/
def pt_phas : mSH → mRF → mPT := m_pv 2 (fun _ _ p rest I J K => ∃ (k : Int32) (t : Nat), rest = [.inl k] ∧ I p 5 = nI t ∧ t ≤ 5 ∧ (∀ j, j ≤ t → k = nI j → K (some (.inl 1)) I J) ∧ ((∀ j, j ≤ t → k ≠ nI j) → K (some (.inl 0)) I J))
def pt_phasWorth : mSH → mRF → mPT := m_pv 2 (fun _ _ p rest I J K => ∃ (k : Int32) (t last : Nat), rest = [.inl k] ∧ I p 5 = nI t ∧ t ≤ 5 ∧ I p 4 = nI last ∧ last ≤ 11 ∧ (∀ j, j ≤ t → 2 * j ≤ last → k = nI j → K (some (.inl 1)) I J) ∧ ((∀ j, j ≤ t → 2 * j ≤ last → k ≠ nI j) → K (some (.inl 0)) I J))
def pt_pdet : mSH → mRF → mPT := m_pv 2 (fun sh rf p rest I J K => ∃ k : Nat, rest = [.inl (nI k)] ∧ k ≤ 6 ∧ PSh sh rf p ∧ K (some (.inr (.inr (pbg rf p (2 ^ k - 1))))) I J)
def pt_pnum : mSH → mRF → mPT := m_pv 2 (fun sh rf p rest I J K => ∃ k i : Nat, rest = [.inl (nI k), .inl (nI i)] ∧ k ≤ 5 ∧ i ≤ k ∧ PSh sh rf p ∧ K (some (.inr (.inr (pbg rf p ((2 ^ (k + 1) - 1) ^^^ 2 ^ i))))) I J)
def pt_pwsign : mSH → mRF → mPT := m_pv 2 (fun sh rf p rest I J K => ∃ (k : Nat) (x y : Int), rest = [.inl (nI k)] ∧ k ≤ 5 ∧ PSh sh rf p ∧ BIs sh rf I (pbg rf p (2 ^ (k + 1) - 1)) x ∧ BIs sh rf I (pbg rf p (2 ^ k - 1)) y ∧ K (some (.inl (sgI x * sgI y))) I J)
theorem shl_det : ∀ k, k ≤ 6 → (1 : Int32) <<< (nI k &&& 31) - 1 = nI (2 ^ k - 1) ∧ 2 ^ k - 1 < 64 := by decide +kernel
theorem shl_num : ∀ k, k ≤ 5 → ∀ i, i ≤ k → ((1 : Int32) <<< ((nI k + 1) &&& 31) - 1) ^^^ ((1 : Int32) <<< (nI i &&& 31)) = nI ((2 ^ (k + 1) - 1) ^^^ 2 ^ i) ∧ (2 ^ (k + 1) - 1) ^^^ 2 ^ i < 64 := by decide +kernel
set_option maxHeartbeats 4000000 in
set_option maxRecDepth 100000 in
theorem mt_X2_has : m_Mt yX2_has cX2_has 2 (some .boolean) 0 0 pt_phas := by
  refine m_method0 80 (fl := fl_X2) (kI := kI_X2) (kJ := kJ_X2) (ct := ct_none) (cd := cd_X2_has) (rk := 3) (by decide +kernel) fl_X2_ok kI_X2_ok kJ_X2_ok (ce_none _ _ _ _ _) rfl ck_X2_has ⟨_, _, rfl, rfl⟩ ?_
  intro sh rf As I J K hpt
  obtain ⟨p, rest, rfl, hp, k, t, rfl, h5, ht, hK1, hK0⟩ := hpt
  refine ⟨Nat.le_of_ble_eq_true rfl, fun h => ?_, fun h => ?_⟩
  · exact ⟨Or.inl rfl, hK0 (fun j hj e => by rw [e] at h; exact absurd h (nI_pos (by omega)))⟩
  · obtain ⟨j, hj, rfl⟩ := nI_of h
    refine ⟨hp, fun h7 => ?_, fun h7 => ?_⟩
    · have h7 : I p 5 < nI j := h7
      rw [h5] at h7
      have := (nI_ltI (by omega) (by omega)).mp h7
      refine ⟨Or.inl rfl, hK0 (fun i hi e => ?_)⟩
      have := (nI_eq (by omega) (by omega)).mp e
      omega
    · have h7 : ¬ I p 5 < nI j := h7
      rw [h5] at h7
      have hjt : j ≤ t := by
        rcases Nat.lt_or_ge t j with q | q
        · exact absurd ((nI_ltI (by omega) (by omega)).mpr q) h7
        · exact q
      exact ⟨Or.inr rfl, hK1 j hjt rfl⟩

def ct_X2_hasWorth (sh : mSH) (rf : mRF) : Nat → Option (Nat × Bool × mPT) := fun k => match k with
  | 76 => some (2, true, pt_phas sh rf)
  | _ => none
set_option maxRecDepth 20000 in
theorem ce_X2_hasWorth : m_CE RX2 1 21 cX2_hasWorth 2 ct_X2_hasWorth := by
  intro p l e s m args below meth c Q D cs ad sh rf N hx hb hml hown hts hK hi hN k n vf pt h
  unfold ct_X2_hasWorth at h
  split at h
  · cases h
    exact m_CG_V mt_X2_has hx hb hml hown hts hK hi hN (ci := 2) m_pv_rec rfl rfl (m_wck_ok (l := [(Cond.methodLink RX2 76 yX2_has, 445), (Cond.instanceMethod yX2_has, 446), (Cond.selects RX2 yX2_has yX2_has, 447), (Cond.initialized RX2, 57), (Cond.code yX2_has cX2_has 2 (some .boolean), 448)]) (by decide +kernel)) ⟨rfl, by decide +kernel, by decide +kernel, by decide +kernel⟩ ⟨Nat.le_of_ble_eq_true rfl, Nat.le_of_ble_eq_true rfl⟩
  · cases h
set_option maxHeartbeats 4000000 in
set_option maxRecDepth 100000 in
theorem mt_X2_hasWorth : m_Mt yX2_hasWorth cX2_hasWorth 2 (some .boolean) 1 21 pt_phasWorth := by
  refine m_method0 80 (fl := fl_X2) (kI := kI_X2) (kJ := kJ_X2) (ct := ct_X2_hasWorth) (cd := cd_X2_hasWorth) (rk := 3) (by decide +kernel) fl_X2_ok kI_X2_ok kJ_X2_ok ce_X2_hasWorth rfl ck_X2_hasWorth ⟨_, _, rfl, rfl⟩ ?_
  intro sh rf As I J K hpt
  obtain ⟨p, rest, rfl, hp, k, t, last, rfl, h5, ht, h4, hl, hK1, hK0⟩ := hpt
  refine ⟨Nat.le_of_ble_eq_true rfl, p, [.inl k], rfl, hp, k, t, rfl, h5, ht, fun j hj e => ?_, fun h => ?_⟩
  · subst e
    refine ⟨fun h => absurd h (by decide), fun _ => ⟨hp, fun h7 => ?_, fun h7 => ?_⟩⟩
    · have h7 : I p 4 < nI 2 * nI j := h7
      rw [h4, pk_mul] at h7
      have := (nI_ltI (by omega) (by omega)).mp h7
      refine ⟨Or.inl rfl, hK0 (fun i hi h9 e => ?_)⟩
      have := (nI_eq (by omega) (by omega)).mp e
      omega
    · have h7 : ¬ I p 4 < nI 2 * nI j := h7
      rw [h4, pk_mul] at h7
      have : 2 * j ≤ last := by
        rcases Nat.lt_or_ge last (2 * j) with q | q
        · exact absurd ((nI_ltI (by omega) (by omega)).mpr q) h7
        · exact q
      exact ⟨Or.inr rfl, hK1 j hj this rfl⟩
  · refine ⟨fun _ => ⟨Or.inl rfl, hK0 (fun j hj _ => h j hj)⟩, fun h7 => absurd rfl h7⟩

set_option maxHeartbeats 4000000 in
set_option maxRecDepth 100000 in
theorem mt_X2_determinant : m_Mt yX2_determinant cX2_determinant 2 (some (.object "MomentDesk$Big")) 0 0 pt_pdet := by
  refine m_method0 80 (fl := fl_X2) (kI := kI_X2) (kJ := kJ_X2) (ct := ct_none) (cd := cd_X2_determinant) (rk := 4) (by decide +kernel) fl_X2_ok kI_X2_ok kJ_X2_ok (ce_none _ _ _ _ _) ⟨_, rfl, by first | exact Or.inl ⟨_, rfl⟩ | exact Or.inr ⟨_, rfl⟩⟩ ck_X2_determinant ⟨_, _, rfl, rfl⟩ ?_
  intro sh rf As I J K hpt
  obtain ⟨p, rest, rfl, hp, k, rfl, hk, hP, hK⟩ := hpt
  obtain ⟨e1, e2⟩ := shl_det k hk
  have e3 : pbg rf p (2 ^ k - 1) = rf (rf p 0) (2 ^ k - 1) := by unfold pbg; rw [if_pos e2]
  rw [e3] at hK
  refine ⟨Nat.le_of_ble_eq_true rfl, hp, ?_, ?_⟩
  · show m_inr sh (rf p 0) ((1 : Int32) <<< (nI k &&& 31) - 1)
    rw [e1]
    exact m_inr_i hP.2.1 (Or.inl rfl) (vp_in_nI e2 (by decide))
  · show K (some (.inr (.inr (rf (rf p 0) ((1 : Int32) <<< (nI k &&& 31) - 1).toNatClampNeg)))) I J
    rw [e1, nI_clamp (by omega)]
    exact hK

set_option maxHeartbeats 4000000 in
set_option maxRecDepth 100000 in
theorem mt_X2_number : m_Mt yX2_number cX2_number 3 (some (.object "MomentDesk$Big")) 0 0 pt_pnum := by
  refine m_method0 80 (fl := fl_X2) (kI := kI_X2) (kJ := kJ_X2) (ct := ct_none) (cd := cd_X2_number) (rk := 4) (by decide +kernel) fl_X2_ok kI_X2_ok kJ_X2_ok (ce_none _ _ _ _ _) ⟨_, rfl, by first | exact Or.inl ⟨_, rfl⟩ | exact Or.inr ⟨_, rfl⟩⟩ ck_X2_number ⟨_, _, rfl, rfl⟩ ?_
  intro sh rf As I J K hpt
  obtain ⟨p, rest, rfl, hp, k, i, rfl, hk, hi, hP, hK⟩ := hpt
  obtain ⟨e1, e2⟩ := shl_num k hk i hi
  have e3 : pbg rf p ((2 ^ (k + 1) - 1) ^^^ 2 ^ i) = rf (rf p 0) ((2 ^ (k + 1) - 1) ^^^ 2 ^ i) := by unfold pbg; rw [if_pos e2]
  rw [e3] at hK
  refine ⟨Nat.le_of_ble_eq_true rfl, hp, ?_, ?_⟩
  · show m_inr sh (rf p 0) (((1 : Int32) <<< ((nI k + 1) &&& 31) - 1) ^^^ ((1 : Int32) <<< (nI i &&& 31)))
    rw [e1]
    exact m_inr_i hP.2.1 (Or.inl rfl) (vp_in_nI e2 (by decide))
  · show K (some (.inr (.inr (rf (rf p 0) (((1 : Int32) <<< ((nI k + 1) &&& 31) - 1) ^^^ ((1 : Int32) <<< (nI i &&& 31))).toNatClampNeg)))) I J
    rw [e1, nI_clamp (by omega)]
    exact hK

def ct_X2_worthSign (sh : mSH) (rf : mRF) : Nat → Option (Nat × Bool × mPT) := fun k => match k with
  | 56 => some (2, true, pt_pdet sh rf)
  | 60 => some (1, true, pt_signum sh rf)
  | _ => none
set_option maxRecDepth 20000 in
theorem ce_X2_worthSign : m_CE RX2 1 21 cX2_worthSign 2 ct_X2_worthSign := by
  intro p l e s m args below meth c Q D cs ad sh rf N hx hb hml hown hts hK hi hN k n vf pt h
  unfold ct_X2_worthSign at h
  split at h
  · cases h
    exact m_CG_V mt_X2_determinant hx hb hml hown hts hK hi hN (ci := 2) m_pv_rec rfl rfl (m_wck_ok (l := [(Cond.methodLink RX2 56 yX2_determinant, 437), (Cond.instanceMethod yX2_determinant, 438), (Cond.selects RX2 yX2_determinant yX2_determinant, 439), (Cond.initialized RX2, 57), (Cond.code yX2_determinant cX2_determinant 2 (some (.object "MomentDesk$Big")), 440)]) (by decide +kernel)) ⟨rfl, by decide +kernel, by decide +kernel, by decide +kernel⟩ ⟨Nat.le_of_ble_eq_true rfl, Nat.le_of_ble_eq_true rfl⟩
  · cases h
    exact m_CG_V mt_X0_signum hx hb hml hown hts hK hi hN (ci := 0) m_pv_rec rfl rfl (m_wck_ok (l := [(Cond.methodLink RX2 60 yX0_signum, 434), (Cond.instanceMethod yX0_signum, 413), (Cond.selects RX0 yX0_signum yX0_signum, 414), (Cond.initialized RX0, 58), (Cond.code yX0_signum cX0_signum 1 (some .int), 415)]) (by decide +kernel)) ⟨rfl, by decide +kernel, by decide +kernel, by decide +kernel⟩ ⟨Nat.le_of_ble_eq_true rfl, Nat.le_of_ble_eq_true rfl⟩
  · cases h
set_option maxHeartbeats 4000000 in
set_option maxRecDepth 100000 in
theorem mt_X2_worthSign : m_Mt yX2_worthSign cX2_worthSign 2 (some .int) 1 21 pt_pwsign := by
  refine m_method0 80 (fl := fl_X2) (kI := kI_X2) (kJ := kJ_X2) (ct := ct_X2_worthSign) (cd := cd_X2_worthSign) (rk := 1) (by decide +kernel) fl_X2_ok kI_X2_ok kJ_X2_ok ce_X2_worthSign rfl ck_X2_worthSign ⟨_, _, rfl, rfl⟩ ?_
  intro sh rf As I J K hpt
  obtain ⟨p, rest, rfl, hp, k, x, y, rfl, hk, hP, hx, hy, hK⟩ := hpt
  have s1 := hP.2.2.2.1 (2 ^ (k + 1) - 1) (by have := (shl_det (k + 1) (by omega)).2; omega)
  have s2 := hP.2.2.2.1 (2 ^ k - 1) (by have := (shl_det k (by omega)).2; omega)
  refine ⟨Nat.le_of_ble_eq_true rfl, p, [.inl (nI k + 1)], rfl, hp, k + 1, by rw [nI_1], by omega, hP, _, [], rfl, s1.1, x, rfl, hx, p, [.inl (nI k)], rfl, hp, k, rfl, by omega, hP, _, [], rfl, s2.1, y, rfl, hy, hK⟩

/-- worths above 0, from the first on -/
def gwF (mo : Nat → Int) (last : Nat) : Nat → Nat → Nat
  | 0, k => k
  | n + 1, k => if k ≤ tpf mo last ∧ 2 * k ≤ last ∧ 0 < mn mo (2 ^ (k + 1) - 1) * mn mo (2 ^ k - 1) then gwF mo last n (k + 1) else k
def gwf (mo : Nat → Int) (last : Nat) : Nat := gwF mo last 7 0
theorem sgI_mul (x y : Int) : sgI x * sgI y ≤ 0 ↔ ¬ 0 < x * y := by
  unfold sgI
  rcases Int.lt_trichotomy x 0 with q | q | q <;> rcases Int.lt_trichotomy y 0 with r | r | r
  · have := Int.mul_pos_of_neg_of_neg q r
    rw [if_pos q, if_pos r]
    simp [this]
  · rw [r]; simp
  · have := Int.mul_neg_of_neg_of_pos q r
    rw [if_pos q, if_neg (by omega), if_neg (by omega)]
    constructor
    · intro _; omega
    · intro _; decide
  · rw [q]; simp
  · rw [q]; simp
  · rw [q]; simp
  · have := Int.mul_neg_of_pos_of_neg q r
    rw [if_neg (by omega), if_neg (by omega), if_pos r]
    constructor
    · intro _; omega
    · intro _; decide
  · rw [r]; simp
  · have := Int.mul_pos q r
    rw [if_neg (by omega), if_neg (by omega), if_neg (by omega), if_neg (by omega)]
    constructor
    · intro h; exact absurd h (by decide)
    · intro h; omega
theorem pw_det {mo : Nat → Int} {last k : Nat} (hk : 2 * k ≤ last + 2) (h6 : k ≤ 6) : 2 ^ k - 1 < 2 ^ pw last := by
  have h1 : k ≤ pw last := by unfold pw; omega
  have h2 : 2 ^ k ≤ 2 ^ pw last := Nat.pow_le_pow_right (by decide) h1
  have h3 : 0 < 2 ^ k := Nat.two_pow_pos k
  omega
def pt_pgood : mSH → mRF → mPT := m_pv 2 (fun sh rf p rest I J K => ∃ (mo : Nat → Int) (last : Nat), rest = [] ∧ PSh sh rf p ∧ PIs sh rf I p mo last ∧ K (some (.inl (nI (gwf mo last)))) I J)
def ct_X2_goodWorths (sh : mSH) (rf : mRF) : Nat → Option (Nat × Bool × mPT) := fun k => match k with
  | 80 => some (2, true, pt_phasWorth sh rf)
  | 83 => some (2, true, pt_pwsign sh rf)
  | _ => none
set_option maxRecDepth 20000 in
theorem ce_X2_goodWorths : m_CE RX2 2 42 cX2_goodWorths 2 ct_X2_goodWorths := by
  intro p l e s m args below meth c Q D cs ad sh rf N hx hb hml hown hts hK hi hN k n vf pt h
  unfold ct_X2_goodWorths at h
  split at h
  · cases h
    exact m_CG_V mt_X2_hasWorth hx hb hml hown hts hK hi hN (ci := 2) m_pv_rec rfl rfl (m_wck_ok (l := [(Cond.methodLink RX2 80 yX2_hasWorth, 621), (Cond.instanceMethod yX2_hasWorth, 442), (Cond.selects RX2 yX2_hasWorth yX2_hasWorth, 443), (Cond.initialized RX2, 57), (Cond.code yX2_hasWorth cX2_hasWorth 2 (some .boolean), 444)]) (by decide +kernel)) ⟨rfl, by decide +kernel, by decide +kernel, by decide +kernel⟩ ⟨Nat.le_of_ble_eq_true rfl, Nat.le_of_ble_eq_true rfl⟩
  · cases h
    exact m_CG_V mt_X2_worthSign hx hb hml hown hts hK hi hN (ci := 2) m_pv_rec rfl rfl (m_wck_ok (l := [(Cond.methodLink RX2 83 yX2_worthSign, 622), (Cond.instanceMethod yX2_worthSign, 521), (Cond.selects RX2 yX2_worthSign yX2_worthSign, 522), (Cond.initialized RX2, 57), (Cond.code yX2_worthSign cX2_worthSign 2 (some .int), 523)]) (by decide +kernel)) ⟨rfl, by decide +kernel, by decide +kernel, by decide +kernel⟩ ⟨Nat.le_of_ble_eq_true rfl, Nat.le_of_ble_eq_true rfl⟩
  · cases h
set_option maxHeartbeats 4000000 in
set_option maxRecDepth 100000 in
theorem mt_X2_goodWorths : m_Mt yX2_goodWorths cX2_goodWorths 2 (some .int) 2 42 pt_pgood := by
  refine m_methodG (fl := fl_X2) (kI := kI_X2) (kJ := kJ_X2) (ct := ct_X2_goodWorths) (cd := cd_X2_goodWorths) (cut := [(2, [0, 1])]) (rk := 1) (fu := 80) (by decide +kernel) fl_X2_ok kI_X2_ok kJ_X2_ok ce_X2_goodWorths rfl ck_X2_goodWorths ⟨_, _, rfl, rfl⟩ ?_
  intro sh rf As I J K hpt
  obtain ⟨p, rest, rfl, hp, mo, last, rfl, hP, hI0, hK⟩ := hpt
  obtain ⟨i4, i5, i6, i7, i8, i9⟩ := id hI0
  have ht := tpf_le mo last
  refine ⟨Nat.le_of_ble_eq_true rfl, fun a b9 pc vs st I1 J1 => ∃ k n, vs = [.inr (.inr p), .inl (nI k)] ∧ st = [] ∧ I1 = I ∧ J1 = J ∧ a = n ∧ k + n = 7 ∧ k ≤ 6 ∧ gwF mo last n k = gwf mo last, ?_, ?_⟩
  · exact ⟨7, 0, 0, 7, rfl, rfl, rfl, rfl, rfl, rfl, by omega, rfl⟩
  · intro pc ks a b9 vs st I1 J1 hc hI
    rcases m_cu1 hc with ⟨rfl, rfl⟩ | hc
    · obtain ⟨k, n, rfl, rfl, rfl, rfl, rfl, hkn, hk6, hg⟩ := hI
      obtain ⟨n, rfl⟩ : ∃ m, a = m + 1 := ⟨a - 1, by omega⟩
      rw [gwF] at hg
      have stop : ¬ (k ≤ tpf mo last ∧ 2 * k ≤ last ∧ 0 < mn mo (2 ^ (k + 1) - 1) * mn mo (2 ^ k - 1)) → K (some (.inl (nI k))) I1 J1 := by
        intro q
        rw [if_neg q] at hg
        rw [hg]
        exact hK
      refine ⟨fun h => ?_, fun h => ?_⟩
      · have h : nI 5 < nI k := h
        have := (nI_ltI (by decide) (by omega)).mp h
        exact stop (fun q => by omega)
      · have h : ¬ nI 5 < nI k := h
        have hk5 : k ≤ 5 := by
          rcases Nat.lt_or_ge 5 k with q | q
          · exact absurd ((nI_ltI (by decide) (by omega)).mpr q) h
          · exact q
        refine ⟨p, [.inl (nI k)], rfl, hp, nI k, tpf mo last, last, rfl, i5, ht.1, i4, i6, fun j hj hj2 e => ?_, fun q => ?_⟩
        · obtain rfl : k = j := (nI_eq (by omega) (by omega)).mp e
          refine ⟨fun h7 => absurd h7 (by decide), fun _ => ⟨p, [.inl (nI k)], rfl, hp, k, _, _, rfl, hk5, hP, i9 _ (pw_det (mo := mo) (by omega) (by omega)), i9 _ (pw_det (mo := mo) (by omega) (by omega)), fun h8 => ?_, fun h8 => ?_⟩⟩
          · have h8 := (sgI_mul _ _).mp h8
            exact stop (fun q => h8 q.2.2)
          · have h8 : 0 < mn mo (2 ^ (k + 1) - 1) * mn mo (2 ^ k - 1) := by
              rcases Int.lt_or_le 0 (mn mo (2 ^ (k + 1) - 1) * mn mo (2 ^ k - 1)) with q | q
              · exact q
              · exact absurd ((sgI_mul _ _).mpr (by omega)) h8
            rw [if_pos ⟨hj, hj2, h8⟩] at hg
            exact ⟨n, 0, Or.inl (by omega), k + 1, n, by rw [← nI_1], rfl, rfl, rfl, rfl, by omega, by omega, hg⟩
        · exact ⟨fun _ => stop (fun q2 => q k q2.1 q2.2.1 rfl), fun h7 => absurd rfl h7⟩
    · cases hc

