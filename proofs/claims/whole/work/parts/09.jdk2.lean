/-! ===== words on updates ===== -/
theorem uI_s (I : mPI) (i k : Nat) (v : Int32) : m_uI I i k v i k = v := if_pos ⟨rfl, rfl⟩
theorem uI_a (I : mPI) {i a : Nat} (k : Nat) (v : Int32) (h : a ≠ i) : m_uI I i k v a = I a := funext fun b => m_uI_o I v h b
theorem uI_k (I : mPI) (i : Nat) {k b : Nat} (v : Int32) (h : b ≠ k) : m_uI I i k v i b = I i b := if_neg (fun q => h q.2)
theorem uJ_s (J : mPJ) (i k : Nat) (v : Int64) : m_uJ J i k v i k = v := if_pos ⟨rfl, rfl⟩
theorem uJ_a (J : mPJ) {i a : Nat} (k : Nat) (v : Int64) (h : a ≠ i) : m_uJ J i k v a = J a := funext fun b => m_uJ_o J v h b
theorem uJ_k (J : mPJ) (i : Nat) {k b : Nat} (v : Int64) (h : b ≠ k) : m_uJ J i k v i b = J i b := if_neg (fun q => h q.2)
/-! ===== Arrays.fill, Integer's bits ===== -/
def pt_rangeCheck (_ : mSH) (_ : mRF) : mPT := fun As I J K => ∃ n p q : Nat, As = [.inl (nI n), .inl (nI p), .inl (nI q)] ∧ p ≤ q ∧ q ≤ n ∧ n < 2 ^ 31 ∧ K none I J
def pt_fillI (sh : mSH) (_ : mRF) : mPT := fun As I J K => ∃ (a : Nat) (v : Int32) (n : Nat), As = [.inr (.inr a), .inl v] ∧ sh a = .inr (0, n) ∧ n < 2 ^ 31 ∧ ∀ I1, (∀ q, q ≠ a → I1 q = I q) → (∀ k, k < n → I1 a k = v) → K none I1 J
def pt_fillJ (sh : mSH) (_ : mRF) : mPT := fun As I J K => ∃ (a : Nat) (v : Int64) (n : Nat), As = [.inr (.inr a), .inr (.inl v)] ∧ sh a = .inr (1, n) ∧ n < 2 ^ 31 ∧ ∀ J1, (∀ q, q ≠ a → J1 q = J q) → (∀ k, k < n → J1 a k = v) → K none I J1
def pt_fillR (sh : mSH) (_ : mRF) : mPT := fun As I J K => ∃ (a p q : Nat) (v : Int32) (n : Nat), As = [.inr (.inr a), .inl (nI p), .inl (nI q), .inl v] ∧ sh a = .inr (0, n) ∧ p ≤ q ∧ q ≤ n ∧ n < 2 ^ 31 ∧ ∀ I1, (∀ r, r ≠ a → I1 r = I r) → (∀ k, p ≤ k → k < q → I1 a k = v) → (∀ k, (k < p ∨ q ≤ k) → I1 a k = I a k) → K none I1 J
set_option maxHeartbeats 4000000 in
set_option maxRecDepth 100000 in
theorem mt_J7_rangeCheck_23922 : m_Mt yJ7_rangeCheck_23922 cJ7_rangeCheck_23922 3 none 0 0 pt_rangeCheck := by
  refine m_method0 80 (fl := fl_J7) (kI := kI_J7) (kJ := kJ_J7) (ct := ct_none) (cd := cd_J7_rangeCheck_23922) (rk := 0) (by decide +kernel) fl_J7_ok kI_J7_ok kJ_J7_ok (ce_none _ _ _ _ _) rfl ck_J7_rangeCheck_23922 ⟨_, _, rfl, rfl⟩ ?_
  intro sh rf As I J K hpt
  obtain ⟨n, p, q, rfl, h1, h2, h3, hK⟩ := hpt
  refine ⟨Nat.le_of_ble_eq_true rfl, And.intro (fun _ => And.intro (fun _ => And.intro (fun _ => hK) (fun h => absurd (nI_le h2 h3) h)) (fun h => absurd (nI_pos' (by omega)) h)) (fun h => absurd (nI_le h1 (by omega)) h)⟩

set_option maxHeartbeats 4000000 in
set_option maxRecDepth 100000 in
theorem mt_J7_fill_53178 : m_Mt yJ7_fill_53178 cJ7_fill_53178 4 none 0 0 pt_fillI := by
  refine m_methodG (fl := fl_J7) (kI := kI_J7) (kJ := kJ_J7) (ct := ct_none) (cd := cd_J7_fill_53178) (cut := [(5, [0, 1, 2, 3])]) (rk := 0) (fu := 80) (by decide +kernel) fl_J7_ok kI_J7_ok kJ_J7_ok (ce_none _ _ _ _ _) rfl ck_J7_fill_53178 ⟨_, _, rfl, rfl⟩ ?_
  intro sh rf As I J K hpt
  obtain ⟨ar, v, n, rfl, hsh, hn, hK⟩ := hpt
  refine ⟨Nat.le_of_ble_eq_true rfl, fun a _ pc vs st I1 J1 => ∃ i, vs = [.inr (.inr ar), .inl v, .inl (nI i), .inl (nI n)] ∧ st = [] ∧ i ≤ n ∧ a = n - i ∧ (∀ q, q ≠ ar → I1 q = I q) ∧ (∀ k, k < i → I1 ar k = v) ∧ J1 = J, ?_, ?_⟩
  · refine And.intro (m_isa_i hsh (by decide)) (Exists.intro n (Exists.intro 0 ⟨0, ?_, rfl, Nat.zero_le _, by omega, fun _ _ => rfl, fun k h => absurd h (Nat.not_lt_zero k), rfl⟩))
    rw [m_len_i hsh, nI_0]
  · intro pc ks a b vs st I1 J1 hc hI
    rcases m_cu1 hc with ⟨rfl, rfl⟩ | hc
    · obtain ⟨i, rfl, rfl, hi, rfl, e1, e2, rfl⟩ := hI
      refine And.intro (fun h => ?_) (fun h => ?_)
      · have : n ≤ i := (nI_leI (by omega) (by omega)).mp h
        exact hK I1 e1 (fun k hk => e2 k (by omega))
      · have hlt : i < n := by
          rcases Nat.lt_or_ge i n with q | q
          · exact q
          · exact absurd (nI_le q (by omega)) h
        refine And.intro (m_inb_i hsh (vp_in_nI hlt hn)) (Exists.intro (n - (i + 1)) (Exists.intro 0 (And.intro (Or.inl (by omega)) ⟨i + 1, ?_, rfl, by omega, rfl, ?_, ?_, rfl⟩)))
        · rw [← nI_1]
        · intro q hq
          rw [uI_a _ _ _ hq, e1 q hq]
        · intro k hk
          rw [nI_clamp (by omega)]
          by_cases hki : k = i
          · subst hki
            rw [uI_s]
          · rw [uI_k _ _ _ hki, e2 k (by omega)]
    · cases hc

set_option maxHeartbeats 4000000 in
set_option maxRecDepth 100000 in
theorem mt_J7_fill_d0a16 : m_Mt yJ7_fill_d0a16 cJ7_fill_d0a16 5 none 0 0 pt_fillJ := by
  refine m_methodG (fl := fl_J7) (kI := kI_J7) (kJ := kJ_J7) (ct := ct_none) (cd := cd_J7_fill_d0a16) (cut := [(6, [0, 1, 3, 4])]) (rk := 0) (fu := 80) (by decide +kernel) fl_J7_ok kI_J7_ok kJ_J7_ok (ce_none _ _ _ _ _) rfl ck_J7_fill_d0a16 ⟨_, _, rfl, rfl⟩ ?_
  intro sh rf As I J K hpt
  obtain ⟨ar, v, n, rfl, hsh, hn, hK⟩ := hpt
  refine ⟨Nat.le_of_ble_eq_true rfl, fun a _ pc vs st I1 J1 => ∃ i, vs = [.inr (.inr ar), .inr (.inl v), .inl (nI i), .inl (nI n)] ∧ st = [] ∧ i ≤ n ∧ a = n - i ∧ (∀ q, q ≠ ar → J1 q = J q) ∧ (∀ k, k < i → J1 ar k = v) ∧ I1 = I, ?_, ?_⟩
  · refine And.intro (m_isa_i hsh (by decide)) (Exists.intro n (Exists.intro 0 ⟨0, ?_, rfl, Nat.zero_le _, by omega, fun _ _ => rfl, fun k h => absurd h (Nat.not_lt_zero k), rfl⟩))
    rw [m_len_i hsh, nI_0]
  · intro pc ks a b vs st I1 J1 hc hI
    rcases m_cu1 hc with ⟨rfl, rfl⟩ | hc
    · obtain ⟨i, rfl, rfl, hi, rfl, e1, e2, rfl⟩ := hI
      refine And.intro (fun h => ?_) (fun h => ?_)
      · have : n ≤ i := (nI_leI (by omega) (by omega)).mp h
        exact hK J1 e1 (fun k hk => e2 k (by omega))
      · have hlt : i < n := by
          rcases Nat.lt_or_ge i n with q | q
          · exact q
          · exact absurd (nI_le q (by omega)) h
        refine And.intro (m_inb_i hsh (vp_in_nI hlt hn)) (Exists.intro (n - (i + 1)) (Exists.intro 0 (And.intro (Or.inl (by omega)) ⟨i + 1, ?_, rfl, by omega, rfl, ?_, ?_, rfl⟩)))
        · rw [← nI_1]
        · intro q hq
          rw [uJ_a _ _ _ hq, e1 q hq]
        · intro k hk
          rw [nI_clamp (by omega)]
          by_cases hki : k = i
          · subst hki
            rw [uJ_s]
          · rw [uJ_k _ _ _ hki, e2 k (by omega)]
    · cases hc

def ct_J7_fill_fda19 (sh : mSH) (rf : mRF) : Nat → Option (Nat × Bool × mPT) := fun k => match k with
  | 13 => some (3, false, pt_rangeCheck sh rf)
  | _ => none
set_option maxRecDepth 20000 in
theorem ce_J7_fill_fda19 : m_CE RJ7 1 22 cJ7_fill_fda19 5 ct_J7_fill_fda19 := by
  intro p l e s m args below meth c Q D cs ad sh rf N hx hb hml hown hts hK hi hN k n vf pt h
  unfold ct_J7_fill_fda19 at h
  split at h
  · cases h
    exact m_CG_S mt_J7_rangeCheck_23922 hx hb hml hown hts hK hi hN (m_wck_ok (l := [(Cond.methodLink RJ7 13 yJ7_rangeCheck_23922, 343), (Cond.static yJ7_rangeCheck_23922, 344), (Cond.initialized RJ7, 63), (Cond.code yJ7_rangeCheck_23922 cJ7_rangeCheck_23922 3 none, 345)]) (by decide +kernel)) ⟨by decide +kernel, by decide +kernel, by decide +kernel⟩ ⟨Nat.le_of_ble_eq_true rfl, Nat.le_of_ble_eq_true rfl⟩
  · cases h
set_option maxHeartbeats 4000000 in
set_option maxRecDepth 100000 in
theorem mt_J7_fill_fda19 : m_Mt yJ7_fill_fda19 cJ7_fill_fda19 5 none 1 22 pt_fillR := by
  refine m_methodG (fl := fl_J7) (kI := kI_J7) (kJ := kJ_J7) (ct := ct_J7_fill_fda19) (cd := cd_J7_fill_fda19) (cut := [(10, [0, 2, 3, 4])]) (rk := 0) (fu := 80) (by decide +kernel) fl_J7_ok kI_J7_ok kJ_J7_ok ce_J7_fill_fda19 rfl ck_J7_fill_fda19 ⟨_, _, rfl, rfl⟩ ?_
  intro sh rf As I J K hpt
  obtain ⟨ar, p, q, v, n, rfl, hsh, hpq, hqn, hn, hK⟩ := hpt
  refine ⟨Nat.le_of_ble_eq_true rfl, fun a _ pc vs st I1 J1 => ∃ i, vs = [.inr (.inr ar), .inl (nI q), .inl v, .inl (nI i)] ∧ st = [] ∧ p ≤ i ∧ i ≤ q ∧ a = q - i ∧ (∀ r, r ≠ ar → I1 r = I r) ∧ (∀ k, p ≤ k → k < i → I1 ar k = v) ∧ (∀ k, (k < p ∨ i ≤ k) → I1 ar k = I ar k) ∧ J1 = J, ?_, ?_⟩
  · refine And.intro (m_isa_i hsh (by decide)) ⟨n, p, q, ?_, hpq, hqn, hn, ?_⟩
    · rw [m_len_i hsh]
      rfl
    · exact Exists.intro (q - p) (Exists.intro 0 ⟨p, rfl, rfl, Nat.le_refl _, hpq, rfl, fun _ _ => rfl, fun k h1 h2 => absurd h2 (by omega), fun k _ => rfl, rfl⟩)
  · intro pc ks a b vs st I1 J1 hc hI
    rcases m_cu1 hc with ⟨rfl, rfl⟩ | hc
    · obtain ⟨i, rfl, rfl, hpi, hiq, rfl, e1, e2, e3, rfl⟩ := hI
      refine And.intro (fun h => ?_) (fun h => ?_)
      · have : q ≤ i := (nI_leI (by omega) (by omega)).mp h
        exact hK I1 e1 (fun k h1 hk => e2 k h1 (by omega)) (fun k hk => e3 k (by omega))
      · have hlt : i < q := by
          rcases Nat.lt_or_ge i q with z | z
          · exact z
          · exact absurd (nI_le z (by omega)) h
        refine And.intro (m_inb_i hsh (vp_in_nI (by omega) hn)) (Exists.intro (q - (i + 1)) (Exists.intro 0 (And.intro (Or.inl (by omega)) ⟨i + 1, ?_, rfl, by omega, by omega, rfl, ?_, ?_, ?_, rfl⟩)))
        · rw [← nI_1]
        · intro r hr
          rw [uI_a _ _ _ hr, e1 r hr]
        · intro k h1 hk
          rw [nI_clamp (by omega)]
          by_cases hki : k = i
          · subst hki
            rw [uI_s]
          · rw [uI_k _ _ _ hki, e2 k h1 (by omega)]
        · intro k hk
          rw [nI_clamp (by omega), uI_k _ _ _ (by omega), e3 k (by omega)]
    · cases hc

/-- ones among six bits -/
def popc (c : Nat) : Nat := c % 2 + c / 2 % 2 + c / 4 % 2 + c / 8 % 2 + c / 16 % 2 + c / 32 % 2
def pt_bitCount (_ : mSH) (_ : mRF) : mPT := fun As I J K => ∃ c : Nat, As = [.inl (nI c)] ∧ c < 64 ∧ K (some (.inl (nI (popc c)))) I J
def bcJ (x : Int32) : Int32 :=
  let s (a b : Int32) : Int32 := (a.toUInt32 >>> (b.toUInt32 &&& Int32.toUInt32 31)).toInt32
  let a := x - (s x 1 &&& 1431655765)
  let b := (a &&& 858993459) + (s a 2 &&& 858993459)
  let d := (b + s b 4) &&& 252645135
  let f := d + s d 8
  let g := f + s f 16
  g &&& 63
theorem bcJ_ok : ∀ c, c < 64 → bcJ (nI c) = nI (popc c) := by decide +kernel
set_option maxHeartbeats 4000000 in
set_option maxRecDepth 100000 in
theorem mt_J6_bitCount_0f7a4 : m_Mt yJ6_bitCount_0f7a4 cJ6_bitCount_0f7a4 1 (some .int) 0 0 pt_bitCount := by
  refine m_method0 80 (fl := fl_J6) (kI := kI_J6) (kJ := kJ_J6) (ct := ct_none) (cd := cd_J6_bitCount_0f7a4) (rk := 1) (by decide +kernel) fl_J6_ok kI_J6_ok kJ_J6_ok (ce_none _ _ _ _ _) rfl ck_J6_bitCount_0f7a4 ⟨_, _, rfl, rfl⟩ ?_
  intro sh rf As I J K hpt
  obtain ⟨c, rfl, hc, hK⟩ := hpt
  rw [← bcJ_ok c hc] at hK
  exact ⟨Nat.le_of_ble_eq_true rfl, hK⟩

def pt_nlz (_ : mSH) (_ : mRF) : mPT := fun As I J K => ∃ x : Int32, As = [.inl x] ∧ x ≠ 0 ∧ ∀ r : Nat, r ≤ 31 → 2 ^ (31 - r) ≤ u32 x → u32 x < 2 ^ (32 - r) → K (some (.inl (nI r))) I J
theorem u32_int (x : Int32) : (2 * u32 x < 4294967296 → x.toInt = (u32 x : Int)) ∧ (4294967296 ≤ 2 * u32 x → x.toInt = (u32 x : Int) - 4294967296) := by
  have h := BitVec.toInt_eq_toNat_cond x.toBitVec
  have e : x.toInt = x.toBitVec.toInt := rfl
  rw [e, h]
  unfold u32
  refine ⟨fun q => ?_, fun q => ?_⟩
  · rw [if_pos (by omega)]
  · rw [if_neg (by omega)]
    rfl
theorem nI_dec {m k : Nat} {c : Int32} (hc : nI k + c = 0) : nI (m + k) + c = nI m := by rw [← nI_add, Int32.add_assoc, hc, Int32.add_zero]
theorem i_pos_e {x : Int32} (h : 0 < x) : x = nI (u32 x) ∧ 0 < u32 x ∧ u32 x < 2 ^ 31 := by
  have h1 : (0 : Int) < x.toInt := by simpa using Int32.lt_iff_toInt_lt.mp h
  have h2 := u32_lt x
  have e := u32_int x
  refine ⟨nI_of32 x, ?_, ?_⟩
  · rcases Nat.lt_or_ge (2 * u32 x) 4294967296 with q | q
    · have := e.1 q; omega
    · omega
  · rcases Nat.lt_or_ge (2 * u32 x) 4294967296 with q | q
    · omega
    · have := e.2 q; omega
theorem i_npos_e {x : Int32} (h : ¬ 0 < x) (h0 : x ≠ 0) : 2 ^ 31 ≤ u32 x := by
  have h1 : ¬ (0 : Int) < x.toInt := fun q => h (by rw [Int32.lt_iff_toInt_lt]; simpa using q)
  have e := u32_int x
  have h3 : u32 x ≠ 0 := fun q => h0 (u32_0.mp q)
  rcases Nat.lt_or_ge (2 * u32 x) 4294967296 with q | q
  · have := e.1 q; omega
  · omega
theorem i_ushr {n : Nat} (k : Nat) (s : Int32) (hn : n < 2 ^ 32) (hs : ((s.toUInt32 &&& Int32.toUInt32 31).toBitVec % 32).toNat = k) : ((nI n).toUInt32 >>> (s.toUInt32 &&& Int32.toUInt32 31)).toInt32 = nI (n / 2 ^ k) := pk_ushrN hn s k hs
set_option maxHeartbeats 4000000 in
set_option maxRecDepth 100000 in
theorem mt_J6_numberOfLeadingZeros_0f7a4 : m_Mt yJ6_numberOfLeadingZeros_0f7a4 cJ6_numberOfLeadingZeros_0f7a4 2 (some .int) 0 0 pt_nlz := by
  refine m_methodG (fl := fl_J6) (kI := kI_J6) (kJ := kJ_J6) (ct := ct_none) (cd := cd_J6_numberOfLeadingZeros_0f7a4) (cut := [(33, [0, 1]), (48, [0, 1]), (61, [0, 1]), (73, [0, 1])]) (rk := 1) (fu := 80) (by decide +kernel) fl_J6_ok kI_J6_ok kJ_J6_ok (ce_none _ _ _ _ _) rfl ck_J6_numberOfLeadingZeros_0f7a4 ⟨_, _, rfl, rfl⟩ ?_
  intro sh rf As I J K hpt
  obtain ⟨x, rfl, hx0, hK⟩ := hpt
  have st : ∀ (t n v1 W k : Nat), 2 ^ t * v1 ≤ u32 x → u32 x < 2 ^ t * (v1 + 1) → v1 < 2 ^ (W + k) → 2 ^ k ≤ v1 → 2 ^ (t + k) * (v1 / 2 ^ k) ≤ u32 x ∧ u32 x < 2 ^ (t + k) * (v1 / 2 ^ k + 1) ∧ v1 / 2 ^ k < 2 ^ W ∧ 1 ≤ v1 / 2 ^ k := by
    intro t n v1 W k h1 h2 h3 h4
    have e1 : 2 ^ k * (v1 / 2 ^ k) ≤ v1 := Nat.mul_div_le v1 (2 ^ k)
    have e2 : v1 < 2 ^ k * (v1 / 2 ^ k + 1) := by
      have := Nat.lt_mul_div_succ v1 (show 0 < 2 ^ k from Nat.two_pow_pos k)
      exact this
    refine ⟨?_, ?_, ?_, ?_⟩
    · rw [Nat.pow_add, Nat.mul_assoc]
      exact Nat.le_trans (Nat.mul_le_mul_left _ e1) h1
    · rw [Nat.pow_add, Nat.mul_assoc]
      exact Nat.lt_of_lt_of_le h2 (Nat.mul_le_mul_left _ e2)
    · rw [Nat.div_lt_iff_lt_mul (Nat.two_pow_pos k), ← Nat.pow_add]
      exact h3
    · exact (Nat.le_div_iff_mul_le (Nat.two_pow_pos k)).mpr (by rw [Nat.one_mul]; exact h4)
  refine ⟨Nat.le_of_ble_eq_true rfl, fun a _ pc vs st I1 J1 => ∃ t v1 W, vs = [.inl (nI v1), .inl (nI (31 - t))] ∧ st = [] ∧ I1 = I ∧ J1 = J ∧ t + W ≤ 32 ∧ 2 ^ t * v1 ≤ u32 x ∧ u32 x < 2 ^ t * (v1 + 1) ∧ 1 ≤ v1 ∧ v1 < 2 ^ W ∧ (pc = 33 ∧ W = 16 ∧ a = 4 ∨ pc = 48 ∧ W = 8 ∧ a = 3 ∨ pc = 61 ∧ W = 4 ∧ a = 2 ∨ pc = 73 ∧ W = 2 ∧ a = 1), ?_, ?_⟩
  · refine And.intro (fun h => ?_) (fun h => ?_)
    · obtain ⟨e, p1, p2⟩ := i_pos_e h
      refine And.intro (fun h => ?_) (fun h => ?_)
      · have h : x < nI 65536 := h
        rw [e] at h
        have h9 := (nI_ltI (by omega) (by decide)).mp h
        exact Exists.intro 4 (Exists.intro 0 ⟨0, u32 x, 16, by rw [← e]; rfl, rfl, rfl, rfl, by omega, by omega, by omega, by omega, by omega, Or.inl ⟨rfl, rfl, rfl⟩⟩)
      · have h : ¬ x < nI 65536 := h
        rw [e] at h
        have h9 : 65536 ≤ u32 x := by
          rcases Nat.lt_or_ge (u32 x) 65536 with q | q
          · exact absurd ((nI_ltI (by omega) (by decide)).mpr q) h
          · exact q
        obtain ⟨g1, g2, g3, g4⟩ := st 0 0 (u32 x) 15 16 (by omega) (by omega) (by omega) (by omega)
        refine Exists.intro 4 (Exists.intro 0 ⟨16, u32 x / 2 ^ 16, 16, ?_, rfl, rfl, rfl, by omega, g1, g2, g4, by omega, Or.inl ⟨rfl, rfl, rfl⟩⟩)
        have e3 := i_ushr 16 16 (u32_lt x) (by decide)
        rw [← e] at e3
        rw [← e3]
        rfl
    · have p1 := i_npos_e h hx0
      have p2 := u32_lt x
      exact And.intro (fun _ => hK 0 (by omega) p1 p2) (fun h2 => absurd h2 hx0)
  · intro pc ks a b vs st9 I1 J1 hc hI
    obtain ⟨t, v1, W, rfl, rfl, rfl, rfl, hW, h1, h2, h3, h4, h5⟩ := hI
    have hv : v1 < 2 ^ 16 := by
      rcases h5 with ⟨-, rfl, -⟩ | ⟨-, rfl, -⟩ | ⟨-, rfl, -⟩ | ⟨-, rfl, -⟩ <;> omega
    rcases m_cu1 hc with ⟨rfl, rfl⟩ | hc
    · obtain ⟨rfl, rfl⟩ : W = 16 ∧ a = 4 := by omega
      refine And.intro (fun h => ?_) (fun h => ?_)
      · have h9 := (nI_ltI (a := v1) (b := 256) (by omega) (by decide)).mp h
        exact Exists.intro 3 (Exists.intro 0 (And.intro (Or.inl (by omega)) ⟨t, v1, 8, rfl, rfl, rfl, rfl, by omega, h1, h2, h3, h9, Or.inr (Or.inl ⟨rfl, rfl, rfl⟩)⟩))
      · have h9 : 256 ≤ v1 := by
          rcases Nat.lt_or_ge v1 256 with q | q
          · exact absurd ((nI_ltI (a := v1) (b := 256) (by omega) (by decide)).mpr q) h
          · exact q
        obtain ⟨g1, g2, g3, g4⟩ := st t 0 v1 8 8 h1 h2 (by omega) h9
        refine Exists.intro 3 (Exists.intro 0 (And.intro (Or.inl (by omega)) ⟨t + 8, v1 / 2 ^ 8, 8, ?_, rfl, rfl, rfl, by omega, g1, g2, g4, g3, Or.inr (Or.inl ⟨rfl, rfl, rfl⟩)⟩))
        have e3 := i_ushr (n := v1) 8 8 (by omega) (by decide)
        have e4 : nI (31 - t) + (-8 : Int32) = nI (31 - (t + 8)) := by
          rw [show 31 - t = 31 - (t + 8) + 8 by omega]
          exact nI_dec (by decide)
        rw [← e3, ← e4]
    rcases m_cu1 hc with ⟨rfl, rfl⟩ | hc
    · obtain ⟨rfl, rfl⟩ : W = 8 ∧ a = 3 := by omega
      refine And.intro (fun h => ?_) (fun h => ?_)
      · have h9 := (nI_ltI (a := v1) (b := 16) (by omega) (by decide)).mp h
        exact Exists.intro 2 (Exists.intro 0 (And.intro (Or.inl (by omega)) ⟨t, v1, 4, rfl, rfl, rfl, rfl, by omega, h1, h2, h3, h9, Or.inr (Or.inr (Or.inl ⟨rfl, rfl, rfl⟩))⟩))
      · have h9 : 16 ≤ v1 := by
          rcases Nat.lt_or_ge v1 16 with q | q
          · exact absurd ((nI_ltI (a := v1) (b := 16) (by omega) (by decide)).mpr q) h
          · exact q
        obtain ⟨g1, g2, g3, g4⟩ := st t 0 v1 4 4 h1 h2 (by omega) h9
        refine Exists.intro 2 (Exists.intro 0 (And.intro (Or.inl (by omega)) ⟨t + 4, v1 / 2 ^ 4, 4, ?_, rfl, rfl, rfl, by omega, g1, g2, g4, g3, Or.inr (Or.inr (Or.inl ⟨rfl, rfl, rfl⟩))⟩))
        have e3 := i_ushr (n := v1) 4 4 (by omega) (by decide)
        have e4 : nI (31 - t) + (-4 : Int32) = nI (31 - (t + 4)) := by
          rw [show 31 - t = 31 - (t + 4) + 4 by omega]
          exact nI_dec (by decide)
        rw [← e3, ← e4]
    rcases m_cu1 hc with ⟨rfl, rfl⟩ | hc
    · obtain ⟨rfl, rfl⟩ : W = 4 ∧ a = 2 := by omega
      refine And.intro (fun h => ?_) (fun h => ?_)
      · have h9 := (nI_ltI (a := v1) (b := 4) (by omega) (by decide)).mp h
        exact Exists.intro 1 (Exists.intro 0 (And.intro (Or.inl (by omega)) ⟨t, v1, 2, rfl, rfl, rfl, rfl, by omega, h1, h2, h3, h9, Or.inr (Or.inr (Or.inr ⟨rfl, rfl, rfl⟩))⟩))
      · have h9 : 4 ≤ v1 := by
          rcases Nat.lt_or_ge v1 4 with q | q
          · exact absurd ((nI_ltI (a := v1) (b := 4) (by omega) (by decide)).mpr q) h
          · exact q
        obtain ⟨g1, g2, g3, g4⟩ := st t 0 v1 2 2 h1 h2 (by omega) h9
        refine Exists.intro 1 (Exists.intro 0 (And.intro (Or.inl (by omega)) ⟨t + 2, v1 / 2 ^ 2, 2, ?_, rfl, rfl, rfl, by omega, g1, g2, g4, g3, Or.inr (Or.inr (Or.inr ⟨rfl, rfl, rfl⟩))⟩))
        have e3 := i_ushr (n := v1) 2 2 (by omega) (by decide)
        have e4 : nI (31 - t) + (-2 : Int32) = nI (31 - (t + 2)) := by
          rw [show 31 - t = 31 - (t + 2) + 2 by omega]
          exact nI_dec (by decide)
        rw [← e3, ← e4]
    rcases m_cu1 hc with ⟨rfl, rfl⟩ | hc
    · obtain ⟨rfl, rfl⟩ : W = 2 ∧ a = 1 := by omega
      show K (some (.inl (nI (31 - t) - ((nI v1).toUInt32 >>> ((1 : Int32).toUInt32 &&& Int32.toUInt32 31)).toInt32))) _ _
      rw [i_ushr (n := v1) 1 1 (by omega) (by decide), pk_sub (by omega)]
      rcases (show v1 = 1 ∨ v1 = 2 ∨ v1 = 3 by omega) with rfl | rfl | rfl
      · refine hK _ (by omega) ?_ ?_
        · rw [show 31 - (31 - t - 1 / 2 ^ 1) = t by omega]; omega
        · rw [show 32 - (31 - t - 1 / 2 ^ 1) = t + 1 by omega, Nat.pow_succ]; omega
      · refine hK _ (by omega) ?_ ?_
        · rw [show 31 - (31 - t - 2 / 2 ^ 1) = t + 1 by omega, Nat.pow_succ]; omega
        · rw [show 32 - (31 - t - 2 / 2 ^ 1) = t + 2 by omega, show t + 2 = t + 1 + 1 by rfl, Nat.pow_succ, Nat.pow_succ]; omega
      · refine hK _ (by omega) ?_ ?_
        · rw [show 31 - (31 - t - 3 / 2 ^ 1) = t + 1 by omega, Nat.pow_succ]; omega
        · rw [show 32 - (31 - t - 3 / 2 ^ 1) = t + 2 by omega, show t + 2 = t + 1 + 1 by rfl, Nat.pow_succ, Nat.pow_succ]; omega
    · cases hc

theorem u32_and (x y : Int32) : u32 (x &&& y) = u32 x &&& u32 y := by
  unfold u32
  rw [Int32.toBitVec_and, BitVec.toNat_and]
theorem u32_not (x : Int32) : u32 (x ^^^ (-1)) = 2 ^ 32 - (u32 x + 1) := by
  unfold u32
  rw [Int32.toBitVec_xor, show (-1 : Int32).toBitVec = BitVec.allOnes 32 by decide, BitVec.xor_allOnes, BitVec.toNat_not]
  have := x.toBitVec.isLt
  omega
theorem u32_dec {x : Int32} (h : 1 ≤ u32 x) : u32 (x - 1) = u32 x - 1 := by
  have h2 := u32_lt x
  rw [nI_of32 x, show (1 : Int32) = nI 1 from rfl, pk_sub h, u32_nI, u32_nI]
  omega
theorem low_mask {v r y : Nat} (hv : v = 2 ^ r * (2 * y + 1)) (h32 : v < 2 ^ 32) : (2 ^ 32 - (v + 1)) &&& (v - 1) = 2 ^ r - 1 := by
  have hp : 0 < 2 ^ r := Nat.two_pow_pos r
  have e1 : v = 2 ^ r * (2 * y + 1) + 0 := by omega
  have e2 : v - 1 = 2 ^ r * (2 * y) + (2 ^ r - 1) := by
    rw [hv, Nat.mul_add, Nat.mul_one]
    omega
  apply Nat.eq_of_testBit_eq
  intro i
  rw [Nat.testBit_and, Nat.testBit_two_pow_sub_succ h32, e2, Nat.testBit_two_pow_mul_add _ (by omega), Nat.testBit_two_pow_sub_one]
  have e3 : v.testBit i = if i < r then Nat.testBit 0 i else (2 * y + 1).testBit (i - r) := by
    rw [e1, Nat.testBit_two_pow_mul_add _ hp]
  rw [e3]
  have hr : r < 32 := by
    rcases Nat.lt_or_ge r 32 with q | q
    · exact q
    · have h1 : 2 ^ 32 ≤ 2 ^ r := Nat.pow_le_pow_right (by omega) q
      have h3 : 2 ^ r * 1 ≤ 2 ^ r * (2 * y + 1) := Nat.mul_le_mul_left _ (by omega)
      omega
  by_cases hi : i < r
  · simp [hi, show i < 32 by omega]
  · simp only [hi, if_false, decide_false]
    rcases Nat.eq_zero_or_pos (i - r) with q | q
    · rw [q]
      simp
    · obtain ⟨j, hj⟩ : ∃ j, i - r = j + 1 := ⟨i - r - 1, by omega⟩
      rw [hj, Nat.testBit_succ, Nat.testBit_succ, show (2 * y + 1) / 2 = 2 * y / 2 by omega]
      cases (2 * y / 2).testBit j <;> simp
def pt_ntz (_ : mSH) (_ : mRF) : mPT := fun As I J K => ∃ (x : Int32) (r y : Nat), As = [.inl x] ∧ u32 x = 2 ^ r * (2 * y + 1) ∧ K (some (.inl (nI r))) I J
theorem two_cmp : ∀ a, a < 32 → (65536 < 2 ^ a - 1 ↔ 17 ≤ a) ∧ (256 < 2 ^ a - 1 ↔ 9 ≤ a) ∧ (16 < 2 ^ a - 1 ↔ 5 ≤ a) ∧ (4 < 2 ^ a - 1 ↔ 3 ≤ a) ∧ 2 ^ a - 1 < 2 ^ 31 := by decide +kernel
theorem two_div {a k : Nat} (h : k ≤ a) : (2 ^ a - 1) / 2 ^ k = 2 ^ (a - k) - 1 := by
  have e : 2 ^ a = 2 ^ k * 2 ^ (a - k) := by rw [← Nat.pow_add]; congr 1; omega
  have hp : 0 < 2 ^ k := Nat.two_pow_pos k
  have hq : 0 < 2 ^ (a - k) := Nat.two_pow_pos _
  rw [e]
  generalize 2 ^ (a - k) = m at hq ⊢
  obtain ⟨m', rfl⟩ : ∃ m', m = m' + 1 := ⟨m - 1, by omega⟩
  rw [Nat.mul_add, Nat.mul_one, Nat.add_sub_assoc hp, Nat.mul_add_div hp, Nat.div_eq_of_lt (by omega), Nat.add_sub_cancel, Nat.add_zero]
set_option maxHeartbeats 4000000 in
set_option maxRecDepth 100000 in
theorem mt_J6_numberOfTrailingZeros_0f7a4 : m_Mt yJ6_numberOfTrailingZeros_0f7a4 cJ6_numberOfTrailingZeros_0f7a4 2 (some .int) 0 0 pt_ntz := by
  refine m_methodG (fl := fl_J6) (kI := kI_J6) (kJ := kJ_J6) (ct := ct_none) (cd := cd_J6_numberOfTrailingZeros_0f7a4) (cut := [(34, [0, 1]), (49, [0, 1]), (62, [0, 1]), (74, [0, 1])]) (rk := 1) (fu := 80) (by decide +kernel) fl_J6_ok kI_J6_ok kJ_J6_ok (ce_none _ _ _ _ _) rfl ck_J6_numberOfTrailingZeros_0f7a4 ⟨_, _, rfl, rfl⟩ ?_
  intro sh rf As I J K hpt
  obtain ⟨x, r, y, rfl, hx, hK⟩ := hpt
  have h32 := u32_lt x
  have hp : 0 < 2 ^ r := Nat.two_pow_pos r
  have hr : r < 32 := by
    rcases Nat.lt_or_ge r 32 with q | q
    · exact q
    · have h1 : 2 ^ 32 ≤ 2 ^ r := Nat.pow_le_pow_right (by omega) q
      have h3 : 2 ^ r * 1 ≤ 2 ^ r * (2 * y + 1) := Nat.mul_le_mul_left _ (by omega)
      omega
  have hx1 : 1 ≤ u32 x := by
    rw [hx]
    exact Nat.mul_pos hp (by omega)
  have cr := two_cmp r hr
  have hm : (x ^^^ (-1)) &&& (x - 1) = nI (2 ^ r - 1) := by
    apply u32_inj
    rw [u32_and, u32_not, u32_dec hx1, low_mask hx h32, u32_nI, Nat.mod_eq_of_lt (by omega)]
  refine ⟨Nat.le_of_ble_eq_true rfl, fun a _ pc vs st I1 J1 => ∃ A n, vs = [.inl (nI (2 ^ A - 1)), .inl (nI n)] ∧ st = [] ∧ I1 = I ∧ J1 = J ∧ 1 ≤ A ∧ n + A = r + 1 ∧ (pc = 34 ∧ a = 4 ∧ A ≤ 16 ∨ pc = 49 ∧ a = 3 ∧ A ≤ 8 ∨ pc = 62 ∧ a = 2 ∧ A ≤ 4 ∨ pc = 74 ∧ a = 1 ∧ A ≤ 2), ?_, ?_⟩
  · refine And.intro (fun h => ?_) (fun h => ?_)
    · have h : 0 < (x ^^^ (-1)) &&& (x - 1) := h
      rw [hm] at h
      have hr1 : 1 ≤ r := by
        rcases Nat.eq_zero_or_pos r with q | q
        · rw [q] at h; exact absurd h (by decide)
        · exact q
      refine And.intro (fun h => ?_) (fun h => ?_)
      · have h : (x ^^^ (-1)) &&& (x - 1) ≤ nI 65536 := h
        rw [hm] at h
        have h9 : ¬ 65536 < 2 ^ r - 1 := fun q => absurd ((nI_ltI (a := 65536) (b := 2 ^ r - 1) (by decide) cr.2.2.2.2).mpr q) (by
          intro z
          rw [Int32.lt_iff_toInt_lt] at z
          rw [Int32.le_iff_toInt_le] at h
          exact absurd z (Int.not_lt.mpr h))
        rw [cr.1] at h9
        exact Exists.intro 4 (Exists.intro 0 ⟨r, 1, by rw [← hm]; rfl, rfl, rfl, rfl, hr1, by omega, Or.inl ⟨rfl, rfl, by omega⟩⟩)
      · have h : ¬ (x ^^^ (-1)) &&& (x - 1) ≤ nI 65536 := h
        rw [hm] at h
        have h9 : 65536 < 2 ^ r - 1 := by
          rcases Nat.lt_or_ge 65536 (2 ^ r - 1) with q | q
          · exact q
          · exact absurd (nI_le q (by decide)) h
        rw [cr.1] at h9
        refine Exists.intro 4 (Exists.intro 0 ⟨r - 16, 17, ?_, rfl, rfl, rfl, by omega, by omega, Or.inl ⟨rfl, rfl, by omega⟩⟩)
        have e3 := i_ushr (n := 2 ^ r - 1) 16 16 (by have := cr.2.2.2.2; omega) (by decide)
        rw [two_div (by omega), ← hm] at e3
        rw [← e3]
        rfl
    · have h : ¬ 0 < (x ^^^ (-1)) &&& (x - 1) := h
      rw [hm] at h
      have hr0 : r = 0 := by
        rcases Nat.eq_zero_or_pos r with q | q
        · exact q
        · refine absurd ((nI_ltI (a := 0) (b := 2 ^ r - 1) (by decide) cr.2.2.2.2).mpr ?_) h
          have : 2 ^ 1 ≤ 2 ^ r := Nat.pow_le_pow_right (by omega) q
          omega
      subst hr0
      have e5 : ((x ^^^ (-1)) &&& (x - 1)) &&& 32 = nI 0 := by rw [hm]; decide
      rw [← e5] at hK
      exact hK
  · intro pc ks a b vs st9 I1 J1 hc hI
    obtain ⟨A, n, rfl, rfl, rfl, rfl, h1, h2, h5⟩ := hI
    have c1 := two_cmp A (by omega)
    rcases m_cu1 hc with ⟨rfl, rfl⟩ | hc
    · obtain ⟨hA, rfl⟩ : A ≤ 16 ∧ a = 4 := by omega
      refine And.intro (fun h => ?_) (fun h => ?_)
      · have h9 : ¬ 256 < 2 ^ A - 1 := fun q => absurd ((nI_ltI (a := 256) (b := 2 ^ A - 1) (by decide) c1.2.2.2.2).mpr q) (by
          intro z
          rw [Int32.lt_iff_toInt_lt] at z
          rw [Int32.le_iff_toInt_le] at h
          exact absurd z (Int.not_lt.mpr h))
        rw [c1.2.1] at h9
        exact Exists.intro 3 (Exists.intro 0 (And.intro (Or.inl (by omega)) ⟨A, n, rfl, rfl, rfl, rfl, h1, h2, Or.inr (Or.inl ⟨rfl, rfl, by omega⟩)⟩))
      · have h9 : 256 < 2 ^ A - 1 := by
          rcases Nat.lt_or_ge 256 (2 ^ A - 1) with q | q
          · exact q
          · exact absurd (nI_le q (by decide)) h
        rw [c1.2.1] at h9
        refine Exists.intro 3 (Exists.intro 0 (And.intro (Or.inl (by omega)) ⟨A - 8, n + 8, ?_, rfl, rfl, rfl, by omega, by omega, Or.inr (Or.inl ⟨rfl, rfl, by omega⟩)⟩))
        have e3 := i_ushr (n := 2 ^ A - 1) 8 8 (by have := c1.2.2.2.2; omega) (by decide)
        rw [two_div (by omega)] at e3
        have e4 : nI n + (8 : Int32) = nI (n + 8) := nI_add n 8
        rw [← e3, ← e4]
    rcases m_cu1 hc with ⟨rfl, rfl⟩ | hc
    · obtain ⟨hA, rfl⟩ : A ≤ 8 ∧ a = 3 := by omega
      refine And.intro (fun h => ?_) (fun h => ?_)
      · have h9 : ¬ 16 < 2 ^ A - 1 := fun q => absurd ((nI_ltI (a := 16) (b := 2 ^ A - 1) (by decide) c1.2.2.2.2).mpr q) (by
          intro z
          rw [Int32.lt_iff_toInt_lt] at z
          rw [Int32.le_iff_toInt_le] at h
          exact absurd z (Int.not_lt.mpr h))
        rw [c1.2.2.1] at h9
        exact Exists.intro 2 (Exists.intro 0 (And.intro (Or.inl (by omega)) ⟨A, n, rfl, rfl, rfl, rfl, h1, h2, Or.inr (Or.inr (Or.inl ⟨rfl, rfl, by omega⟩))⟩))
      · have h9 : 16 < 2 ^ A - 1 := by
          rcases Nat.lt_or_ge 16 (2 ^ A - 1) with q | q
          · exact q
          · exact absurd (nI_le q (by decide)) h
        rw [c1.2.2.1] at h9
        refine Exists.intro 2 (Exists.intro 0 (And.intro (Or.inl (by omega)) ⟨A - 4, n + 4, ?_, rfl, rfl, rfl, by omega, by omega, Or.inr (Or.inr (Or.inl ⟨rfl, rfl, by omega⟩))⟩))
        have e3 := i_ushr (n := 2 ^ A - 1) 4 4 (by have := c1.2.2.2.2; omega) (by decide)
        rw [two_div (by omega)] at e3
        have e4 : nI n + (4 : Int32) = nI (n + 4) := nI_add n 4
        rw [← e3, ← e4]
    rcases m_cu1 hc with ⟨rfl, rfl⟩ | hc
    · obtain ⟨hA, rfl⟩ : A ≤ 4 ∧ a = 2 := by omega
      refine And.intro (fun h => ?_) (fun h => ?_)
      · have h9 : ¬ 4 < 2 ^ A - 1 := fun q => absurd ((nI_ltI (a := 4) (b := 2 ^ A - 1) (by decide) c1.2.2.2.2).mpr q) (by
          intro z
          rw [Int32.lt_iff_toInt_lt] at z
          rw [Int32.le_iff_toInt_le] at h
          exact absurd z (Int.not_lt.mpr h))
        rw [c1.2.2.2.1] at h9
        exact Exists.intro 1 (Exists.intro 0 (And.intro (Or.inl (by omega)) ⟨A, n, rfl, rfl, rfl, rfl, h1, h2, Or.inr (Or.inr (Or.inr ⟨rfl, rfl, by omega⟩))⟩))
      · have h9 : 4 < 2 ^ A - 1 := by
          rcases Nat.lt_or_ge 4 (2 ^ A - 1) with q | q
          · exact q
          · exact absurd (nI_le q (by decide)) h
        rw [c1.2.2.2.1] at h9
        refine Exists.intro 1 (Exists.intro 0 (And.intro (Or.inl (by omega)) ⟨A - 2, n + 2, ?_, rfl, rfl, rfl, by omega, by omega, Or.inr (Or.inr (Or.inr ⟨rfl, rfl, by omega⟩))⟩))
        have e3 := i_ushr (n := 2 ^ A - 1) 2 2 (by have := c1.2.2.2.2; omega) (by decide)
        rw [two_div (by omega)] at e3
        have e4 : nI n + (2 : Int32) = nI (n + 2) := nI_add n 2
        rw [← e3, ← e4]
    rcases m_cu1 hc with ⟨rfl, rfl⟩ | hc
    · obtain ⟨hA, rfl⟩ : A ≤ 2 ∧ a = 1 := by omega
      show K (some (.inl (nI n + ((nI (2 ^ A - 1)).toUInt32 >>> ((1 : Int32).toUInt32 &&& Int32.toUInt32 31)).toInt32))) _ _
      rw [i_ushr (n := 2 ^ A - 1) 1 1 (by have := c1.2.2.2.2; omega) (by decide), two_div (by omega), nI_add]
      rcases (show A = 1 ∨ A = 2 by omega) with rfl | rfl
      · rw [show n + (2 ^ (1 - 1) - 1) = r by omega]
        exact hK
      · rw [show n + (2 ^ (2 - 1) - 1) = r by omega]
        exact hK
    · cases hc

