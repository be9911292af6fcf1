/-! ===== Big: what its cells say ===== -/
def BSh (sh : mSH) (rf : mRF) (b cap : Nat) : Prop := sh b = .inl 0 ∧ sh (rf b 0) = .inr (0, cap) ∧ 2 ≤ cap ∧ cap < 2 ^ 20
def BL (sh : mSH) (rf : mRF) : Prop := ∀ b c, sh b = .inl 0 → sh c = .inl 0 → rf b 0 = rf c 0 → b = c
def bdg (rf : mRF) (I : mPI) (b : Nat) : Nat → Nat := fun i => u32 (I (rf b 0) i)
def BIs (sh : mSH) (rf : mRF) (I : mPI) (b : Nat) (z : Int) : Prop := ∃ cap n, BSh sh rf b cap ∧ I b 1 = nI n ∧ n ≤ cap ∧ (0 < n → I (rf b 0) (n - 1) ≠ 0) ∧ I b 2 = (if z < 0 then 1 else 0) ∧ dv (2 ^ 32) (bdg rf I b) n = z.natAbs
/-- nothing but b's own cells has changed -/
def BCh (rf : mRF) (I I1 : mPI) (b : Nat) : Prop := ∀ a, a ≠ b → a ≠ rf b 0 → I1 a = I a
theorem BSh.ne {sh : mSH} {rf : mRF} {b cap : Nat} (h : BSh sh rf b cap) : b ≠ rf b 0 := by
  intro e
  have h1 := h.2.1
  rw [← e, h.1] at h1
  cases h1
theorem BSh.nex {sh : mSH} {rf : mRF} {b c cap cap2 : Nat} (h : BSh sh rf b cap) (h2 : BSh sh rf c cap2) : b ≠ rf c 0 := by
  intro e
  have h1 := h2.2.1
  rw [← e, h.1] at h1
  cases h1
theorem BSh.cap {sh : mSH} {rf : mRF} {b cap cap2 : Nat} (h : BSh sh rf b cap) (h2 : BSh sh rf b cap2) : cap = cap2 := by
  have h1 := h.2.1
  rw [h2.2.1] at h1
  cases h1
  rfl
theorem bdg_lt (rf : mRF) (I : mPI) (b i : Nat) : bdg rf I b i < 2 ^ 32 := u32_lt _
theorem BIs.lim {sh : mSH} {rf : mRF} {I : mPI} {b cap n m : Nat} {z : Int} (h4 : 0 < n → I (rf b 0) (n - 1) ≠ 0) (h6 : dv (2 ^ 32) (bdg rf I b) n = z.natAbs) (hm : z.natAbs < 2 ^ (32 * m)) : n ≤ m := by
  rcases Nat.lt_or_ge m n with q | q
  · exfalso
    obtain ⟨k, rfl⟩ : ∃ k, n = k + 1 := ⟨n - 1, by omega⟩
    have h1 : (2 ^ 32) ^ k ≤ dv (2 ^ 32) (bdg rf I b) (k + 1) := dv_top (fun e => h4 (by omega) (u32_0.mp e))
    rw [h6, ← Nat.pow_mul] at h1
    have h2 : 2 ^ (32 * m) ≤ 2 ^ (32 * k) := Nat.pow_le_pow_right (by omega) (by omega)
    omega
  · exact q
theorem BIs.zero {sh : mSH} {rf : mRF} {I : mPI} {b n : Nat} {z : Int} (h4 : 0 < n → I (rf b 0) (n - 1) ≠ 0) (h6 : dv (2 ^ 32) (bdg rf I b) n = z.natAbs) : n = 0 ↔ z = 0 := by
  constructor
  · intro e
    subst e
    have : z.natAbs = 0 := h6.symm
    omega
  · intro e
    subst e
    have := BIs.lim (cap := 0) (sh := sh) h4 h6 (m := 0) (by decide)
    omega
/-- the cells as they are at another heap that agrees on b -/
theorem BIs.keep {sh : mSH} {rf : mRF} {I I1 : mPI} {b : Nat} {z : Int} (h : BIs sh rf I b z) (h1 : I1 b = I b) (h2 : I1 (rf b 0) = I (rf b 0)) : BIs sh rf I1 b z := by
  obtain ⟨cap, n, a1, a2, a3, a4, a5, a6⟩ := h
  refine ⟨cap, n, a1, by rw [h1]; exact a2, a3, by rw [h2]; exact a4, by rw [h1]; exact a5, ?_⟩
  rw [← a6]
  apply dv_congr
  intro i _
  unfold bdg
  rw [h2]
/-- another number's cells stay, when b's change -/
theorem BIs.other {sh : mSH} {rf : mRF} {I I1 : mPI} {b c cap : Nat} {z : Int} (hB : BL sh rf) (hb : BSh sh rf b cap) (h : BIs sh rf I c z) (hn : c ≠ b) (hc : BCh rf I I1 b) : BIs sh rf I1 c z := by
  obtain ⟨cap2, n, a1, ar⟩ := id h
  refine h.keep (hc c hn (a1.nex hb)) (hc (rf c 0) (fun e => hb.nex a1 e.symm) (fun e => hn (hB c b a1.1 hb.1 e)))
theorem BCh.rfl' (rf : mRF) (I : mPI) (b : Nat) : BCh rf I I b := fun _ _ _ => rfl
theorem BCh.trans {rf : mRF} {I I1 I2 : mPI} {b : Nat} (h : BCh rf I I1 b) (h2 : BCh rf I1 I2 b) : BCh rf I I2 b := fun a q r => (h2 a q r).trans (h a q r)
/-! ===== trim, makeRoom ===== -/
def pt_trim : mSH → mRF → mPT := m_pv 0 (fun sh rf b rest I J K => ∃ (cap n : Nat) (z : Int), rest = [] ∧ BSh sh rf b cap ∧ I b 1 = nI n ∧ n ≤ cap ∧ dv (2 ^ 32) (bdg rf I b) n = z.natAbs ∧ (z < 0 → I b 2 = 1) ∧ (0 < z → I b 2 = 0) ∧ ∀ I1, (∀ a, a ≠ b → I1 a = I a) → BIs sh rf I1 b z → K none I1 J)
def pt_makeRoom : mSH → mRF → mPT := m_pv 0 (fun sh rf b rest I J K => ∃ cap r : Nat, rest = [.inl (nI r)] ∧ BSh sh rf b cap ∧ r ≤ cap ∧ K none I J)
set_option maxHeartbeats 4000000 in
set_option maxRecDepth 100000 in
theorem mt_X0_trim : m_Mt yX0_trim cX0_trim 1 none 0 0 pt_trim := by
  refine m_methodG (fl := fl_X0) (kI := kI_X0) (kJ := kJ_X0) (ct := ct_none) (cd := cd_X0_trim) (cut := [(0, [0]), (34, [0])]) (rk := 0) (fu := 80) (by decide +kernel) fl_X0_ok kI_X0_ok kJ_X0_ok (ce_none _ _ _ _ _) rfl ck_X0_trim ⟨_, _, rfl, rfl⟩ ?_
  intro sh rf As I J K hpt
  obtain ⟨b, rest, rfl, hb, cap, n, z, rfl, hB, hn, hnc, hz, hz1, hz2, hK⟩ := hpt
  have hcap := hB.2.2.2
  have hne := hB.ne
  have fin : ∀ (m : Nat) (I1 : mPI), m ≤ n → I1 b 1 = nI m → (∀ q, q ≠ b → I1 q = I q) → (∀ i, m ≤ i → i < n → I (rf b 0) i = 0) → (0 < m → I (rf b 0) (m - 1) ≠ 0) → I1 b 2 = (if m = 0 then 0 else I b 2) → BIs sh rf I1 b z := by
    intro m I1 h1 h2 h3 h4 h5 h6
    have hp : I1 (rf b 0) = I (rf b 0) := h3 _ (fun e => hne e.symm)
    have hd : dv (2 ^ 32) (bdg rf I1 b) m = z.natAbs := by
      rw [← hz, dv_ext h1 (fun i a1 a2 => by unfold bdg; rw [h4 i a1 a2]; rfl)]
      apply dv_congr
      intro i _
      unfold bdg
      rw [hp]
    have h5' : 0 < m → I1 (rf b 0) (m - 1) ≠ 0 := by rw [hp]; exact h5
    refine ⟨cap, m, hB, h2, by omega, h5', ?_, hd⟩
    have hz0 := BIs.zero (sh := sh) h5' hd
    rw [h6]
    by_cases hm : m = 0
    · rw [if_pos hm, hz0.mp hm]
      rfl
    · rw [if_neg hm]
      rcases Int.lt_trichotomy z 0 with q | q | q
      · rw [if_pos q, hz1 q]
      · exact absurd (hz0.mpr q) hm
      · rw [if_neg (by omega), hz2 q]
  refine ⟨Nat.le_of_ble_eq_true rfl, fun a b9 pc vs st I1 J1 => ∃ m, vs = [.inr (.inr b)] ∧ st = [] ∧ J1 = J ∧ a = m ∧ m ≤ n ∧ I1 b 1 = nI m ∧ I1 b 2 = I b 2 ∧ (∀ q, q ≠ b → I1 q = I q) ∧ (∀ i, m ≤ i → i < n → I (rf b 0) i = 0) ∧ (pc = 0 ∧ b9 = 1 ∨ pc = 34 ∧ b9 = 0 ∧ (0 < m → I (rf b 0) (m - 1) ≠ 0)), ?_, ?_⟩
  · exact Exists.intro n (Exists.intro 1 ⟨n, rfl, rfl, rfl, rfl, Nat.le_refl _, hn, rfl, fun _ _ => rfl, fun i h1 h2 => absurd h2 (by omega), Or.inl ⟨rfl, rfl⟩⟩)
  · intro pc ks a b9 vs st I1 J1 hc hI
    obtain ⟨m, rfl, rfl, rfl, rfl, hm, e1, e2, e3, e4, e5⟩ := hI
    have hp : I1 (rf b 0) = I (rf b 0) := e3 _ (fun e => hne e.symm)
    rcases m_cu1 hc with ⟨rfl, rfl⟩ | hc
    · obtain rfl : b9 = 1 := by omega
      refine And.intro hb (And.intro (fun h => ?_) (fun h => ?_))
      · have h : I1 b 1 ≤ nI 0 := h
        rw [e1] at h
        have := (nI_leI (by omega) (by decide)).mp h
        exact Exists.intro a (Exists.intro 0 (And.intro (Or.inr ⟨rfl, by omega⟩) ⟨a, rfl, rfl, rfl, rfl, hm, e1, e2, e3, e4, Or.inr ⟨rfl, rfl, fun h9 => absurd h9 (by omega)⟩⟩))
      · have h : ¬ I1 b 1 ≤ nI 0 := h
        rw [e1] at h
        have hm1 : 0 < a := by
          rcases Nat.eq_zero_or_pos a with q | q
          · rw [q] at h; exact absurd (nI_le (Nat.le_refl _) (by decide)) h
          · exact q
        have e6 : I1 b 1 - 1 = nI (a - 1) := by rw [e1]; exact pk_sub (b := 1) hm1
        refine And.intro hb (And.intro hb (And.intro ?_ ?_))
        · show m_inb sh (rf b 0) 0 (I1 b 1 - 1)
          rw [e6]
          exact m_inb_i hB.2.1 (vp_in_nI (by omega) (by omega))
        · refine And.intro (fun h2 => ?_) (fun h2 => ?_)
          · have h2 : ¬ I1 (rf b 0) (I1 b 1 - 1).toNatClampNeg = 0 := h2
            rw [e6, nI_clamp (by omega), hp] at h2
            exact Exists.intro a (Exists.intro 0 (And.intro (Or.inr ⟨rfl, by omega⟩) ⟨a, rfl, rfl, rfl, rfl, hm, e1, e2, e3, e4, Or.inr ⟨rfl, rfl, fun _ => h2⟩⟩))
          · have h2 : I1 (rf b 0) (I1 b 1 - 1).toNatClampNeg = 0 := h2
            rw [e6, nI_clamp (by omega), hp] at h2
            refine And.intro hb (And.intro hb (Exists.intro (a - 1) (Exists.intro 1 (And.intro (Or.inl (by omega)) ⟨a - 1, rfl, rfl, rfl, rfl, by omega, ?_, ?_, ?_, ?_, Or.inl ⟨rfl, rfl⟩⟩))))
            · rw [uI_s]
              exact e6
            · rw [uI_k _ _ _ (by decide), e2]
            · intro q hq
              rw [uI_a _ _ _ hq, e3 q hq]
            · intro i h8 h9
              rcases Nat.eq_or_lt_of_le h8 with q | q
              · rw [← q]; exact h2
              · exact e4 i (by omega) h9
    rcases m_cu1 hc with ⟨rfl, rfl⟩ | hc
    · obtain ⟨rfl, h5⟩ : b9 = 0 ∧ (0 < a → I (rf b 0) (a - 1) ≠ 0) := by
        rcases e5 with ⟨q, -⟩ | ⟨-, q1, q2⟩
        · cases q
        · exact ⟨q1, q2⟩
      refine And.intro hb (And.intro (fun h => ?_) (fun h => ?_))
      · have h : ¬ I1 b 1 = 0 := h
        rw [e1] at h
        exact hK I1 e3 (fin a I1 hm e1 e3 e4 h5 (by rw [if_neg (fun q => h (by rw [q]; rfl)), e2]))
      · have h : I1 b 1 = nI 0 := h
        rw [e1] at h
        have h0 : a = 0 := (nI_eq (by omega) (by decide)).mp h
        subst h0
        refine And.intro hb (And.intro (Or.inl rfl) ?_)
        refine hK _ (fun q hq => by rw [uI_a _ _ _ hq, e3 q hq]) (fin 0 _ hm ?_ (fun q hq => by rw [uI_a _ _ _ hq, e3 q hq]) e4 h5 ?_)
        · rw [uI_k _ _ _ (by decide)]
          exact e1
        · rw [uI_s]
          rfl
    · cases hc

set_option maxHeartbeats 4000000 in
set_option maxRecDepth 100000 in
theorem mt_X0_makeRoom : m_Mt yX0_makeRoom cX0_makeRoom 2 none 0 0 pt_makeRoom := by
  refine m_method0 80 (fl := fl_X0) (kI := kI_X0) (kJ := kJ_X0) (ct := ct_none) (cd := cd_X0_makeRoom) (rk := 0) (by decide +kernel) fl_X0_ok kI_X0_ok kJ_X0_ok (ce_none _ _ _ _ _) rfl ck_X0_makeRoom ⟨_, _, rfl, rfl⟩ ?_
  intro sh rf As I J K hpt
  obtain ⟨b, rest, rfl, hb, cap, r, rfl, hB, hr, hK⟩ := hpt
  have hcap := hB.2.2.2
  refine ⟨Nat.le_of_ble_eq_true rfl, And.intro hb (And.intro (m_isa_i hB.2.1 (by decide)) (And.intro (fun h => hK) (fun h => ?_)))⟩
  refine absurd ?_ h
  show nI r ≤ m_len sh (rf b 0)
  rw [m_len_i hB.2.1]
  exact nI_le hr (by omega)

