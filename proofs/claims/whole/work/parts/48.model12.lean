/-! ===== the reference: roots, good, few, told, the kernel ===== -/
def TelM (I : mPI) (J : mPJ) (K : mKT) (r : Nat → Int32) : Prop := ∃ (l : Nat) (σ : Nat → Int), I 528 5 = nI l ∧ l ≤ 11 ∧ BM J ∧ MS I σ ∧ ∀ I1 σ', MO I I1 → MS I1 σ' → σ' 0 = σ 0 → σ' 1 = σ 1 → K (some (.inl (r l))) I1 J
abbrev nR (q : Nat) : Prop := nV q ∧ q ≠ 2
def pt_mroots : mSH → mRF → mPT := m_pv 5 (fun sh rf d rest I J K => ∃ (k : Nat) (u v : Int64) (σ : Nat → Int), sh = shL ∧ rf = rfL ∧ d = 528 ∧ rest = [.inl (nI k), .inr (.inl u), .inr (.inl v)] ∧ k ≤ 5 ∧ u.toInt.natAbs ≤ 2 ^ 20 ∧ v.toInt.natAbs ≤ 2 ^ 20 ∧ BM J ∧ MS I σ ∧ ∀ I1 σ', MO I I1 → MS I1 σ' → (∀ q, nR q → σ' q = σ q) → K (some (.inl (rbR (moM J) k u.toInt v.toInt))) I1 J)
/-- the first k worths are above 0 -/
def abv (mo : Nat → Int) : Nat → Prop := fun k => ∀ i, i < k → 0 < Dt mo (i + 1) * Dt mo i
def pt_mabove : mSH → mRF → mPT := m_pv 5 (fun sh rf d rest I J K => ∃ (k : Nat) (σ : Nat → Int), sh = shL ∧ rf = rfL ∧ d = 528 ∧ rest = [.inl (nI k)] ∧ k ≤ 5 ∧ BM J ∧ MS I σ ∧ ∀ I1 σ', MO I I1 → MS I1 σ' → (∀ q, nD q → q ≠ 14 → q ≠ 15 → σ' q = σ q) → (abv (moM J) k → K (some (.inl 1)) I1 J) ∧ (¬ abv (moM J) k → K (some (.inl 0)) I1 J))
theorem sgI_pos {z : Int} : 0 < sgI z ↔ 0 < z := by
  rcases Int.lt_trichotomy z 0 with q | q | q
  · rw [sgI_n q]
    exact ⟨fun h => absurd h (by decide), fun h => by omega⟩
  · rw [q]
    exact ⟨fun h => absurd h (by decide), fun h => absurd h (by decide)⟩
  · rw [sgI_p q]
    exact ⟨fun _ => q, fun _ => by decide⟩
/-- good and areAbove -/
theorem gwF_abv (mo : Nat → Int) (l : Nat) : ∀ n k, abv mo k → abv mo (gwF mo l n k)
  | 0, k, h => h
  | n + 1, k, h => by
    rw [gwF]
    split
    · next q =>
      refine gwF_abv mo l n (k + 1) (fun i hi => ?_)
      rcases Nat.lt_or_ge i k with r | r
      · exact h i r
      · obtain rfl : i = k := by omega
        exact q.2.2
    · exact h
theorem gwF_max (mo : Nat → Int) (l : Nat) : ∀ n k j, j ≤ tpf mo l → 2 * j ≤ l + 1 → abv mo j → k ≤ j → j ≤ k + n → j ≤ gwF mo l n k
  | 0, k, j, _, _, _, _, h => h
  | n + 1, k, j, h1, h2, h3, h4, h5 => by
    rw [gwF]
    split
    · next q =>
      rcases Nat.eq_or_lt_of_le h4 with e | e
      · subst e
        have : k + 1 ≤ gwF mo l n (k + 1) ∨ True := Or.inr trivial
        have mono : ∀ n k, k ≤ gwF mo l n k := by
          intro n
          induction n with
          | zero => intro k; exact Nat.le_refl _
          | succ n ih =>
            intro k
            rw [gwF]
            split
            · exact Nat.le_trans (Nat.le_succ k) (ih (k + 1))
            · exact Nat.le_refl _
        exact Nat.le_trans (Nat.le_succ k) (mono n (k + 1))
      · exact gwF_max mo l n (k + 1) j h1 h2 h3 e (by omega)
    · next q =>
      rcases Nat.eq_or_lt_of_le h4 with e | e
      · omega
      · exact absurd ⟨by omega, by omega, h3 k e⟩ q
theorem abv_gwf {mo : Nat → Int} {l j : Nat} (h1 : j ≤ tpf mo l) : abv mo j ↔ j ≤ gwf mo l := by
  have tl := tpf_le mo l
  constructor
  · intro h
    exact gwF_max mo l 7 0 j h1 (by omega) h (Nat.zero_le _) (by omega)
  · intro h i hi
    exact gwF_abv mo l 7 0 (fun i hi => absurd hi (Nat.not_lt_zero i)) i (by unfold gwf at h; omega)
def pt_mbelow : mSH → mRF → mPT := m_pv 5 (fun sh rf d rest I J K => ∃ k u v : Int32, sh = shL ∧ rf = rfL ∧ d = 528 ∧ rest = [.inl k, .inl u, .inl v] ∧ TelM I J K (fun l => spBelow (moM J) k.toInt u.toInt v.toInt l))
def pt_mgood : mSH → mRF → mPT := m_pv 5 (fun sh rf d rest I J K => ∃ (l : Nat) (σ : Nat → Int), sh = shL ∧ rf = rfL ∧ d = 528 ∧ rest = [] ∧ I 528 5 = nI l ∧ l ≤ 11 ∧ BM J ∧ MS I σ ∧ ∀ I1 σ', MO I I1 → MS I1 σ' → σ' 0 = σ 0 → σ' 1 = σ 1 → K (some (.inl (nI (gwf (moM J) l)))) I1 J)
def pt_mfew : mSH → mRF → mPT := m_pv 5 (fun sh rf d rest I J K => sh = shL ∧ rf = rfL ∧ d = 528 ∧ rest = [] ∧ TelM I J K (fun l => spFew (moM J) l))
def toldM (I : mPI) (mo : Nat → Int) (wh : Int32) (l : Nat) : Int32 := if wh = 0 then I 528 4 else if wh = 1 then I 528 5 else if wh = 2 then (if I 528 4 = 0 then I 528 7 else 0) else if wh = 3 then (if I 528 6 = 0 then 0 else 1) else if wh = 4 then nI (tpf mo l) else -2
def pt_mtold : mSH → mRF → mPT := m_pv 5 (fun sh rf d rest I J K => ∃ wh : Int32, sh = shL ∧ rf = rfL ∧ d = 528 ∧ rest = [.inl wh] ∧ TelM I J K (fun l => toldM I (moM J) wh l))
theorem rb_bef (mo : Nat → Int) (u v : Int) : ∀ i, (rbF mo u v i).2.1 = 1 ∨ (rbF mo u v i).2.1 = -1
  | 0 => Or.inl rfl
  | i + 1 => by
    rw [rbF]
    split
    · next h =>
      rcases rb_bef mo u v i with e | e
      · rw [e] at h
        exact Or.inr h
      · rw [e] at h
        exact Or.inl h
    · exact rb_bef mo u v i

def ct_X5_rootsBelow (sh : mSH) (rf : mRF) : Nat → Option (Nat × Bool × mPT) := fun k => match k with
  | 210 => some (5, true, pt_mvalue sh rf)
  | _ => none
set_option maxRecDepth 20000 in
theorem ce_X5_rootsBelow : m_CE RX5 6 152 cX5_rootsBelow 10 ct_X5_rootsBelow := by
  intro p l e s m args below meth c Q D cs ad sh rf N hx hb hml hown hts hK hi hN k n vf pt h
  unfold ct_X5_rootsBelow at h
  split at h
  · cases h
    exact m_CG_V mt_X5_value hx hb hml hown hts hK hi hN (ci := 5) m_pv_rec rfl rfl (m_wck_ok (l := [(Cond.methodLink RX5 210 yX5_value, 935), (Cond.instanceMethod yX5_value, 937), (Cond.selects RX5 yX5_value yX5_value, 45), (Cond.initialized RX5, 62), (Cond.code yX5_value cX5_value 8 none, 938)]) (by decide +kernel)) ⟨rfl, by decide +kernel, by decide +kernel, by decide +kernel⟩ ⟨Nat.le_of_ble_eq_true rfl, Nat.le_of_ble_eq_true rfl⟩
  · cases h
set_option maxHeartbeats 4000000 in
set_option maxRecDepth 100000 in
theorem mt_X5_rootsBelow : m_Mt yX5_rootsBelow cX5_rootsBelow 10 (some .int) 6 152 pt_mroots := by
  refine m_methodG (fl := fl_X5) (kI := kI_X5) (kJ := kJ_X5) (ct := ct_X5_rootsBelow) (cd := cd_X5_rootsBelow) (cut := [(12, [0, 1, 2, 4, 6, 7, 8, 9])]) (rk := 1) (fu := 120) (by decide +kernel) fl_X5_ok kI_X5_ok kJ_X5_ok ce_X5_rootsBelow rfl ck_X5_rootsBelow ⟨_, _, rfl, rfl⟩ ?_
  intro sh rf As I J K hpt
  obtain ⟨d, rest, rfl, hd, k, u, v, σ, rfl, rfl, rfl, rfl, hk, hu, hv, hB, hM, hK⟩ := hpt
  refine ⟨Nat.le_of_ble_eq_true rfl, fun a9 b9 pc vs st I1 J1 => st = [] ∧ J1 = J ∧ ∃ j σ', a9 = k + 1 - j ∧ j ≤ k + 1 ∧ MO I I1 ∧ MS I1 σ' ∧ (∀ q, nR q → σ' q = σ q) ∧ vs = [.inr (.inr 528), .inl (nI k), .inr (.inl u), .inr (.inl v), .inl (nI (rbF (moM J) u.toInt v.toInt (j - 1)).1), .inl (rbF (moM J) u.toInt v.toInt (j - 1)).2.1, .inl (rbF (moM J) u.toInt v.toInt (j - 1)).2.2, .inl (nI j)], ?_, ?_⟩
  · exact ⟨k + 1 - 0, 0, rfl, rfl, 0, σ, rfl, Nat.zero_le _, MO.rfl' I, hM, fun _ _ => rfl, rfl⟩
  · intro pc ks a9 b9 vs st I1 J1 hc hI
    rcases m_cu1 hc with ⟨rfl, rfl⟩ | hc
    · obtain ⟨rfl, rfl, j, σ', rfl, hj, F, M, k1, rfl⟩ := hI
      refine ⟨fun h => ?_, fun h => ?_⟩
      · have h : nI k < nI j := h
        rw [nI_ltI (by omega) (by omega)] at h
        obtain rfl : j = k + 1 := by omega
        have := hK I1 σ' F M k1
        unfold rbR at this
        rw [Nat.add_sub_cancel]
        refine ⟨fun h2 => ?_, fun h2 => ?_⟩
        · have h2 : ¬ (rbF (moM J1) u.toInt v.toInt k).2.2 = 0 := h2
          rw [if_neg h2] at this
          exact this
        · have h2 : (rbF (moM J1) u.toInt v.toInt k).2.2 = 0 := h2
          rw [if_pos h2] at this
          exact this
      · have h : ¬ nI k < nI j := h
        rw [nI_ltI (by omega) (by omega)] at h
        refine ⟨528, [.inl (nI j), .inr (.inl u), .inr (.inl v), .inl (nI 2)], rfl, rfl, j, 2, u, v, σ', rfl, rfl, rfl, rfl, by omega, by decide, by decide, hu, hv, hB, M, fun I2 σ2 F2 M2 k2 e2 => ?_⟩
        obtain ⟨-, -, -, s2⟩ := M2 2 (by decide)
        rw [e2] at s2
        have kk : ∀ q, nR q → σ2 q = σ q := fun q hq => (k2 q hq.1 hq.2).trans (k1 q hq)
        have fin : ∀ (a b n : Int32), a = nI (rbF (moM J1) u.toInt v.toInt j).1 → b = (rbF (moM J1) u.toInt v.toInt j).2.1 → n = (rbF (moM J1) u.toInt v.toInt j).2.2 → ∃ a1 b1, (a1 < k + 1 - j ∨ a1 = k + 1 - j ∧ b1 < b9) ∧ ([] : List mPV) = [] ∧ J1 = J1 ∧ ∃ j' σ', a1 = k + 1 - j' ∧ j' ≤ k + 1 ∧ MO I I2 ∧ MS I2 σ' ∧ (∀ q, nR q → σ' q = σ q) ∧ ([.inr (.inr 528), .inl (nI k), .inr (.inl u), .inr (.inl v), .inl a, .inl b, .inl n, .inl (nI j + 1)] : List mPV) = [.inr (.inr 528), .inl (nI k), .inr (.inl u), .inr (.inl v), .inl (nI (rbF (moM J1) u.toInt v.toInt (j' - 1)).1), .inl (rbF (moM J1) u.toInt v.toInt (j' - 1)).2.1, .inl (rbF (moM J1) u.toInt v.toInt (j' - 1)).2.2, .inl (nI j')] := by
          intro a b n ea eb en
          exact ⟨k + 1 - (j + 1), 0, Or.inl (by omega), rfl, rfl, j + 1, σ2, rfl, by omega, F.trans F2, M2, kk, by rw [Nat.add_sub_cancel, ea, eb, en, nI_1]⟩
        have bf := rb_bef (moM J1) u.toInt v.toInt (j - 1)
        have key : (¬ I2 531 2 = 0 → ¬ I2 531 2 = (rbF (moM J1) u.toInt v.toInt (j - 1)).2.1 → nI (rbF (moM J1) u.toInt v.toInt (j - 1)).1 + 1 = nI (rbF (moM J1) u.toInt v.toInt j).1 ∧ I2 531 2 = (rbF (moM J1) u.toInt v.toInt j).2.1 ∧ I2 531 2 = (rbF (moM J1) u.toInt v.toInt j).2.2) ∧ (¬ I2 531 2 = 0 → I2 531 2 = (rbF (moM J1) u.toInt v.toInt (j - 1)).2.1 → nI (rbF (moM J1) u.toInt v.toInt (j - 1)).1 + 0 = nI (rbF (moM J1) u.toInt v.toInt j).1 ∧ I2 531 2 = (rbF (moM J1) u.toInt v.toInt j).2.1 ∧ I2 531 2 = (rbF (moM J1) u.toInt v.toInt j).2.2) ∧ (I2 531 2 = 0 → nI (rbF (moM J1) u.toInt v.toInt (j - 1)).1 + 0 = nI (rbF (moM J1) u.toInt v.toInt j).1 ∧ (rbF (moM J1) u.toInt v.toInt (j - 1)).2.1 = (rbF (moM J1) u.toInt v.toInt j).2.1 ∧ I2 531 2 = (rbF (moM J1) u.toInt v.toInt j).2.2) := by
          rw [s2]
          cases j with
          | zero =>
            have e : evN (moM J1) 0 u.toInt v.toInt 0 = 1 := rfl
            rw [e]
            exact ⟨fun _ q => absurd rfl q, fun _ _ => ⟨rfl, rfl, rfl⟩, fun q => absurd q (by decide)⟩
          | succ i =>
            rw [Nat.add_sub_cancel] at bf ⊢
            rw [rbF]
            have tri : sgI (evN (moM J1) (i + 1) u.toInt v.toInt (i + 1)) = 1 ∨ sgI (evN (moM J1) (i + 1) u.toInt v.toInt (i + 1)) = 0 ∨ sgI (evN (moM J1) (i + 1) u.toInt v.toInt (i + 1)) = -1 := by
              unfold sgI
              split
              · exact Or.inr (Or.inr rfl)
              · split
                · exact Or.inr (Or.inl rfl)
                · exact Or.inl rfl
            generalize sgI (evN (moM J1) (i + 1) u.toInt v.toInt (i + 1)) = n at tri
            generalize (rbF (moM J1) u.toInt v.toInt i).2.1 = b at bf
            generalize (rbF (moM J1) u.toInt v.toInt i).1 = c
            rcases tri with rfl | rfl | rfl <;> rcases bf with rfl | rfl
            · exact ⟨fun _ q => absurd rfl q, fun _ _ => ⟨by rw [Int32.add_zero, if_neg (by decide)], by rw [if_neg (by decide)], by rw [if_neg (by decide)]⟩, fun q => absurd q (by decide)⟩
            · exact ⟨fun _ _ => ⟨by rw [if_pos (by decide)]; exact nI_1 c, by rw [if_pos (by decide)], by rw [if_pos (by decide)]⟩, fun _ q => absurd q (by decide), fun q => absurd q (by decide)⟩
            · exact ⟨fun q => absurd rfl q, fun q => absurd rfl q, fun _ => ⟨by rw [Int32.add_zero, if_neg (by decide)], by rw [if_neg (by decide)], by rw [if_neg (by decide)]⟩⟩
            · exact ⟨fun q => absurd rfl q, fun q => absurd rfl q, fun _ => ⟨by rw [Int32.add_zero, if_neg (by decide)], by rw [if_neg (by decide)], by rw [if_neg (by decide)]⟩⟩
            · exact ⟨fun _ _ => ⟨by rw [if_pos (by decide)]; exact nI_1 c, by rw [if_pos (by decide)], by rw [if_pos (by decide)]⟩, fun _ q => absurd q (by decide), fun q => absurd q (by decide)⟩
            · exact ⟨fun _ q => absurd rfl q, fun _ _ => ⟨by rw [Int32.add_zero, if_neg (by decide)], by rw [if_neg (by decide)], by rw [if_neg (by decide)]⟩, fun q => absurd q (by decide)⟩
        refine ⟨rfl, sin (s := 2) (by decide), fun h3 => ?_, fun h3 => ⟨fun h4 => ?_, fun h4 => ?_⟩⟩
        · have h3 : I2 531 2 = 0 := h3
          obtain ⟨c1, c2, c3⟩ := key.2.2 h3
          exact ⟨fun _ => fin _ _ _ c1 c2 c3, fun q => absurd h3 q⟩
        · have h3 : ¬ I2 531 2 = 0 := h3
          obtain ⟨c1, c2, c3⟩ := key.2.1 h3 h4
          exact ⟨fun q => absurd q h3, fun _ => fin _ _ _ c1 c2 c3⟩
        · have h3 : ¬ I2 531 2 = 0 := h3
          obtain ⟨c1, c2, c3⟩ := key.1 h3 h4
          exact ⟨fun q => absurd q h3, fun _ => fin _ _ _ c1 c2 c3⟩
    · cases hc

def ct_X5_areAbove (sh : mSH) (rf : mRF) : Nat → Option (Nat × Bool × mPT) := fun k => match k with
  | 217 => some (2, true, pt_mwsign sh rf)
  | _ => none
set_option maxRecDepth 20000 in
theorem ce_X5_areAbove : m_CE RX5 6 145 cX5_areAbove 4 ct_X5_areAbove := by
  intro p l e s m args below meth c Q D cs ad sh rf N hx hb hml hown hts hK hi hN k n vf pt h
  unfold ct_X5_areAbove at h
  split at h
  · cases h
    exact m_CG_V mt_X5_worthSign hx hb hml hown hts hK hi hN (ci := 5) m_pv_rec rfl rfl (m_wck_ok (l := [(Cond.methodLink RX5 217 yX5_worthSign, 951), (Cond.instanceMethod yX5_worthSign, 953), (Cond.selects RX5 yX5_worthSign yX5_worthSign, 47), (Cond.initialized RX5, 62), (Cond.code yX5_worthSign cX5_worthSign 2 (some .int), 954)]) (by decide +kernel)) ⟨rfl, by decide +kernel, by decide +kernel, by decide +kernel⟩ ⟨Nat.le_of_ble_eq_true rfl, Nat.le_of_ble_eq_true rfl⟩
  · cases h
set_option maxHeartbeats 4000000 in
set_option maxRecDepth 100000 in
theorem mt_X5_areAbove : m_Mt yX5_areAbove cX5_areAbove 4 (some .boolean) 6 145 pt_mabove := by
  refine m_methodG (fl := fl_X5) (kI := kI_X5) (kJ := kJ_X5) (ct := ct_X5_areAbove) (cd := cd_X5_areAbove) (cut := [(4, [0, 1, 2, 3])]) (rk := 3) (fu := 80) (by decide +kernel) fl_X5_ok kI_X5_ok kJ_X5_ok ce_X5_areAbove rfl ck_X5_areAbove ⟨_, _, rfl, rfl⟩ ?_
  intro sh rf As I J K hpt
  obtain ⟨d, rest, rfl, hd, k, σ, rfl, rfl, rfl, rfl, hk, hB, hM, hK⟩ := hpt
  refine ⟨Nat.le_of_ble_eq_true rfl, fun a9 b9 pc vs st I1 J1 => st = [] ∧ J1 = J ∧ ∃ i σ', a9 = k + 1 - i ∧ i ≤ k ∧ MO I I1 ∧ MS I1 σ' ∧ (∀ q, nD q → q ≠ 14 → q ≠ 15 → σ' q = σ q) ∧ ((vs = [.inr (.inr 528), .inl (nI k), .inl 1, .inl (nI i)] ∧ abv (moM J) i) ∨ (vs = [.inr (.inr 528), .inl (nI k), .inl 0, .inl (nI i)] ∧ ¬ abv (moM J) k)), ?_, ?_⟩
  · exact ⟨k + 1 - 0, 0, rfl, rfl, 0, σ, rfl, Nat.zero_le _, MO.rfl' I, hM, fun _ _ _ _ => rfl, Or.inl ⟨rfl, fun i hi => absurd hi (Nat.not_lt_zero i)⟩⟩
  · intro pc ks a9 b9 vs st I1 J1 hc hI
    rcases m_cu1 hc with ⟨rfl, rfl⟩ | hc
    · obtain ⟨rfl, rfl, i, σ', rfl, hi, F, M, k1, hI⟩ := hI
      have kk := hK I1 σ' F M k1
      rcases hI with ⟨rfl, ha⟩ | ⟨rfl, ha⟩
      · refine ⟨fun h => ?_, fun h => ⟨fun q => absurd q (by decide), fun _ => ?_⟩⟩
        · have h : nI k ≤ nI i := h
          rw [nI_leI (by omega) (by omega)] at h
          obtain rfl : i = k := by omega
          exact ⟨Or.inr rfl, kk.1 ha⟩
        · have h : ¬ nI k ≤ nI i := h
          rw [nI_leI (by omega) (by omega)] at h
          refine ⟨528, [.inl (nI i)], rfl, rfl, i, σ', rfl, rfl, rfl, rfl, by omega, hB, M, fun I2 σ2 F2 M2 k2 => ⟨fun h2 => ?_, fun h2 => ?_⟩⟩
          · have h2 : sgI (Dt (moM J1) (i + 1) * Dt (moM J1) i) ≤ 0 := h2
            have n2 : ¬ 0 < Dt (moM J1) (i + 1) * Dt (moM J1) i := fun q => by
              rw [sgI_p q] at h2
              exact absurd h2 (by decide)
            exact ⟨k + 1 - (i + 1), 0, Or.inl (by omega), rfl, rfl, i + 1, σ2, rfl, by omega, F.trans F2, M2, fun q hq q1 q2 => (k2 q hq q1 q2).trans (k1 q hq q1 q2), Or.inr ⟨by rw [← nI_1 i], fun q => n2 (q i (by omega))⟩⟩
          · have h2 : ¬ sgI (Dt (moM J1) (i + 1) * Dt (moM J1) i) ≤ 0 := h2
            have p2 : 0 < Dt (moM J1) (i + 1) * Dt (moM J1) i := by
              rw [Int32.not_le] at h2
              exact sgI_pos.mp h2
            refine ⟨k + 1 - (i + 1), 0, Or.inl (by omega), rfl, rfl, i + 1, σ2, rfl, by omega, F.trans F2, M2, fun q hq q1 q2 => (k2 q hq q1 q2).trans (k1 q hq q1 q2), Or.inl ⟨by rw [← nI_1 i], fun q hq => ?_⟩⟩
            rcases Nat.lt_or_ge q i with r | r
            · exact ha q r
            · obtain rfl : q = i := by omega
              exact p2
      · exact ⟨fun _ => ⟨Or.inl rfl, kk.2 ha⟩, fun _ => ⟨fun _ => ⟨Or.inl rfl, kk.2 ha⟩, fun q => absurd rfl q⟩⟩
    · cases hc

def ct_X5_below (sh : mSH) (rf : mRF) : Nat → Option (Nat × Bool × mPT) := fun k => match k with
  | 195 => some (2, true, pt_mhasP sh rf)
  | 207 => some (2, false, pt_mFrac sh rf)
  | 231 => some (2, true, pt_mabove sh rf)
  | 234 => some (4, true, pt_mroots sh rf)
  | _ => none
set_option maxRecDepth 20000 in
theorem ce_X5_below : m_CE RX5 7 181 cX5_below 4 ct_X5_below := by
  intro p l e s m args below meth c Q D cs ad sh rf N hx hb hml hown hts hK hi hN k n vf pt h
  unfold ct_X5_below at h
  split at h
  · cases h
    exact m_CG_V mt_X5_hasPolynomial hx hb hml hown hts hK hi hN (ci := 5) m_pv_rec rfl rfl (m_wck_ok (l := [(Cond.methodLink RX5 195 yX5_hasPolynomial, 883), (Cond.instanceMethod yX5_hasPolynomial, 885), (Cond.selects RX5 yX5_hasPolynomial yX5_hasPolynomial, 37), (Cond.initialized RX5, 62), (Cond.code yX5_hasPolynomial cX5_hasPolynomial 2 (some .boolean), 886)]) (by decide +kernel)) ⟨rfl, by decide +kernel, by decide +kernel, by decide +kernel⟩ ⟨Nat.le_of_ble_eq_true rfl, Nat.le_of_ble_eq_true rfl⟩
  · cases h
    exact m_CG_S mt_X5_isFraction hx hb hml hown hts hK hi hN (m_wck_ok (l := [(Cond.methodLink RX5 207 yX5_isFraction, 932), (Cond.static yX5_isFraction, 933), (Cond.initialized RX5, 62), (Cond.code yX5_isFraction cX5_isFraction 2 (some .boolean), 934)]) (by decide +kernel)) ⟨by decide +kernel, by decide +kernel, by decide +kernel⟩ ⟨Nat.le_of_ble_eq_true rfl, Nat.le_of_ble_eq_true rfl⟩
  · cases h
    exact m_CG_V mt_X5_areAbove hx hb hml hown hts hK hi hN (ci := 5) m_pv_rec rfl rfl (m_wck_ok (l := [(Cond.methodLink RX5 231 yX5_areAbove, 988), (Cond.instanceMethod yX5_areAbove, 990), (Cond.selects RX5 yX5_areAbove yX5_areAbove, 49), (Cond.initialized RX5, 62), (Cond.code yX5_areAbove cX5_areAbove 4 (some .boolean), 991)]) (by decide +kernel)) ⟨rfl, by decide +kernel, by decide +kernel, by decide +kernel⟩ ⟨Nat.le_of_ble_eq_true rfl, Nat.le_of_ble_eq_true rfl⟩
  · cases h
    exact m_CG_V mt_X5_rootsBelow hx hb hml hown hts hK hi hN (ci := 5) m_pv_rec rfl rfl (m_wck_ok (l := [(Cond.methodLink RX5 234 yX5_rootsBelow, 992), (Cond.instanceMethod yX5_rootsBelow, 994), (Cond.selects RX5 yX5_rootsBelow yX5_rootsBelow, 50), (Cond.initialized RX5, 62), (Cond.code yX5_rootsBelow cX5_rootsBelow 10 (some .int), 995)]) (by decide +kernel)) ⟨rfl, by decide +kernel, by decide +kernel, by decide +kernel⟩ ⟨Nat.le_of_ble_eq_true rfl, Nat.le_of_ble_eq_true rfl⟩
  · cases h
set_option maxHeartbeats 4000000 in
set_option maxRecDepth 100000 in
theorem mt_X5_below : m_Mt yX5_below cX5_below 4 (some .int) 7 181 pt_mbelow := by
  refine m_method0 80 (fl := fl_X5) (kI := kI_X5) (kJ := kJ_X5) (ct := ct_X5_below) (cd := cd_X5_below) (rk := 1) (by decide +kernel) fl_X5_ok kI_X5_ok kJ_X5_ok ce_X5_below rfl ck_X5_below ⟨_, _, rfl, rfl⟩ ?_
  intro sh rf As I J K hpt
  obtain ⟨d, rest, rfl, hd, k, u, v, rfl, rfl, rfl, rfl, l, σ, h5, hl, hB, hM, hK⟩ := hpt
  have tl := tpf_le (moM J) l
  refine ⟨Nat.le_of_ble_eq_true rfl, 528, [.inl k], rfl, rfl, k, l, σ, rfl, rfl, rfl, rfl, h5, hl, hB, hM, fun I1 σ1 F1 M1 k1 => ?_⟩
  have kk : ∀ I2 σ2, MO I1 I2 → MS I2 σ2 → σ2 0 = σ1 0 → σ2 1 = σ1 1 → K (some (.inl (spBelow (moM J) k.toInt u.toInt v.toInt l))) I2 J := fun I2 σ2 F2 M2 e0 e1 => hK I2 σ2 (F1.trans F2) M2 (e0.trans (k1 0 (by decide) (by decide))) (e1.trans (k1 1 (by decide) (by decide)))
  have k0 := kk I1 σ1 (MO.rfl' I1) M1 rfl rfl
  refine ⟨fun h => ⟨u, v, rfl, fun h2 => ?_, fun h2 => ?_⟩, fun h => ?_⟩
  · have h := w_not0 h
    have hfr := w_not0 h2
    obtain ⟨ek, -⟩ := i_nat h.1
    have hj : k.toInt.toNat ≤ tpf (moM J) l := by have := h.2; omega
    have ekk : k.toInt = (k.toInt.toNat : Int) := by have := h.1; omega
    have sp : spBelow (moM J) k.toInt u.toInt v.toInt l = if (gwf (moM J) l : Int) < k.toInt then -5 else rbR (moM J) k.toInt.toNat u.toInt v.toInt := by
      unfold spBelow
      rw [if_pos h, if_pos hfr]
    rw [sp] at kk
    refine ⟨528, [.inl k], rfl, rfl, k.toInt.toNat, σ1, rfl, rfl, rfl, by rw [← ek], by omega, hB, M1, fun I2 σ2 F2 M2 k2 => ⟨fun hab => ⟨fun q => absurd q (by decide), fun _ => ?_⟩, fun hab => ⟨fun _ => ?_, fun q => absurd rfl q⟩⟩⟩
    · have hg := (abv_gwf hj).mp hab
      rw [if_neg (by omega)] at kk
      refine ⟨528, [.inl k, .inr (.inl u.toInt64), .inr (.inl v.toInt64)], rfl, rfl, k.toInt.toNat, u.toInt64, v.toInt64, σ2, rfl, rfl, rfl, by rw [← ek], by omega, by rw [Int32.toInt_toInt64]; omega, by rw [Int32.toInt_toInt64]; omega, hB, M2, fun I3 σ3 F3 M3 k3 => ?_⟩
      rw [Int32.toInt_toInt64, Int32.toInt_toInt64]
      exact kk I3 σ3 (F2.trans F3) M3 ((k3 0 (by decide)).trans (k2 0 (by decide) (by decide) (by decide))) ((k3 1 (by decide)).trans (k2 1 (by decide) (by decide) (by decide)))
    · have hg := mt (abv_gwf hj).mpr hab
      rw [if_pos (by omega)] at kk
      exact kk I2 σ2 F2 M2 (k2 0 (by decide) (by decide) (by decide)) (k2 1 (by decide) (by decide) (by decide))
  · unfold spBelow at k0
    rw [if_pos (w_not0 h), if_neg (w_is0 h2)] at k0
    exact k0
  · unfold spBelow at k0
    rw [if_neg (w_is0 h)] at k0
    exact k0

def ct_X5_good (sh : mSH) (rf : mRF) : Nat → Option (Nat × Bool × mPT) := fun k => match k with
  | 201 => some (2, true, pt_mhasW sh rf)
  | 217 => some (2, true, pt_mwsign sh rf)
  | _ => none
set_option maxRecDepth 20000 in
theorem ce_X5_good : m_CE RX5 8 188 cX5_good 2 ct_X5_good := by
  intro p l e s m args below meth c Q D cs ad sh rf N hx hb hml hown hts hK hi hN k n vf pt h
  unfold ct_X5_good at h
  split at h
  · cases h
    exact m_CG_V mt_X5_hasWorth hx hb hml hown hts hK hi hN (ci := 5) m_pv_rec rfl rfl (m_wck_ok (l := [(Cond.methodLink RX5 201 yX5_hasWorth, 879), (Cond.instanceMethod yX5_hasWorth, 881), (Cond.selects RX5 yX5_hasWorth yX5_hasWorth, 36), (Cond.initialized RX5, 62), (Cond.code yX5_hasWorth cX5_hasWorth 2 (some .boolean), 882)]) (by decide +kernel)) ⟨rfl, by decide +kernel, by decide +kernel, by decide +kernel⟩ ⟨Nat.le_of_ble_eq_true rfl, Nat.le_of_ble_eq_true rfl⟩
  · cases h
    exact m_CG_V mt_X5_worthSign hx hb hml hown hts hK hi hN (ci := 5) m_pv_rec rfl rfl (m_wck_ok (l := [(Cond.methodLink RX5 217 yX5_worthSign, 951), (Cond.instanceMethod yX5_worthSign, 953), (Cond.selects RX5 yX5_worthSign yX5_worthSign, 47), (Cond.initialized RX5, 62), (Cond.code yX5_worthSign cX5_worthSign 2 (some .int), 954)]) (by decide +kernel)) ⟨rfl, by decide +kernel, by decide +kernel, by decide +kernel⟩ ⟨Nat.le_of_ble_eq_true rfl, Nat.le_of_ble_eq_true rfl⟩
  · cases h
set_option maxHeartbeats 4000000 in
set_option maxRecDepth 100000 in
theorem mt_X5_good : m_Mt yX5_good cX5_good 2 (some .int) 8 188 pt_mgood := by
  refine m_methodG (fl := fl_X5) (kI := kI_X5) (kJ := kJ_X5) (ct := ct_X5_good) (cd := cd_X5_good) (cut := [(2, [0, 1])]) (rk := 1) (fu := 80) (by decide +kernel) fl_X5_ok kI_X5_ok kJ_X5_ok ce_X5_good rfl ck_X5_good ⟨_, _, rfl, rfl⟩ ?_
  intro sh rf As I J K hpt
  obtain ⟨d, rest, rfl, hd, l, σ, rfl, rfl, rfl, rfl, h5, hl, hB, hM, hK⟩ := hpt
  have tl := tpf_le (moM J) l
  refine ⟨Nat.le_of_ble_eq_true rfl, fun a9 b9 pc vs st I1 J1 => st = [] ∧ J1 = J ∧ ∃ k σ', vs = [.inr (.inr 528), .inl (nI k)] ∧ a9 = 7 - k ∧ k ≤ 6 ∧ MO I I1 ∧ MS I1 σ' ∧ σ' 0 = σ 0 ∧ σ' 1 = σ 1 ∧ gwF (moM J) l (7 - k) k = gwf (moM J) l, ?_, ?_⟩
  · exact ⟨7 - 0, 0, rfl, rfl, 0, σ, rfl, rfl, by decide, MO.rfl' I, hM, rfl, rfl, rfl⟩
  · intro pc ks a9 b9 vs st I1 J1 hc hI
    rcases m_cu1 hc with ⟨rfl, rfl⟩ | hc
    · obtain ⟨rfl, rfl, k, σ', rfl, rfl, hk, F, M, e0, e1, hg⟩ := hI
      have e5 : I1 528 5 = nI l := by rw [F 528 (by decide) (by decide) (by decide) (by decide)]; exact h5
      have ek : (nI k).toInt = k := nI_toInt (by omega)
      rw [show 7 - k = (6 - k) + 1 by omega, gwF] at hg
      refine ⟨528, [.inl (nI k)], rfl, rfl, nI k, l, σ', rfl, rfl, rfl, rfl, e5, hl, hB, M, fun I2 σ2 F2 M2 k2 => ?_⟩
      have E0 := (k2 0 (by decide) (by decide)).trans e0
      have E1 := (k2 1 (by decide) (by decide)).trans e1
      rw [ek]
      refine ⟨fun h => ?_, fun h => ?_⟩
      · have h := w_is0 h
        rw [if_neg (fun q => h ⟨⟨by omega, by omega⟩, by omega⟩)] at hg
        rw [hg]
        exact hK I2 σ2 (F.trans F2) M2 E0 E1
      · have h := w_not0 h
        have hkt : k ≤ tpf (moM J1) l := by have := h.1.2; omega
        refine ⟨528, [.inl (nI k)], rfl, rfl, k, σ2, rfl, rfl, rfl, rfl, by omega, hB, M2, fun I3 σ3 F3 M3 k3 => ⟨fun h2 => ?_, fun h2 => ?_⟩⟩
        · have h2 : sgI (Dt (moM J1) (k + 1) * Dt (moM J1) k) ≤ 0 := h2
          rw [if_neg (fun q => by have q2 : 0 < Dt (moM J1) (k + 1) * Dt (moM J1) k := q.2.2; rw [sgI_p q2] at h2; exact absurd h2 (by decide))] at hg
          rw [hg]
          exact hK I3 σ3 ((F.trans F2).trans F3) M3 ((k3 0 (by decide) (by decide) (by decide)).trans E0) ((k3 1 (by decide) (by decide) (by decide)).trans E1)
        · have h2 : ¬ sgI (Dt (moM J1) (k + 1) * Dt (moM J1) k) ≤ 0 := h2
          rw [Int32.not_le] at h2
          rw [if_pos ⟨hkt, by have := h.2; omega, sgI_pos.mp h2⟩] at hg
          exact ⟨7 - (k + 1), 0, Or.inl (by omega), rfl, rfl, k + 1, σ3, by rw [← nI_1 k], rfl, by omega, (F.trans F2).trans F3, M3, (k3 0 (by decide) (by decide) (by decide)).trans E0, (k3 1 (by decide) (by decide) (by decide)).trans E1, by rw [show 7 - (k + 1) = 6 - k by omega]; exact hg⟩
    · cases hc

def ct_X5_few (sh : mSH) (rf : mRF) : Nat → Option (Nat × Bool × mPT) := fun k => match k with
  | 248 => some (1, true, pt_mgood sh rf)
  | 201 => some (2, true, pt_mhasW sh rf)
  | 217 => some (2, true, pt_mwsign sh rf)
  | 214 => some (4, true, pt_mof sh rf)
  | _ => none
set_option maxRecDepth 20000 in
theorem ce_X5_few : m_CE RX5 9 209 cX5_few 4 ct_X5_few := by
  intro p l e s m args below meth c Q D cs ad sh rf N hx hb hml hown hts hK hi hN k n vf pt h
  unfold ct_X5_few at h
  split at h
  · cases h
    exact m_CG_V mt_X5_good hx hb hml hown hts hK hi hN (ci := 5) m_pv_rec rfl rfl (m_wck_ok (l := [(Cond.methodLink RX5 248 yX5_good, 1015), (Cond.instanceMethod yX5_good, 1008), (Cond.selects RX5 yX5_good yX5_good, 1009), (Cond.initialized RX5, 62), (Cond.code yX5_good cX5_good 2 (some .int), 1010)]) (by decide +kernel)) ⟨rfl, by decide +kernel, by decide +kernel, by decide +kernel⟩ ⟨Nat.le_of_ble_eq_true rfl, Nat.le_of_ble_eq_true rfl⟩
  · cases h
    exact m_CG_V mt_X5_hasWorth hx hb hml hown hts hK hi hN (ci := 5) m_pv_rec rfl rfl (m_wck_ok (l := [(Cond.methodLink RX5 201 yX5_hasWorth, 879), (Cond.instanceMethod yX5_hasWorth, 881), (Cond.selects RX5 yX5_hasWorth yX5_hasWorth, 36), (Cond.initialized RX5, 62), (Cond.code yX5_hasWorth cX5_hasWorth 2 (some .boolean), 882)]) (by decide +kernel)) ⟨rfl, by decide +kernel, by decide +kernel, by decide +kernel⟩ ⟨Nat.le_of_ble_eq_true rfl, Nat.le_of_ble_eq_true rfl⟩
  · cases h
    exact m_CG_V mt_X5_worthSign hx hb hml hown hts hK hi hN (ci := 5) m_pv_rec rfl rfl (m_wck_ok (l := [(Cond.methodLink RX5 217 yX5_worthSign, 951), (Cond.instanceMethod yX5_worthSign, 953), (Cond.selects RX5 yX5_worthSign yX5_worthSign, 47), (Cond.initialized RX5, 62), (Cond.code yX5_worthSign cX5_worthSign 2 (some .int), 954)]) (by decide +kernel)) ⟨rfl, by decide +kernel, by decide +kernel, by decide +kernel⟩ ⟨Nat.le_of_ble_eq_true rfl, Nat.le_of_ble_eq_true rfl⟩
  · cases h
    exact m_CG_V mt_X5_of hx hb hml hown hts hK hi hN (ci := 5) m_pv_rec rfl rfl (m_wck_ok (l := [(Cond.methodLink RX5 214 yX5_of, 943), (Cond.instanceMethod yX5_of, 945), (Cond.selects RX5 yX5_of yX5_of, 46), (Cond.initialized RX5, 62), (Cond.code yX5_of cX5_of 5 none, 946)]) (by decide +kernel)) ⟨rfl, by decide +kernel, by decide +kernel, by decide +kernel⟩ ⟨Nat.le_of_ble_eq_true rfl, Nat.le_of_ble_eq_true rfl⟩
  · cases h
set_option maxHeartbeats 4000000 in
set_option maxRecDepth 100000 in
theorem mt_X5_few : m_Mt yX5_few cX5_few 4 (some .int) 9 209 pt_mfew := by
  refine m_methodG (fl := fl_X5) (kI := kI_X5) (kJ := kJ_X5) (ct := ct_X5_few) (cd := cd_X5_few) (cut := [(28, [0, 1, 2, 3])]) (rk := 1) (fu := 80) (by decide +kernel) fl_X5_ok kI_X5_ok kJ_X5_ok ce_X5_few rfl ck_X5_few ⟨_, _, rfl, rfl⟩ ?_
  intro sh rf As I J K hpt
  obtain ⟨d, rest, rfl, hd, rfl, rfl, rfl, rfl, l, σ, h5, hl, hB, hM, hK⟩ := hpt
  have tl := tpf_le (moM J) l
  have gl := gwf_le (moM J) l
  replace hK : ∀ I1 σ', MO I I1 → MS I1 σ' → σ' 0 = σ 0 → σ' 1 = σ 1 → K (some (.inl (if fewP (moM J) l (gwf (moM J) l) then nI (gwf (moM J) l) else -6))) I1 J := hK
  generalize hg : gwf (moM J) l = g at gl hK
  have no : ¬ fewP (moM J) l g → ∀ I1 σ1, MO I I1 → MS I1 σ1 → σ1 0 = σ 0 → σ1 1 = σ 1 → K (some (.inl (-6))) I1 J := fun q I1 σ1 F1 M1 e0 e1 => by
    have := hK I1 σ1 F1 M1 e0 e1
    rw [if_neg q] at this
    exact this
  refine ⟨Nat.le_of_ble_eq_true rfl, fun a9 b9 pc vs st I1 J1 => st = [] ∧ J1 = J ∧ ∃ i σ', a9 = l + 2 - i ∧ i ≤ l + 1 - g ∧ MO I I1 ∧ MS I1 σ' ∧ σ' 0 = σ 0 ∧ σ' 1 = σ 1 ∧ (g ≤ tpf (moM J) l ∧ 2 * g ≤ l) ∧ Dt (moM J) (g + 1) = 0 ∧ ((vs = [.inr (.inr 528), .inl (nI g), .inl 1, .inl (nI i)] ∧ ∀ j, j < i → ofN (moM J) g j (g + 1) = 0) ∨ (vs = [.inr (.inr 528), .inl (nI g), .inl 0, .inl (nI i)] ∧ ¬ fewP (moM J) l g)), ?_, ?_⟩
  · refine ⟨528, [], rfl, rfl, l, σ, rfl, rfl, rfl, rfl, h5, hl, hB, hM, fun I1 σ1 F1 M1 e0 e1 => ?_⟩
    rw [hg]
    have e5 : I1 528 5 = nI l := by rw [F1 528 (by decide) (by decide) (by decide) (by decide)]; exact h5
    refine ⟨528, [.inl (nI g)], rfl, rfl, nI g, l, σ1, rfl, rfl, rfl, rfl, e5, hl, hB, M1, fun I2 σ2 F2 M2 k2 => ?_⟩
    have E0 := (k2 0 (by decide) (by decide)).trans e0
    have E1 := (k2 1 (by decide) (by decide)).trans e1
    rw [nI_toInt (by omega)]
    refine ⟨fun h => no (fun q => w_is0 h ⟨⟨by omega, by have := q.1.1; omega⟩, by have := q.1.2; omega⟩) I2 σ2 (F1.trans F2) M2 E0 E1, fun h => ?_⟩
    have h := w_not0 h
    have hgt : g ≤ tpf (moM J) l := by have := h.1.2; omega
    refine ⟨528, [.inl (nI g)], rfl, rfl, g, σ2, rfl, rfl, rfl, rfl, by omega, hB, M2, fun I3 σ3 F3 M3 k3 => ⟨fun h2 => ?_, fun h2 => ?_⟩⟩
    · have h2 : sgI (Dt (moM J) (g + 1) * Dt (moM J) g) = 0 := h2
      rw [sgI_0] at h2
      have hD : Dt (moM J) (g + 1) = 0 := (Int.mul_eq_zero.mp h2).resolve_right (top_nz hgt)
      exact ⟨l + 2 - 0, 0, rfl, rfl, 0, σ3, rfl, Nat.zero_le _, (F1.trans F2).trans F3, M3, (k3 0 (by decide) (by decide) (by decide)).trans E0, (k3 1 (by decide) (by decide) (by decide)).trans E1, ⟨hgt, by have := h.2; omega⟩, hD, Or.inl ⟨rfl, fun j hj => absurd hj (Nat.not_lt_zero j)⟩⟩
    · have h2 : ¬ sgI (Dt (moM J) (g + 1) * Dt (moM J) g) = 0 := h2
      rw [sgI_0] at h2
      exact no (fun q => h2 (by rw [q.2.1, Int.zero_mul])) I3 σ3 ((F1.trans F2).trans F3) M3 ((k3 0 (by decide) (by decide) (by decide)).trans E0) ((k3 1 (by decide) (by decide) (by decide)).trans E1)
  · intro pc ks a9 b9 vs st I1 J1 hc hI
    rcases m_cu1 hc with ⟨rfl, rfl⟩ | hc
    · obtain ⟨rfl, rfl, i, σ', rfl, hi, F, M, e0, e1, hgt, hD, hI⟩ := hI
      have e5 : I1 528 5 = nI l := by rw [F 528 (by decide) (by decide) (by decide) (by decide)]; exact h5
      rcases hI with ⟨rfl, hz⟩ | ⟨rfl, hn⟩
      · refine ⟨rfl, fun h => ?_, fun h => ⟨fun q => absurd q (by decide), fun _ => ?_⟩⟩
        · have h : I1 528 5 < nI g + nI i := h
          rw [e5, nI_add, nI_ltI (by omega) (by omega)] at h
          refine ⟨fun q => absurd q (by decide), fun _ => ?_⟩
          have := hK I1 σ' F M e0 e1
          rw [if_pos ⟨hgt, hD, fun j hj => hz j (by omega)⟩] at this
          exact this
        · have h : ¬ I1 528 5 < nI g + nI i := h
          rw [e5, nI_add, nI_ltI (by omega) (by omega)] at h
          refine ⟨528, [.inl (nI g), .inl (nI i), .inl (nI 2)], rfl, rfl, g, i, 2, σ', rfl, rfl, rfl, rfl, by omega, by omega, by decide, by decide, hB, M, fun I2 σ2 F2 M2 k2 e2 => ?_⟩
          have E0 := (k2 0 (by decide) (by decide)).trans e0
          have E1 := (k2 1 (by decide) (by decide)).trans e1
          obtain ⟨-, -, -, s2⟩ := M2 2 (by decide)
          rw [e2] at s2
          refine ⟨rfl, sin (s := 2) (by decide), fun h2 => ?_, fun h2 => ?_⟩
          · have h2 : ¬ I2 531 2 = 0 := h2
            rw [s2, sgI_0] at h2
            exact ⟨l + 2 - (i + 1), 0, Or.inl (by omega), rfl, rfl, i + 1, σ2, rfl, by omega, F.trans F2, M2, E0, E1, hgt, hD, Or.inr ⟨by rw [← nI_1 i], fun q => h2 (q.2.2 i (by omega))⟩⟩
          · have h2 : I2 531 2 = 0 := h2
            rw [s2, sgI_0] at h2
            refine ⟨l + 2 - (i + 1), 0, Or.inl (by omega), rfl, rfl, i + 1, σ2, rfl, by omega, F.trans F2, M2, E0, E1, hgt, hD, Or.inl ⟨by rw [← nI_1 i], fun j hj => ?_⟩⟩
            rcases Nat.lt_or_ge j i with r | r
            · exact hz j r
            · obtain rfl : j = i := by omega
              exact h2
      · have fin : ((0 : Int32) = 0 → K (some (.inl (-6))) I1 J1) ∧ (¬ (0 : Int32) = 0 → K (some (.inl (nI g))) I1 J1) := ⟨fun _ => no hn I1 σ' F M e0 e1, fun q => absurd rfl q⟩
        exact ⟨rfl, fun _ => fin, fun _ => ⟨fun _ => fin, fun q => absurd rfl q⟩⟩
    · cases hc

def ct_X5_told (sh : mSH) (rf : mRF) : Nat → Option (Nat × Bool × mPT) := fun k => match k with
  | 192 => some (1, true, pt_mtop sh rf)
  | _ => none
set_option maxRecDepth 20000 in
theorem ce_X5_told : m_CE RX5 6 146 cX5_told 2 ct_X5_told := by
  intro p l e s m args below meth c Q D cs ad sh rf N hx hb hml hown hts hK hi hN k n vf pt h
  unfold ct_X5_told at h
  split at h
  · cases h
    exact m_CG_V mt_X5_top hx hb hml hown hts hK hi hN (ci := 5) m_pv_rec rfl rfl (m_wck_ok (l := [(Cond.methodLink RX5 192 yX5_top, 888), (Cond.instanceMethod yX5_top, 890), (Cond.selects RX5 yX5_top yX5_top, 38), (Cond.initialized RX5, 62), (Cond.code yX5_top cX5_top 3 (some .int), 891)]) (by decide +kernel)) ⟨rfl, by decide +kernel, by decide +kernel, by decide +kernel⟩ ⟨Nat.le_of_ble_eq_true rfl, Nat.le_of_ble_eq_true rfl⟩
  · cases h
set_option maxHeartbeats 4000000 in
set_option maxRecDepth 100000 in
theorem mt_X5_told : m_Mt yX5_told cX5_told 2 (some .int) 6 146 pt_mtold := by
  refine m_method0 80 (fl := fl_X5) (kI := kI_X5) (kJ := kJ_X5) (ct := ct_X5_told) (cd := cd_X5_told) (rk := 1) (by decide +kernel) fl_X5_ok kI_X5_ok kJ_X5_ok ce_X5_told rfl ck_X5_told ⟨_, _, rfl, rfl⟩ ?_
  intro sh rf As I J K hpt
  obtain ⟨d, rest, rfl, hd, wh, rfl, rfl, rfl, rfl, l, σ, h5, hl, hB, hM, hK⟩ := hpt
  have k0 := hK I σ (MO.rfl' I) hM rfl rfl
  refine ⟨Nat.le_of_ble_eq_true rfl, fun j hj e => ?_, fun h => ?_⟩
  · have e : wh = Int32.ofNat j := e
    have hj : j < 5 := hj
    rcases (show j = 0 ∨ j = 1 ∨ j = 2 ∨ j = 3 ∨ j = 4 by omega) with r | r | r | r | r <;> subst r
    · subst e
      exact ⟨rfl, k0⟩
    · subst e
      exact ⟨rfl, k0⟩
    · subst e
      have k0 : K (some (.inl (if I 528 4 = 0 then I 528 7 else 0))) I J := k0
      refine ⟨rfl, fun q => ?_, fun q => ⟨rfl, ?_⟩⟩
      · have q : ¬ I 528 4 = 0 := q
        rw [if_neg q] at k0
        exact k0
      · have q : I 528 4 = 0 := q
        rw [if_pos q] at k0
        exact k0
    · subst e
      have k0 : K (some (.inl (if I 528 6 = 0 then 0 else 1))) I J := k0
      refine ⟨rfl, fun q => ?_, fun q => ?_⟩
      · have q : I 528 6 = 0 := q
        rw [if_pos q] at k0
        exact k0
      · have q : ¬ I 528 6 = 0 := q
        rw [if_neg q] at k0
        exact k0
    · subst e
      exact ⟨528, [], rfl, rfl, l, σ, rfl, rfl, rfl, rfl, h5, hl, hB, hM, fun I1 σ1 F1 M1 k1 => hK I1 σ1 F1 M1 (k1 0 (by decide) (by decide)) (k1 1 (by decide) (by decide))⟩
  · have h : wh < 0 ∨ Int32.ofNat 5 ≤ wh := h
    have e : toldM I (moM J) wh l = -2 := by
      unfold toldM
      rw [if_neg, if_neg, if_neg, if_neg, if_neg] <;> intro e <;> subst e <;> exact absurd h (by decide)
    have k0 : K (some (.inl (toldM I (moM J) wh l))) I J := k0
    rw [e] at k0
    exact k0

