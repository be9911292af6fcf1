/-! ===== the reference: what is left ===== -/
theorem lefS_Zl (mo : Nat → Int) {n d : Nat} (hn : 1 ≤ n) (hn5 : n ≤ 5) : ∀ j, j ≤ d - n + 1 → n ≤ d → lefS mo n d j = Zl mo n j (d - n + 1 - j)
  | 0, _, _ => by rw [lefS, Zl_0 mo hn]
  | j + 1, h, hd => by
    rw [lefS, lefS_Zl mo hn hn5 j (by omega) hd, show d - n + 1 - (j + 1) = d - n - j by omega, Zl_s mo hn hn5, show d - n - j + 1 = d - n + 1 - j by omega, Int.mul_comm]
theorem Zl_drop (mo : Nat → Int) {n : Nat} (hn : 1 ≤ n) (hn5 : n ≤ 5) (t : Nat) : ∀ m, m ≤ n → m ≤ t → Zl mo n t 0 = Dt mo n ^ m * Zl mo n (t - m) m
  | 0, _, _ => by rw [Int.pow_zero, Int.one_mul]; rfl
  | m + 1, h1, h2 => by
    rw [Zl_drop mo hn hn5 t m (by omega) (by omega), show t - m = (t - (m + 1)) + 1 by omega, Zl_s mo hn hn5, of_zero mo hn5 (by omega), Int.mul_zero, Int.add_zero, Int.pow_succ, Int.mul_assoc]
theorem fs_one (mo : Nat → Int) (d : Nat) : ∀ n, fs (fun j => (if j = d then (1 : Int) else 0) * mo j) n = if d < n then mo d else 0
  | 0 => by rw [fs, if_neg (by omega)]
  | n + 1 => by
    rw [fs, fs_one mo d n]
    by_cases q : n = d
    · rw [if_pos q, if_neg (by omega), if_pos (by omega), q]
      omega
    · rw [if_neg q]
      by_cases r : d < n
      · rw [if_pos r, if_pos (by omega)]
        omega
      · rw [if_neg r, if_neg (by omega)]
        omega
theorem bt_le : ∀ n, n < 6 → bt n ≤ 317 := by decide
theorem sd_b {mo : Nat → Int} (hm : ∀ k, k < 12 → (mo k).natAbs ≤ MB) {n t i : Nat} (hn : n ≤ 5) (h1 : 1 ≤ n) (ht : t ≤ 11) (hi : i < n) : (sd mo n t i).natAbs < 2 ^ (24 * 150) := by
  have h := sdp_le hm hn h1 t (i + 1) (by omega)
  have b := bt_le n (by omega)
  have : (bt n + 1) * t ≤ 318 * 11 := Nat.mul_le_mul (by omega) ht
  exact cof h (by omega)
theorem Dp_b {mo : Nat → Int} (hm : ∀ k, k < 12 → (mo k).natAbs ≤ MB) {n t : Nat} (hn : n ≤ 5) (ht : t ≤ 11) : (Dt mo n ^ t).natAbs < 2 ^ (24 * 150) := by
  have h := Dpow_le hm hn t
  have b := bt_le n (by omega)
  have : bt n * t ≤ 317 * 11 := Nat.mul_le_mul b ht
  exact cof h (by omega)
def pt_mleftOnce : mSH → mRF → mPT := m_pv 5 (fun sh rf d rest I J K => ∃ (n t : Nat) (σ : Nat → Int), sh = shL ∧ rf = rfL ∧ d = 528 ∧ rest = [.inl (nI n)] ∧ 1 ≤ n ∧ n ≤ 5 ∧ t ≤ 10 ∧ BM J ∧ MS I σ ∧ (∀ i, i ≤ n → σ (20 + i) = Nm (moM J) n i) ∧ (∀ i, i < n → σ (30 + i) = sd (moM J) n t i) ∧ ∀ I1 σ', MF I I1 → MS I1 σ' → (∀ q, q ≠ 12 → q ≠ 13 → q ≠ 18 → (q < 30 ∨ 30 + n ≤ q) → σ' q = σ q) → (∀ i, i < n → σ' (30 + i) = sd (moM J) n (t + 1) i) → K none I1 J)

def ct_X5_leftOnce (sh : mSH) (rf : mRF) : Nat → Option (Nat × Bool × mPT) := fun k => match k with
  | 66 => some (3, true, pt_mcopy sh rf)
  | 84 => some (4, true, pt_mmul sh rf)
  | 50 => some (3, true, pt_mset sh rf)
  | 164 => some (5, true, pt_madd sh rf)
  | _ => none
set_option maxRecDepth 20000 in
theorem ce_X5_leftOnce : m_CE RX5 3 76 cX5_leftOnce 3 ct_X5_leftOnce := by
  intro p l e s m args below meth c Q D cs ad sh rf N hx hb hml hown hts hK hi hN k n vf pt h
  unfold ct_X5_leftOnce at h
  split at h
  · cases h
    exact m_CG_V mt_X5_copy hx hb hml hown hts hK hi hN (ci := 5) m_pv_rec rfl rfl (m_wck_ok (l := [(Cond.methodLink RX5 66 yX5_copy, 797), (Cond.instanceMethod yX5_copy, 799), (Cond.selects RX5 yX5_copy yX5_copy, 20), (Cond.initialized RX5, 62), (Cond.code yX5_copy cX5_copy 4 none, 800)]) (by decide +kernel)) ⟨rfl, by decide +kernel, by decide +kernel, by decide +kernel⟩ ⟨Nat.le_of_ble_eq_true rfl, Nat.le_of_ble_eq_true rfl⟩
  · cases h
    exact m_CG_V mt_X5_multiply hx hb hml hown hts hK hi hN (ci := 5) m_pv_rec rfl rfl (m_wck_ok (l := [(Cond.methodLink RX5 84 yX5_multiply, 789), (Cond.instanceMethod yX5_multiply, 791), (Cond.selects RX5 yX5_multiply yX5_multiply, 18), (Cond.initialized RX5, 62), (Cond.code yX5_multiply cX5_multiply 11 none, 792)]) (by decide +kernel)) ⟨rfl, by decide +kernel, by decide +kernel, by decide +kernel⟩ ⟨Nat.le_of_ble_eq_true rfl, Nat.le_of_ble_eq_true rfl⟩
  · cases h
    exact m_CG_V mt_X5_set hx hb hml hown hts hK hi hN (ci := 5) m_pv_rec rfl rfl (m_wck_ok (l := [(Cond.methodLink RX5 50 yX5_set, 677), (Cond.instanceMethod yX5_set, 679), (Cond.selects RX5 yX5_set yX5_set, 14), (Cond.initialized RX5, 62), (Cond.code yX5_set cX5_set 7 none, 680)]) (by decide +kernel)) ⟨rfl, by decide +kernel, by decide +kernel, by decide +kernel⟩ ⟨Nat.le_of_ble_eq_true rfl, Nat.le_of_ble_eq_true rfl⟩
  · cases h
    exact m_CG_V mt_X5_add hx hb hml hown hts hK hi hN (ci := 5) m_pv_rec rfl rfl (m_wck_ok (l := [(Cond.methodLink RX5 164 yX5_add, 801), (Cond.instanceMethod yX5_add, 803), (Cond.selects RX5 yX5_add yX5_add, 21), (Cond.initialized RX5, 62), (Cond.code yX5_add cX5_add 8 none, 804)]) (by decide +kernel)) ⟨rfl, by decide +kernel, by decide +kernel, by decide +kernel⟩ ⟨Nat.le_of_ble_eq_true rfl, Nat.le_of_ble_eq_true rfl⟩
  · cases h
set_option maxHeartbeats 4000000 in
set_option maxRecDepth 100000 in
theorem mt_X5_leftOnce : m_Mt yX5_leftOnce cX5_leftOnce 3 none 3 76 pt_mleftOnce := by
  refine m_methodG (fl := fl_X5) (kI := kI_X5) (kJ := kJ_X5) (ct := ct_X5_leftOnce) (cd := cd_X5_leftOnce) (cut := [(16, [0, 1, 2])]) (rk := 0) (fu := 120) (by decide +kernel) fl_X5_ok kI_X5_ok kJ_X5_ok ce_X5_leftOnce rfl ck_X5_leftOnce ⟨_, _, rfl, rfl⟩ ?_
  intro sh rf As I J K hpt
  obtain ⟨d, rest, rfl, hd, n, t, σ, rfl, rfl, rfl, rfl, h1, h5, ht, hB, hM, hR, hD, hK⟩ := hpt
  have hm : ∀ k, k < 12 → (moM J k).natAbs ≤ MB := hB
  refine ⟨Nat.le_of_ble_eq_true rfl, fun a9 b9 pc vs st I1 J1 => st = [] ∧ J1 = J ∧ ∃ c σ', a9 = c ∧ c ≤ n ∧ vs = [.inr (.inr 528), .inl (nI n), .inl (nI c - 1)] ∧ MF I I1 ∧ MS I1 σ' ∧ σ' 18 = sd (moM J) n t (n - 1) ∧ (∀ q, q ≠ 12 → q ≠ 13 → q ≠ 18 → (q < 30 ∨ 30 + n ≤ q) → σ' q = σ q) ∧ (∀ i, c ≤ i → i < n → σ' (30 + i) = sd (moM J) n (t + 1) i) ∧ (∀ i, i < c → σ' (30 + i) = sd (moM J) n t i), ?_, ?_⟩
  · obtain ⟨nw, hw⟩ := hM.wf (s := 30 + n - 1) (by omega)
    have e1 : nI 30 + nI n - nI 1 = nI (30 + n - 1) := by
      rw [nI_add]
      exact pk_sub (by omega)
    refine ⟨528, [.inl (nI 30 + nI n - nI 1), .inl (nI 18)], rfl, rfl, 30 + n - 1, 18, nw, rfl, rfl, rfl, by rw [e1], by omega, by decide, hw, fun I2 c0 c1 c2 c3 => ?_⟩
    have M2 := hM.cp (by omega) hw c0 c1 c2 c3
    refine ⟨n, 0, rfl, rfl, n, _, rfl, Nat.le_refl _, rfl, c0.mf, M2, ?_, fun q _ _ q3 _ => up_o _ _ q3, fun i q r => absurd r (by omega), fun i hi => ?_⟩
    · rw [up_s, show 30 + n - 1 = 30 + (n - 1) by omega]
      exact hD (n - 1) (by omega)
    · rw [up_o _ _ (by omega)]
      exact hD i hi
  · intro pc ks a9 b9 vs st I1 J1 hc hI
    rcases m_cu1 hc with ⟨rfl, rfl⟩ | hc
    · obtain ⟨rfl, rfl, c, σ', rfl, hcn, rfl, F, M, e18, k1, k2, k3⟩ := hI
      rcases Nat.eq_zero_or_pos a9 with q | q
      · subst q
        exact ⟨fun _ => hK I1 σ' F M k1 (fun i hi => k2 i (Nat.zero_le _) hi), fun h => absurd (by decide) h⟩
      · obtain ⟨b, rfl⟩ : ∃ b, a9 = b + 1 := ⟨a9 - 1, by omega⟩
        rw [nI_pred b]
        refine ⟨fun h => absurd h (nI_pos (by omega)), fun _ => ?_⟩
        have z18 := M 18 (by decide)
        rw [e18] at z18
        have zb := M (20 + b) (by omega)
        rw [k1 (20 + b) (by omega) (by omega) (by omega) (by omega), hR b (by omega)] at zb
        have sb := sd_b hm h5 h1 (t := t) (i := n - 1) (by omega) (by omega)
        have nb := mNb hB (k := n) (i := b) h5 (by omega)
        refine ⟨528, [.inl (nI 18), .inl (nI 20 + nI b), .inl (nI 12)], rfl, rfl, 18, 20 + b, 12, 150, 16, _, _, rfl, rfl, rfl, by rw [nI_add], by decide, by omega, by decide, by decide, by omega, z18, zb, sb, nb, by decide, fun I2 s2 v2 => ?_⟩
        have M2 := M.up s2 v2
        have pb := cmul sb nb
        have go : ∀ (I3 : mPI) (σ3 : Nat → Int) (Q : Int), MF I1 I3 → MS I3 σ3 → σ3 13 = Q → σ3 12 = sd (moM J1) n t (n - 1) * Nm (moM J1) n b → (∀ q, q ≠ 12 → q ≠ 13 → σ3 q = σ' q) → Q = Dt (moM J1) n * sdp (moM J1) n t b → Q.natAbs < 2 ^ (24 * 166) → pt_madd shL rfL [.inr (.inr 528), .inl (nI 13), .inl (nI 12), .inl (-1), .inl (nI 30 + nI b)] I3 J1 (fun _ I4 J4 => ∃ a1 b1, (a1 < b + 1 ∨ a1 = b + 1 ∧ b1 < b9) ∧ ([] : List mPV) = [] ∧ J4 = J1 ∧ ∃ c' σ'', a1 = c' ∧ c' ≤ n ∧ ([.inr (.inr 528), .inl (nI n), .inl (nI b + (-1))] : List mPV) = [.inr (.inr 528), .inl (nI n), .inl (nI c' - 1)] ∧ MF I I4 ∧ MS I4 σ'' ∧ σ'' 18 = sd (moM J1) n t (n - 1) ∧ (∀ q, q ≠ 12 → q ≠ 13 → q ≠ 18 → (q < 30 ∨ 30 + n ≤ q) → σ'' q = σ q) ∧ (∀ i, c' ≤ i → i < n → σ'' (30 + i) = sd (moM J1) n (t + 1) i) ∧ (∀ i, i < c' → σ'' (30 + i) = sd (moM J1) n t i)) := by
          intro I3 σ3 Q F3 M3 e13 e12 kk hQ bQ
          have z13 := M3 13 (by decide)
          rw [e13] at z13
          have z12 := M3 12 (by decide)
          rw [e12] at z12
          refine ⟨528, [.inl (nI 13), .inl (nI 12), .inl (-1), .inl (nI 30 + nI b)], rfl, rfl, 13, 12, 30 + b, 166, _, _, -1, rfl, rfl, rfl, by rw [nI_add], by decide, by decide, by omega, Or.inr rfl, z13, z12, bQ, pb, by decide, fun I4 s4 v4 => ?_⟩
          have M4 := M3.up s4 v4
          refine ⟨b, 0, Or.inl (by omega), rfl, rfl, b, _, rfl, by omega, by rw [Int32.sub_eq_add_neg], (F.trans F3).trans s4.mf, M4, ?_, fun q q1 q2 q3 q4 => ?_, fun i i1 i2 => ?_, fun i hi => ?_⟩
          · rw [up_o _ _ (by omega), kk 18 (by decide) (by decide)]
            exact e18
          · rw [up_o _ _ (by omega), kk q q1 q2]
            exact k1 q q1 q2 q3 q4
          · by_cases r : i = b
            · subst r
              rw [up_s, sd_s, hQ, show (-1 : Int32).toInt = -1 from rfl]
              grind
            · rw [up_o _ _ (by omega), kk _ (by omega) (by omega)]
              exact k2 i (by omega) i2
          · rw [up_o _ _ (by omega), kk _ (by omega) (by omega)]
            exact k3 i (by omega)
        refine ⟨fun h => ?_, fun h => ?_⟩
        · have h : nI b ≤ nI 0 := h
          rw [nI_leI (by omega) (by omega)] at h
          obtain rfl : b = 0 := by omega
          refine ⟨528, [.inl (nI 13), .inr (.inl 0)], rfl, rfl, 13, 0, rfl, rfl, rfl, rfl, by decide, by decide, fun I3 s3 v3 => ?_⟩
          have M3 := M2.up s3 v3
          refine go I3 _ 0 (s2.mf.trans s3.mf) M3 (by rw [up_s]; rfl) (by rw [up_o _ _ (by decide), up_s]) (fun q q1 q2 => by rw [up_o _ _ q2, up_o _ _ q1]) ?_ (by decide)
          rw [sdp, Int.mul_zero]
        · have h : ¬ nI b ≤ nI 0 := h
          rw [nI_leI (by omega) (by omega)] at h
          obtain ⟨e, rfl⟩ : ∃ e, b = e + 1 := ⟨b - 1, by omega⟩
          have e1 : nI 30 + nI (e + 1) - nI 1 = nI (30 + e) := by
            rw [nI_add, pk_sub (by omega)]
            rfl
          have ze := M2 (30 + e) (by omega)
          rw [up_o _ _ (by omega), k3 e (by omega)] at ze
          have zn := M2 (20 + n) (by omega)
          rw [up_o _ _ (by omega), k1 (20 + n) (by omega) (by omega) (by omega) (by omega), hR n (by omega), Nm_top (moM J1) h5] at zn
          have se := sd_b hm h5 h1 (t := t) (i := e) (by omega) (by omega)
          have nn := mDb hB (k := n) (by omega)
          refine ⟨528, [.inl (nI 30 + nI (e + 1) - nI 1), .inl (nI 20 + nI n), .inl (nI 13)], rfl, rfl, 30 + e, 20 + n, 13, 150, 16, _, _, rfl, rfl, rfl, by rw [e1, nI_add], by omega, by omega, by decide, by omega, by omega, ze, zn, se, nn, by decide, fun I3 s3 v3 => ?_⟩
          have M3 := M2.up s3 v3
          refine go I3 _ _ (s2.mf.trans s3.mf) M3 (up_s _ _ _) (by rw [up_o _ _ (by decide), up_s]) (fun q q1 q2 => by rw [up_o _ _ q2, up_o _ _ q1]) ?_ (cmul se nn)
          rw [sdp, Int.mul_comm]
    · cases hc

def pt_mlayLeft : mSH → mRF → mPT := m_pv 5 (fun sh rf d rest I J K => ∃ n e : Int32, sh = shL ∧ rf = rfL ∧ d = 528 ∧ rest = [.inl n, .inl e] ∧ AskM I J K (spLeft (moM J) n.toInt e.toInt))
def lfE (mo : Nat → Int) (n d l : Nat) (Y : Int) (S : Nat → Int) : Prop := Y ≠ 0 ∧ Y.natAbs < 2 ^ (24 * 150) ∧ (∀ j, j < n → (S j).natAbs < 2 ^ (24 * 150)) ∧ ∃ U L, spLeft mo (n : Int) (d : Int) l = .inr (U, L) ∧ L ≠ 0 ∧ (mo d * Y - fs (fun j => S j * mo j) n) * L = U * Y
theorem lfE_hi {mo : Nat → Int} (hm : ∀ k, k < 12 → (mo k).natAbs ≤ MB) {n d l : Nat} (h1 : 1 ≤ n) (ht : n ≤ tpf mo l) (h5 : n ≤ 5) (hd : d ≤ l) (hl : l ≤ 11) (hnd : n ≤ d) : lfE mo n d l (Dt mo n ^ (d - n + 1)) (sd mo n (d - n + 1)) := by
  have nz : Dt mo n ≠ 0 := top_nz ht
  have nzp : ∀ t : Nat, Dt mo n ^ t ≠ 0 := fun t => Int.pow_ne_zero nz
  have eX : mo d * Dt mo n ^ (d - n + 1) - fs (fun j => sd mo n (d - n + 1) j * mo j) n = Zl mo n (d - n + 1) 0 := by
    unfold Zl
    rw [show n - 1 + (d - n + 1) + 0 = d by omega, Int.mul_comm]
    rfl
  refine ⟨nzp _, Dp_b hm h5 (by omega), fun j hj => sd_b hm h5 h1 (by omega) hj, ?_⟩
  unfold spLeft
  rw [if_pos ⟨by omega, ⟨by omega, by omega⟩, by omega, by omega⟩, eX]
  by_cases q : (d : Int) - 2 * (n : Int) < 0
  · rw [if_pos q]
    refine ⟨0, 1, rfl, by decide, ?_⟩
    rw [Zl_drop mo h1 h5 (d - n + 1) (d - n + 1) (by omega) (Nat.le_refl _), Nat.sub_self, Zl_0 mo h1, Int.mul_zero, Int.zero_mul, Int.zero_mul]
  · rw [if_neg q]
    refine ⟨_, _, rfl, nzp _, ?_⟩
    rw [show ((n : Nat) : Int).toNat = n by omega, show ((d : Nat) : Int).toNat = d by omega, lefS_Zl mo h1 h5 (d - 2 * n + 1) (by omega) hnd, Zl_drop mo h1 h5 (d - n + 1) n (Nat.le_refl _) (by omega), show d - n + 1 - n = d - 2 * n + 1 by omega, show d - n + 1 - (d - 2 * n + 1) = n by omega, show d - n + 1 = n + (d - 2 * n + 1) by omega, Int.pow_add]
    grind
theorem lfE_lo {mo : Nat → Int} {n d l : Nat} (h1 : 1 ≤ n) (ht : n ≤ tpf mo l) (hd : d ≤ l) (hnd : d < n) : lfE mo n d l 1 (fun j => if j = d then 1 else 0) := by
  refine ⟨by decide, Nat.one_lt_two_pow (by decide), fun j _ => ?_, ?_⟩
  · show (if j = d then (1 : Int) else 0).natAbs < _
    split
    · exact Nat.one_lt_two_pow (by decide)
    · exact Nat.two_pow_pos _
  · unfold spLeft
    rw [if_pos ⟨by omega, ⟨by omega, by omega⟩, by omega, by omega⟩, if_pos (by omega)]
    refine ⟨0, 1, rfl, by decide, ?_⟩
    rw [fs_one, if_pos hnd]
    omega

def ct_X5_layLeft (sh : mSH) (rf : mRF) : Nat → Option (Nat × Bool × mPT) := fun k => match k with
  | 195 => some (2, true, pt_mhasP sh rf)
  | 134 => some (3, false, pt_in sh rf)
  | 204 => some (4, true, pt_mnum sh rf)
  | 50 => some (3, true, pt_mset sh rf)
  | 224 => some (2, true, pt_mleftOnce sh rf)
  | 84 => some (4, true, pt_mmul sh rf)
  | 66 => some (3, true, pt_mcopy sh rf)
  | 161 => some (3, true, pt_mtimes sh rf)
  | 164 => some (5, true, pt_madd sh rf)
  | 198 => some (3, true, pt_mlay sh rf)
  | _ => none
set_option maxRecDepth 20000 in
theorem ce_X5_layLeft : m_CE RX5 7 167 cX5_layLeft 4 ct_X5_layLeft := by
  intro p l e s m args below meth c Q D cs ad sh rf N hx hb hml hown hts hK hi hN k n vf pt h
  unfold ct_X5_layLeft at h
  split at h
  · cases h
    exact m_CG_V mt_X5_hasPolynomial hx hb hml hown hts hK hi hN (ci := 5) m_pv_rec rfl rfl (m_wck_ok (l := [(Cond.methodLink RX5 195 yX5_hasPolynomial, 883), (Cond.instanceMethod yX5_hasPolynomial, 885), (Cond.selects RX5 yX5_hasPolynomial yX5_hasPolynomial, 37), (Cond.initialized RX5, 62), (Cond.code yX5_hasPolynomial cX5_hasPolynomial 2 (some .boolean), 886)]) (by decide +kernel)) ⟨rfl, by decide +kernel, by decide +kernel, by decide +kernel⟩ ⟨Nat.le_of_ble_eq_true rfl, Nat.le_of_ble_eq_true rfl⟩
  · cases h
    exact m_CG_S mt_X5_in hx hb hml hown hts hK hi hN (m_wck_ok (l := [(Cond.methodLink RX5 134 yX5_in, 748), (Cond.static yX5_in, 749), (Cond.initialized RX5, 62), (Cond.code yX5_in cX5_in 6 (some .boolean), 750)]) (by decide +kernel)) ⟨by decide +kernel, by decide +kernel, by decide +kernel⟩ ⟨Nat.le_of_ble_eq_true rfl, Nat.le_of_ble_eq_true rfl⟩
  · cases h
    exact m_CG_V mt_X5_number hx hb hml hown hts hK hi hN (ci := 5) m_pv_rec rfl rfl (m_wck_ok (l := [(Cond.methodLink RX5 204 yX5_number, 920), (Cond.instanceMethod yX5_number, 922), (Cond.selects RX5 yX5_number yX5_number, 44), (Cond.initialized RX5, 62), (Cond.code yX5_number cX5_number 4 none, 923)]) (by decide +kernel)) ⟨rfl, by decide +kernel, by decide +kernel, by decide +kernel⟩ ⟨Nat.le_of_ble_eq_true rfl, Nat.le_of_ble_eq_true rfl⟩
  · cases h
    exact m_CG_V mt_X5_set hx hb hml hown hts hK hi hN (ci := 5) m_pv_rec rfl rfl (m_wck_ok (l := [(Cond.methodLink RX5 50 yX5_set, 677), (Cond.instanceMethod yX5_set, 679), (Cond.selects RX5 yX5_set yX5_set, 14), (Cond.initialized RX5, 62), (Cond.code yX5_set cX5_set 7 none, 680)]) (by decide +kernel)) ⟨rfl, by decide +kernel, by decide +kernel, by decide +kernel⟩ ⟨Nat.le_of_ble_eq_true rfl, Nat.le_of_ble_eq_true rfl⟩
  · cases h
    exact m_CG_V mt_X5_leftOnce hx hb hml hown hts hK hi hN (ci := 5) m_pv_rec rfl rfl (m_wck_ok (l := [(Cond.methodLink RX5 224 yX5_leftOnce, 965), (Cond.instanceMethod yX5_leftOnce, 967), (Cond.selects RX5 yX5_leftOnce yX5_leftOnce, 48), (Cond.initialized RX5, 62), (Cond.code yX5_leftOnce cX5_leftOnce 3 none, 968)]) (by decide +kernel)) ⟨rfl, by decide +kernel, by decide +kernel, by decide +kernel⟩ ⟨Nat.le_of_ble_eq_true rfl, Nat.le_of_ble_eq_true rfl⟩
  · cases h
    exact m_CG_V mt_X5_multiply hx hb hml hown hts hK hi hN (ci := 5) m_pv_rec rfl rfl (m_wck_ok (l := [(Cond.methodLink RX5 84 yX5_multiply, 789), (Cond.instanceMethod yX5_multiply, 791), (Cond.selects RX5 yX5_multiply yX5_multiply, 18), (Cond.initialized RX5, 62), (Cond.code yX5_multiply cX5_multiply 11 none, 792)]) (by decide +kernel)) ⟨rfl, by decide +kernel, by decide +kernel, by decide +kernel⟩ ⟨Nat.le_of_ble_eq_true rfl, Nat.le_of_ble_eq_true rfl⟩
  · cases h
    exact m_CG_V mt_X5_copy hx hb hml hown hts hK hi hN (ci := 5) m_pv_rec rfl rfl (m_wck_ok (l := [(Cond.methodLink RX5 66 yX5_copy, 797), (Cond.instanceMethod yX5_copy, 799), (Cond.selects RX5 yX5_copy yX5_copy, 20), (Cond.initialized RX5, 62), (Cond.code yX5_copy cX5_copy 4 none, 800)]) (by decide +kernel)) ⟨rfl, by decide +kernel, by decide +kernel, by decide +kernel⟩ ⟨Nat.le_of_ble_eq_true rfl, Nat.le_of_ble_eq_true rfl⟩
  · cases h
    exact m_CG_V mt_X5_times hx hb hml hown hts hK hi hN (ci := 5) m_pv_rec rfl rfl (m_wck_ok (l := [(Cond.methodLink RX5 161 yX5_times, 785), (Cond.instanceMethod yX5_times, 787), (Cond.selects RX5 yX5_times yX5_times, 17), (Cond.initialized RX5, 62), (Cond.code yX5_times cX5_times 4 none, 788)]) (by decide +kernel)) ⟨rfl, by decide +kernel, by decide +kernel, by decide +kernel⟩ ⟨Nat.le_of_ble_eq_true rfl, Nat.le_of_ble_eq_true rfl⟩
  · cases h
    exact m_CG_V mt_X5_add hx hb hml hown hts hK hi hN (ci := 5) m_pv_rec rfl rfl (m_wck_ok (l := [(Cond.methodLink RX5 164 yX5_add, 801), (Cond.instanceMethod yX5_add, 803), (Cond.selects RX5 yX5_add yX5_add, 21), (Cond.initialized RX5, 62), (Cond.code yX5_add cX5_add 8 none, 804)]) (by decide +kernel)) ⟨rfl, by decide +kernel, by decide +kernel, by decide +kernel⟩ ⟨Nat.le_of_ble_eq_true rfl, Nat.le_of_ble_eq_true rfl⟩
  · cases h
    exact m_CG_V mt_X5_lay hx hb hml hown hts hK hi hN (ci := 5) m_pv_rec rfl rfl (m_wck_ok (l := [(Cond.methodLink RX5 198 yX5_lay, 843), (Cond.instanceMethod yX5_lay, 845), (Cond.selects RX5 yX5_lay yX5_lay, 29), (Cond.initialized RX5, 62), (Cond.code yX5_lay cX5_lay 3 (some .int), 846)]) (by decide +kernel)) ⟨rfl, by decide +kernel, by decide +kernel, by decide +kernel⟩ ⟨Nat.le_of_ble_eq_true rfl, Nat.le_of_ble_eq_true rfl⟩
  · cases h
set_option maxHeartbeats 4000000 in
set_option maxRecDepth 100000 in
theorem mt_X5_layLeft : m_Mt yX5_layLeft cX5_layLeft 4 (some .int) 7 167 pt_mlayLeft := by
  refine m_methodG (fl := fl_X5) (kI := kI_X5) (kJ := kJ_X5) (ct := ct_X5_layLeft) (cd := cd_X5_layLeft) (cut := [(30, [0, 1, 2, 3]), (93, [0, 1, 2, 3]), (127, [0, 1, 2]), (155, [0, 1, 2, 3])]) (rk := 1) (fu := 120) (by decide +kernel) fl_X5_ok kI_X5_ok kJ_X5_ok ce_X5_layLeft rfl ck_X5_layLeft ⟨_, _, rfl, rfl⟩ ?_
  intro sh rf As I J K hpt
  obtain ⟨d, rest, rfl, hd, n, e, rfl, rfl, rfl, rfl, l, σ, h5, hl, hB, hM, hK⟩ := hpt
  have hm : ∀ k, k < 12 → (moM J k).natAbs ≤ MB := hB
  have inl {I1 : mPI} (F : MO I I1) : ((0 : Int64).toInt ≤ e.toInt64.toInt ∧ e.toInt64.toInt ≤ (I1 528 5).toInt64.toInt) ↔ (0 ≤ e.toInt ∧ e.toInt ≤ l) := by
    rw [F 528 (by decide) (by decide) (by decide) (by decide), h5, Int32.toInt_toInt64, Int32.toInt_toInt64, nI_toInt (by omega), show (0 : Int64).toInt = 0 from rfl]
  by_cases G : n.toInt ≠ 0 ∧ hasP (moM J) l n.toInt ∧ 0 ≤ e.toInt ∧ e.toInt ≤ l
  · obtain ⟨g0, gP, ge0, gel⟩ := G
    have t5 : tpf (moM J) l ≤ 5 := (tpF_le (moM J) l 6 0 (by decide)).1
    obtain ⟨en, -⟩ := i_nat gP.1
    obtain ⟨ee, -⟩ := i_nat ge0
    have inl := @inl
    obtain ⟨nn, hnn⟩ : ∃ nn, nn = n.toInt.toNat := ⟨_, rfl⟩
    obtain ⟨dd, hdd⟩ : ∃ dd, dd = e.toInt.toNat := ⟨_, rfl⟩
    rw [← hnn] at en
    rw [← hdd] at ee
    have hn1 : 1 ≤ nn := by have := gP.1; omega
    have hnt : nn ≤ tpf (moM J) l := by have := gP.2; omega
    have hn5 : nn ≤ 5 := by omega
    have hdl : dd ≤ l := by omega
    have i1 : n.toInt = (nn : Int) := by have := gP.1; omega
    have i2 : e.toInt = (dd : Int) := by omega
    rw [i1, i2] at hK
    subst en ee
    refine ⟨Nat.le_of_ble_eq_true rfl, fun a9 b9 pc vs st I1 J1 => st = [] ∧ J1 = J ∧ ∃ σ', MO I I1 ∧ MS I1 σ' ∧ ((pc = 30 ∧ ∃ i, i ≤ nn + 1 ∧ a9 = 100 - i ∧ vs = [.inr (.inr 528), .inl (nI nn), .inl (nI dd), .inl (nI i)] ∧ ∀ j, j < i → σ' (20 + j) = Nm (moM J) nn j ∧ σ' (30 + j) = if j = dd then 1 else 0) ∨ (pc = 93 ∧ nn ≤ dd ∧ ∃ t, t ≤ dd - nn + 1 ∧ a9 = 50 - t ∧ vs = [.inr (.inr 528), .inl (nI nn), .inl (nI dd), .inl (nI (nn + t))] ∧ (∀ j, j ≤ nn → σ' (20 + j) = Nm (moM J) nn j) ∧ (∀ j, j < nn → σ' (30 + j) = sd (moM J) nn t j) ∧ σ' 3 = Dt (moM J) nn ^ t) ∨ (pc = 127 ∧ a9 = 20 ∧ vs = [.inr (.inr 528), .inl (nI nn), .inl (nI dd)] ∧ ∃ Y S, lfE (moM J) nn dd l Y S ∧ σ' 3 = Y ∧ ∀ j, j < nn → σ' (30 + j) = S j) ∨ (pc = 155 ∧ ∃ i, i ≤ nn ∧ a9 = 10 - i ∧ vs = [.inr (.inr 528), .inl (nI nn), .inl (nI dd), .inl (nI i)] ∧ ∃ Y S, lfE (moM J) nn dd l Y S ∧ σ' 3 = Y ∧ (∀ j, i ≤ j → j < nn → σ' (30 + j) = S j) ∧ σ' 2 = moM J dd * Y - fs (fun j => S j * moM J j) i ∧ (σ' 2).natAbs < 2 ^ (24 * (153 + i)))), ?_, ?_⟩
    · refine ⟨fun h => absurd h (nI_ne0 (by omega) (by omega)), fun _ => ?_⟩
      refine ⟨528, [.inl (nI nn)], rfl, rfl, nI nn, l, σ, rfl, rfl, rfl, rfl, h5, hl, hB, hM, fun I2 σ2 F2 M2 k2 => ?_⟩
      rw [if_pos gP]
      refine ⟨fun q => absurd q (by decide), fun _ => ⟨rfl, (nI dd).toInt64, 0, (I2 528 5).toInt64, rfl, ?_⟩⟩
      rw [if_pos ((inl F2).mpr ⟨ge0, gel⟩)]
      exact ⟨fun _ => ⟨100 - 0, 0, rfl, rfl, σ2, F2, M2, Or.inl ⟨rfl, 0, by omega, rfl, rfl, fun j hj => absurd hj (Nat.not_lt_zero j)⟩⟩, fun q => absurd q (by decide)⟩
    · intro pc ks a9 b9 vs st I1 J1 hc hI
      obtain ⟨rfl, rfl, σ', F, M, hI⟩ := hI
      rcases m_cu1 hc with ⟨rfl, rfl⟩ | hc
      · obtain ⟨i, hi, rfl, rfl, h6⟩ : ∃ i, i ≤ nn + 1 ∧ a9 = 100 - i ∧ vs = [.inr (.inr 528), .inl (nI nn), .inl (nI dd), .inl (nI i)] ∧ ∀ j, j < i → σ' (20 + j) = Nm (moM J1) nn j ∧ σ' (30 + j) = if j = dd then 1 else 0 := by
          rcases hI with ⟨-, q⟩ | ⟨q, -⟩ | ⟨q, -⟩ | ⟨q, -⟩
          · exact q
          · exact absurd q (by decide)
          · exact absurd q (by decide)
          · exact absurd q (by decide)
        clear hI
        refine ⟨fun h => ?_, fun h => ?_⟩
        · have h : nI nn < nI i := h
          rw [nI_ltI (by omega) (by omega)] at h
          obtain rfl : i = nn + 1 := by omega
          refine ⟨528, [.inl (nI 3), .inr (.inl 1)], rfl, rfl, 3, 1, rfl, rfl, rfl, rfl, by decide, by decide, fun I2 s2 v2 => ?_⟩
          have M2 := M.up s2 v2
          refine ⟨fun h2 => ?_, fun h2 => ?_⟩
          · have h2 : nI dd < nI nn := h2
            rw [nI_ltI (by omega) (by omega)] at h2
            exact ⟨20, 0, Or.inl (by omega), rfl, rfl, _, F.trans s2.mo, M2, Or.inr (Or.inr (Or.inl ⟨rfl, rfl, rfl, 1, _, lfE_lo hn1 hnt hdl h2, by rw [up_s]; rfl, fun j hj => by rw [up_o _ _ (by omega)]; exact (h6 j (by omega)).2⟩))⟩
          · have h2 : ¬ nI dd < nI nn := h2
            rw [nI_ltI (by omega) (by omega)] at h2
            have e1 : nI 30 + nI nn - nI 1 = nI (30 + nn - 1) := by
              rw [nI_add]
              exact pk_sub (by omega)
            refine ⟨528, [.inl (nI 30 + nI nn - nI 1), .inr (.inl 1)], rfl, rfl, 30 + nn - 1, 1, rfl, rfl, rfl, by rw [e1], by omega, by decide, fun I3 s3 v3 => ?_⟩
            have M3 := M2.up s3 v3
            refine ⟨50 - 0, 0, Or.inl (by omega), rfl, rfl, _, (F.trans s2.mo).trans s3.mo, M3, Or.inr (Or.inl ⟨rfl, by omega, 0, by omega, rfl, rfl, fun j hj => ?_, fun j hj => ?_, ?_⟩)⟩
            · rw [up_o _ _ (by omega), up_o _ _ (by omega)]
              exact (h6 j (by omega)).1
            · by_cases q : j + 1 = nn
              · rw [show 30 + nn - 1 = 30 + j by omega, up_s, sd, if_pos q]
                rfl
              · rw [up_o _ _ (by omega), up_o _ _ (by omega), (h6 j (by omega)).2, if_neg (by omega), sd, if_neg q]
            · rw [up_o _ _ (by omega), up_s, Int.pow_zero]
              rfl
        · have h : ¬ nI nn < nI i := h
          rw [nI_ltI (by omega) (by omega)] at h
          refine ⟨528, [.inl (nI nn), .inl (nI i), .inl (nI 20 + nI i)], rfl, rfl, nn, 20 + i, nI i, σ', rfl, rfl, rfl, by rw [nI_add], hn5, by omega, by unfold nD; omega, hB, M, fun I2 σ2 F2 M2 k2 e2 => ?_⟩
          rw [nI_toInt (by omega), if_pos (by omega), show ((i : Nat) : Int).toNat = i by omega] at e2
          have fin : ∀ v : Int64, v.toInt = (if i = dd then 1 else 0) → pt_mset shL rfL [.inr (.inr 528), .inl (nI 30 + nI i), .inr (.inl v)] I2 J1 (fun _ I3 J3 => ∃ a1 b1, (a1 < 100 - i ∨ a1 = 100 - i ∧ b1 < b9) ∧ ([] : List mPV) = [] ∧ J3 = J1 ∧ ∃ σ'', MO I I3 ∧ MS I3 σ'' ∧ ((30 = 30 ∧ ∃ i', i' ≤ nn + 1 ∧ a1 = 100 - i' ∧ ([.inr (.inr 528), .inl (nI nn), .inl (nI dd), .inl (nI i + 1)] : List mPV) = [.inr (.inr 528), .inl (nI nn), .inl (nI dd), .inl (nI i')] ∧ ∀ j, j < i' → σ'' (20 + j) = Nm (moM J1) nn j ∧ σ'' (30 + j) = if j = dd then 1 else 0) ∨ (30 = 93 ∧ nn ≤ dd ∧ ∃ t, t ≤ dd - nn + 1 ∧ a1 = 50 - t ∧ ([.inr (.inr 528), .inl (nI nn), .inl (nI dd), .inl (nI i + 1)] : List mPV) = [.inr (.inr 528), .inl (nI nn), .inl (nI dd), .inl (nI (nn + t))] ∧ (∀ j, j ≤ nn → σ'' (20 + j) = Nm (moM J1) nn j) ∧ (∀ j, j < nn → σ'' (30 + j) = sd (moM J1) nn t j) ∧ σ'' 3 = Dt (moM J1) nn ^ t) ∨ (30 = 127 ∧ a1 = 20 ∧ ([.inr (.inr 528), .inl (nI nn), .inl (nI dd), .inl (nI i + 1)] : List mPV) = [.inr (.inr 528), .inl (nI nn), .inl (nI dd)] ∧ ∃ Y S, lfE (moM J1) nn dd l Y S ∧ σ'' 3 = Y ∧ ∀ j, j < nn → σ'' (30 + j) = S j) ∨ (30 = 155 ∧ ∃ i', i' ≤ nn ∧ a1 = 10 - i' ∧ ([.inr (.inr 528), .inl (nI nn), .inl (nI dd), .inl (nI i + 1)] : List mPV) = [.inr (.inr 528), .inl (nI nn), .inl (nI dd), .inl (nI i')] ∧ ∃ Y S, lfE (moM J1) nn dd l Y S ∧ σ'' 3 = Y ∧ (∀ j, i' ≤ j → j < nn → σ'' (30 + j) = S j) ∧ σ'' 2 = moM J1 dd * Y - fs (fun j => S j * moM J1 j) i' ∧ (σ'' 2).natAbs < 2 ^ (24 * (153 + i'))))) := by
            intro v hv
            refine ⟨528, [.inl (nI 30 + nI i), .inr (.inl v)], rfl, rfl, 30 + i, v, rfl, rfl, rfl, by rw [nI_add], by omega, by rw [hv]; split <;> decide, fun I3 s3 v3 => ?_⟩
            have M3 := M2.up s3 v3
            refine ⟨100 - (i + 1), 0, Or.inl (by omega), rfl, rfl, _, (F.trans F2).trans s3.mo, M3, Or.inl ⟨rfl, i + 1, by omega, rfl, by rw [← nI_1 i], fun j hj => ⟨?_, ?_⟩⟩⟩
            · rw [up_o _ _ (by omega)]
              by_cases q : j = i
              · rw [q]
                exact e2
              · rw [k2 (20 + j) (by unfold nD; omega) (by omega)]
                exact (h6 j (by omega)).1
            · by_cases q : j = i
              · rw [q, up_s]
                exact hv
              · rw [up_o _ _ (by omega), k2 (30 + j) (by unfold nD; omega) (by omega)]
                exact (h6 j (by omega)).2
          refine ⟨fun h2 => ?_, fun h2 => ?_⟩
          · have h2 : ¬ nI i = nI dd := h2
            rw [nI_eq (by omega) (by omega)] at h2
            exact fin 0 (by rw [if_neg h2]; rfl)
          · have h2 : nI i = nI dd := h2
            rw [nI_eq (by omega) (by omega)] at h2
            exact fin 1 (by rw [if_pos h2]; rfl)
      rcases m_cu1 hc with ⟨rfl, rfl⟩ | hc
      · obtain ⟨hnd, t, ht, rfl, rfl, h6, h7, h8⟩ : nn ≤ dd ∧ ∃ t, t ≤ dd - nn + 1 ∧ a9 = 50 - t ∧ vs = [.inr (.inr 528), .inl (nI nn), .inl (nI dd), .inl (nI (nn + t))] ∧ (∀ j, j ≤ nn → σ' (20 + j) = Nm (moM J1) nn j) ∧ (∀ j, j < nn → σ' (30 + j) = sd (moM J1) nn t j) ∧ σ' 3 = Dt (moM J1) nn ^ t := by
          rcases hI with ⟨q, -⟩ | ⟨-, q⟩ | ⟨q, -⟩ | ⟨q, -⟩
          · exact absurd q (by decide)
          · exact q
          · exact absurd q (by decide)
          · exact absurd q (by decide)
        clear hI
        refine ⟨fun h => ?_, fun h => ?_⟩
        · have h : nI dd < nI (nn + t) := h
          rw [nI_ltI (by omega) (by omega)] at h
          obtain rfl : t = dd - nn + 1 := by omega
          exact ⟨20, 0, Or.inl (by omega), rfl, rfl, σ', F, M, Or.inr (Or.inr (Or.inl ⟨rfl, rfl, rfl, _, _, lfE_hi hm hn1 hnt hn5 hdl hl hnd, h8, h7⟩))⟩
        · have h : ¬ nI dd < nI (nn + t) := h
          rw [nI_ltI (by omega) (by omega)] at h
          refine ⟨528, [.inl (nI nn)], rfl, rfl, nn, t, σ', rfl, rfl, rfl, rfl, hn1, hn5, by omega, hB, M, h6, h7, fun I2 σ2 F2 M2 k2 e2 => ?_⟩
          have z3 := M2 3 (by decide)
          rw [k2 3 (by decide) (by decide) (by decide) (by omega), h8] at z3
          have zn := M2 (20 + nn) (by omega)
          rw [k2 (20 + nn) (by omega) (by omega) (by omega) (by omega), h6 nn (Nat.le_refl _), Nm_top (moM J1) hn5] at zn
          refine ⟨528, [.inl (nI 3), .inl (nI 20 + nI nn), .inl (nI 13)], rfl, rfl, 3, 20 + nn, 13, 150, 16, _, _, rfl, rfl, rfl, by rw [nI_add], by decide, by omega, by decide, by decide, by omega, z3, zn, Dp_b hm hn5 (by omega), mDb hB (by omega), by decide, fun I3 s3 v3 => ?_⟩
          have M3 := M2.up s3 v3
          obtain ⟨nw, hw⟩ := M3.wf (s := 13) (by decide)
          refine ⟨528, [.inl (nI 13), .inl (nI 3)], rfl, rfl, 13, 3, nw, rfl, rfl, rfl, rfl, by decide, by decide, hw, fun I4 c0 c1 c2 c3 => ?_⟩
          have M4 := M3.cp (by decide) hw c0 c1 c2 c3
          refine ⟨50 - (t + 1), 0, Or.inl (by omega), rfl, rfl, _, ((F.trans F2.mo).trans s3.mo).trans c0.mo, M4, Or.inr (Or.inl ⟨rfl, hnd, t + 1, by omega, rfl, by rw [← Nat.add_assoc, ← nI_1 (nn + t)], fun j hj => ?_, fun j hj => ?_, ?_⟩)⟩
          · rw [up_o _ _ (by omega), up_o _ _ (by omega), k2 (20 + j) (by omega) (by omega) (by omega) (by omega)]
            exact h6 j hj
          · rw [up_o _ _ (by omega), up_o _ _ (by omega)]
            exact e2 j hj
          · rw [up_s, up_s, Int.pow_succ]
      rcases m_cu1 hc with ⟨rfl, rfl⟩ | hc
      · obtain ⟨rfl, rfl, Y, S, E, h6, h7⟩ : a9 = 20 ∧ vs = [.inr (.inr 528), .inl (nI nn), .inl (nI dd)] ∧ ∃ Y S, lfE (moM J1) nn dd l Y S ∧ σ' 3 = Y ∧ ∀ j, j < nn → σ' (30 + j) = S j := by
          rcases hI with ⟨q, -⟩ | ⟨q, -⟩ | ⟨-, q⟩ | ⟨q, -⟩
          · exact absurd q (by decide)
          · exact absurd q (by decide)
          · exact q
          · exact absurd q (by decide)
        clear hI
        have dcl : (nI dd).toNatClampNeg = dd := nI_clamp (by omega)
        have mbd := hB.b (k := dd) (by omega)
        have mbd' : (J1 532 dd).toInt.natAbs ≤ 2 ^ 62 := mbd
        refine ⟨rfl, jin (by omega), 528, [.inl (nI 2), .inr (.inl (J1 532 (nI dd).toNatClampNeg))], rfl, rfl, 2, J1 532 (nI dd).toNatClampNeg, rfl, rfl, rfl, rfl, by decide, by rw [dcl]; omega, fun I2 s2 v2 => ?_⟩
        rw [dcl] at v2
        have M2 := M.up s2 v2
        have z2 := M2 2 (by decide)
        rw [up_s] at z2
        have z3 := M2 3 (by decide)
        rw [up_o _ _ (by decide), h6] at z3
        have b2 : (J1 532 dd).toInt.natAbs < 2 ^ (24 * 3) := by omega
        have b23 := cmul b2 E.2.1
        refine ⟨528, [.inl (nI 2), .inl (nI 3), .inl (nI 13)], rfl, rfl, 2, 3, 13, 3, 150, _, _, rfl, rfl, rfl, rfl, by decide, by decide, by decide, by decide, by decide, z2, z3, b2, E.2.1, by decide, fun I3 s3 v3 => ?_⟩
        have M3 := M2.up s3 v3
        obtain ⟨nw, hw⟩ := M3.wf (s := 13) (by decide)
        refine ⟨528, [.inl (nI 13), .inl (nI 2)], rfl, rfl, 13, 2, nw, rfl, rfl, rfl, rfl, by decide, by decide, hw, fun I4 c0 c1 c2 c3 => ?_⟩
        have M4 := M3.cp (by decide) hw c0 c1 c2 c3
        refine ⟨10 - 0, 0, Or.inl (by omega), rfl, rfl, _, ((F.trans s2.mo).trans s3.mo).trans c0.mo, M4, Or.inr (Or.inr (Or.inr ⟨rfl, 0, by omega, rfl, rfl, Y, S, E, ?_, fun j _ hj => ?_, ?_, ?_⟩))⟩
        · rw [up_o _ _ (by decide), up_o _ _ (by decide), up_o _ _ (by decide)]
          exact h6
        · rw [up_o _ _ (by omega), up_o _ _ (by omega), up_o _ _ (by omega)]
          exact h7 j hj
        · rw [up_s, up_s, fs, Int.sub_zero]
          rfl
        · rw [up_s, up_s]
          exact cup b23 (by decide)
      rcases m_cu1 hc with ⟨rfl, rfl⟩ | hc
      · obtain ⟨i, hi, rfl, rfl, Y, S, E, h6, h7, h8, h9⟩ : ∃ i, i ≤ nn ∧ a9 = 10 - i ∧ vs = [.inr (.inr 528), .inl (nI nn), .inl (nI dd), .inl (nI i)] ∧ ∃ Y S, lfE (moM J1) nn dd l Y S ∧ σ' 3 = Y ∧ (∀ j, i ≤ j → j < nn → σ' (30 + j) = S j) ∧ σ' 2 = moM J1 dd * Y - fs (fun j => S j * moM J1 j) i ∧ (σ' 2).natAbs < 2 ^ (24 * (153 + i)) := by
          rcases hI with ⟨q, -⟩ | ⟨q, -⟩ | ⟨q, -⟩ | ⟨-, q⟩
          · exact absurd q (by decide)
          · exact absurd q (by decide)
          · exact absurd q (by decide)
          · exact q
        clear hI
        refine ⟨fun h => ?_, fun h => ?_⟩
        · have h : nI nn ≤ nI i := h
          rw [nI_leI (by omega) (by omega)] at h
          obtain rfl : i = nn := by omega
          obtain ⟨y0, yb, -, U, L, hx, hL, hxy⟩ := E
          have y0' : σ' 3 ≠ 0 := by rw [h6]; exact y0
          have yb' : (σ' 3).natAbs < 2 ^ (24 * 150) := by rw [h6]; exact yb
          refine ⟨528, [.inl (nI 2), .inl (nI 3)], rfl, rfl, 2, 3, σ', rfl, rfl, rfl, rfl, by decide, by decide, by decide, by decide, by decide, M, y0', cup h9 (by omega), cup yb' (by decide), fun I6 σ6 F6 M6 p1 p2 p3 p4 p5 => ?_⟩
          exact lay_end2 hK hx (F.trans F6.mo) M6 p1 p2 p3 p4 p5 h8 h6 hL y0 hxy (by rw [← h8]; exact cup h9 (by omega)) (cup yb (by decide))
        · have h : ¬ nI nn ≤ nI i := h
          rw [nI_leI (by omega) (by omega)] at h
          have icl : (nI i).toNatClampNeg = i := nI_clamp (by omega)
          have mbd := hB.b (k := i) (by omega)
          have mbd' : (J1 532 i).toInt.natAbs ≤ 2 ^ 62 := mbd
          have b2 : (J1 532 i).toInt.natAbs < 2 ^ (24 * 3) := by omega
          have es := h7 i (Nat.le_refl _) (by omega)
          have sb := E.2.2.1 i (by omega)
          refine ⟨rfl, jin (by omega), 528, [.inl (nI 30 + nI i), .inr (.inl (J1 532 (nI i).toNatClampNeg))], rfl, rfl, 30 + i, 150, J1 532 (nI i).toNatClampNeg, σ', rfl, rfl, rfl, by rw [nI_add], by omega, by omega, by omega, M, by rw [icl]; omega, by rw [es]; exact sb, by decide, fun I2 F2 M2 => ?_⟩
          rw [icl, es] at M2
          have z2 := M2 2 (by decide)
          rw [up_o _ _ (by omega), up_o _ _ (by decide), up_o _ _ (by decide)] at z2
          have zi := M2 (30 + i) (by omega)
          rw [up_s] at zi
          have bi := cmul sb b2
          refine ⟨528, [.inl (nI 2), .inl (nI 30 + nI i), .inl (-1), .inl (nI 2)], rfl, rfl, 2, 30 + i, 2, 153 + i, _, _, -1, rfl, rfl, rfl, by rw [nI_add], by decide, by omega, by decide, Or.inr rfl, z2, zi, h9, cup bi (by omega), by omega, fun I3 s3 v3 => ?_⟩
          have M3 := M2.up s3 v3
          refine ⟨10 - (i + 1), 0, Or.inl (by omega), rfl, rfl, _, (F.trans F2.mo).trans s3.mo, M3, Or.inr (Or.inr (Or.inr ⟨rfl, i + 1, by omega, rfl, by rw [← nI_1 i], Y, S, E, ?_, fun j hj1 hj2 => ?_, ?_, ?_⟩))⟩
          · rw [up_o _ _ (by decide), up_o _ _ (by omega), up_o _ _ (by decide), up_o _ _ (by decide)]
            exact h6
          · rw [up_o _ _ (by omega), up_o _ _ (by omega), up_o _ _ (by omega), up_o _ _ (by omega)]
            exact h7 j (by omega) hj2
          · rw [up_s, fs, h8, show (-1 : Int32).toInt = -1 from rfl]
            show _ = _ - (_ + S i * (J1 532 i).toInt)
            omega
          · rw [up_s]
            have hneg : ((-1 : Int32).toInt * (S i * (J1 532 i).toInt)).natAbs < 2 ^ (24 * (153 + i)) := by
              rw [show (-1 : Int32).toInt = -1 from rfl]
              have := cup bi (b := 153 + i) (by omega)
              omega
            have := cadd h9 hneg
            rw [show 153 + (i + 1) = 153 + i + 1 by omega]
            exact this
      · cases hc
  · refine ⟨Nat.le_of_ble_eq_true rfl, fun _ _ _ _ _ _ _ => False, ?_, fun pc ks a b vs st I1 J1 _ h => h.elim⟩
    have hx : spLeft (moM J) n.toInt e.toInt l = .inl (-1) := by
      unfold spLeft
      rw [if_neg G]
    have w0 : n = 0 ↔ n.toInt = 0 := i_of (j := 0) (by decide)
    refine ⟨fun h => AskM.no hK hx (MO.rfl' I) hM rfl rfl, fun h => ?_⟩
    have h : ¬ n = 0 := h
    refine ⟨528, [.inl n], rfl, rfl, n, l, σ, rfl, rfl, rfl, rfl, h5, hl, hB, hM, fun I2 σ2 F2 M2 k2 => ?_⟩
    have kk : σ2 0 = σ 0 ∧ σ2 1 = σ 1 := ⟨k2 0 (by decide) (by decide), k2 1 (by decide) (by decide)⟩
    by_cases gP : hasP (moM J) l n.toInt
    · rw [if_pos gP]
      refine ⟨fun q => absurd q (by decide), fun _ => ⟨rfl, e.toInt64, 0, (I2 528 5).toInt64, rfl, ?_⟩⟩
      rw [if_neg (fun q => G ⟨mt w0.mpr h, gP, (inl F2).mp q⟩)]
      exact ⟨fun q => absurd rfl q, fun _ => AskM.no hK hx F2 M2 kk.1 kk.2⟩
    · rw [if_neg gP]
      exact ⟨fun _ => AskM.no hK hx F2 M2 kk.1 kk.2, fun q => absurd rfl q⟩

