/-! ===== the reference: the determinant's loop, numbers, top ===== -/
def MO (I I1 : mPI) : Prop := ∀ a, a ≠ 529 → a ≠ 530 → a ≠ 531 → a ≠ 536 → I1 a = I a
theorem MO.rfl' (I : mPI) : MO I I := fun _ _ _ _ _ => rfl
theorem MO.trans {I I1 I2 : mPI} (h : MO I I1) (g : MO I1 I2) : MO I I2 := fun a p q r t => (g a p q r t).trans (h a p q r t)
theorem MF.mo {I I1 : mPI} (h : MF I I1) : MO I I1 := fun a p q r _ => h a p q r
theorem SF.mo {I I1 : mPI} {t : Nat} (h : SF I I1 t) : MO I I1 := h.mf.mo
theorem OF.mo {I I1 : mPI} (h : OF I I1) : MO I I1 := fun a _ _ _ t => h a t
theorem MS.cg {I I1 : mPI} {σ : Nat → Int} (h : MS I σ) (h1 : I1 529 = I 529) (h2 : I1 530 = I 530) (h3 : I1 531 = I 531) : MS I1 σ := fun s hs => by
  obtain ⟨n, ⟨⟨a1, a2, a3⟩, a4⟩, a5, a6⟩ := h s hs
  exact ⟨n, ⟨⟨by rw [h2]; exact a1, a2, fun k hk => by rw [zd_cg h1]; exact a3 k hk⟩, by rw [dv_congr (fun k _ => zd_cg h1)]; exact a4⟩, fun q => by rw [zd_cg h1]; exact a5 q, by rw [h3]; exact a6⟩
theorem MS.of {I I1 : mPI} {σ : Nat → Int} (h : MS I σ) (ho : OF I I1) : MS I1 σ := h.cg (ho _ (by decide)) (ho _ (by decide)) (ho _ (by decide))
theorem HL.keep {I I1 : mPI} {n : Nat} {l : List Nat} (h : HL I n l) (e : I1 536 = I 536) : HL I1 n l := ⟨h.1, fun i hi => by rw [e]; exact h.2 i hi⟩
def moM (J : mPJ) : Nat → Int := fun k => (J 532 k).toInt
def BM (J : mPJ) : Prop := ∀ k, k < 12 → (J 532 k).toInt.natAbs ≤ MB
theorem BM.b {J : mPJ} (h : BM J) {k : Nat} (hk : k < 12) : (moM J k).natAbs ≤ 2 ^ 62 := Nat.le_trans (h k hk) (by unfold MB; omega)
theorem col_le (sk x : Nat) : col sk x ≤ x + 1 := by
  unfold col
  split <;> omega
theorem pr_le {J : mPJ} (h : BM J) {n : Nat} {l : List Nat} (hl : wfl n l = true) (sk : Nat) : ∀ r, r ≤ 6 → (pr (moM J) l sk r).natAbs ≤ 2 ^ (62 * r)
  | 0, _ => by rw [pr]; decide
  | r + 1, hr => by
    have ih := pr_le h hl sk r (by omega)
    have g := wfl_get hl r
    have c := col_le sk (l.getD r 0)
    rw [pr]
    exact p2_up (p2_mul ih (h.b (k := r + col sk (l.getD r 0)) (by omega))) (by omega)
theorem sgl_abs (l : List Nat) (n : Nat) (z : Int) : (sgl l n * z).natAbs = z.natAbs := by
  unfold sgl
  split
  · rw [Int.one_mul]
  · rw [Int.neg_mul, Int.one_mul, Int.natAbs_neg]
abbrev nD (q : Nat) : Prop := q ≠ 4 ∧ q ≠ 5 ∧ q ≠ 6 ∧ q ≠ 11
def pt_mdet : mSH → mRF → mPT := m_pv 5 (fun sh rf d rest I J K => ∃ (n sk t : Nat) (σ : Nat → Int), sh = shL ∧ rf = rfL ∧ d = 528 ∧ rest = [.inl (nI n), .inl (nI sk), .inl (nI t)] ∧ n ≤ 6 ∧ sk ≤ 6 ∧ t < 40 ∧ nD t ∧ BM J ∧ MS I σ ∧ ∀ I1 σ', MO I I1 → MS I1 σ' → (∀ q, nD q → q ≠ t → σ' q = σ q) → σ' t = Lr (moM J) n sk 721 (rg n) → K none I1 J)
def eIv (I : mPI) (J : mPJ) (σ : Nat → Int) (n sk f : Nat) (l : List Nat) (I1 : mPI) (σ' : Nat → Int) : Prop := MO I I1 ∧ MS I1 σ' ∧ (∀ q, nD q → σ' q = σ q) ∧ HL I1 n l ∧ ends n f l = true ∧ f ≤ 721 ∧ σ' 11 + Lr (moM J) n sk f l = Lr (moM J) n sk 721 (rg n) ∧ (σ' 11).natAbs ≤ (721 - f) * 2 ^ 372

def ct_X5_determinant (sh : mSH) (rf : mRF) : Nat → Option (Nat × Bool × mPT) := fun k => match k with
  | 50 => some (3, true, pt_mset sh rf)
  | 161 => some (3, true, pt_mtimes sh rf)
  | 178 => some (2, true, pt_mparity sh rf)
  | 164 => some (5, true, pt_madd sh rf)
  | 181 => some (2, true, pt_mnext sh rf)
  | 66 => some (3, true, pt_mcopy sh rf)
  | _ => none
set_option maxRecDepth 20000 in
theorem ce_X5_determinant : m_CE RX5 3 76 cX5_determinant 7 ct_X5_determinant := by
  intro p l e s m args below meth c Q D cs ad sh rf N hx hb hml hown hts hK hi hN k n vf pt h
  unfold ct_X5_determinant at h
  split at h
  · cases h
    exact m_CG_V mt_X5_set hx hb hml hown hts hK hi hN (ci := 5) m_pv_rec rfl rfl (m_wck_ok (l := [(Cond.methodLink RX5 50 yX5_set, 677), (Cond.instanceMethod yX5_set, 679), (Cond.selects RX5 yX5_set yX5_set, 14), (Cond.initialized RX5, 62), (Cond.code yX5_set cX5_set 7 none, 680)]) (by decide +kernel)) ⟨rfl, by decide +kernel, by decide +kernel, by decide +kernel⟩ ⟨Nat.le_of_ble_eq_true rfl, Nat.le_of_ble_eq_true rfl⟩
  · cases h
    exact m_CG_V mt_X5_times hx hb hml hown hts hK hi hN (ci := 5) m_pv_rec rfl rfl (m_wck_ok (l := [(Cond.methodLink RX5 161 yX5_times, 785), (Cond.instanceMethod yX5_times, 787), (Cond.selects RX5 yX5_times yX5_times, 17), (Cond.initialized RX5, 62), (Cond.code yX5_times cX5_times 4 none, 788)]) (by decide +kernel)) ⟨rfl, by decide +kernel, by decide +kernel, by decide +kernel⟩ ⟨Nat.le_of_ble_eq_true rfl, Nat.le_of_ble_eq_true rfl⟩
  · cases h
    exact m_CG_V mt_X5_parity hx hb hml hown hts hK hi hN (ci := 5) m_pv_rec rfl rfl (m_wck_ok (l := [(Cond.methodLink RX5 178 yX5_parity, 900), (Cond.instanceMethod yX5_parity, 902), (Cond.selects RX5 yX5_parity yX5_parity, 41), (Cond.initialized RX5, 62), (Cond.code yX5_parity cX5_parity 5 (some .int), 903)]) (by decide +kernel)) ⟨rfl, by decide +kernel, by decide +kernel, by decide +kernel⟩ ⟨Nat.le_of_ble_eq_true rfl, Nat.le_of_ble_eq_true rfl⟩
  · cases h
    exact m_CG_V mt_X5_add hx hb hml hown hts hK hi hN (ci := 5) m_pv_rec rfl rfl (m_wck_ok (l := [(Cond.methodLink RX5 164 yX5_add, 801), (Cond.instanceMethod yX5_add, 803), (Cond.selects RX5 yX5_add yX5_add, 21), (Cond.initialized RX5, 62), (Cond.code yX5_add cX5_add 8 none, 804)]) (by decide +kernel)) ⟨rfl, by decide +kernel, by decide +kernel, by decide +kernel⟩ ⟨Nat.le_of_ble_eq_true rfl, Nat.le_of_ble_eq_true rfl⟩
  · cases h
    exact m_CG_V mt_X5_nextOrder hx hb hml hown hts hK hi hN (ci := 5) m_pv_rec rfl rfl (m_wck_ok (l := [(Cond.methodLink RX5 181 yX5_nextOrder, 904), (Cond.instanceMethod yX5_nextOrder, 906), (Cond.selects RX5 yX5_nextOrder yX5_nextOrder, 42), (Cond.initialized RX5, 62), (Cond.code yX5_nextOrder cX5_nextOrder 6 (some .boolean), 907)]) (by decide +kernel)) ⟨rfl, by decide +kernel, by decide +kernel, by decide +kernel⟩ ⟨Nat.le_of_ble_eq_true rfl, Nat.le_of_ble_eq_true rfl⟩
  · cases h
    exact m_CG_V mt_X5_copy hx hb hml hown hts hK hi hN (ci := 5) m_pv_rec rfl rfl (m_wck_ok (l := [(Cond.methodLink RX5 66 yX5_copy, 797), (Cond.instanceMethod yX5_copy, 799), (Cond.selects RX5 yX5_copy yX5_copy, 20), (Cond.initialized RX5, 62), (Cond.code yX5_copy cX5_copy 4 none, 800)]) (by decide +kernel)) ⟨rfl, by decide +kernel, by decide +kernel, by decide +kernel⟩ ⟨Nat.le_of_ble_eq_true rfl, Nat.le_of_ble_eq_true rfl⟩
  · cases h
set_option maxHeartbeats 4000000 in
set_option maxRecDepth 100000 in
theorem mt_X5_determinant : m_Mt yX5_determinant cX5_determinant 7 none 3 76 pt_mdet := by
  refine m_methodG (fl := fl_X5) (kI := kI_X5) (kJ := kJ_X5) (ct := ct_X5_determinant) (cd := cd_X5_determinant) (cut := [(3, [0, 1, 2, 3, 4]), (34, [0, 1, 2, 3, 4]), (48, [0, 1, 2, 3, 5]), (84, [0, 1, 2, 3, 5])]) (rk := 0) (fu := 120) (by decide +kernel) fl_X5_ok kI_X5_ok kJ_X5_ok ce_X5_determinant rfl ck_X5_determinant ⟨_, _, rfl, rfl⟩ ?_
  intro sh rf As I J K hpt
  obtain ⟨d, rest, rfl, hd, n, sk, t, σ, rfl, rfl, rfl, rfl, hn, hsk, ht, nt, hB, hM, hK⟩ := hpt
  refine ⟨Nat.le_of_ble_eq_true rfl, fun a9 b9 pc vs st I1 J1 => J1 = J ∧ ((pc = 3 ∧ st = [] ∧ a9 = 2000 ∧ ∃ k, k ≤ n ∧ b9 = n - k ∧ vs = [.inr (.inr 528), .inl (nI n), .inl (nI sk), .inl (nI t), .inl (nI k)] ∧ OF I I1 ∧ ∀ i, i < k → I1 536 i = nI i) ∨ (pc = 34 ∧ st = [] ∧ ((∃ f l σ', a9 = 2 * f + 1 ∧ vs = [.inr (.inr 528), .inl (nI n), .inl (nI sk), .inl (nI t), .inl 1] ∧ eIv I J σ n sk f l I1 σ') ∨ (∃ σ', a9 = 0 ∧ vs = [.inr (.inr 528), .inl (nI n), .inl (nI sk), .inl (nI t), .inl 0] ∧ MO I I1 ∧ MS I1 σ' ∧ (∀ q, nD q → σ' q = σ q) ∧ σ' 11 = Lr (moM J) n sk 721 (rg n)))) ∨ (∃ f l σ' r, a9 = 2 * f ∧ r ≤ n ∧ σ' 4 = pr (moM J) l sk r ∧ vs = [.inr (.inr 528), .inl (nI n), .inl (nI sk), .inl (nI t), .inl (nI r)] ∧ eIv I J σ n sk f l I1 σ' ∧ ((pc = 48 ∧ st = [] ∧ b9 = 2 * (n - r) + 1) ∨ (pc = 84 ∧ r < n ∧ st = [.inl (nI (col sk (l.getD r 0)))] ∧ b9 = 2 * (n - r))))), ?_, ?_⟩
  · exact ⟨2000, n - 0, rfl, Or.inl ⟨rfl, rfl, rfl, 0, Nat.zero_le _, rfl, rfl, fun _ _ => rfl, fun i hi => absurd hi (Nat.not_lt_zero i)⟩⟩
  · intro pc ks a9 b9 vs st I1 J1 hc hI
    obtain ⟨rfl, hI⟩ := hI
    rcases m_cu1 hc with ⟨rfl, rfl⟩ | hc
    · rcases hI with ⟨-, rfl, rfl, k, hk, rfl, rfl, ho, hz⟩ | ⟨q, -⟩ | ⟨f, l, σ', r, -, -, -, -, -, ⟨q, -⟩ | ⟨q, -⟩⟩
      · refine ⟨fun h => ?_, fun h => ?_⟩
        · have h : nI n ≤ nI k := h
          rw [nI_leI (by omega) (by omega)] at h
          obtain rfl : k = n := by omega
          refine ⟨528, [.inl (nI 11), .inr (.inl 0)], rfl, rfl, 11, 0, rfl, rfl, rfl, rfl, by decide, by decide, fun I2 a1 a2 => ?_⟩
          have M2 := (hM.of ho).up a1 a2
          have hwf : ∀ n, n < 7 → wfl n (rg n) = true ∧ ∀ i, i < n → (rg n).getD i 0 = i := by decide
          refine ⟨2 * 721 + 1, 0, Or.inl (by decide), rfl, Or.inr (Or.inl ⟨rfl, rfl, Or.inl ⟨721, rg k, _, rfl, rfl, ho.mo.trans a1.mo, M2, fun q hq => up_o _ _ hq.2.2.2, ?_, ends_t k (by omega), Nat.le_refl _, ?_, ?_⟩⟩)⟩
          · refine ⟨(hwf k (by omega)).1, fun i hi => ?_⟩
            rw [a1.1 536 (by decide) (by decide) (by decide), hz i hi, (hwf k (by omega)).2 i hi]
          · rw [up_s]
            exact Int.zero_add _
          · rw [up_s]
            exact Nat.zero_le _
        · have h : ¬ nI n ≤ nI k := h
          rw [nI_leI (by omega) (by omega)] at h
          refine ⟨rfl, oin (by omega), 2000, n - (k + 1), Or.inr ⟨rfl, by omega⟩, rfl, Or.inl ⟨rfl, rfl, rfl, k + 1, by omega, rfl, by rw [← nI_1 k], ?_⟩⟩
          show OF I (m_uI I1 536 (nI k).toNatClampNeg (nI k)) ∧ ∀ i, i < k + 1 → (m_uI I1 536 (nI k).toNatClampNeg (nI k)) 536 i = nI i
          rw [ocl (by omega)]
          refine ⟨fun a ha => by rw [uI_a _ _ _ ha]; exact ho a ha, fun i hi => ?_⟩
          by_cases q : i = k
          · rw [q, uI_s]
          · rw [uI_k _ _ _ q]
            exact hz i (by omega)
      · exact absurd q (by decide)
      · exact absurd q (by decide)
      · exact absurd q (by decide)
    · rcases m_cu1 hc with ⟨rfl, rfl⟩ | hc
      · rcases hI with ⟨q, -⟩ | ⟨-, rfl, hI⟩ | ⟨f, l, σ', r, -, -, -, -, -, ⟨q, -⟩ | ⟨q, -⟩⟩
        · exact absurd q (by decide)
        · rcases hI with ⟨f, l, σ', rfl, rfl, he⟩ | ⟨σ', rfl, rfl, hF, M1, k1, h11⟩
          · refine ⟨fun h => absurd h (by decide), fun _ => ?_⟩
            obtain ⟨hF, M1, k1, hH, hE, hf, h11, hb⟩ := he
            refine ⟨528, [.inl (nI 4), .inr (.inl 1)], rfl, rfl, 4, 1, rfl, rfl, rfl, rfl, by decide, by decide, fun I2 a1 a2 => ?_⟩
            have M2 := M1.up a1 a2
            exact ⟨2 * f, 2 * (n - 0) + 1, Or.inl (by omega), rfl, Or.inr (Or.inr ⟨f, l, _, 0, rfl, Nat.zero_le _, up_s _ _ _, rfl, ⟨hF.trans a1.mo, M2, fun q hq => by rw [up_o _ _ hq.1]; exact k1 q hq, hH.keep (a1.1 536 (by decide) (by decide) (by decide)), hE, hf, by rw [up_o _ _ (by decide)]; exact h11, by rw [up_o _ _ (by decide)]; exact hb⟩, Or.inl ⟨rfl, rfl, rfl⟩⟩)⟩
          · refine ⟨fun _ => ?_, fun h => absurd rfl h⟩
            obtain ⟨m, w11⟩ := M1.wf (s := 11) (by decide)
            refine ⟨528, [.inl (nI 11), .inl (nI t)], rfl, rfl, 11, t, m, rfl, rfl, rfl, rfl, by decide, ht, w11, fun I2 a1 a2 a3 a4 => ?_⟩
            have M2 := M1.cp (by decide) w11 a1 a2 a3 a4
            exact hK I2 _ (hF.trans a1.mo) M2 (fun q hq q2 => by rw [up_o _ _ q2]; exact k1 q hq) (by rw [up_s]; exact h11)
        · exact absurd q (by decide)
        · exact absurd q (by decide)
      · rcases m_cu1 hc with ⟨rfl, rfl⟩ | hc
        · rcases hI with ⟨q, -⟩ | ⟨q, -⟩ | ⟨f, l, σ', r, rfl, hr, h4, rfl, he, ⟨-, rfl, rfl⟩ | ⟨q, -⟩⟩
          · exact absurd q (by decide)
          · exact absurd q (by decide)
          · obtain ⟨hF, M1, k1, hH, hE, hf, h11, hb⟩ := id he
            have g := wfl_get hH.1 r
            refine ⟨fun h => ?_, fun h => ?_⟩
            · have h : nI n ≤ nI r := h
              rw [nI_leI (by omega) (by omega)] at h
              obtain rfl : r = n := by omega
              have hp := pr_le hB hH.1 sk r (by omega)
              have z4 := M1 4 (by decide)
              rw [h4] at z4
              have z11 := M1 11 (by decide)
              have etm : (if tou l r r % 2 = 0 then (1 : Int32) else -1).toInt = sgl l r := by
                unfold sgl
                by_cases q : tou l r r % 2 = 0
                · rw [if_pos q, q]
                  rfl
                · rw [if_neg q]
                  have : Nat.beq (tou l r r % 2) 0 = false := by
                    cases e : Nat.beq (tou l r r % 2) 0
                    · rfl
                    · exact absurd (Nat.eq_of_beq_eq_true e) q
                  rw [this]
                  rfl
              have h372 : (pr (moM J1) l sk r).natAbs ≤ 2 ^ 372 := p2_up hp (by omega)
              have b1 : (σ' 11).natAbs < 2 ^ (24 * 17) := by
                refine Nat.lt_of_le_of_lt hb ?_
                refine Nat.lt_of_le_of_lt (Nat.mul_le_mul_right _ (show 721 - f ≤ 721 by omega)) (by decide)
              refine ⟨528, [.inl (nI r)], rfl, rfl, r, l, rfl, rfl, rfl, rfl, hn, hH, 528, [.inl (nI 11), .inl (nI 4), .inl (if tou l r r % 2 = 0 then 1 else -1), .inl (nI 11)], rfl, rfl, 11, 4, 11, 17, _, _, (if tou l r r % 2 = 0 then 1 else -1), rfl, rfl, rfl, rfl, by decide, by decide, by decide, by split; exact Or.inl rfl; exact Or.inr rfl, z11, z4, b1, Nat.lt_of_le_of_lt h372 (by decide), by decide, fun I2 a1 a2 => ?_⟩
              rw [etm] at a2
              have M2 := M1.up a1 a2
              obtain ⟨g0, rfl⟩ : ∃ g0, f = g0 + 1 := by
                cases f with
                | zero => exact absurd hE (by rw [ends]; decide)
                | succ g0 => exact ⟨g0, rfl⟩
              rw [ends, Bool.and_eq_true] at hE
              rw [Lr, ← Int.add_assoc] at h11
              have hH2 := hH.keep (a1.1 536 (by decide) (by decide) (by decide))
              have hb2 : (σ' 11 + sgl l r * pr (moM J1) l sk r).natAbs ≤ (721 - g0) * 2 ^ 372 := by
                have := Int.natAbs_add_le (σ' 11) (sgl l r * pr (moM J1) l sk r)
                rw [sgl_abs] at this
                have e : 721 - g0 = (721 - (g0 + 1)) + 1 := by omega
                rw [e, Nat.add_mul, Nat.one_mul]
                omega
              refine ⟨528, [.inl (nI r)], rfl, rfl, r, l, rfl, rfl, rfl, rfl, hn, hH2, fun hno => ?_, fun l' hso I3 ho3 hH3 => ?_⟩
              · rw [hno] at h11
                have h11 : σ' 11 + sgl l r * pr (moM J1) l sk r + 0 = _ := h11
                refine ⟨0, 0, Or.inl (by omega), rfl, Or.inr (Or.inl ⟨rfl, rfl, Or.inr ⟨_, rfl, rfl, hF.trans a1.mo, M2, fun q hq => by rw [up_o _ _ hq.2.2.2]; exact k1 q hq, ?_⟩⟩)⟩
                rw [up_s]
                omega
              · rw [hso] at h11 hE
                refine ⟨2 * g0 + 1, 0, Or.inl (by omega), rfl, Or.inr (Or.inl ⟨rfl, rfl, Or.inl ⟨g0, l', _, rfl, rfl, (hF.trans a1.mo).trans ho3.mo, M2.of ho3, fun q hq => by rw [up_o _ _ hq.2.2.2]; exact k1 q hq, hH3, hE.2, by omega, ?_, ?_⟩⟩)⟩
                · rw [up_s]
                  exact h11
                · rw [up_s]
                  exact hb2
            · have h : ¬ nI n ≤ nI r := h
              rw [nI_leI (by omega) (by omega)] at h
              have e1 : I1 536 (nI r).toNatClampNeg = nI (l.getD r 0) := by rw [ocl (by omega)]; exact hH.2 r (by omega)
              refine ⟨rfl, oin (by omega), fun h2 => ?_, fun h2 => ?_⟩
              · have h2 : nI sk ≤ I1 536 (nI r).toNatClampNeg := h2
                rw [e1, nI_leI (by omega) (by omega)] at h2
                refine ⟨rfl, oin (by omega), 2 * f, 2 * (n - r), Or.inr ⟨rfl, by omega⟩, rfl, Or.inr (Or.inr ⟨f, l, σ', r, rfl, hr, h4, rfl, he, Or.inr ⟨rfl, by omega, ?_, rfl⟩⟩)⟩
                unfold col
                rw [Nat.ble_eq_true_of_le h2]
                show ([.inl (I1 536 (nI r).toNatClampNeg + 1)] : List mPV) = _
                rw [e1, nI_1]
              · have h2 : ¬ nI sk ≤ I1 536 (nI r).toNatClampNeg := h2
                rw [e1, nI_leI (by omega) (by omega)] at h2
                refine ⟨rfl, oin (by omega), 2 * f, 2 * (n - r), Or.inr ⟨rfl, by omega⟩, rfl, Or.inr (Or.inr ⟨f, l, σ', r, rfl, hr, h4, rfl, he, Or.inr ⟨rfl, by omega, ?_, rfl⟩⟩)⟩
                unfold col
                rw [ble_f (by omega)]
                show ([.inl (I1 536 (nI r).toNatClampNeg)] : List mPV) = _
                rw [e1]
          · exact absurd q (by decide)
        · rcases m_cu1 hc with ⟨rfl, rfl⟩ | hc
          · rcases hI with ⟨q, -⟩ | ⟨q, -⟩ | ⟨f, l, σ', r, rfl, hr, h4, rfl, he, ⟨q, -⟩ | ⟨-, hrn, rfl, rfl⟩⟩
            · exact absurd q (by decide)
            · exact absurd q (by decide)
            · exact absurd q (by decide)
            · obtain ⟨hF, M1, k1, hH, hE, hf, h11, hb⟩ := id he
              have g := wfl_get hH.1 r
              have hcl := col_le sk (l.getD r 0)
              have hp := pr_le hB hH.1 sk r (by omega)
              have hi12 : r + col sk (l.getD r 0) < 12 := by omega
              have ea : nI r + nI (col sk (l.getD r 0)) = nI (r + col sk (l.getD r 0)) := nI_add _ _
              have hin : m_inb shL 532 1 (nI r + nI (col sk (l.getD r 0))) := by
                rw [ea]
                exact m_inb_i (n := 12) rfl (vp_in_nI hi12 (by decide))
              have ecl : (nI r + nI (col sk (l.getD r 0))).toNatClampNeg = r + col sk (l.getD r 0) := by
                rw [ea]
                exact nI_clamp (by omega)
              refine ⟨rfl, hin, 528, [.inl (nI 4), .inr (.inl (J1 532 (nI r + nI (col sk (l.getD r 0))).toNatClampNeg))], rfl, rfl, 4, 16, J1 532 (nI r + nI (col sk (l.getD r 0))).toNatClampNeg, σ', rfl, rfl, rfl, rfl, by decide, by decide, by decide, M1, by rw [ecl]; have := hB _ hi12; have := MB62; omega, by rw [h4]; exact Nat.lt_of_le_of_lt (p2_up hp (show 62 * r ≤ 372 by omega)) (by decide), by decide, fun I2 F2 M2 => ?_⟩
              rw [ecl, h4] at M2
              refine ⟨2 * f, 2 * (n - (r + 1)) + 1, Or.inr ⟨rfl, by omega⟩, rfl, Or.inr (Or.inr ⟨f, l, _, r + 1, rfl, by omega, up_s _ _ _, by rw [← nI_1 r], ⟨hF.trans F2.mo, M2, fun q hq => ?_, hH.keep (F2 536 (by decide) (by decide) (by decide)), hE, hf, ?_, ?_⟩, Or.inl ⟨rfl, rfl, rfl⟩⟩)⟩
              · rw [up_o _ _ hq.1, up_o _ _ hq.2.1, up_o _ _ hq.2.2.1]
                exact k1 q hq
              · rw [up_o _ _ (by decide), up_o _ _ (by decide), up_o _ _ (by decide)]
                exact h11
              · rw [up_o _ _ (by decide), up_o _ _ (by decide), up_o _ _ (by decide)]
                exact hb
          · cases hc

def pt_mworth : mSH → mRF → mPT := m_pv 5 (fun sh rf d rest I J K => ∃ (k t : Nat) (σ : Nat → Int), sh = shL ∧ rf = rfL ∧ d = 528 ∧ rest = [.inl (nI k), .inl (nI t)] ∧ k ≤ 6 ∧ t < 40 ∧ nD t ∧ BM J ∧ MS I σ ∧ ∀ I1 σ', MO I I1 → MS I1 σ' → (∀ q, nD q → q ≠ t → σ' q = σ q) → σ' t = Dt (moM J) k → K none I1 J)
def pt_mnum : mSH → mRF → mPT := m_pv 5 (fun sh rf d rest I J K => ∃ (k t : Nat) (i : Int32) (σ : Nat → Int), sh = shL ∧ rf = rfL ∧ d = 528 ∧ rest = [.inl (nI k), .inl i, .inl (nI t)] ∧ k ≤ 5 ∧ t < 40 ∧ nD t ∧ BM J ∧ MS I σ ∧ ∀ I1 σ', MO I I1 → MS I1 σ' → (∀ q, nD q → q ≠ t → σ' q = σ q) → σ' t = (if 0 ≤ i.toInt ∧ i.toInt ≤ k then Nm (moM J) k i.toInt.toNat else 0) → K none I1 J)
def pt_mtop : mSH → mRF → mPT := m_pv 5 (fun sh rf d rest I J K => ∃ (l : Nat) (σ : Nat → Int), sh = shL ∧ rf = rfL ∧ d = 528 ∧ rest = [] ∧ I 528 5 = nI l ∧ l ≤ 11 ∧ BM J ∧ MS I σ ∧ ∀ I1 σ', MO I I1 → MS I1 σ' → (∀ q, nD q → q ≠ 16 → σ' q = σ q) → K (some (.inl (nI (tpf (moM J) l)))) I1 J)
def pt_mhasP : mSH → mRF → mPT := m_pv 5 (fun sh rf d rest I J K => ∃ (k : Int32) (l : Nat) (σ : Nat → Int), sh = shL ∧ rf = rfL ∧ d = 528 ∧ rest = [.inl k] ∧ I 528 5 = nI l ∧ l ≤ 11 ∧ BM J ∧ MS I σ ∧ ∀ I1 σ', MO I I1 → MS I1 σ' → (∀ q, nD q → q ≠ 16 → σ' q = σ q) → K (some (.inl (if hasP (moM J) l k.toInt then 1 else 0))) I1 J)
def pt_mhasW : mSH → mRF → mPT := m_pv 5 (fun sh rf d rest I J K => ∃ (k : Int32) (l : Nat) (σ : Nat → Int), sh = shL ∧ rf = rfL ∧ d = 528 ∧ rest = [.inl k] ∧ I 528 5 = nI l ∧ l ≤ 11 ∧ BM J ∧ MS I σ ∧ ∀ I1 σ', MO I I1 → MS I1 σ' → (∀ q, nD q → q ≠ 16 → σ' q = σ q) → K (some (.inl (if hasW (moM J) l k.toInt then 1 else 0))) I1 J)
def pt_mwsign : mSH → mRF → mPT := m_pv 5 (fun sh rf d rest I J K => ∃ (k : Nat) (σ : Nat → Int), sh = shL ∧ rf = rfL ∧ d = 528 ∧ rest = [.inl (nI k)] ∧ k ≤ 5 ∧ BM J ∧ MS I σ ∧ ∀ I1 σ', MO I I1 → MS I1 σ' → (∀ q, nD q → q ≠ 14 → q ≠ 15 → σ' q = σ q) → K (some (.inl (sgI (Dt (moM J) (k + 1) * Dt (moM J) k)))) I1 J)

def ct_X5_worthOf (sh : mSH) (rf : mRF) : Nat → Option (Nat × Bool × mPT) := fun k => match k with
  | 184 => some (4, true, pt_mdet sh rf)
  | _ => none
set_option maxRecDepth 20000 in
theorem ce_X5_worthOf : m_CE RX5 4 102 cX5_worthOf 3 ct_X5_worthOf := by
  intro p l e s m args below meth c Q D cs ad sh rf N hx hb hml hown hts hK hi hN k n vf pt h
  unfold ct_X5_worthOf at h
  split at h
  · cases h
    exact m_CG_V mt_X5_determinant hx hb hml hown hts hK hi hN (ci := 5) m_pv_rec rfl rfl (m_wck_ok (l := [(Cond.methodLink RX5 184 yX5_determinant, 896), (Cond.instanceMethod yX5_determinant, 898), (Cond.selects RX5 yX5_determinant yX5_determinant, 40), (Cond.initialized RX5, 62), (Cond.code yX5_determinant cX5_determinant 7 none, 899)]) (by decide +kernel)) ⟨rfl, by decide +kernel, by decide +kernel, by decide +kernel⟩ ⟨Nat.le_of_ble_eq_true rfl, Nat.le_of_ble_eq_true rfl⟩
  · cases h
set_option maxHeartbeats 4000000 in
set_option maxRecDepth 100000 in
theorem mt_X5_worthOf : m_Mt yX5_worthOf cX5_worthOf 3 none 4 102 pt_mworth := by
  refine m_method0 80 (fl := fl_X5) (kI := kI_X5) (kJ := kJ_X5) (ct := ct_X5_worthOf) (cd := cd_X5_worthOf) (rk := 0) (by decide +kernel) fl_X5_ok kI_X5_ok kJ_X5_ok ce_X5_worthOf rfl ck_X5_worthOf ⟨_, _, rfl, rfl⟩ ?_
  intro sh rf As I J K hpt
  obtain ⟨d, rest, rfl, hd, k, t, σ, rfl, rfl, rfl, rfl, hk, ht, nt, hB, hM, hK⟩ := hpt
  refine ⟨Nat.le_of_ble_eq_true rfl, 528, [.inl (nI k), .inl (nI k), .inl (nI t)], rfl, rfl, k, k, t, σ, rfl, rfl, rfl, rfl, hk, hk, ht, nt, hB, hM, fun I1 σ' F M k1 e => ?_⟩
  exact hK I1 σ' F M k1 (by rw [e]; exact lei_det _ hk)

def ct_X5_number (sh : mSH) (rf : mRF) : Nat → Option (Nat × Bool × mPT) := fun k => match k with
  | 134 => some (3, false, pt_in sh rf)
  | 50 => some (3, true, pt_mset sh rf)
  | 184 => some (4, true, pt_mdet sh rf)
  | _ => none
set_option maxRecDepth 20000 in
theorem ce_X5_number : m_CE RX5 4 102 cX5_number 4 ct_X5_number := by
  intro p l e s m args below meth c Q D cs ad sh rf N hx hb hml hown hts hK hi hN k n vf pt h
  unfold ct_X5_number at h
  split at h
  · cases h
    exact m_CG_S mt_X5_in hx hb hml hown hts hK hi hN (m_wck_ok (l := [(Cond.methodLink RX5 134 yX5_in, 748), (Cond.static yX5_in, 749), (Cond.initialized RX5, 62), (Cond.code yX5_in cX5_in 6 (some .boolean), 750)]) (by decide +kernel)) ⟨by decide +kernel, by decide +kernel, by decide +kernel⟩ ⟨Nat.le_of_ble_eq_true rfl, Nat.le_of_ble_eq_true rfl⟩
  · cases h
    exact m_CG_V mt_X5_set hx hb hml hown hts hK hi hN (ci := 5) m_pv_rec rfl rfl (m_wck_ok (l := [(Cond.methodLink RX5 50 yX5_set, 677), (Cond.instanceMethod yX5_set, 679), (Cond.selects RX5 yX5_set yX5_set, 14), (Cond.initialized RX5, 62), (Cond.code yX5_set cX5_set 7 none, 680)]) (by decide +kernel)) ⟨rfl, by decide +kernel, by decide +kernel, by decide +kernel⟩ ⟨Nat.le_of_ble_eq_true rfl, Nat.le_of_ble_eq_true rfl⟩
  · cases h
    exact m_CG_V mt_X5_determinant hx hb hml hown hts hK hi hN (ci := 5) m_pv_rec rfl rfl (m_wck_ok (l := [(Cond.methodLink RX5 184 yX5_determinant, 896), (Cond.instanceMethod yX5_determinant, 898), (Cond.selects RX5 yX5_determinant yX5_determinant, 40), (Cond.initialized RX5, 62), (Cond.code yX5_determinant cX5_determinant 7 none, 899)]) (by decide +kernel)) ⟨rfl, by decide +kernel, by decide +kernel, by decide +kernel⟩ ⟨Nat.le_of_ble_eq_true rfl, Nat.le_of_ble_eq_true rfl⟩
  · cases h
set_option maxHeartbeats 4000000 in
set_option maxRecDepth 100000 in
theorem mt_X5_number : m_Mt yX5_number cX5_number 4 none 4 102 pt_mnum := by
  refine m_method0 80 (fl := fl_X5) (kI := kI_X5) (kJ := kJ_X5) (ct := ct_X5_number) (cd := cd_X5_number) (rk := 0) (by decide +kernel) fl_X5_ok kI_X5_ok kJ_X5_ok ce_X5_number rfl ck_X5_number ⟨_, _, rfl, rfl⟩ ?_
  intro sh rf As I J K hpt
  obtain ⟨d, rest, rfl, hd, k, t, i, σ, rfl, rfl, rfl, rfl, hk, ht, nt, hB, hM, hK⟩ := hpt
  have e0 : (0 : Int64).toInt = 0 := rfl
  have ek : (nI k).toInt64.toInt = k := by rw [Int32.toInt_toInt64, nI_toInt (by omega)]
  refine ⟨Nat.le_of_ble_eq_true rfl, i.toInt64, 0, (nI k).toInt64, rfl, fun h => ?_, fun h => ?_⟩
  · have h := w_not0 h
    rw [e0, ek, Int32.toInt_toInt64] at h
    obtain ⟨ei, -⟩ := i_nat h.1
    have hik : i.toInt.toNat ≤ k := by omega
    rw [if_pos h] at hK
    generalize i.toInt.toNat = j at ei hik hK
    clear h
    subst ei
    refine ⟨528, [.inl (nI k), .inl (nI j), .inl (nI t)], rfl, rfl, k, j, t, σ, rfl, rfl, rfl, rfl, by omega, by omega, ht, nt, hB, hM, fun I1 σ' F M k1 e => ?_⟩
    rw [lei_num _ hk hik] at e
    have erm : (nI k + nI j) - (nI k + nI j) / 2 * 2 = nI ((k + j) % 2) := by
      rw [nI_add]
      exact pk_rem (d := 2) (by omega) (by decide) (by decide)
    have zt := M t ht
    obtain ⟨-, -, -, s3⟩ := id zt
    refine ⟨rfl, show ¬ (2 : Int32) = 0 by decide, fun h2 => ?_, fun h2 => ?_⟩
    · have h2 : ¬ (nI k + nI j) - (nI k + nI j) / 2 * 2 = nI 0 := h2
      rw [erm, nI_eq (by omega) (by omega)] at h2
      rw [if_neg h2] at e
      refine ⟨rfl, sin ht, sin ht, ?_⟩
      have esg : -sgI (σ' t) = sgI (-σ' t) := by
        rcases Int.lt_trichotomy (σ' t) 0 with q | q | q
        · rw [sgI_n q, sgI_p (by omega)]
          rfl
        · rw [q]
          rfl
        · rw [sgI_p q, sgI_n (by omega)]
      have yt : ZIs (m_uI I1 531 t (-sgI (σ' t))) t (-σ' t) := zt.sgn (Int.natAbs_neg _) esg
      show K none (m_uI I1 531 (nI t).toNatClampNeg (-I1 531 (nI t).toNatClampNeg)) J
      rw [scl ht, s3]
      refine hK _ _ (F.trans (sf_s _ t _).mo) (M.up (sf_s _ t _) yt) (fun q hq q2 => by rw [up_o _ _ q2]; exact k1 q hq q2) ?_
      rw [up_s, e, Int.neg_neg]
    · have h2 : (nI k + nI j) - (nI k + nI j) / 2 * 2 = nI 0 := h2
      rw [erm, nI_eq (by omega) (by omega)] at h2
      rw [if_pos h2] at e
      refine ⟨rfl, sin ht, sin ht, ?_⟩
      have yt : ZIs (m_uI I1 531 t (sgI (σ' t))) t (σ' t) := zt.sgn rfl rfl
      show K none (m_uI I1 531 (nI t).toNatClampNeg (I1 531 (nI t).toNatClampNeg)) J
      rw [scl ht, s3]
      refine hK _ _ (F.trans (sf_s _ t _).mo) (M.up (sf_s _ t _) yt) (fun q hq q2 => by rw [up_o _ _ q2]; exact k1 q hq q2) ?_
      rw [up_s, e]
  · have h := w_is0 h
    rw [e0, ek, Int32.toInt_toInt64] at h
    refine ⟨528, [.inl (nI t), .inr (.inl 0)], rfl, rfl, t, 0, rfl, rfl, rfl, rfl, ht, by decide, fun I1 a1 a2 => ?_⟩
    refine hK I1 _ a1.mo (hM.up a1 a2) (fun q _ q2 => up_o _ _ q2) ?_
    rw [up_s, if_neg h]
    rfl

theorem tpF_step {mo : Nat → Int} {l : Nat} : ∀ {n k : Nat}, k ≤ 5 → 5 - k ≤ n → (k < 5 → 2 * k + 1 ≤ l → Dt mo (k + 1) = 0) ∨ True → True := fun _ _ _ => trivial

