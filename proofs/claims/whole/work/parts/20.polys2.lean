/-! ===== Polys: setMinor, take ===== -/
theorem mn_lt {mo : Nat → Int} (hm : ∀ k, k < 12 → (mo k).natAbs ≤ MB) {c : Nat} (h : c < 64) : (mn mo c).natAbs < 2 ^ (32 * 12) ∧ (c ≠ 0 → (mn mo c).natAbs < 2 ^ (32 * (2 * popc c))) := by
  have h1 : ∀ k, k < 12 → (mo k).natAbs ≤ 2 ^ 62 := fun k hk => Nat.le_trans (hm k hk) (by unfold MB; omega)
  have h2 := mn_le h1 c h
  by_cases h0 : c = 0
  · subst h0
    exact ⟨by show (1 : Int).natAbs < _; decide, fun e => absurd rfl e⟩
  · obtain ⟨p1, p2⟩ := popc_pos c h h0
    exact ⟨Nat.lt_of_le_of_lt h2 (fac_lt2 _ (by omega)), fun _ => Nat.lt_of_le_of_lt h2 (fac_lt _ (by omega) p1)⟩
theorem ob_le : ∀ c, c < 64 → ∀ j, j < 7 → ob c j ≤ popc c := by decide +kernel
theorem mnS_lt {mo : Nat → Int} (hm : ∀ k, k < 12 → (mo k).natAbs ≤ MB) {c j : Nat} (h0 : c ≠ 0) (h : c < 64) (hj : j ≤ 6) : (mnS mo (mn mo) c j).natAbs < 2 ^ (32 * (2 * popc c)) ∧ (j < 6 → c.testBit j = true → (mn mo (c ^^^ 2 ^ j) * mo (popc c - 1 + j)).natAbs < 2 ^ (32 * (2 * popc c))) := by
  have h1 : ∀ k, k < 12 → (mo k).natAbs ≤ 2 ^ 62 := fun k hk => Nat.le_trans (hm k hk) (by unfold MB; omega)
  obtain ⟨p1, p2⟩ := popc_pos c h h0
  have hP : ∀ i, i < 6 → c.testBit i = true → (mn mo (c ^^^ 2 ^ i)).natAbs ≤ fac (popc c - 1) * (2 ^ 62) ^ (popc c - 1) := by
    intro i hi hb
    have e := popc_xor c h i hi hb
    have := mn_le h1 (c ^^^ 2 ^ i) (by have := xor_lt c h i hi hb; omega)
    rw [show popc (c ^^^ 2 ^ i) = popc c - 1 by omega] at this
    exact this
  have hf := fac_lt (popc c) (by omega) p1
  obtain ⟨k, hk⟩ : ∃ k, popc c = k + 1 := ⟨popc c - 1, by omega⟩
  have hfk : fac (popc c) * (2 ^ 62) ^ popc c = popc c * (fac (popc c - 1) * (2 ^ 62) ^ (popc c - 1) * 2 ^ 62) := by
    rw [hk, Nat.add_sub_cancel, fac, show (2 ^ 62) ^ (k + 1) = (2 ^ 62) ^ k * 2 ^ 62 from Nat.pow_succ _ _, Nat.mul_assoc, Nat.mul_assoc]
  refine ⟨?_, fun hj6 hb => ?_⟩
  · have key := mnS_le (M := mn mo) (c := c) (P := fac (popc c - 1) * (2 ^ 62) ^ (popc c - 1)) h1 p2 hj hP
    have h3 := Nat.mul_le_mul_right (fac (popc c - 1) * (2 ^ 62) ^ (popc c - 1) * 2 ^ 62) (ob_le c h j (by omega))
    rw [← hfk] at h3
    omega
  · rw [Int.natAbs_mul]
    have h3 := Nat.mul_le_mul (hP j hj6 hb) (h1 (popc c - 1 + j) (by omega))
    have h4 := Nat.mul_le_mul_right (fac (popc c - 1) * (2 ^ 62) ^ (popc c - 1) * 2 ^ 62) p1
    rw [← hfk, Nat.one_mul] at h4
    omega
theorem bit_t : ∀ c, c < 64 → ∀ j, j < 6 → (nI c &&& ((1 : Int32) <<< (nI j &&& 31)) = 0 ↔ c.testBit j = false) ∧ nI c ^^^ ((1 : Int32) <<< (nI j &&& 31)) = nI (c ^^^ 2 ^ j) := by decide +kernel
def pt_psetMinor : mSH → mRF → mPT := m_pv 2 (fun sh rf p rest I J K => ∃ (c : Nat) (mo : Nat → Int), rest = [.inl (nI c)] ∧ 1 ≤ c ∧ c < 64 ∧ PSh sh rf p ∧ (∀ k, k < 12 → (mo k).natAbs ≤ MB) ∧ (∀ k, k < 12 → BIs sh rf I (pbg rf p (64 + k)) (mo k)) ∧ (∀ c', c' < c → BIs sh rf I (pbg rf p c') (mn mo c')) ∧ ∀ I1, BCh2 rf I I1 (pbg rf p c) (pbg rf p 76) → BIs sh rf I1 (pbg rf p c) (mn mo c) → K none I1 J)
def ct_X2_setMinor (sh : mSH) (rf : mRF) : Nat → Option (Nat × Bool × mPT) := fun k => match k with
  | 34 => some (1, false, pt_bitCount sh rf)
  | 40 => some (2, true, pt_setLong sh rf)
  | 60 => some (1, true, pt_signum sh rf)
  | 64 => some (3, true, pt_setProduct sh rf)
  | 72 => some (3, true, pt_addSigned sh rf)
  | _ => none
set_option maxRecDepth 20000 in
theorem ce_X2_setMinor : m_CE RX2 3 103 cX2_setMinor 7 ct_X2_setMinor := by
  intro p l e s m args below meth c Q D cs ad sh rf N hx hb hml hown hts hK hi hN k n vf pt h
  unfold ct_X2_setMinor at h
  split at h
  · cases h
    exact m_CG_S mt_J6_bitCount_0f7a4 hx hb hml hown hts hK hi hN (m_wck_ok (l := [(Cond.methodLink RX2 34 yJ6_bitCount_0f7a4, 109), (Cond.static yJ6_bitCount_0f7a4, 110), (Cond.initialized RJ6, 60), (Cond.code yJ6_bitCount_0f7a4 cJ6_bitCount_0f7a4 1 (some .int), 111)]) (by decide +kernel)) ⟨by decide +kernel, by decide +kernel, by decide +kernel⟩ ⟨Nat.le_of_ble_eq_true rfl, Nat.le_of_ble_eq_true rfl⟩
  · cases h
    exact m_CG_V mt_X0_setLong hx hb hml hown hts hK hi hN (ci := 0) m_pv_rec rfl rfl (m_wck_ok (l := [(Cond.methodLink RX2 40 yX0_setLong, 428), (Cond.instanceMethod yX0_setLong, 176), (Cond.selects RX0 yX0_setLong yX0_setLong, 177), (Cond.initialized RX0, 58), (Cond.code yX0_setLong cX0_setLong 5 none, 178)]) (by decide +kernel)) ⟨rfl, by decide +kernel, by decide +kernel, by decide +kernel⟩ ⟨Nat.le_of_ble_eq_true rfl, Nat.le_of_ble_eq_true rfl⟩
  · cases h
    exact m_CG_V mt_X0_signum hx hb hml hown hts hK hi hN (ci := 0) m_pv_rec rfl rfl (m_wck_ok (l := [(Cond.methodLink RX2 60 yX0_signum, 434), (Cond.instanceMethod yX0_signum, 413), (Cond.selects RX0 yX0_signum yX0_signum, 414), (Cond.initialized RX0, 58), (Cond.code yX0_signum cX0_signum 1 (some .int), 415)]) (by decide +kernel)) ⟨rfl, by decide +kernel, by decide +kernel, by decide +kernel⟩ ⟨Nat.le_of_ble_eq_true rfl, Nat.le_of_ble_eq_true rfl⟩
  · cases h
    exact m_CG_V mt_X0_setProduct hx hb hml hown hts hK hi hN (ci := 0) m_pv_rec rfl rfl (m_wck_ok (l := [(Cond.methodLink RX2 64 yX0_setProduct, 435), (Cond.instanceMethod yX0_setProduct, 317), (Cond.selects RX0 yX0_setProduct yX0_setProduct, 318), (Cond.initialized RX0, 58), (Cond.code yX0_setProduct cX0_setProduct 10 none, 319)]) (by decide +kernel)) ⟨rfl, by decide +kernel, by decide +kernel, by decide +kernel⟩ ⟨Nat.le_of_ble_eq_true rfl, Nat.le_of_ble_eq_true rfl⟩
  · cases h
    exact m_CG_V mt_X0_addSigned hx hb hml hown hts hK hi hN (ci := 0) m_pv_rec rfl rfl (m_wck_ok (l := [(Cond.methodLink RX2 72 yX0_addSigned, 436), (Cond.instanceMethod yX0_addSigned, 348), (Cond.selects RX0 yX0_addSigned yX0_addSigned, 349), (Cond.initialized RX0, 58), (Cond.code yX0_addSigned cX0_addSigned 3 none, 350)]) (by decide +kernel)) ⟨rfl, by decide +kernel, by decide +kernel, by decide +kernel⟩ ⟨Nat.le_of_ble_eq_true rfl, Nat.le_of_ble_eq_true rfl⟩
  · cases h
set_option maxHeartbeats 4000000 in
set_option maxRecDepth 100000 in
theorem mt_X2_setMinor : m_Mt yX2_setMinor cX2_setMinor 7 none 3 103 pt_psetMinor := by
  refine m_methodG (fl := fl_X2) (kI := kI_X2) (kJ := kJ_X2) (ct := ct_X2_setMinor) (cd := cd_X2_setMinor) (cut := [(25, [0, 1, 2, 3, 4, 5])]) (rk := 0) (fu := 100) (by decide +kernel) fl_X2_ok kI_X2_ok kJ_X2_ok ce_X2_setMinor rfl ck_X2_setMinor ⟨_, _, rfl, rfl⟩ ?_
  intro sh rf As I J K hpt
  obtain ⟨p, rest, rfl, hp, c, mo, rfl, hc1, hc64, hP, hmo, hI2, hI3, hK⟩ := hpt
  obtain ⟨-, hsA, hsB, hBS, hinj, hBL⟩ := id hP
  have hc0 : c ≠ 0 := by omega
  obtain ⟨pp1, pp2⟩ := popc_pos c hc64 hc0
  have ebg : ∀ x, x < 64 → pbg rf p x = rf (rf p 0) x := fun x hx => by unfold pbg; rw [if_pos hx]
  have emo : ∀ x, x < 12 → pbg rf p (64 + x) = rf (rf p 1) x := fun x hx => by
    unfold pbg
    rw [if_neg (by omega), if_pos (by omega), show 64 + x - 64 = x by omega]
  have esp : pbg rf p 76 = rf p 2 := rfl
  have hbc := hBS c (by omega)
  have hsp := hBS 76 (by decide)
  have hcapc : pcap c = 2 * popc c + 1 := by unfold pcap; rw [if_pos hc64]; omega
  have hcap76 : pcap 76 = 14 := rfl
  have ncs : pbg rf p c ≠ pbg rf p 76 := fun e => absurd (hinj c 76 (by omega) (by decide) e) (by omega)
  have ir : ∀ x, x < 64 → m_inr sh (rf p 0) (nI x) := fun x hx => m_inr_i hsA (Or.inl rfl) (vp_in_nI hx (by decide))
  have ir2 : ∀ x, x < 12 → m_inr sh (rf p 1) (nI x) := fun x hx => m_inr_i hsB (Or.inl rfl) (vp_in_nI hx (by decide))
  have erow : nI (popc c) - 1 = nI (popc c - 1) := pk_sub (b := 1) pp1
  refine ⟨Nat.le_of_ble_eq_true rfl, fun a b9 pc vs st I1 J1 => ∃ (j : Nat) (fl : Int32), vs = [.inr (.inr p), .inl (nI c), .inr (.inr (pbg rf p c)), .inl (nI (popc c - 1)), .inl fl, .inl (nI j)] ∧ st = [] ∧ J1 = J ∧ a = 6 - j ∧ j ≤ 6 ∧ fl = (if zb c j % 2 = 1 then 1 else 0) ∧ BCh2 rf I I1 (pbg rf p c) (pbg rf p 76) ∧ BIs sh rf I1 (pbg rf p c) (mnS mo (mn mo) c j), ?_, ?_⟩
  · refine ⟨hp, ir c hc64, c, rfl, hc64, pbg rf p c, [.inr (.inl 0)], ?_, hbc.1, pcap c, 0, rfl, hbc, fun I1 k1 k2 => ?_⟩
    · show ([.inr (.inr (rf (rf p 0) (nI c).toNatClampNeg)), .inr (.inl 0)] : List mPV) = _
      rw [nI_clamp (by omega), ebg c hc64]
    · refine ⟨6, 0, 0, 0, ?_, rfl, rfl, rfl, by omega, rfl, fun x a1 a2 _ _ => k1 x a1 a2, k2⟩
      rw [ebg c hc64, ← erow, nI_clamp (by omega)]
      rfl
  · intro pc ks a b9 vs st I1 J1 hc hI
    rcases m_cu1 hc with ⟨rfl, rfl⟩ | hc
    · obtain ⟨j, fl, rfl, rfl, rfl, rfl, hj, hfl, hch, hz⟩ := hI
      refine ⟨fun h => ?_, fun h => ?_⟩
      · have hge := (nI_leI (a := 6) (b := j) (by decide) (by omega)).mp h
        obtain rfl : j = 6 := by omega
        rw [← mn_eq mo hc0 hc64] at hz
        exact hK I1 hch hz
      · have hjl : j < 6 := by
          rcases Nat.lt_or_ge j 6 with q | q
          · exact q
          · exact absurd (nI_le q (by omega)) h
        obtain ⟨b1, b2⟩ := bit_t c hc64 j hjl
        have next : ∀ (I2 : mPI) (fl2 : Int32), fl2 = (if zb c (j + 1) % 2 = 1 then 1 else 0) → BCh2 rf I I2 (pbg rf p c) (pbg rf p 76) → BIs sh rf I2 (pbg rf p c) (mnS mo (mn mo) c (j + 1)) → ∃ a1 b1, (a1 < 6 - j ∨ a1 = 6 - j ∧ b1 < b9) ∧ ∃ (j' : Nat) (fl' : Int32), ([.inr (.inr p), .inl (nI c), .inr (.inr (pbg rf p c)), .inl (nI (popc c - 1)), .inl fl2, .inl (nI j + 1)] : List mPV) = [.inr (.inr p), .inl (nI c), .inr (.inr (pbg rf p c)), .inl (nI (popc c - 1)), .inl fl', .inl (nI j')] ∧ ([] : List mPV) = [] ∧ J1 = J1 ∧ a1 = 6 - j' ∧ j' ≤ 6 ∧ fl' = (if zb c j' % 2 = 1 then 1 else 0) ∧ BCh2 rf I I2 (pbg rf p c) (pbg rf p 76) ∧ BIs sh rf I2 (pbg rf p c) (mnS mo (mn mo) c j') := fun I2 fl2 q1 q2 q3 => ⟨6 - (j + 1), 0, Or.inl (by omega), j + 1, fl2, by rw [← nI_1], rfl, rfl, rfl, by omega, q1, q2, q3⟩
        refine ⟨fun h7 => ?_, fun h7 => ?_⟩
        · have hb : c.testBit j = true := by
            cases q : c.testBit j
            · exact absurd (b1.mpr q) h7
            · rfl
          have hxl := xor_lt c hc64 j hjl hb
          have hz1 : zb c (j + 1) = zb c j := by rw [zb, if_pos hb, Nat.add_zero]
          have erj : nI (popc c - 1) + nI j = nI (popc c - 1 + j) := nI_add _ _
          have hmj := hI2 (popc c - 1 + j) (by omega)
          have n1 : pbg rf p (64 + (popc c - 1 + j)) ≠ pbg rf p c := fun e => absurd (hinj _ c (by omega) (by omega) e) (by omega)
          have n2 : pbg rf p (64 + (popc c - 1 + j)) ≠ pbg rf p 76 := fun e => absurd (hinj _ 76 (by omega) (by decide) e) (by omega)
          have n3 : pbg rf p (c ^^^ 2 ^ j) ≠ pbg rf p c := fun e => absurd (hinj _ c (by omega) (by omega) e) (by omega)
          have n4 : pbg rf p (c ^^^ 2 ^ j) ≠ pbg rf p 76 := fun e => absurd (hinj _ 76 (by omega) (by decide) e) (by omega)
          have hm1 := hmj.other2 hBL hbc hsp n1 n2 hch
          have hx1 := (hI3 _ hxl).other2 hBL hbc hsp n3 n4 hch
          have hmS := hBS (64 + (popc c - 1 + j)) (by omega)
          have i1 : m_inr sh (rf p 1) (nI (popc c - 1) + nI j) := by rw [erj]; exact ir2 _ (by omega)
          have e1 : rf (rf p 1) (nI (popc c - 1) + nI j).toNatClampNeg = pbg rf p (64 + (popc c - 1 + j)) := by rw [erj, nI_clamp (by omega), emo _ (by omega)]
          have i2 : m_inr sh (rf p 0) (nI c ^^^ ((1 : Int32) <<< (nI j &&& 31))) := by rw [b2]; exact ir _ (by omega)
          have e2 : rf (rf p 0) (nI c ^^^ ((1 : Int32) <<< (nI j &&& 31))).toNatClampNeg = pbg rf p (c ^^^ 2 ^ j) := by rw [b2, nI_clamp (by omega), ebg _ (by omega)]
          refine ⟨hp, i1, pbg rf p (64 + (popc c - 1 + j)), [], ?_, hmS.1, mo (popc c - 1 + j), rfl, hm1, fun h8 => ?_, fun h8 => ?_⟩
          · show ([.inr (.inr (rf (rf p 1) (nI (popc c - 1) + nI j).toNatClampNeg))] : List mPV) = _
            rw [e1]
          · have h8 : sgI (mo (popc c - 1 + j)) = 0 := h8
            have h0 : mo (popc c - 1 + j) = 0 := by
              unfold sgI at h8
              by_cases q : mo (popc c - 1 + j) < 0
              · rw [if_pos q] at h8; exact absurd h8 (by decide)
              · rw [if_neg q] at h8
                by_cases q2 : mo (popc c - 1 + j) = 0
                · exact q2
                · rw [if_neg q2] at h8; exact absurd h8 (by decide)
            refine next I1 fl (by rw [hz1]; exact hfl) hch ?_
            rw [mnS, if_pos hb, h0, Int.mul_zero]
            have : (if zb c j % 2 = 1 then -(0 : Int) else 0) = 0 := by split <;> rfl
            rw [this, Int.add_zero]
            exact hz
          · have hlim := mn_lt hmo (c := c ^^^ 2 ^ j) (by omega)
            have hlm := hmo (popc c - 1 + j) (by omega)
            have hbd := mnS_lt hmo hc0 hc64 (j := j) (by omega)
            refine ⟨hp, hp, i2, hp, i1, pbg rf p 76, [.inr (.inr (pbg rf p (c ^^^ 2 ^ j))), .inr (.inr (pbg rf p (64 + (popc c - 1 + j))))], ?_, hsp.1, 14, pbg rf p (c ^^^ 2 ^ j), pbg rf p (64 + (popc c - 1 + j)), 12, 2, mn mo (c ^^^ 2 ^ j), mo (popc c - 1 + j), rfl, hsp, hBL, n4, n2, hx1, hm1, hlim.1, by unfold MB at hlm; omega, by omega, fun I2 k1 k2 => ?_⟩
            · show ([.inr (.inr (rf p 2)), .inr (.inr (rf (rf p 0) (nI c ^^^ ((1 : Int32) <<< (nI j &&& 31))).toNatClampNeg)), .inr (.inr (rf (rf p 1) (nI (popc c - 1) + nI j).toNatClampNeg))] : List mPV) = _
              rw [e1, e2]
              rfl
            · have hz2 := hz.other hBL hsp ncs k1
              have hng := k2.neg
              have ncs' : pbg rf p 76 ≠ pbg rf p c := ncs.symm
              have step : ∀ (s : Int32) (I3 : mPI), (if s = 1 then -((mn mo (c ^^^ 2 ^ j) * mo (popc c - 1 + j)).natAbs : Int) else ((mn mo (c ^^^ 2 ^ j) * mo (popc c - 1 + j)).natAbs : Int)) = (if zb c j % 2 = 1 then -(mn mo (c ^^^ 2 ^ j) * mo (popc c - 1 + j)) else mn mo (c ^^^ 2 ^ j) * mo (popc c - 1 + j)) → BCh rf I2 I3 (pbg rf p c) → BIs sh rf I3 (pbg rf p c) (mnS mo (mn mo) c j + (if s = 1 then -((mn mo (c ^^^ 2 ^ j) * mo (popc c - 1 + j)).natAbs : Int) else ((mn mo (c ^^^ 2 ^ j) * mo (popc c - 1 + j)).natAbs : Int))) → BCh2 rf I I3 (pbg rf p c) (pbg rf p 76) ∧ BIs sh rf I3 (pbg rf p c) (mnS mo (mn mo) c (j + 1)) := by
                intro s I3 he k3 k4
                refine ⟨fun x a1 a2 a3 a4 => ?_, ?_⟩
                · rw [k3 x a1 a2, k1 x a3 a4, hch x a1 a2 a3 a4]
                · rw [mnS, if_pos hb, ← he]
                  exact k4
              refine ⟨hp, hp, hsp.1, fun h9 => ?_, fun h9 => ?_⟩
              · have h9 : I2 (pbg rf p 76) 2 = fl := h9
                rw [hng, hfl] at h9
                refine ⟨pbg rf p c, _, rfl, hbc.1, pcap c, pbg rf p 76, 2 * popc c, mnS mo (mn mo) c j, mn mo (c ^^^ 2 ^ j) * mo (popc c - 1 + j), 0, rfl, Or.inl rfl, hbc, hBL, ncs', hz2, k2, hbd.1, hbd.2 hjl hb, by omega, fun I3 k3 k4 => ?_⟩
                suffices he : (if (0 : Int32) = 1 then -((mn mo (c ^^^ 2 ^ j) * mo (popc c - 1 + j)).natAbs : Int) else ((mn mo (c ^^^ 2 ^ j) * mo (popc c - 1 + j)).natAbs : Int)) = (if zb c j % 2 = 1 then -(mn mo (c ^^^ 2 ^ j) * mo (popc c - 1 + j)) else mn mo (c ^^^ 2 ^ j) * mo (popc c - 1 + j)) by
                  obtain ⟨q8, q9⟩ := step 0 I3 he k3 k4
                  exact next I3 fl (by rw [hz1]; exact hfl) q8 q9
                rw [if_neg (show ¬ (0 : Int32) = 1 by decide)]
                by_cases q : mn mo (c ^^^ 2 ^ j) * mo (popc c - 1 + j) < 0
                · rw [if_pos q] at h9
                  by_cases q2 : zb c j % 2 = 1
                  · rw [if_pos q2]; omega
                  · rw [if_neg q2] at h9; exact absurd h9 (by decide)
                · rw [if_neg q] at h9
                  by_cases q2 : zb c j % 2 = 1
                  · rw [if_pos q2] at h9; exact absurd h9 (by decide)
                  · rw [if_neg q2]; omega
              · have h9 : ¬ I2 (pbg rf p 76) 2 = fl := h9
                rw [hng, hfl] at h9
                refine ⟨pbg rf p c, _, rfl, hbc.1, pcap c, pbg rf p 76, 2 * popc c, mnS mo (mn mo) c j, mn mo (c ^^^ 2 ^ j) * mo (popc c - 1 + j), 1, rfl, Or.inr rfl, hbc, hBL, ncs', hz2, k2, hbd.1, hbd.2 hjl hb, by omega, fun I3 k3 k4 => ?_⟩
                suffices he : (if (1 : Int32) = 1 then -((mn mo (c ^^^ 2 ^ j) * mo (popc c - 1 + j)).natAbs : Int) else ((mn mo (c ^^^ 2 ^ j) * mo (popc c - 1 + j)).natAbs : Int)) = (if zb c j % 2 = 1 then -(mn mo (c ^^^ 2 ^ j) * mo (popc c - 1 + j)) else mn mo (c ^^^ 2 ^ j) * mo (popc c - 1 + j)) by
                  obtain ⟨q8, q9⟩ := step 1 I3 he k3 k4
                  exact next I3 fl (by rw [hz1]; exact hfl) q8 q9
                rw [if_pos (show (1 : Int32) = 1 from rfl)]
                by_cases q : mn mo (c ^^^ 2 ^ j) * mo (popc c - 1 + j) < 0
                · rw [if_pos q] at h9
                  by_cases q2 : zb c j % 2 = 1
                  · rw [if_pos q2] at h9; exact absurd rfl h9
                  · rw [if_neg q2]; omega
                · rw [if_neg q] at h9
                  by_cases q2 : zb c j % 2 = 1
                  · rw [if_pos q2]; omega
                  · rw [if_neg q2] at h9; exact absurd rfl h9
        · have hb : ¬ c.testBit j = true := by
            have := b1.mp h7
            rw [this]
            decide
          have hz1 : zb c (j + 1) = zb c j + 1 := by rw [zb, if_neg hb]
          have hs1 : mnS mo (mn mo) c (j + 1) = mnS mo (mn mo) c j := by rw [mnS, if_neg hb, Int.add_zero]
          refine ⟨fun h8 => ?_, fun h8 => ?_⟩
          · have h8 : ¬ fl = 0 := h8
            rw [hfl] at h8
            have q : zb c j % 2 = 1 := by
              by_cases q : zb c j % 2 = 1
              · exact q
              · rw [if_neg q] at h8; exact absurd rfl h8
            exact next I1 0 (by rw [hz1, if_neg (by omega)]) hch (by rw [hs1]; exact hz)
          · have h8 : fl = 0 := h8
            rw [hfl] at h8
            have q : ¬ zb c j % 2 = 1 := fun q => by rw [if_pos q] at h8; exact absurd h8 (by decide)
            exact next I1 1 (by rw [hz1, if_pos (by omega)]) hch (by rw [hs1]; exact hz)
    · cases hc

def pt_ptake : mSH → mRF → mPT := m_pv 2 (fun sh rf p rest I J K => ∃ a last : Nat, rest = [.inr (.inr a), .inl (nI last)] ∧ PSh sh rf p ∧ sh a = .inr (1, 12) ∧ last ≤ 11 ∧ (∀ k, k < 12 → (J a k).toInt.natAbs ≤ MB) ∧ ∀ I1, PCh rf I I1 p → PIs sh rf I1 p (fun k => (J a k).toInt) last → K none I1 J)
theorem PCh.rfl' (rf : mRF) (I : mPI) (p : Nat) : PCh rf I I p := fun _ _ _ => rfl
theorem PCh.trans {rf : mRF} {I I1 I2 : mPI} {p : Nat} (h1 : PCh rf I I1 p) (h2 : PCh rf I1 I2 p) : PCh rf I I2 p := fun a a1 a2 => (h2 a a1 a2).trans (h1 a a1 a2)
theorem PCh.of {rf : mRF} {I I1 : mPI} {p j : Nat} (hj : j < 78) (h : BCh rf I I1 (pbg rf p j)) : PCh rf I I1 p := fun a _ a2 => h a (a2 j hj).1 (a2 j hj).2
theorem PCh.of2 {rf : mRF} {I I1 : mPI} {p j k : Nat} (hj : j < 78) (hk : k < 78) (h : BCh2 rf I I1 (pbg rf p j) (pbg rf p k)) : PCh rf I I1 p := fun a _ a2 => h a (a2 j hj).1 (a2 j hj).2 (a2 k hk).1 (a2 k hk).2
theorem PCh.fld (rf : mRF) (I : mPI) (p k : Nat) (v : Int32) : PCh rf I (m_uI I p k v) p := fun _ a1 _ => uI_a _ _ _ a1
theorem BIs.fldP {sh : mSH} {rf : mRF} {I : mPI} {p b k : Nat} {z : Int} {v : Int32} (hz : BIs sh rf I b z) (hp : sh p = .inl 2) : BIs sh rf (m_uI I p k v) b z := by
  obtain ⟨cap, hB⟩ := hz.sh
  obtain ⟨n1, n2⟩ := PSh.notbig hp hB
  exact hz.keep (uI_a _ _ _ n1.symm) (uI_a _ _ _ n2.symm)
theorem pw_t : ∀ last, last ≤ 11 → (if (nI last + 1) / 2 + 1 < (6 : Int32) then (nI last + 1) / 2 + 1 else 6) = nI (pw last) ∧ (1 : Int32) <<< (nI (pw last) &&& 31) = nI (2 ^ pw last) ∧ 2 ^ pw last ≤ 64 ∧ 1 ≤ 2 ^ pw last := by decide +kernel
def ptkInv (sh : mSH) (rf : mRF) (p a last : Nat) (I : mPI) (J : mPJ) : Nat → Nat → mCV := fun a9 b9 pc vs st I1 J1 => st = [] ∧ J1 = J ∧ PCh rf I I1 p ∧ I1 p 4 = nI last ∧
  ((pc = 7 ∧ a9 = 3 ∧ ∃ k, k ≤ 12 ∧ b9 = 12 - k ∧ vs = [.inr (.inr p), .inr (.inr a), .inl (nI k)] ∧ ∀ j, j < k → BIs sh rf I1 (pbg rf p (64 + j)) (J a j).toInt) ∨
   ((∀ j, j < 12 → BIs sh rf I1 (pbg rf p (64 + j)) (J a j).toInt) ∧
    ((pc = 63 ∧ a9 = 2 ∧ ∃ c, 1 ≤ c ∧ c ≤ 2 ^ pw last ∧ b9 = 64 - c ∧ vs = [.inr (.inr p), .inl (nI (pw last)), .inl (nI c)] ∧ ∀ x, x < c → BIs sh rf I1 (pbg rf p x) (mn (fun k => (J a k).toInt) x)) ∨
     (pc = 88 ∧ a9 = 1 ∧ vs = [.inr (.inr p)] ∧ (∀ x, x < 2 ^ pw last → BIs sh rf I1 (pbg rf p x) (mn (fun k => (J a k).toInt) x)) ∧ ∃ k, b9 + k = 6 ∧ k ≤ 5 ∧ 2 * k ≤ last + 1 ∧ I1 p 5 = nI k ∧ tpF (fun k => (J a k).toInt) last b9 k = tpf (fun k => (J a k).toInt) last))))
def ct_X2_take (sh : mSH) (rf : mRF) : Nat → Option (Nat × Bool × mPT) := fun k => match k with
  | 40 => some (2, true, pt_setLong sh rf)
  | 44 => some (2, false, pt_min sh rf)
  | 50 => some (2, true, pt_psetMinor sh rf)
  | 56 => some (2, true, pt_pdet sh rf)
  | 60 => some (1, true, pt_signum sh rf)
  | _ => none
set_option maxRecDepth 20000 in
theorem ce_X2_take : m_CE RX2 4 129 cX2_take 5 ct_X2_take := by
  intro p l e s m args below meth c Q D cs ad sh rf N hx hb hml hown hts hK hi hN k n vf pt h
  unfold ct_X2_take at h
  split at h
  · cases h
    exact m_CG_V mt_X0_setLong hx hb hml hown hts hK hi hN (ci := 0) m_pv_rec rfl rfl (m_wck_ok (l := [(Cond.methodLink RX2 40 yX0_setLong, 428), (Cond.instanceMethod yX0_setLong, 176), (Cond.selects RX0 yX0_setLong yX0_setLong, 177), (Cond.initialized RX0, 58), (Cond.code yX0_setLong cX0_setLong 5 none, 178)]) (by decide +kernel)) ⟨rfl, by decide +kernel, by decide +kernel, by decide +kernel⟩ ⟨Nat.le_of_ble_eq_true rfl, Nat.le_of_ble_eq_true rfl⟩
  · cases h
    exact m_CG_min hx hb hml hown hts hK hi hN (m_wck_ok (l := [(Cond.methodLink RX2 44 Lib.Math.min.name, 429), (Cond.static Lib.Math.min.name, 335), (Cond.initialized "java/lang/Math", 59), (Cond.code Lib.Math.min.name Lib.Math.min.code 2 (some .int), 336)]) (by decide +kernel)) ⟨Nat.le_of_ble_eq_true rfl, Nat.le_of_ble_eq_true rfl⟩
  · cases h
    exact m_CG_V mt_X2_setMinor hx hb hml hown hts hK hi hN (ci := 2) m_pv_rec rfl rfl (m_wck_ok (l := [(Cond.methodLink RX2 50 yX2_setMinor, 430), (Cond.instanceMethod yX2_setMinor, 432), (Cond.selects RX2 yX2_setMinor yX2_setMinor, 6), (Cond.initialized RX2, 57), (Cond.code yX2_setMinor cX2_setMinor 7 none, 433)]) (by decide +kernel)) ⟨rfl, by decide +kernel, by decide +kernel, by decide +kernel⟩ ⟨Nat.le_of_ble_eq_true rfl, Nat.le_of_ble_eq_true rfl⟩
  · cases h
    exact m_CG_V mt_X2_determinant hx hb hml hown hts hK hi hN (ci := 2) m_pv_rec rfl rfl (m_wck_ok (l := [(Cond.methodLink RX2 56 yX2_determinant, 437), (Cond.instanceMethod yX2_determinant, 438), (Cond.selects RX2 yX2_determinant yX2_determinant, 439), (Cond.initialized RX2, 57), (Cond.code yX2_determinant cX2_determinant 2 (some (.object "MomentDesk$Big")), 440)]) (by decide +kernel)) ⟨rfl, by decide +kernel, by decide +kernel, by decide +kernel⟩ ⟨Nat.le_of_ble_eq_true rfl, Nat.le_of_ble_eq_true rfl⟩
  · cases h
    exact m_CG_V mt_X0_signum hx hb hml hown hts hK hi hN (ci := 0) m_pv_rec rfl rfl (m_wck_ok (l := [(Cond.methodLink RX2 60 yX0_signum, 434), (Cond.instanceMethod yX0_signum, 413), (Cond.selects RX0 yX0_signum yX0_signum, 414), (Cond.initialized RX0, 58), (Cond.code yX0_signum cX0_signum 1 (some .int), 415)]) (by decide +kernel)) ⟨rfl, by decide +kernel, by decide +kernel, by decide +kernel⟩ ⟨Nat.le_of_ble_eq_true rfl, Nat.le_of_ble_eq_true rfl⟩
  · cases h
set_option maxHeartbeats 4000000 in
set_option maxRecDepth 100000 in
theorem mt_X2_take : m_Mt yX2_take cX2_take 5 none 4 129 pt_ptake := by
  refine m_methodG (fl := fl_X2) (kI := kI_X2) (kJ := kJ_X2) (ct := ct_X2_take) (cd := cd_X2_take) (cut := [(7, [0, 1, 3]), (63, [0, 3, 4]), (88, [0])]) (rk := 0) (fu := 100) (by decide +kernel) fl_X2_ok kI_X2_ok kJ_X2_ok ce_X2_take rfl ck_X2_take ⟨_, _, rfl, rfl⟩ ?_
  intro sh rf As I J K hpt
  obtain ⟨p, rest, rfl, hp, a, last, rfl, hP, hsa, hl, hmo, hK⟩ := hpt
  obtain ⟨-, hsA, hsB, hBS, hinj, hBL⟩ := id hP
  obtain ⟨w1, w2, w3, w4⟩ := pw_t last hl
  have ebg : ∀ x, x < 64 → pbg rf p x = rf (rf p 0) x := fun x hx => by unfold pbg; rw [if_pos hx]
  have emo : ∀ x, x < 12 → pbg rf p (64 + x) = rf (rf p 1) x := fun x hx => by
    unfold pbg
    rw [if_neg (by omega), if_pos (by omega), show 64 + x - 64 = x by omega]
  refine ⟨Nat.le_of_ble_eq_true rfl, ptkInv sh rf p a last I J, ?_, ?_⟩
  · exact ⟨hp, 3, 12, rfl, rfl, PCh.fld rf I p 4 _, uI_s _ _ _ _, Or.inl ⟨rfl, rfl, 0, Nat.zero_le _, rfl, rfl, fun j h => absurd h (Nat.not_lt_zero j)⟩⟩
  · intro pc ks a9 b9 vs st I1 J1 hc hI
    obtain ⟨rfl, rfl, hch, h4, h5⟩ := hI
    rcases m_cu1 hc with ⟨rfl, rfl⟩ | hc
    · obtain ⟨rfl, k, hk, rfl, rfl, hm⟩ : a9 = 3 ∧ ∃ k, k ≤ 12 ∧ b9 = 12 - k ∧ vs = [.inr (.inr p), .inr (.inr a), .inl (nI k)] ∧ ∀ j, j < k → BIs sh rf I1 (pbg rf p (64 + j)) (J1 a j).toInt := by
        rcases h5 with ⟨-, e⟩ | ⟨-, ⟨e, -⟩ | ⟨e, -⟩⟩
        · exact e
        · cases e
        · cases e
      clear h5
      refine ⟨hp, m_isa_i hsB (by decide), fun h => ?_, fun h => ?_⟩
      · have h : m_len sh (rf p 1) ≤ nI k := h
        rw [m_len_i hsB] at h
        have hge := (nI_leI (by decide) (by omega)).mp h
        obtain rfl : k = 12 := by omega
        have hb0 := hBS 0 (by decide)
        refine ⟨hp, by decide, 6, (I1 p 4 + 1) / 2 + 1, rfl, ?_⟩
        rw [h4, w1]
        refine ⟨hp, m_inr_i hsA (Or.inl rfl) (vp_in_nI (n := 0) (by decide) (by decide)), pbg rf p 0, [.inr (.inl 1)], rfl, hb0.1, pcap 0, 1, rfl, hb0, fun I2 k1 k2 => ?_⟩
        refine ⟨2, 64 - 1, Or.inl (by omega), rfl, rfl, hch.trans (PCh.of (by decide) k1), ?_, Or.inr ⟨fun j hj => ?_, Or.inl ⟨rfl, rfl, 1, by omega, w4, rfl, rfl, fun x hx => ?_⟩⟩⟩
        · rw [k1 p (PSh.notbig hp hb0).1 (PSh.notbig hp hb0).2]
          exact h4
        · exact (hm j hj).other hBL hb0 (fun e => absurd (hinj _ 0 (by omega) (by decide) e) (by omega)) k1
        · obtain rfl : x = 0 := by omega
          exact k2
      · have h : ¬ m_len sh (rf p 1) ≤ nI k := h
        rw [m_len_i hsB] at h
        have hkl : k < 12 := by
          rcases Nat.lt_or_ge k 12 with q | q
          · exact q
          · exact absurd (nI_le q (by omega)) h
        have hbk := hBS (64 + k) (by omega)
        refine ⟨hp, m_inr_i hsB (Or.inl rfl) (vp_in_nI hkl (by decide)), m_inb_i hsa (vp_in_nI hkl (by decide)), pbg rf p (64 + k), [.inr (.inl (J1 a k))], ?_, hbk.1, pcap (64 + k), J1 a k, rfl, hbk, fun I2 k1 k2 => ?_⟩
        · show ([.inr (.inr (rf (rf p 1) (nI k).toNatClampNeg)), .inr (.inl (J1 a (nI k).toNatClampNeg))] : List mPV) = _
          rw [nI_clamp (by omega), emo k hkl]
        · refine ⟨3, 12 - (k + 1), Or.inr ⟨rfl, by omega⟩, rfl, rfl, hch.trans (PCh.of (by omega) k1), ?_, Or.inl ⟨rfl, rfl, k + 1, by omega, rfl, by rw [← nI_1], fun j hj => ?_⟩⟩
          · rw [k1 p (PSh.notbig hp hbk).1 (PSh.notbig hp hbk).2]
            exact h4
          · by_cases e : j = k
            · subst e
              exact k2
            · exact (hm j (by omega)).other hBL hbk (fun e2 => absurd (hinj _ _ (by omega) (by omega) e2) (by omega)) k1
    rcases m_cu1 hc with ⟨rfl, rfl⟩ | hc
    · obtain ⟨hm, rfl, c, hc1, hcw, rfl, rfl, hx⟩ : (∀ j, j < 12 → BIs sh rf I1 (pbg rf p (64 + j)) (J1 a j).toInt) ∧ a9 = 2 ∧ ∃ c, 1 ≤ c ∧ c ≤ 2 ^ pw last ∧ b9 = 64 - c ∧ vs = [.inr (.inr p), .inl (nI (pw last)), .inl (nI c)] ∧ ∀ x, x < c → BIs sh rf I1 (pbg rf p x) (mn (fun k => (J1 a k).toInt) x) := by
        rcases h5 with ⟨e, -⟩ | ⟨e1, ⟨-, e⟩ | ⟨e, -⟩⟩
        · cases e
        · exact ⟨e1, e⟩
        · cases e
      clear h5
      refine ⟨fun h => ?_, fun h => ?_⟩
      · have h : (1 : Int32) <<< (nI (pw last) &&& 31) ≤ nI c := h
        rw [w2] at h
        have hge := (nI_leI (by omega) (by omega)).mp h
        obtain rfl : c = 2 ^ pw last := by omega
        refine ⟨hp, 1, 6, Or.inl (by omega), rfl, rfl, hch.trans (PCh.fld rf I1 p 5 0), ?_, Or.inr ⟨fun j hj => (hm j hj).fldP hp, Or.inr ⟨rfl, rfl, rfl, fun x h9 => (hx x h9).fldP hp, 0, rfl, by omega, by omega, uI_s _ _ _ _, rfl⟩⟩⟩
        rw [uI_k _ _ _ (by decide)]
        exact h4
      · have h : ¬ (1 : Int32) <<< (nI (pw last) &&& 31) ≤ nI c := h
        rw [w2] at h
        have hcl : c < 2 ^ pw last := by
          rcases Nat.lt_or_ge c (2 ^ pw last) with q | q
          · exact q
          · exact absurd (nI_le q (by omega)) h
        have hbc := hBS c (by omega)
        have hsp := hBS 76 (by decide)
        refine ⟨p, [.inl (nI c)], rfl, hp, c, (fun k => (J1 a k).toInt), rfl, hc1, by omega, hP, hmo, hm, hx, fun I2 k1 k2 => ?_⟩
        have hpc := PSh.notbig hp hbc
        have hps := PSh.notbig hp hsp
        refine ⟨2, 64 - (c + 1), Or.inr ⟨rfl, by omega⟩, rfl, rfl, hch.trans (PCh.of2 (by omega) (by decide) k1), ?_, Or.inr ⟨fun j hj => ?_, Or.inl ⟨rfl, rfl, c + 1, by omega, by omega, rfl, by rw [← nI_1], fun x h9 => ?_⟩⟩⟩
        · rw [k1 p hpc.1 hpc.2 hps.1 hps.2]
          exact h4
        · exact (hm j hj).other2 hBL hbc hsp (fun e => absurd (hinj _ c (by omega) (by omega) e) (by omega)) (fun e => absurd (hinj _ 76 (by omega) (by decide) e) (by omega)) k1
        · by_cases e : x = c
          · subst e
            exact k2
          · exact (hx x (by omega)).other2 hBL hbc hsp (fun e2 => absurd (hinj _ c (by omega) (by omega) e2) e) (fun e2 => absurd (hinj _ 76 (by omega) (by decide) e2) (by omega)) k1
    rcases m_cu1 hc with ⟨rfl, rfl⟩ | hc
    · obtain ⟨hm, rfl, rfl, hx, k, hbk, hk5, hkl, h55, htp⟩ : (∀ j, j < 12 → BIs sh rf I1 (pbg rf p (64 + j)) (J1 a j).toInt) ∧ a9 = 1 ∧ vs = [.inr (.inr p)] ∧ (∀ x, x < 2 ^ pw last → BIs sh rf I1 (pbg rf p x) (mn (fun k => (J1 a k).toInt) x)) ∧ ∃ k, b9 + k = 6 ∧ k ≤ 5 ∧ 2 * k ≤ last + 1 ∧ I1 p 5 = nI k ∧ tpF (fun k => (J1 a k).toInt) last b9 k = tpf (fun k => (J1 a k).toInt) last := by
        rcases h5 with ⟨e, -⟩ | ⟨e1, ⟨e, -⟩ | ⟨-, e⟩⟩
        · cases e
        · cases e
        · exact ⟨e1, e⟩
      clear h5
      obtain ⟨b, rfl⟩ : ∃ b, b9 = b + 1 := ⟨b9 - 1, by omega⟩
      rw [tpF] at htp
      have stop : ¬ (k < 5 ∧ 2 * k + 1 ≤ last ∧ mn (fun k => (J1 a k).toInt) (2 ^ (k + 1) - 1) ≠ 0) → K none I1 J1 := by
        intro q
        rw [if_neg q] at htp
        exact hK I1 hch ⟨h4, by rw [← htp]; exact h55, hl, hmo, hm, hx⟩
      refine ⟨hp, fun h => ?_, fun h => ?_⟩
      · have h : nI 5 ≤ I1 p 5 := h
        rw [h55] at h
        have := (nI_leI (by decide) (by omega)).mp h
        exact stop (fun q => by omega)
      · have h : ¬ nI 5 ≤ I1 p 5 := h
        rw [h55] at h
        have hk4 : k < 5 := by
          rcases Nat.lt_or_ge k 5 with q | q
          · exact q
          · exact absurd (nI_le q (by omega)) h
        refine ⟨hp, hp, fun h7 => ?_, fun h7 => ?_⟩
        · have h7 : I1 p 4 < nI 2 * I1 p 5 + 1 := h7
          rw [h4, h55, pk_mul, nI_1] at h7
          have := (nI_ltI (by omega) (by omega)).mp h7
          exact stop (fun q => by omega)
        · have h7 : ¬ I1 p 4 < nI 2 * I1 p 5 + 1 := h7
          rw [h4, h55, pk_mul, nI_1] at h7
          have hkl2 : 2 * k + 1 ≤ last := by
            rcases Nat.lt_or_ge last (2 * k + 1) with q | q
            · exact absurd ((nI_ltI (by omega) (by omega)).mpr q) h7
            · exact q
          have hd := hx (2 ^ (k + 1) - 1) (pw_det (mo := fun _ => 0) (by omega) (by omega))
          have hds := hBS (2 ^ (k + 1) - 1) (by have := (shl_det (k + 1) (by omega)).2; omega)
          refine ⟨hp, p, [.inl (I1 p 5 + 1)], rfl, hp, k + 1, by rw [h55, nI_1], by omega, hP, _, [], rfl, hds.1, _, rfl, hd, fun h8 => ?_, fun h8 => ?_⟩
          · have h8 : sgI (mn (fun k => (J1 a k).toInt) (2 ^ (k + 1) - 1)) = 0 := h8
            refine stop (fun q => q.2.2 ?_)
            unfold sgI at h8
            by_cases q1 : mn (fun k => (J1 a k).toInt) (2 ^ (k + 1) - 1) < 0
            · rw [if_pos q1] at h8; exact absurd h8 (by decide)
            · rw [if_neg q1] at h8
              by_cases q2 : mn (fun k => (J1 a k).toInt) (2 ^ (k + 1) - 1) = 0
              · exact q2
              · rw [if_neg q2] at h8; exact absurd h8 (by decide)
          · have h8 : ¬ sgI (mn (fun k => (J1 a k).toInt) (2 ^ (k + 1) - 1)) = 0 := h8
            have hne : mn (fun k => (J1 a k).toInt) (2 ^ (k + 1) - 1) ≠ 0 := fun e => h8 (by rw [e]; rfl)
            rw [if_pos ⟨hk4, hkl2, hne⟩] at htp
            refine ⟨hp, hp, 1, b, Or.inr ⟨rfl, by omega⟩, rfl, rfl, hch.trans (PCh.fld rf I1 p 5 _), ?_, Or.inr ⟨fun j hj => (hm j hj).fldP hp, Or.inr ⟨rfl, rfl, rfl, fun x h9 => (hx x h9).fldP hp, k + 1, by omega, by omega, by omega, ?_, htp⟩⟩⟩
            · rw [uI_k _ _ _ (by decide)]
              exact h4
            · rw [uI_s]
              show I1 p 5 + 1 = nI (k + 1)
              rw [h55, nI_1]
    · cases hc

