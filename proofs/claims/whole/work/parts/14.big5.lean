/-! ===== addSigned, take, setProduct, addProduct, times, timesInt ===== -/
def BCh2 (rf : mRF) (I I1 : mPI) (b s : Nat) : Prop := ∀ a, a ≠ b → a ≠ rf b 0 → a ≠ s → a ≠ rf s 0 → I1 a = I a
theorem BIs.sh {sh : mSH} {rf : mRF} {I : mPI} {b : Nat} {z : Int} (h : BIs sh rf I b z) : ∃ cap, BSh sh rf b cap := by
  obtain ⟨cap, n, h1, -⟩ := h
  exact ⟨cap, h1⟩
theorem BIs.flag {sh : mSH} {rf : mRF} {I : mPI} {b : Nat} {y : Int} {s : Int32} (h : BIs sh rf I b y) (hy : y ≠ 0) (hs : s = 0 ∨ s = 1) : BIs sh rf (m_uI I b 2 s) b (if s = 1 then -(y.natAbs : Int) else (y.natAbs : Int)) := by
  obtain ⟨cap, n, hB, h1, h2, h4, h5, h6⟩ := h
  have hne := hB.ne
  refine ⟨cap, n, hB, by rw [uI_k _ _ _ (by decide)]; exact h1, h2, by rw [uI_a _ _ _ hne.symm]; exact h4, ?_, ?_⟩
  · rw [uI_s]
    rcases hs with rfl | rfl
    · rw [if_neg (show ¬ (0 : Int32) = 1 by decide), if_neg (by omega)]
    · rw [if_pos rfl, if_pos (by omega)]
  · rw [dv_congr (h := bdg rf I b) (fun k hk => by unfold bdg; rw [uI_a _ _ _ hne.symm]), h6]
    split <;> omega
theorem BIs.neg {sh : mSH} {rf : mRF} {I : mPI} {b : Nat} {z : Int} (h : BIs sh rf I b z) : I b 2 = (if z < 0 then 1 else 0) := by
  obtain ⟨cap, n, hB, h1, h2, h4, h5, h6⟩ := h
  exact h5
theorem BIs.nil {sh : mSH} {rf : mRF} {I : mPI} {b : Nat} {z : Int} (h : BIs sh rf I b z) : I b 1 = 0 ↔ z = 0 := by
  obtain ⟨cap, n, hB, h1, h2, h4, h5, h6⟩ := h
  have hcap := hB.2.2.2
  rw [h1, ← BIs.zero (sh := sh) h4 h6]
  constructor
  · intro e
    exact (nI_eq (b := 0) (by omega) (by decide)).mp e
  · intro e
    rw [e]; rfl
def pt_addSigned : mSH → mRF → mPT := m_pv 0 (fun sh rf b rest I J K => ∃ (cap f m : Nat) (z y : Int) (s : Int32), rest = [.inr (.inr f), .inl s] ∧ (s = 0 ∨ s = 1) ∧ BSh sh rf b cap ∧ BL sh rf ∧ f ≠ b ∧ BIs sh rf I b z ∧ BIs sh rf I f y ∧ z.natAbs < 2 ^ (32 * m) ∧ y.natAbs < 2 ^ (32 * m) ∧ m + 1 ≤ cap ∧ ∀ I1, BCh rf I I1 b → BIs sh rf I1 b (z + (if s = 1 then -(y.natAbs : Int) else (y.natAbs : Int))) → K none I1 J)
def pt_take : mSH → mRF → mPT := m_pv 0 (fun sh rf b rest I J K => ∃ (cap f m : Nat) (z y : Int), rest = [.inr (.inr f)] ∧ BSh sh rf b cap ∧ BL sh rf ∧ f ≠ b ∧ BIs sh rf I b z ∧ BIs sh rf I f y ∧ z.natAbs < 2 ^ (32 * m) ∧ y.natAbs < 2 ^ (32 * m) ∧ m + 1 ≤ cap ∧ ∀ I1, BCh rf I I1 b → BIs sh rf I1 b (z - y) → K none I1 J)
def pt_setProduct : mSH → mRF → mPT := m_pv 0 (fun sh rf b rest I J K => ∃ (cap f g m1 m2 : Nat) (x y : Int), rest = [.inr (.inr f), .inr (.inr g)] ∧ BSh sh rf b cap ∧ BL sh rf ∧ f ≠ b ∧ g ≠ b ∧ BIs sh rf I f x ∧ BIs sh rf I g y ∧ x.natAbs < 2 ^ (32 * m1) ∧ y.natAbs < 2 ^ (32 * m2) ∧ m1 + m2 ≤ cap ∧ ∀ I1, BCh rf I I1 b → BIs sh rf I1 b (x * y) → K none I1 J)
def pt_addProduct : mSH → mRF → mPT := m_pv 0 (fun sh rf b rest I J K => ∃ (cap f g s caps m1 m2 m : Nat) (z x y : Int), rest = [.inr (.inr f), .inr (.inr g), .inr (.inr s)] ∧ BSh sh rf b cap ∧ BSh sh rf s caps ∧ BL sh rf ∧ f ≠ s ∧ g ≠ s ∧ b ≠ s ∧ BIs sh rf I b z ∧ BIs sh rf I f x ∧ BIs sh rf I g y ∧ x.natAbs < 2 ^ (32 * m1) ∧ y.natAbs < 2 ^ (32 * m2) ∧ m1 + m2 ≤ caps ∧ z.natAbs < 2 ^ (32 * m) ∧ (x * y).natAbs < 2 ^ (32 * m) ∧ m + 1 ≤ cap ∧ ∀ I1, BCh2 rf I I1 b s → BIs sh rf I1 b (z + x * y) → K none I1 J)
def pt_times : mSH → mRF → mPT := m_pv 0 (fun sh rf b rest I J K => ∃ (cap f s caps m1 m2 : Nat) (x y : Int), rest = [.inr (.inr f), .inr (.inr s)] ∧ BSh sh rf b cap ∧ BSh sh rf s caps ∧ BL sh rf ∧ f ≠ s ∧ b ≠ s ∧ BIs sh rf I b x ∧ BIs sh rf I f y ∧ x.natAbs < 2 ^ (32 * m1) ∧ y.natAbs < 2 ^ (32 * m2) ∧ m1 + m2 ≤ caps ∧ (x * y).natAbs < 2 ^ (32 * cap) ∧ ∀ I1, BCh2 rf I I1 b s → BIs sh rf I1 b (x * y) → K none I1 J)
def pt_timesInt : mSH → mRF → mPT := m_pv 0 (fun sh rf b rest I J K => ∃ (cap m : Nat) (z : Int) (f : Int32), rest = [.inl f] ∧ BSh sh rf b cap ∧ BIs sh rf I b z ∧ z.natAbs < 2 ^ (32 * m) ∧ m + 1 ≤ cap ∧ ∀ I1, BCh rf I I1 b → BIs sh rf I1 b (z * f.toInt) → K none I1 J)
def ct_X0_addSigned (sh : mSH) (rf : mRF) : Nat → Option (Nat × Bool × mPT) := fun k => match k with
  | 66 => some (2, true, pt_setBig sh rf)
  | 70 => some (2, true, pt_addSize sh rf)
  | 73 => some (2, true, pt_compareSize sh rf)
  | 77 => some (2, true, pt_takeSize sh rf)
  | 80 => some (2, true, pt_takeSizeFrom sh rf)
  | _ => none
set_option maxRecDepth 20000 in
theorem ce_X0_addSigned : m_CE RX0 2 81 cX0_addSigned 3 ct_X0_addSigned := by
  intro p l e s m args below meth c Q D cs ad sh rf N hx hb hml hown hts hK hi hN k n vf pt h
  unfold ct_X0_addSigned at h
  split at h
  · cases h
    exact m_CG_V mt_X0_setBig hx hb hml hown hts hK hi hN (ci := 0) m_pv_rec rfl rfl (m_wck_ok (l := [(Cond.methodLink RX0 66 yX0_setBig, 351), (Cond.instanceMethod yX0_setBig, 352), (Cond.selects RX0 yX0_setBig yX0_setBig, 353), (Cond.initialized RX0, 58), (Cond.code yX0_setBig cX0_setBig 2 none, 354)]) (by decide +kernel)) ⟨rfl, by decide +kernel, by decide +kernel, by decide +kernel⟩ ⟨Nat.le_of_ble_eq_true rfl, Nat.le_of_ble_eq_true rfl⟩
  · cases h
    exact m_CG_V mt_X0_addSize hx hb hml hown hts hK hi hN (ci := 0) m_pv_rec rfl rfl (m_wck_ok (l := [(Cond.methodLink RX0 70 yX0_addSize, 356), (Cond.instanceMethod yX0_addSize, 358), (Cond.selects RX0 yX0_addSize yX0_addSize, 3), (Cond.initialized RX0, 58), (Cond.code yX0_addSize cX0_addSize 6 none, 359)]) (by decide +kernel)) ⟨rfl, by decide +kernel, by decide +kernel, by decide +kernel⟩ ⟨Nat.le_of_ble_eq_true rfl, Nat.le_of_ble_eq_true rfl⟩
  · cases h
    exact m_CG_V mt_X0_compareSize hx hb hml hown hts hK hi hN (ci := 0) m_pv_rec rfl rfl (m_wck_ok (l := [(Cond.methodLink RX0 73 yX0_compareSize, 360), (Cond.instanceMethod yX0_compareSize, 361), (Cond.selects RX0 yX0_compareSize yX0_compareSize, 362), (Cond.initialized RX0, 58), (Cond.code yX0_compareSize cX0_compareSize 3 (some .int), 363)]) (by decide +kernel)) ⟨rfl, by decide +kernel, by decide +kernel, by decide +kernel⟩ ⟨Nat.le_of_ble_eq_true rfl, Nat.le_of_ble_eq_true rfl⟩
  · cases h
    exact m_CG_V mt_X0_takeSize hx hb hml hown hts hK hi hN (ci := 0) m_pv_rec rfl rfl (m_wck_ok (l := [(Cond.methodLink RX0 77 yX0_takeSize, 367), (Cond.instanceMethod yX0_takeSize, 368), (Cond.selects RX0 yX0_takeSize yX0_takeSize, 369), (Cond.initialized RX0, 58), (Cond.code yX0_takeSize cX0_takeSize 5 none, 370)]) (by decide +kernel)) ⟨rfl, by decide +kernel, by decide +kernel, by decide +kernel⟩ ⟨Nat.le_of_ble_eq_true rfl, Nat.le_of_ble_eq_true rfl⟩
  · cases h
    exact m_CG_V mt_X0_takeSizeFrom hx hb hml hown hts hK hi hN (ci := 0) m_pv_rec rfl rfl (m_wck_ok (l := [(Cond.methodLink RX0 80 yX0_takeSizeFrom, 371), (Cond.instanceMethod yX0_takeSizeFrom, 373), (Cond.selects RX0 yX0_takeSizeFrom yX0_takeSizeFrom, 4), (Cond.initialized RX0, 58), (Cond.code yX0_takeSizeFrom cX0_takeSizeFrom 5 none, 374)]) (by decide +kernel)) ⟨rfl, by decide +kernel, by decide +kernel, by decide +kernel⟩ ⟨Nat.le_of_ble_eq_true rfl, Nat.le_of_ble_eq_true rfl⟩
  · cases h
set_option maxHeartbeats 4000000 in
set_option maxRecDepth 100000 in
theorem mt_X0_addSigned : m_Mt yX0_addSigned cX0_addSigned 3 none 2 81 pt_addSigned := by
  refine m_method0 80 (fl := fl_X0) (kI := kI_X0) (kJ := kJ_X0) (ct := ct_X0_addSigned) (cd := cd_X0_addSigned) (rk := 0) (by decide +kernel) fl_X0_ok kI_X0_ok kJ_X0_ok ce_X0_addSigned rfl ck_X0_addSigned ⟨_, _, rfl, rfl⟩ ?_
  intro sh rf As I J K hpt
  obtain ⟨b, rest, rfl, hb, cap, f, m, z, y, s, rfl, hs, hB, hL, hfb, hz, hy, hm1, hm2, hmc, hK⟩ := hpt
  obtain ⟨cap2, hF⟩ := hy.sh
  refine ⟨Nat.le_of_ble_eq_true rfl, hF.1, fun h => ?_, fun h => ?_⟩
  · have hy0 : y ≠ 0 := fun q => h (hy.nil.mpr q)
    refine ⟨hb, fun h7 => ?_, fun h7 => ?_⟩
    · have hz0 : z ≠ 0 := fun q => h7 (hz.nil.mpr q)
      have hzf := hz.neg
      refine ⟨hb, fun h8 => ?_, fun h8 => ?_⟩
      · have h8 : ¬ I b 2 = s := h8
        rw [hzf] at h8
        refine ⟨b, [.inr (.inr f)], rfl, hb, f, z, y, rfl, hz, hy, fun h9 => ?_, fun h9 => ?_⟩
        · have hlt : z.natAbs < y.natAbs := by
            have h9 : cmpN z.natAbs y.natAbs < 0 := h9
            unfold cmpN at h9
            rcases Nat.lt_or_ge z.natAbs y.natAbs with q | q
            · exact q
            · rw [if_neg (by omega)] at h9
              split at h9 <;> exact absurd h9 (by decide)
          refine ⟨b, [.inr (.inr f)], rfl, hb, cap, f, z, y, rfl, hB, hL, hfb, hz, hy, by omega, Nat.lt_of_lt_of_le hm2 (Nat.pow_le_pow_right (by decide) (by omega)), fun I1 k1 k2 => ⟨hb, hs, ?_⟩⟩
          have k3 := k2.flag (s := s) (by split <;> omega) hs
          refine hK _ (fun a h1 h2 => by rw [uI_a _ _ _ h1, k1 a h1 h2]) ?_
          have e : z + (if s = 1 then -(y.natAbs : Int) else (y.natAbs : Int)) = (if s = 1 then -((if z < 0 then -((y.natAbs - z.natAbs : Nat) : Int) else ((y.natAbs - z.natAbs : Nat) : Int)).natAbs : Int) else ((if z < 0 then -((y.natAbs - z.natAbs : Nat) : Int) else ((y.natAbs - z.natAbs : Nat) : Int)).natAbs : Int)) := by
            rcases hs with rfl | rfl
            · rw [if_neg (by decide), if_neg (by decide)]
              by_cases q : z < 0
              · rw [if_pos q]; omega
              · rw [if_neg q] at h8; exact absurd rfl h8
            · rw [if_pos rfl, if_pos rfl]
              by_cases q : z < 0
              · rw [if_pos q] at h8; exact absurd rfl h8
              · rw [if_neg q]; omega
          rw [e]
          exact k3
        · have hge : y.natAbs ≤ z.natAbs := by
            have h9 : ¬ cmpN z.natAbs y.natAbs < 0 := h9
            unfold cmpN at h9
            rcases Nat.lt_or_ge z.natAbs y.natAbs with q | q
            · rw [if_pos q] at h9; exact absurd (by decide) h9
            · exact q
          refine ⟨b, [.inr (.inr f)], rfl, hb, f, z, y, rfl, hL, hfb, hz, hy, hge, fun I1 k1 k2 => hK I1 k1 ?_⟩
          have e : z + (if s = 1 then -(y.natAbs : Int) else (y.natAbs : Int)) = (if z < 0 then -((z.natAbs - y.natAbs : Nat) : Int) else ((z.natAbs - y.natAbs : Nat) : Int)) := by
            rcases hs with rfl | rfl
            · rw [if_neg (by decide)]
              by_cases q : z < 0
              · rw [if_pos q]; omega
              · rw [if_neg q] at h8; exact absurd rfl h8
            · rw [if_pos rfl]
              by_cases q : z < 0
              · rw [if_pos q] at h8; exact absurd rfl h8
              · rw [if_neg q]; omega
          rw [e]
          exact k2
      · have h8 : I b 2 = s := h8
        rw [hzf] at h8
        refine ⟨b, [.inr (.inr f)], rfl, hb, cap, f, m, z, y, rfl, hB, hL, hfb, hz, hy, hm1, hm2, hmc, fun I1 k1 k2 => hK I1 k1 ?_⟩
        have e : z + (if s = 1 then -(y.natAbs : Int) else (y.natAbs : Int)) = (if z < 0 then -((z.natAbs + y.natAbs : Nat) : Int) else ((z.natAbs + y.natAbs : Nat) : Int)) := by
          by_cases q : z < 0
          · rw [if_pos q] at h8
            rw [if_pos h8.symm, if_pos q]
            omega
          · rw [if_neg q] at h8
            rw [if_neg (by rw [← h8]; decide), if_neg q]
            omega
        rw [e]
        exact k2
    · have hz0 : z = 0 := hz.nil.mp h7
      refine ⟨b, [.inr (.inr f)], rfl, hb, cap, f, y, rfl, hB, hL, hfb, hy, Nat.lt_of_lt_of_le hm2 (Nat.pow_le_pow_right (by decide) (by omega)), fun I1 k1 k2 => ⟨hb, hs, ?_⟩⟩
      refine hK _ (fun a h1 h2 => by rw [uI_a _ _ _ h1, k1 a h1 h2]) ?_
      rw [hz0, Int.zero_add]
      exact k2.flag hy0 hs
  · have hy0 : y = 0 := hy.nil.mp h
    refine hK I (BCh.rfl' rf I b) ?_
    rw [hy0]
    have e : z + (if s = 1 then -((0 : Int).natAbs : Int) else ((0 : Int).natAbs : Int)) = z := by
      split <;> simp
    rw [e]
    exact hz

def ct_X0_take (sh : mSH) (rf : mRF) : Nat → Option (Nat × Bool × mPT) := fun k => match k with
  | 58 => some (3, true, pt_addSigned sh rf)
  | _ => none
set_option maxRecDepth 20000 in
theorem ce_X0_take : m_CE RX0 3 103 cX0_take 2 ct_X0_take := by
  intro p l e s m args below meth c Q D cs ad sh rf N hx hb hml hown hts hK hi hN k n vf pt h
  unfold ct_X0_take at h
  split at h
  · cases h
    exact m_CG_V mt_X0_addSigned hx hb hml hown hts hK hi hN (ci := 0) m_pv_rec rfl rfl (m_wck_ok (l := [(Cond.methodLink RX0 58 yX0_addSigned, 347), (Cond.instanceMethod yX0_addSigned, 348), (Cond.selects RX0 yX0_addSigned yX0_addSigned, 349), (Cond.initialized RX0, 58), (Cond.code yX0_addSigned cX0_addSigned 3 none, 350)]) (by decide +kernel)) ⟨rfl, by decide +kernel, by decide +kernel, by decide +kernel⟩ ⟨Nat.le_of_ble_eq_true rfl, Nat.le_of_ble_eq_true rfl⟩
  · cases h
set_option maxHeartbeats 4000000 in
set_option maxRecDepth 100000 in
theorem mt_X0_take : m_Mt yX0_take cX0_take 2 none 3 103 pt_take := by
  refine m_method0 80 (fl := fl_X0) (kI := kI_X0) (kJ := kJ_X0) (ct := ct_X0_take) (cd := cd_X0_take) (rk := 0) (by decide +kernel) fl_X0_ok kI_X0_ok kJ_X0_ok ce_X0_take rfl ck_X0_take ⟨_, _, rfl, rfl⟩ ?_
  intro sh rf As I J K hpt
  obtain ⟨b, rest, rfl, hb, cap, f, m, z, y, rfl, hB, hL, hfb, hz, hy, hm1, hm2, hmc, hK⟩ := hpt
  obtain ⟨cap2, hF⟩ := hy.sh
  have hyf := hy.neg
  refine ⟨Nat.le_of_ble_eq_true rfl, hF.1, fun h => ?_, fun h => ?_⟩
  · have h : ¬ I f 2 = 0 := h
    rw [hyf] at h
    have hn : y < 0 := by
      rcases Int.lt_or_le y 0 with q | q
      · exact q
      · rw [if_neg (by omega)] at h; exact absurd rfl h
    refine ⟨b, [.inr (.inr f), .inl 0], rfl, hb, cap, f, m, z, y, 0, rfl, Or.inl rfl, hB, hL, hfb, hz, hy, hm1, hm2, hmc, fun I1 k1 k2 => hK I1 k1 ?_⟩
    rw [if_neg (by decide)] at k2
    rw [show z - y = z + (y.natAbs : Int) by omega]
    exact k2
  · have h : I f 2 = 0 := h
    rw [hyf] at h
    have hn : ¬ y < 0 := fun q => by rw [if_pos q] at h; exact absurd h (by decide)
    refine ⟨b, [.inr (.inr f), .inl 1], rfl, hb, cap, f, m, z, y, 1, rfl, Or.inr rfl, hB, hL, hfb, hz, hy, hm1, hm2, hmc, fun I1 k1 k2 => hK I1 k1 ?_⟩
    rw [if_pos rfl] at k2
    rw [show z - y = z + -(y.natAbs : Int) by omega]
    exact k2

theorem dv_upd {B : Nat} {g g' : Nat → Nat} {k v : Nat} (h1 : g' k = v) (h2 : ∀ i, i ≠ k → g' i = g i) : ∀ {N : Nat}, k < N → dv B g' N + g k * B ^ k = dv B g N + v * B ^ k
  | 0, h => absurd h (Nat.not_lt_zero k)
  | N + 1, h => by
    rw [dv, dv]
    rcases Nat.lt_or_ge k N with q | q
    · have := dv_upd (B := B) h1 h2 q
      rw [h2 N (by omega)]
      omega
    · obtain rfl : N = k := by omega
      rw [h1, dv_congr (fun i hi => h2 i (by omega))]
      omega
theorem mul_step {B P Q c x y g T T' A D : Nat} (h : T + c * (P * Q) = A + x * P * D) (hu : T' + g * (P * Q) = T + (c + (x * y + g)) % B * (P * Q)) : T' + (c + (x * y + g)) / B * (P * Q * B) = A + x * P * (D + y * Q) := by
  have e := Nat.div_add_mod (c + (x * y + g)) B
  generalize (c + (x * y + g)) / B = q at e ⊢
  generalize (c + (x * y + g)) % B = r at e hu
  have e2 : (B * q + r) * (P * Q) = (c + (x * y + g)) * (P * Q) := by rw [e]
  grind
def ct_X0_setProduct (sh : mSH) (rf : mRF) : Nat → Option (Nat × Bool × mPT) := fun k => match k with
  | 30 => some (2, true, pt_makeRoom sh rf)
  | 83 => some (4, false, pt_fillR sh rf)
  | 27 => some (1, true, pt_trim sh rf)
  | _ => none
set_option maxRecDepth 20000 in
theorem ce_X0_setProduct : m_CE RX0 2 46 cX0_setProduct 10 ct_X0_setProduct := by
  intro p l e s m args below meth c Q D cs ad sh rf N hx hb hml hown hts hK hi hN k n vf pt h
  unfold ct_X0_setProduct at h
  split at h
  · cases h
    exact m_CG_V mt_X0_makeRoom hx hb hml hown hts hK hi hN (ci := 0) m_pv_rec rfl rfl (m_wck_ok (l := [(Cond.methodLink RX0 30 yX0_makeRoom, 320), (Cond.instanceMethod yX0_makeRoom, 322), (Cond.selects RX0 yX0_makeRoom yX0_makeRoom, 2), (Cond.initialized RX0, 58), (Cond.code yX0_makeRoom cX0_makeRoom 2 none, 323)]) (by decide +kernel)) ⟨rfl, by decide +kernel, by decide +kernel, by decide +kernel⟩ ⟨Nat.le_of_ble_eq_true rfl, Nat.le_of_ble_eq_true rfl⟩
  · cases h
    exact m_CG_S mt_J7_fill_fda19 hx hb hml hown hts hK hi hN (m_wck_ok (l := [(Cond.methodLink RX0 83 yJ7_fill_fda19, 340), (Cond.static yJ7_fill_fda19, 341), (Cond.initialized RJ7, 63), (Cond.code yJ7_fill_fda19 cJ7_fill_fda19 5 none, 342)]) (by decide +kernel)) ⟨by decide +kernel, by decide +kernel, by decide +kernel⟩ ⟨Nat.le_of_ble_eq_true rfl, Nat.le_of_ble_eq_true rfl⟩
  · cases h
    exact m_CG_V mt_X0_trim hx hb hml hown hts hK hi hN (ci := 0) m_pv_rec rfl rfl (m_wck_ok (l := [(Cond.methodLink RX0 27 yX0_trim, 179), (Cond.instanceMethod yX0_trim, 181), (Cond.selects RX0 yX0_trim yX0_trim, 0), (Cond.initialized RX0, 58), (Cond.code yX0_trim cX0_trim 1 none, 182)]) (by decide +kernel)) ⟨rfl, by decide +kernel, by decide +kernel, by decide +kernel⟩ ⟨Nat.le_of_ble_eq_true rfl, Nat.le_of_ble_eq_true rfl⟩
  · cases h
set_option maxHeartbeats 4000000 in
set_option maxRecDepth 100000 in
theorem mt_X0_setProduct : m_Mt yX0_setProduct cX0_setProduct 10 none 2 46 pt_setProduct := by
  refine m_methodG (fl := fl_X0) (kI := kI_X0) (kJ := kJ_X0) (ct := ct_X0_setProduct) (cd := cd_X0_setProduct) (cut := [(28, [0, 1, 2, 3, 4]), (57, [0, 1, 2, 3, 4, 5, 7, 9])]) (rk := 0) (fu := 100) (by decide +kernel) fl_X0_ok kI_X0_ok kJ_X0_ok ce_X0_setProduct rfl ck_X0_setProduct ⟨_, _, rfl, rfl⟩ ?_
  intro sh rf As I J K hpt
  obtain ⟨b, rest, rfl, hb, cap, f, g, m1, m2, x, y, rfl, hB, hL, hfb, hgb, ⟨cap1, n1, hF, f1, f2, f4, f5, f6⟩, ⟨cap2, n2, hG, g1, g2, g4, g5, g6⟩, hm1, hm2, hmc, hK⟩ := hpt
  have hcap := hB.2.2
  have hcap1 := hF.2.2
  have hcap2 := hG.2.2
  have hne := hB.ne
  have hfp : rf f 0 ≠ rf b 0 := fun e => hfb (hL f b hF.1 hB.1 e)
  have hgp : rf g 0 ≠ rf b 0 := fun e => hgb (hL g b hG.1 hB.1 e)
  have hf0 : f ≠ rf b 0 := hF.nex hB
  have hg0 : g ≠ rf b 0 := hG.nex hB
  have w1 := BIs.lim (sh := sh) (cap := 0) f4 f6 hm1
  have w2 := BIs.lim (sh := sh) (cap := 0) g4 g6 hm2
  obtain ⟨wh, hwh⟩ : ∃ wh, wh = n1 + n2 := ⟨_, rfl⟩
  refine ⟨Nat.le_of_ble_eq_true rfl, fun a b9 pc vs st I1 J1 => ∃ i, st = [] ∧ J1 = J ∧ a = n1 - i ∧ i ≤ n1 ∧ (∀ q, q ≠ rf b 0 → I1 q = I q) ∧ ((pc = 28 ∧ b9 = n2 + 1 ∧ vs = [.inr (.inr b), .inr (.inr f), .inr (.inr g), .inl (nI wh), .inl (nI i)] ∧ (∀ k, i + n2 ≤ k → k < wh → I1 (rf b 0) k = 0) ∧ dv (2 ^ 32) (bdg rf I1 b) wh = dv (2 ^ 32) (bdg rf I f) i * y.natAbs) ∨ (pc = 57 ∧ i < n1 ∧ ∃ j c, b9 = n2 - j ∧ j ≤ n2 ∧ c < 2 ^ 32 ∧ vs = [.inr (.inr b), .inr (.inr f), .inr (.inr g), .inl (nI wh), .inl (nI i), .inr (.inl (lN (bdg rf I f i))), .inr (.inl (lN c)), .inl (nI j)] ∧ (∀ k, i + n2 ≤ k → k < wh → I1 (rf b 0) k = 0) ∧ dv (2 ^ 32) (bdg rf I1 b) wh + c * ((2 ^ 32) ^ i * (2 ^ 32) ^ j) = dv (2 ^ 32) (bdg rf I f) i * y.natAbs + bdg rf I f i * (2 ^ 32) ^ i * dv (2 ^ 32) (bdg rf I g) j)), ?_, ?_⟩
  · have e0 : I f 1 + I g 1 = nI wh := by rw [f1, g1, nI_add, hwh]
    refine ⟨hF.1, hG.1, b, [.inl (I f 1 + I g 1)], rfl, hb, cap, wh, by rw [e0], hB, by omega, hb, rf b 0, 0, wh, 0, cap, ?_, hB.2.1, Nat.zero_le _, by omega, by omega, fun I1 k1 k2 k3 => ?_⟩
    · show [_, _, Sum.inl (I f 1 + I g 1), _] = _
      rw [e0]
      rfl
    · refine ⟨n1, n2 + 1, 0, rfl, rfl, by omega, Nat.zero_le _, k1, Or.inl ⟨rfl, rfl, ?_, fun k _ hk => k2 k (Nat.zero_le _) hk, ?_⟩⟩
      · rw [← e0]
        rfl
      · rw [dv_ext (n := 0) (Nat.zero_le _) (fun k _ hk => by unfold bdg; rw [k2 k (Nat.zero_le _) hk]; rfl)]
        simp [dv]
  · intro pc ks a b9 vs st I1 J1 hc hI
    obtain ⟨i, rfl, rfl, rfl, hi, e1, e5⟩ := hI
    have hIb : I1 b = I b := e1 b hne
    have hIf : I1 f = I f := e1 f hf0
    have hIg : I1 g = I g := e1 g hg0
    rcases m_cu1 hc with ⟨rfl, rfl⟩ | hc
    · obtain ⟨rfl, rfl, e2, e3⟩ : b9 = n2 + 1 ∧ vs = [.inr (.inr b), .inr (.inr f), .inr (.inr g), .inl (nI wh), .inl (nI i)] ∧ (∀ k, i + n2 ≤ k → k < wh → I1 (rf b 0) k = 0) ∧ dv (2 ^ 32) (bdg rf I1 b) wh = dv (2 ^ 32) (bdg rf I f) i * y.natAbs := by
        rcases e5 with ⟨-, q1⟩ | ⟨q, -⟩
        · exact q1
        · cases q
      refine ⟨hF.1, fun h => ?_, fun h => ?_⟩
      · have h : I1 f 1 ≤ nI i := h
        rw [hIf, f1] at h
        have hge := (nI_leI (by omega) (by omega)).mp h
        obtain rfl : i = n1 := by omega
        rw [f6] at e3
        have fin : ∀ s : Int32, (x * y < 0 → s = 1) → (0 < x * y → s = 0) → pt_trim sh rf [.inr (.inr b)] (m_uI (m_uI I1 b 1 (nI wh)) b 2 s) J1 K := by
          intro s s1 s2
          refine ⟨b, [], rfl, hb, cap, wh, x * y, rfl, hB, ?_, by omega, ?_, ?_, ?_, ?_⟩
          · rw [uI_k _ _ _ (by decide), uI_s]
          · rw [dv_congr (h := bdg rf I1 b) (fun k hk => by unfold bdg; rw [uI_a _ _ _ hne.symm, uI_a _ _ _ hne.symm]), e3, Int.natAbs_mul]
          · intro q; rw [uI_s]; exact s1 q
          · intro q; rw [uI_s]; exact s2 q
          · intro I2 k1 k2
            refine hK I2 (fun q k3 k4 => ?_) k2
            rw [k1 q k3, uI_a _ _ _ k3, uI_a _ _ _ k3, e1 q k4]
        refine ⟨hb, hF.1, hG.1, fun h7 => ?_, fun h7 => ?_⟩
        · have h7 : m_uI I1 b 1 (nI wh) f 2 = m_uI I1 b 1 (nI wh) g 2 := h7
          rw [uI_a _ _ _ hfb, uI_a _ _ _ hgb, hIf, hIg, f5, g5] at h7
          refine ⟨hb, Or.inl rfl, fin 0 (fun q => ?_) (fun _ => rfl)⟩
          exfalso
          by_cases q1 : x < 0 <;> by_cases q2 : y < 0
          · exact absurd (Int.mul_pos_of_neg_of_neg q1 q2) (by omega)
          · rw [if_pos q1, if_neg q2] at h7; exact absurd h7 (by decide)
          · rw [if_neg q1, if_pos q2] at h7; exact absurd h7 (by decide)
          · exact absurd (Int.mul_nonneg (show 0 ≤ x by omega) (show 0 ≤ y by omega)) (by omega)
        · have h7 : ¬ m_uI I1 b 1 (nI wh) f 2 = m_uI I1 b 1 (nI wh) g 2 := h7
          rw [uI_a _ _ _ hfb, uI_a _ _ _ hgb, hIf, hIg, f5, g5] at h7
          refine ⟨hb, Or.inr rfl, fin 1 (fun _ => rfl) (fun q => ?_)⟩
          exfalso
          by_cases q1 : x < 0 <;> by_cases q2 : y < 0
          · rw [if_pos q1, if_pos q2] at h7; exact absurd rfl h7
          · have := Int.mul_nonpos_of_nonpos_of_nonneg (show x ≤ 0 by omega) (show 0 ≤ y by omega); omega
          · have := Int.mul_nonpos_of_nonneg_of_nonpos (show 0 ≤ x by omega) (show y ≤ 0 by omega); omega
          · rw [if_neg q1, if_neg q2] at h7; exact absurd rfl h7
      · have h : ¬ I1 f 1 ≤ nI i := h
        rw [hIf, f1] at h
        have hlt : i < n1 := by
          rcases Nat.lt_or_ge i n1 with q | q
          · exact q
          · exact absurd (nI_le q (by omega)) h
        refine ⟨hF.1, m_inb_i hF.2.1 (vp_in_nI (by omega) (by omega)), n1 - i, n2, Or.inr ⟨rfl, by omega⟩, i, rfl, rfl, rfl, hi, e1, Or.inr ⟨rfl, hlt, 0, 0, by omega, Nat.zero_le _, by decide, ?_, e2, ?_⟩⟩
        · rw [nI_clamp (by omega), l_mask, e1 _ hfp]
          rfl
        · rw [e3]
          simp [dv]
    rcases m_cu1 hc with ⟨rfl, rfl⟩ | hc
    · obtain ⟨hlt, j, c, rfl, hj, hc32, rfl, e2, e3⟩ : i < n1 ∧ ∃ j c, b9 = n2 - j ∧ j ≤ n2 ∧ c < 2 ^ 32 ∧ vs = [.inr (.inr b), .inr (.inr f), .inr (.inr g), .inl (nI wh), .inl (nI i), .inr (.inl (lN (bdg rf I f i))), .inr (.inl (lN c)), .inl (nI j)] ∧ (∀ k, i + n2 ≤ k → k < wh → I1 (rf b 0) k = 0) ∧ dv (2 ^ 32) (bdg rf I1 b) wh + c * ((2 ^ 32) ^ i * (2 ^ 32) ^ j) = dv (2 ^ 32) (bdg rf I f) i * y.natAbs + bdg rf I f i * (2 ^ 32) ^ i * dv (2 ^ 32) (bdg rf I g) j := by
        rcases e5 with ⟨q, -⟩ | ⟨-, q1⟩
        · cases q
        · exact q1
      refine ⟨hG.1, fun h => ?_, fun h => ?_⟩
      · have h : I1 g 1 ≤ nI j := h
        rw [hIg, g1] at h
        have hge := (nI_leI (by omega) (by omega)).mp h
        obtain rfl : j = n2 := by omega
        have e6 : nI i + I1 g 1 = nI (i + j) := by rw [hIg, g1, nI_add]
        refine ⟨hb, hG.1, ?_, n1 - (i + 1), j + 1, Or.inl (by omega), i + 1, rfl, rfl, rfl, by omega, ?_, Or.inl ⟨rfl, rfl, ?_, ?_, ?_⟩⟩
        · show m_inb sh (rf b 0) 0 (nI i + I1 g 1)
          rw [e6]
          exact m_inb_i hB.2.1 (vp_in_nI (by omega) (by omega))
        · intro q hq
          rw [uI_a _ _ _ hq, e1 q hq]
        · rw [← nI_1]
        · intro k k1 k2
          show m_uI I1 (rf b 0) (nI i + I1 g 1).toNatClampNeg _ (rf b 0) k = 0
          rw [e6, nI_clamp (by omega), uI_k _ _ _ (by omega)]
          exact e2 k (by omega) k2
        · show dv (2 ^ 32) (bdg rf (m_uI I1 (rf b 0) (nI i + I1 g 1).toNatClampNeg (lN c).toInt32) b) wh = _
          rw [e6, nI_clamp (by omega), lN_i]
          have hu := dv_upd (B := 2 ^ 32) (g := bdg rf I1 b) (g' := bdg rf (m_uI I1 (rf b 0) (i + j) (nI c)) b) (k := i + j) (v := c) (by unfold bdg; rw [uI_s, u32_nI, Nat.mod_eq_of_lt hc32]) (fun q hq => by unfold bdg; rw [uI_k _ _ _ hq]) (N := wh) (by omega)
          have h0 : bdg rf I1 b (i + j) = 0 := by unfold bdg; rw [e2 (i + j) (Nat.le_refl _) (by omega)]; rfl
          rw [h0, Nat.zero_mul, Nat.add_zero] at hu
          rw [hu, dv, Nat.pow_add, e3, g6]
          grind
      · have h : ¬ I1 g 1 ≤ nI j := h
        rw [hIg, g1] at h
        have hjl : j < n2 := by
          rcases Nat.lt_or_ge j n2 with q | q
          · exact q
          · exact absurd (nI_le q (by omega)) h
        have e6 : nI i + nI j = nI (i + j) := nI_add i j
        have i1 : m_inb sh (rf b 0) 0 (nI i + nI j) := by
          rw [e6]
          exact m_inb_i hB.2.1 (vp_in_nI (by omega) (by omega))
        have d1 := bdg_lt rf I f i
        have d2 := bdg_lt rf I g j
        have d3 := bdg_lt rf I1 b (i + j)
        have hpr : bdg rf I f i * bdg rf I g j ≤ (2 ^ 32 - 1) * (2 ^ 32 - 1) := Nat.mul_le_mul (by omega) (by omega)
        have es : lN c + (lN (bdg rf I f i) * ((I1 (rf g 0) (nI j).toNatClampNeg).toInt64 &&& 4294967295) + ((I1 (rf b 0) (nI i + nI j).toNatClampNeg).toInt64 &&& 4294967295)) = lN (c + (bdg rf I f i * bdg rf I g j + bdg rf I1 b (i + j))) := by
          rw [e6, nI_clamp (by omega), nI_clamp (by omega), l_mask, l_mask, e1 _ hgp, lN_mul, lN_add, lN_add]
          rfl
        refine ⟨hG.1, m_inb_i hG.2.1 (vp_in_nI (by omega) (by omega)), hb, i1, hb, i1, n1 - i, n2 - (j + 1), Or.inr ⟨rfl, by omega⟩, i, rfl, rfl, rfl, hi, ?_, Or.inr ⟨rfl, hlt, j + 1, (c + (bdg rf I f i * bdg rf I g j + bdg rf I1 b (i + j))) / 2 ^ 32, rfl, by omega, by omega, ?_, ?_, ?_⟩⟩
        · intro q hq
          rw [uI_a _ _ _ hq, e1 q hq]
        · rw [es, l_shr32 (by omega), ← nI_1]
        · intro k k1 k2
          rw [e6, nI_clamp (by omega), uI_k _ _ _ (by omega)]
          exact e2 k k1 k2
        · rw [es, lN_i, e6, nI_clamp (by omega)]
          have hu := dv_upd (B := 2 ^ 32) (g := bdg rf I1 b) (g' := bdg rf (m_uI I1 (rf b 0) (i + j) (nI (c + (bdg rf I f i * bdg rf I g j + bdg rf I1 b (i + j))))) b) (k := i + j) (v := (c + (bdg rf I f i * bdg rf I g j + bdg rf I1 b (i + j))) % 2 ^ 32) (by unfold bdg; rw [uI_s, u32_nI]) (fun q hq => by unfold bdg; rw [uI_k _ _ _ hq]) (N := wh) (by omega)
          rw [Nat.pow_add] at hu
          rw [dv, show (2 ^ 32) ^ (j + 1) = (2 ^ 32) ^ j * 2 ^ 32 from Nat.pow_succ _ _, ← Nat.mul_assoc ((2 ^ 32) ^ i) ((2 ^ 32) ^ j) (2 ^ 32)]
          exact mul_step e3 hu
    · cases hc

def ct_X0_addProduct (sh : mSH) (rf : mRF) : Nat → Option (Nat × Bool × mPT) := fun k => match k with
  | 62 => some (3, true, pt_setProduct sh rf)
  | 58 => some (3, true, pt_addSigned sh rf)
  | _ => none
set_option maxRecDepth 20000 in
theorem ce_X0_addProduct : m_CE RX0 3 103 cX0_addProduct 4 ct_X0_addProduct := by
  intro p l e s m args below meth c Q D cs ad sh rf N hx hb hml hown hts hK hi hN k n vf pt h
  unfold ct_X0_addProduct at h
  split at h
  · cases h
    exact m_CG_V mt_X0_setProduct hx hb hml hown hts hK hi hN (ci := 0) m_pv_rec rfl rfl (m_wck_ok (l := [(Cond.methodLink RX0 62 yX0_setProduct, 316), (Cond.instanceMethod yX0_setProduct, 317), (Cond.selects RX0 yX0_setProduct yX0_setProduct, 318), (Cond.initialized RX0, 58), (Cond.code yX0_setProduct cX0_setProduct 10 none, 319)]) (by decide +kernel)) ⟨rfl, by decide +kernel, by decide +kernel, by decide +kernel⟩ ⟨Nat.le_of_ble_eq_true rfl, Nat.le_of_ble_eq_true rfl⟩
  · cases h
    exact m_CG_V mt_X0_addSigned hx hb hml hown hts hK hi hN (ci := 0) m_pv_rec rfl rfl (m_wck_ok (l := [(Cond.methodLink RX0 58 yX0_addSigned, 347), (Cond.instanceMethod yX0_addSigned, 348), (Cond.selects RX0 yX0_addSigned yX0_addSigned, 349), (Cond.initialized RX0, 58), (Cond.code yX0_addSigned cX0_addSigned 3 none, 350)]) (by decide +kernel)) ⟨rfl, by decide +kernel, by decide +kernel, by decide +kernel⟩ ⟨Nat.le_of_ble_eq_true rfl, Nat.le_of_ble_eq_true rfl⟩
  · cases h
set_option maxHeartbeats 4000000 in
set_option maxRecDepth 100000 in
theorem mt_X0_addProduct : m_Mt yX0_addProduct cX0_addProduct 4 none 3 103 pt_addProduct := by
  refine m_method0 80 (fl := fl_X0) (kI := kI_X0) (kJ := kJ_X0) (ct := ct_X0_addProduct) (cd := cd_X0_addProduct) (rk := 0) (by decide +kernel) fl_X0_ok kI_X0_ok kJ_X0_ok ce_X0_addProduct rfl ck_X0_addProduct ⟨_, _, rfl, rfl⟩ ?_
  intro sh rf As I J K hpt
  obtain ⟨b, rest, rfl, hb, cap, f, g, s, caps, m1, m2, m, z, x, y, rfl, hB, hS, hL, hfs, hgs, hbs, hz, hx, hy, hm1, hm2, hmc, hm3, hm4, hmc2, hK⟩ := hpt
  refine ⟨Nat.le_of_ble_eq_true rfl, s, [.inr (.inr f), .inr (.inr g)], rfl, hS.1, caps, f, g, m1, m2, x, y, rfl, hS, hL, hfs, hgs, hx, hy, hm1, hm2, hmc, fun I1 k1 k2 => ?_⟩
  have hz1 := hz.other hL hS hbs k1
  have hf := k2.neg
  refine ⟨hS.1, b, [.inr (.inr s), .inl (I1 s 2)], rfl, hb, cap, s, m, z, x * y, I1 s 2, rfl, ?_, hB, hL, hbs.symm, hz1, k2, hm3, hm4, hmc2, fun I2 k3 k4 => ?_⟩
  · rw [hf]
    split
    · exact Or.inr rfl
    · exact Or.inl rfl
  · refine hK I2 (fun a a1 a2 a3 a4 => by rw [k3 a a1 a2, k1 a a3 a4]) ?_
    have e : (if I1 s 2 = 1 then -((x * y).natAbs : Int) else ((x * y).natAbs : Int)) = x * y := by
      rw [hf]
      by_cases q : x * y < 0
      · rw [if_pos q, if_pos rfl]; omega
      · rw [if_neg q, if_neg (by decide)]; omega
    rw [e] at k4
    exact k4

def ct_X0_times (sh : mSH) (rf : mRF) : Nat → Option (Nat × Bool × mPT) := fun k => match k with
  | 62 => some (3, true, pt_setProduct sh rf)
  | 66 => some (2, true, pt_setBig sh rf)
  | _ => none
set_option maxRecDepth 20000 in
theorem ce_X0_times : m_CE RX0 3 81 cX0_times 3 ct_X0_times := by
  intro p l e s m args below meth c Q D cs ad sh rf N hx hb hml hown hts hK hi hN k n vf pt h
  unfold ct_X0_times at h
  split at h
  · cases h
    exact m_CG_V mt_X0_setProduct hx hb hml hown hts hK hi hN (ci := 0) m_pv_rec rfl rfl (m_wck_ok (l := [(Cond.methodLink RX0 62 yX0_setProduct, 316), (Cond.instanceMethod yX0_setProduct, 317), (Cond.selects RX0 yX0_setProduct yX0_setProduct, 318), (Cond.initialized RX0, 58), (Cond.code yX0_setProduct cX0_setProduct 10 none, 319)]) (by decide +kernel)) ⟨rfl, by decide +kernel, by decide +kernel, by decide +kernel⟩ ⟨Nat.le_of_ble_eq_true rfl, Nat.le_of_ble_eq_true rfl⟩
  · cases h
    exact m_CG_V mt_X0_setBig hx hb hml hown hts hK hi hN (ci := 0) m_pv_rec rfl rfl (m_wck_ok (l := [(Cond.methodLink RX0 66 yX0_setBig, 351), (Cond.instanceMethod yX0_setBig, 352), (Cond.selects RX0 yX0_setBig yX0_setBig, 353), (Cond.initialized RX0, 58), (Cond.code yX0_setBig cX0_setBig 2 none, 354)]) (by decide +kernel)) ⟨rfl, by decide +kernel, by decide +kernel, by decide +kernel⟩ ⟨Nat.le_of_ble_eq_true rfl, Nat.le_of_ble_eq_true rfl⟩
  · cases h
set_option maxHeartbeats 4000000 in
set_option maxRecDepth 100000 in
theorem mt_X0_times : m_Mt yX0_times cX0_times 3 none 3 81 pt_times := by
  refine m_method0 80 (fl := fl_X0) (kI := kI_X0) (kJ := kJ_X0) (ct := ct_X0_times) (cd := cd_X0_times) (rk := 0) (by decide +kernel) fl_X0_ok kI_X0_ok kJ_X0_ok ce_X0_times rfl ck_X0_times ⟨_, _, rfl, rfl⟩ ?_
  intro sh rf As I J K hpt
  obtain ⟨b, rest, rfl, hb, cap, f, s, caps, m1, m2, x, y, rfl, hB, hS, hL, hfs, hbs, hx, hy, hm1, hm2, hmc, hm3, hK⟩ := hpt
  refine ⟨Nat.le_of_ble_eq_true rfl, s, [.inr (.inr b), .inr (.inr f)], rfl, hS.1, caps, b, f, m1, m2, x, y, rfl, hS, hL, hbs, hfs, hx, hy, hm1, hm2, hmc, fun I1 k1 k2 => ?_⟩
  exact ⟨b, [.inr (.inr s)], rfl, hb, cap, s, x * y, rfl, hB, hL, hbs.symm, k2, hm3, fun I2 k3 k4 => hK I2 (fun a a1 a2 a3 a4 => by rw [k3 a a1 a2, k1 a a3 a4]) k4⟩

theorem ti_step {B P c F g D X : Nat} (h : D + c * P = F * X) : (D + (c + F * g) % B * P) + (c + F * g) / B * (P * B) = F * (X + g * P) := by
  have e := Nat.div_add_mod (c + F * g) B
  generalize (c + F * g) / B = q at e ⊢
  generalize (c + F * g) % B = r at e ⊢
  have e2 : (B * q + r) * P = (c + F * g) * P := by rw [e]
  grind
theorem i_absl (f : Int32) : (if 0 < f.toInt64 then f.toInt64 else -f.toInt64) = lN f.toInt.natAbs := by
  have e : f.toInt64.toInt = f.toInt := Int32.toInt_toInt64 f
  by_cases h : 0 < f.toInt64
  · rw [if_pos h]
    have h1 : (0 : Int) < f.toInt64.toInt := by simpa using Int64.lt_iff_toInt_lt.mp h
    have := l_of_nonneg (v := f.toInt64) (by omega)
    rw [e] at this
    exact this
  · rw [if_neg h]
    have h1 : ¬ (0 : Int) < f.toInt64.toInt := fun q => h (by rw [Int64.lt_iff_toInt_lt]; simpa using q)
    rcases Int.lt_or_eq_of_le (Int.not_lt.mp h1) with q | q
    · have := l_neg_abs (v := f.toInt64) q
      rw [e] at this
      exact this
    · have e0 : f.toInt64 = 0 := Int64.toInt_inj.mp (by rw [q]; rfl)
      rw [e0, ← e, q]
      rfl
def ct_X0_timesInt (sh : mSH) (rf : mRF) : Nat → Option (Nat × Bool × mPT) := fun k => match k with
  | 89 => some (1, false, pt_absJ sh rf)
  | 30 => some (2, true, pt_makeRoom sh rf)
  | 27 => some (1, true, pt_trim sh rf)
  | _ => none
set_option maxRecDepth 20000 in
theorem ce_X0_timesInt : m_CE RX0 1 21 cX0_timesInt 7 ct_X0_timesInt := by
  intro p l e s m args below meth c Q D cs ad sh rf N hx hb hml hown hts hK hi hN k n vf pt h
  unfold ct_X0_timesInt at h
  split at h
  · cases h
    exact m_CG_absJ hx hb hml hown hts hK hi hN (m_wck_ok (l := [(Cond.methodLink RX0 89 Lib.MathLoose.abs_long.x, 505), (Cond.static Lib.MathLoose.abs_long.x, 506), (Cond.initialized "java/lang/Math", 59), (Cond.code Lib.MathLoose.abs_long.x Lib.MathLoose.abs_long.code 2 (some .long), 507)]) (by decide +kernel)) ⟨Nat.le_of_ble_eq_true rfl, Nat.le_of_ble_eq_true rfl⟩
  · cases h
    exact m_CG_V mt_X0_makeRoom hx hb hml hown hts hK hi hN (ci := 0) m_pv_rec rfl rfl (m_wck_ok (l := [(Cond.methodLink RX0 30 yX0_makeRoom, 320), (Cond.instanceMethod yX0_makeRoom, 322), (Cond.selects RX0 yX0_makeRoom yX0_makeRoom, 2), (Cond.initialized RX0, 58), (Cond.code yX0_makeRoom cX0_makeRoom 2 none, 323)]) (by decide +kernel)) ⟨rfl, by decide +kernel, by decide +kernel, by decide +kernel⟩ ⟨Nat.le_of_ble_eq_true rfl, Nat.le_of_ble_eq_true rfl⟩
  · cases h
    exact m_CG_V mt_X0_trim hx hb hml hown hts hK hi hN (ci := 0) m_pv_rec rfl rfl (m_wck_ok (l := [(Cond.methodLink RX0 27 yX0_trim, 179), (Cond.instanceMethod yX0_trim, 181), (Cond.selects RX0 yX0_trim yX0_trim, 0), (Cond.initialized RX0, 58), (Cond.code yX0_trim cX0_trim 1 none, 182)]) (by decide +kernel)) ⟨rfl, by decide +kernel, by decide +kernel, by decide +kernel⟩ ⟨Nat.le_of_ble_eq_true rfl, Nat.le_of_ble_eq_true rfl⟩
  · cases h
set_option maxHeartbeats 4000000 in
set_option maxRecDepth 100000 in
theorem mt_X0_timesInt : m_Mt yX0_timesInt cX0_timesInt 7 none 1 21 pt_timesInt := by
  refine m_methodG (fl := fl_X0) (kI := kI_X0) (kJ := kJ_X0) (ct := ct_X0_timesInt) (cd := cd_X0_timesInt) (cut := [(22, [0, 1, 2, 4, 6])]) (rk := 0) (fu := 80) (by decide +kernel) fl_X0_ok kI_X0_ok kJ_X0_ok ce_X0_timesInt rfl ck_X0_timesInt ⟨_, _, rfl, rfl⟩ ?_
  intro sh rf As I J K hpt
  obtain ⟨b, rest, rfl, hb, cap, m, z, f, rfl, hB, ⟨cap1, n, hB', h1, h2, h4, h5, h6⟩, hm, hmc, hK⟩ := hpt
  obtain rfl := hB.cap hB'
  have hcap := hB.2.2
  have hne := hB.ne
  have hn := BIs.lim (sh := sh) (cap := 0) h4 h6 hm
  have hF : f.toInt.natAbs ≤ 2 ^ 31 := by
    have a1 := f.le_toInt
    have a2 := f.toInt_lt
    omega
  refine ⟨Nat.le_of_ble_eq_true rfl, fun a b9 pc vs st I1 J1 => ∃ i c, vs = [.inr (.inr b), .inl f, .inr (.inl (lN f.toInt.natAbs)), .inr (.inl (lN c)), .inl (nI i)] ∧ st = [] ∧ J1 = J ∧ a = n - i ∧ i ≤ n ∧ c ≤ f.toInt.natAbs ∧ (∀ q, q ≠ rf b 0 → I1 q = I q) ∧ (∀ k, i ≤ k → I1 (rf b 0) k = I (rf b 0) k) ∧ dv (2 ^ 32) (bdg rf I1 b) i + c * (2 ^ 32) ^ i = f.toInt.natAbs * dv (2 ^ 32) (bdg rf I b) i, ?_, ?_⟩
  · refine ⟨f.toInt64, rfl, hb, b, [.inl (I b 1 + 1)], rfl, hb, cap, n + 1, by rw [h1, nI_1], hB, by omega, n, 0, 0, 0, ?_, rfl, rfl, by omega, Nat.zero_le _, Nat.zero_le _, fun _ _ => rfl, fun _ _ => rfl, by simp [dv]⟩
    rw [i_absl]
    rfl
  · intro pc ks a b9 vs st I1 J1 hc hI
    rcases m_cu1 hc with ⟨rfl, rfl⟩ | hc
    · obtain ⟨i, c, rfl, rfl, rfl, rfl, hi, hc1, e1, e2, e3⟩ := hI
      have hIb : I1 b = I b := e1 b hne
      refine ⟨hb, fun h => ?_, fun h => ?_⟩
      · have h : I1 b 1 ≤ nI i := h
        rw [hIb, h1] at h
        have hge := (nI_leI (by omega) (by omega)).mp h
        obtain rfl : i = n := by omega
        rw [h6] at e3
        have hIb1 : I1 b 1 = nI i := by rw [hIb, h1]
        have fin : ∀ s : Int32, (z * f.toInt < 0 → s = 1) → (0 < z * f.toInt → s = 0) → pt_trim sh rf [.inr (.inr b)] (m_uI (m_uI (m_uI I1 (rf b 0) (I1 b 1).toNatClampNeg (lN c).toInt32) b 1 (m_uI I1 (rf b 0) (I1 b 1).toNatClampNeg (lN c).toInt32 b 1 + 1)) b 2 s) J1 K := by
          intro s s1 s2
          rw [uI_a _ _ _ hne, hIb1, nI_clamp (by omega), lN_i, nI_1]
          refine ⟨b, [], rfl, hb, cap, i + 1, z * f.toInt, rfl, hB, ?_, by omega, ?_, ?_, ?_, ?_⟩
          · rw [uI_k _ _ _ (by decide), uI_s]
          · rw [dv, dv_congr (h := bdg rf I1 b) (fun k hk => by unfold bdg; rw [uI_a _ _ _ hne.symm, uI_a _ _ _ hne.symm, uI_k _ _ _ (by omega)])]
            have e6 : bdg rf (m_uI (m_uI (m_uI I1 (rf b 0) i (nI c)) b 1 (nI (i + 1))) b 2 s) b i = c := by
              unfold bdg
              rw [uI_a _ _ _ hne.symm, uI_a _ _ _ hne.symm, uI_s, u32_nI, Nat.mod_eq_of_lt (by omega)]
            rw [e6, e3, Int.natAbs_mul, Nat.mul_comm]
          · intro q; rw [uI_s]; exact s1 q
          · intro q; rw [uI_s]; exact s2 q
          · intro I2 k1 k2
            refine hK I2 (fun q k3 k4 => ?_) k2
            rw [k1 q k3, uI_a _ _ _ k3, uI_a _ _ _ k3, uI_a _ _ _ k4, e1 q k4]
        have hflag : m_uI (m_uI I1 (rf b 0) (I1 b 1).toNatClampNeg (lN c).toInt32) b 1 (m_uI I1 (rf b 0) (I1 b 1).toNatClampNeg (lN c).toInt32 b 1 + 1) b 2 = (if z < 0 then 1 else 0) := by
          rw [uI_k _ _ _ (by decide), uI_a _ _ _ hne, hIb, h5]
        refine ⟨hb, hb, ?_, hb, hb, hb, fun h7 => ⟨fun h8 => ?_, fun h8 => ?_⟩, fun h7 => ⟨fun h8 => ?_, fun h8 => ?_⟩⟩
        · show m_inb sh (rf b 0) 0 (I1 b 1)
          rw [hIb1]
          exact m_inb_i hB.2.1 (vp_in_nI (by omega) (by omega))
        · have h7 : 0 ≤ f := h7
          have h7' : (0 : Int) ≤ f.toInt := by simpa using Int32.le_iff_toInt_le.mp h7
          have h8 : m_uI (m_uI I1 (rf b 0) (I1 b 1).toNatClampNeg (lN c).toInt32) b 1 (m_uI I1 (rf b 0) (I1 b 1).toNatClampNeg (lN c).toInt32 b 1 + 1) b 2 = 0 := h8
          rw [hflag] at h8
          have q1 : ¬ z < 0 := fun q => by rw [if_pos q] at h8; exact absurd h8 (by decide)
          refine ⟨hb, Or.inl rfl, fin 0 (fun q => ?_) (fun _ => rfl)⟩
          have := Int.mul_nonneg (show 0 ≤ z by omega) h7'
          omega
        · have h7 : 0 ≤ f := h7
          have h7' : (0 : Int) ≤ f.toInt := by simpa using Int32.le_iff_toInt_le.mp h7
          have h8 : ¬ m_uI (m_uI I1 (rf b 0) (I1 b 1).toNatClampNeg (lN c).toInt32) b 1 (m_uI I1 (rf b 0) (I1 b 1).toNatClampNeg (lN c).toInt32 b 1 + 1) b 2 = 0 := h8
          rw [hflag] at h8
          have q1 : z < 0 := by
            rcases Int.lt_or_le z 0 with q | q
            · exact q
            · rw [if_neg (by omega)] at h8; exact absurd rfl h8
          refine ⟨hb, Or.inr rfl, fin 1 (fun _ => rfl) (fun q => ?_)⟩
          have := Int.mul_nonpos_of_nonpos_of_nonneg (show z ≤ 0 by omega) h7'
          omega
        · have h7 : ¬ 0 ≤ f := h7
          have h7' : f.toInt < 0 := by
            rcases Int.lt_or_le f.toInt 0 with q | q
            · exact q
            · exact absurd (by rw [Int32.le_iff_toInt_le]; simpa using q) h7
          have h8 : m_uI (m_uI I1 (rf b 0) (I1 b 1).toNatClampNeg (lN c).toInt32) b 1 (m_uI I1 (rf b 0) (I1 b 1).toNatClampNeg (lN c).toInt32 b 1 + 1) b 2 = 1 := h8
          rw [hflag] at h8
          have q1 : z < 0 := by
            rcases Int.lt_or_le z 0 with q | q
            · exact q
            · rw [if_neg (by omega)] at h8; exact absurd h8 (by decide)
          refine ⟨hb, Or.inl rfl, fin 0 (fun q => ?_) (fun _ => rfl)⟩
          have := Int.mul_pos_of_neg_of_neg q1 h7'
          omega
        · have h7 : ¬ 0 ≤ f := h7
          have h7' : f.toInt < 0 := by
            rcases Int.lt_or_le f.toInt 0 with q | q
            · exact q
            · exact absurd (by rw [Int32.le_iff_toInt_le]; simpa using q) h7
          have h8 : ¬ m_uI (m_uI I1 (rf b 0) (I1 b 1).toNatClampNeg (lN c).toInt32) b 1 (m_uI I1 (rf b 0) (I1 b 1).toNatClampNeg (lN c).toInt32 b 1 + 1) b 2 = 1 := h8
          rw [hflag] at h8
          have q1 : ¬ z < 0 := fun q => by rw [if_pos q] at h8; exact absurd rfl h8
          refine ⟨hb, Or.inr rfl, fin 1 (fun _ => rfl) (fun q => ?_)⟩
          have := Int.mul_nonpos_of_nonneg_of_nonpos (show 0 ≤ z by omega) (show f.toInt ≤ 0 by omega)
          omega
      · have h : ¬ I1 b 1 ≤ nI i := h
        rw [hIb, h1] at h
        have hlt : i < n := by
          rcases Nat.lt_or_ge i n with q | q
          · exact q
          · exact absurd (nI_le q (by omega)) h
        have d1 := bdg_lt rf I b i
        have hpr : f.toInt.natAbs * bdg rf I b i ≤ f.toInt.natAbs * (2 ^ 32 - 1) := Nat.mul_le_mul_left _ (by omega)
        have es : lN c + lN f.toInt.natAbs * ((I1 (rf b 0) (nI i).toNatClampNeg).toInt64 &&& 4294967295) = lN (c + f.toInt.natAbs * bdg rf I b i) := by
          rw [nI_clamp (by omega), l_mask, e2 i (Nat.le_refl _), lN_mul, lN_add]
          rfl
        refine ⟨hb, m_inb_i hB.2.1 (vp_in_nI (by omega) (by omega)), hb, m_inb_i hB.2.1 (vp_in_nI (by omega) (by omega)), n - (i + 1), 0, Or.inl (by omega), i + 1, (c + f.toInt.natAbs * bdg rf I b i) / 2 ^ 32, ?_, rfl, rfl, rfl, by omega, by omega, ?_, ?_, ?_⟩
        · rw [es, l_shr32 (by omega), ← nI_1]
        · intro q hq
          rw [uI_a _ _ _ hq, e1 q hq]
        · intro k hk
          rw [nI_clamp (by omega), uI_k _ _ _ (by omega), e2 k (by omega)]
        · rw [es, lN_i, nI_clamp (by omega)]
          have e9 : bdg rf (m_uI I1 (rf b 0) i (nI (c + f.toInt.natAbs * bdg rf I b i))) b i = (c + f.toInt.natAbs * bdg rf I b i) % 2 ^ 32 := by
            unfold bdg
            rw [uI_s, u32_nI]
          rw [dv, e9, dv_congr (h := bdg rf I1 b) (fun k hk => by
            unfold bdg
            rw [uI_k _ _ _ (by omega)]), dv, Nat.pow_succ]
          exact ti_step e3
    · cases hc

