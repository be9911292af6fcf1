/-! ===== addition and subtraction of sizes ===== -/
theorem add_step {P B c x y D X Y : Nat} (h : D + c * P = X + Y) : (D + (c + (x + y)) % B * P) + (c + (x + y)) / B * (P * B) = (X + x * P) + (Y + y * P) := by
  have e := Nat.div_add_mod (c + (x + y)) B
  generalize (c + (x + y)) / B = q at e ⊢
  generalize (c + (x + y)) % B = r at e ⊢
  have e2 : (B * q + r) * P = (c + (x + y)) * P := by rw [e]
  grind
theorem sub_step {P B bw x y D X Y : Nat} (h : D + Y = X + bw * P) : (y + bw ≤ x → (D + (x - y - bw) * P) + (Y + y * P) = (X + x * P) + 0 * (P * B)) ∧ (x < y + bw → y + bw ≤ x + B → (D + (x + B - y - bw) * P) + (Y + y * P) = (X + x * P) + 1 * (P * B)) := by
  refine ⟨fun h1 => ?_, fun h1 h2 => ?_⟩
  · obtain ⟨k, rfl⟩ : ∃ k, x = y + bw + k := ⟨x - (y + bw), by omega⟩
    rw [show y + bw + k - y - bw = k by omega]
    grind
  · obtain ⟨k, hk⟩ : ∃ k, x + B = y + bw + k := ⟨x + B - (y + bw), by omega⟩
    rw [show x + B - y - bw = k by omega]
    have e2 : (x + B) * P = (y + bw + k) * P := by rw [hk]
    grind
/-- a borrow as a long -/
def cN (bw : Nat) : Int64 := if bw = 0 then 0 else -1
theorem cN_sum {bw x y : Nat} (hb : bw ≤ 1) : cN bw + (lN x - lN y) = Int64.ofInt ((x : Int) - y - bw) := by
  rw [lN_int, lN_int, ← Int64.ofInt_sub]
  have e : cN bw = Int64.ofInt (-(bw : Int)) := by
    rcases (show bw = 0 ∨ bw = 1 by omega) with rfl | rfl <;> rfl
  rw [e, ← Int64.ofInt_add]
  congr 1
  omega
theorem l_ofInt_i (t : Int) : (Int64.ofInt t).toInt32 = Int32.ofInt t := by
  apply Int32.toBitVec_inj.mp
  rw [Int64.toBitVec_toInt32, Int64.toBitVec_ofInt, Int32.toBitVec_ofInt]
  apply BitVec.eq_of_toNat_eq
  rw [BitVec.signExtend_eq_setWidth_of_le _ (by decide), BitVec.toNat_setWidth, BitVec.toNat_ofInt, BitVec.toNat_ofInt]
  omega
theorem u32_ofInt (t : Int) : (u32 (Int32.ofInt t) : Int) = t % 4294967296 := by
  unfold u32
  rw [Int32.toBitVec_ofInt, BitVec.toNat_ofInt]
  omega
theorem l_sar {t : Int} (h1 : -4294967296 ≤ t) (h2 : t < 4294967296) : Int64.ofInt t >>> ((32 : Int32).toInt64 &&& 63) = cN (if t < 0 then 1 else 0) := by
  rw [show ((32 : Int32).toInt64 &&& 63) = 32 by decide]
  apply Int64.toInt_inj.mp
  have e : (Int64.ofInt t >>> (32 : Int64)).toInt = (Int64.ofInt t).toInt >>> 32 := by
    show (Int64.ofInt t >>> (32 : Int64)).toBitVec.toInt = _
    rw [Int64.toBitVec_shiftRight, BitVec.sshiftRight', BitVec.toInt_sshiftRight]
    rfl
  have e2 : (Int64.ofInt t).toInt = t := by
    rw [Int64.toInt_ofInt_of_le (by omega) (by omega)]
  rw [e, e2, Int.shiftRight_eq_div_pow]
  by_cases q : t < 0
  · rw [if_pos q, show (cN 1).toInt = -1 by decide]
    omega
  · rw [if_neg q, show (cN 0).toInt = 0 by decide]
    omega
def pt_addSize : mSH → mRF → mPT := m_pv 0 (fun sh rf b rest I J K => ∃ (cap f m : Nat) (z y : Int), rest = [.inr (.inr f)] ∧ BSh sh rf b cap ∧ BL sh rf ∧ f ≠ b ∧ BIs sh rf I b z ∧ BIs sh rf I f y ∧ z.natAbs < 2 ^ (32 * m) ∧ y.natAbs < 2 ^ (32 * m) ∧ m + 1 ≤ cap ∧ ∀ I1, BCh rf I I1 b → BIs sh rf I1 b (if z < 0 then -((z.natAbs + y.natAbs : Nat) : Int) else ((z.natAbs + y.natAbs : Nat) : Int)) → K none I1 J)
def pt_takeSize : mSH → mRF → mPT := m_pv 0 (fun sh rf b rest I J K => ∃ (f : Nat) (z y : Int), rest = [.inr (.inr f)] ∧ BL sh rf ∧ f ≠ b ∧ BIs sh rf I b z ∧ BIs sh rf I f y ∧ y.natAbs ≤ z.natAbs ∧ ∀ I1, BCh rf I I1 b → BIs sh rf I1 b (if z < 0 then -((z.natAbs - y.natAbs : Nat) : Int) else ((z.natAbs - y.natAbs : Nat) : Int)) → K none I1 J)
def pt_takeSizeFrom : mSH → mRF → mPT := m_pv 0 (fun sh rf b rest I J K => ∃ (cap f : Nat) (z y : Int), rest = [.inr (.inr f)] ∧ BSh sh rf b cap ∧ BL sh rf ∧ f ≠ b ∧ BIs sh rf I b z ∧ BIs sh rf I f y ∧ z.natAbs ≤ y.natAbs ∧ y.natAbs < 2 ^ (32 * cap) ∧ ∀ I1, BCh rf I I1 b → BIs sh rf I1 b (if z < 0 then -((y.natAbs - z.natAbs : Nat) : Int) else ((y.natAbs - z.natAbs : Nat) : Int)) → K none I1 J)
/-- digits, 0 beyond n -/
def dz (g : Nat → Nat) (n : Nat) : Nat → Nat := fun k => if k < n then g k else 0
theorem dz_val {B : Nat} {g : Nat → Nat} {n m : Nat} (h : n ≤ m) : dv B (dz g n) m = dv B g n := by
  rw [dv_ext (n := n) h (fun i h1 _ => by unfold dz; rw [if_neg (by omega)])]
  exact dv_congr (fun i hi => by unfold dz; rw [if_pos hi])
def ct_X0_addSize (sh : mSH) (rf : mRF) : Nat → Option (Nat × Bool × mPT) := fun k => match k with
  | 7 => some (2, false, pt_max sh rf)
  | 30 => some (2, true, pt_makeRoom sh rf)
  | 27 => some (1, true, pt_trim sh rf)
  | _ => none
set_option maxRecDepth 20000 in
theorem ce_X0_addSize : m_CE RX0 1 21 cX0_addSize 6 ct_X0_addSize := by
  intro p l e s m args below meth c Q D cs ad sh rf N hx hb hml hown hts hK hi hN k n vf pt h
  unfold ct_X0_addSize at h
  split at h
  · cases h
    exact m_CG_max hx hb hml hown hts hK hi hN (m_wck_ok (l := [(Cond.methodLink RX0 7 Lib.Math.max.name, 93), (Cond.static Lib.Math.max.name, 94), (Cond.initialized "java/lang/Math", 59), (Cond.code Lib.Math.max.name Lib.Math.max.code 2 (some .int), 95)]) (by decide +kernel)) ⟨Nat.le_of_ble_eq_true rfl, Nat.le_of_ble_eq_true rfl⟩
  · cases h
    exact m_CG_V mt_X0_makeRoom hx hb hml hown hts hK hi hN (ci := 0) m_pv_rec rfl rfl (m_wck_ok (l := [(Cond.methodLink RX0 30 yX0_makeRoom, 320), (Cond.instanceMethod yX0_makeRoom, 322), (Cond.selects RX0 yX0_makeRoom yX0_makeRoom, 2), (Cond.initialized RX0, 58), (Cond.code yX0_makeRoom cX0_makeRoom 2 none, 323)]) (by decide +kernel)) ⟨rfl, by decide +kernel, by decide +kernel, by decide +kernel⟩ ⟨Nat.le_of_ble_eq_true rfl, Nat.le_of_ble_eq_true rfl⟩
  · cases h
    exact m_CG_V mt_X0_trim hx hb hml hown hts hK hi hN (ci := 0) m_pv_rec rfl rfl (m_wck_ok (l := [(Cond.methodLink RX0 27 yX0_trim, 179), (Cond.instanceMethod yX0_trim, 181), (Cond.selects RX0 yX0_trim yX0_trim, 0), (Cond.initialized RX0, 58), (Cond.code yX0_trim cX0_trim 1 none, 182)]) (by decide +kernel)) ⟨rfl, by decide +kernel, by decide +kernel, by decide +kernel⟩ ⟨Nat.le_of_ble_eq_true rfl, Nat.le_of_ble_eq_true rfl⟩
  · cases h
set_option maxHeartbeats 4000000 in
set_option maxRecDepth 100000 in
theorem mt_X0_addSize : m_Mt yX0_addSize cX0_addSize 6 none 1 21 pt_addSize := by
  refine m_methodG (fl := fl_X0) (kI := kI_X0) (kJ := kJ_X0) (ct := ct_X0_addSize) (cd := cd_X0_addSize) (cut := [(24, [0, 1, 2, 3, 5]), (56, [0, 1, 2, 3, 5]), (81, [0, 1, 2, 3, 5])]) (rk := 0) (fu := 80) (by decide +kernel) fl_X0_ok kI_X0_ok kJ_X0_ok ce_X0_addSize rfl ck_X0_addSize ⟨_, _, rfl, rfl⟩ ?_
  intro sh rf As I J K hpt
  obtain ⟨b, rest, rfl, hb, cap, f, m, z, y, rfl, hB, hL, hfb, ⟨cap1, n, hB', h1, h2, h4, h5, h6⟩, ⟨cap2, n2, hF, g1, g2, g4, g5, g6⟩, hm1, hm2, hmc, hK⟩ := hpt
  obtain rfl := hB.cap hB'
  have hcap := hB.2.2.2
  have hcap2 := hF.2.2.2
  have hne := hB.ne
  have hpp : rf f 0 ≠ rf b 0 := fun e => hfb (hL f b hF.1 hB.1 e)
  have hfp : f ≠ rf b 0 := hF.nex hB
  have hn := BIs.lim (sh := sh) (cap := 0) h4 h6 hm1
  have hn2 := BIs.lim (sh := sh) (cap := 0) g4 g6 hm2
  obtain ⟨wh, hwh⟩ : ∃ wh, wh = max n n2 := ⟨_, rfl⟩
  have w1 : n ≤ wh := by omega
  have w2 : n2 ≤ wh := by omega
  have w3 : wh ≤ m := by omega
  refine ⟨Nat.le_of_ble_eq_true rfl, fun a b9 pc vs st I1 J1 => ∃ i c, vs = [.inr (.inr b), .inr (.inr f), .inl (nI wh), .inr (.inl (lN c)), .inl (nI i)] ∧ J1 = J ∧ a = wh - i ∧ i ≤ wh ∧ c ≤ 1 ∧ (∀ q, q ≠ rf b 0 → I1 q = I q) ∧ (∀ k, i ≤ k → I1 (rf b 0) k = I (rf b 0) k) ∧ dv (2 ^ 32) (bdg rf I1 b) i + c * (2 ^ 32) ^ i = dv (2 ^ 32) (dz (bdg rf I b) n) i + dv (2 ^ 32) (dz (bdg rf I f) n2) i ∧ (pc = 24 ∧ b9 = 2 ∧ st = [] ∨ pc = 56 ∧ b9 = 1 ∧ i < wh ∧ st = [.inr (.inl (lN (dz (bdg rf I b) n i))), .inr (.inl (lN c))] ∨ pc = 81 ∧ b9 = 0 ∧ i < wh ∧ st = [.inr (.inl (lN (dz (bdg rf I f) n2 i))), .inr (.inl (lN (dz (bdg rf I b) n i))), .inr (.inl (lN c))]), ?_, ?_⟩
  · refine ⟨hb, hF.1, I b 1, I f 1, rfl, ?_⟩
    have e1 : (if I b 1 < I f 1 then I f 1 else I b 1) = nI wh := by
      rw [h1, g1]
      by_cases q : n < n2
      · rw [if_pos ((nI_ltI (by omega) (by omega)).mpr q)]
        congr 1
        omega
      · rw [if_neg (fun z => q ((nI_ltI (by omega) (by omega)).mp z))]
        congr 1
        omega
    rw [e1]
    refine ⟨b, [.inl (nI wh + 1)], rfl, hb, cap, wh + 1, by rw [nI_1], hB, by omega, wh, 2, 0, 0, rfl, rfl, by omega, Nat.zero_le _, by omega, fun _ _ => rfl, fun _ _ => rfl, rfl, Or.inl ⟨rfl, rfl, rfl⟩⟩
  · intro pc ks a b9 vs st I1 J1 hc hI
    obtain ⟨i, c, rfl, rfl, rfl, hi, hc1, e1, e2, e3, e5⟩ := hI
    have hIb : I1 b = I b := e1 b hne
    have hIf : I1 f = I f := e1 f hfp
    rcases m_cu1 hc with ⟨rfl, rfl⟩ | hc
    · obtain ⟨rfl, rfl⟩ : b9 = 2 ∧ st = [] := by
        rcases e5 with ⟨-, q1, q2⟩ | ⟨q, -⟩ | ⟨q, -⟩
        · exact ⟨q1, q2⟩
        · cases q
        · cases q
      refine ⟨fun h => ?_, fun h => ?_⟩
      · have hge := (nI_leI (by omega) (by omega)).mp h
        obtain rfl : i = wh := by omega
        refine ⟨hb, m_inb_i hB.2.1 (vp_in_nI (by omega) (by omega)), hb, b, [], rfl, hb, cap, i + 1, (if z < 0 then -((z.natAbs + y.natAbs : Nat) : Int) else ((z.natAbs + y.natAbs : Nat) : Int)), rfl, hB, ?_, by omega, ?_, ?_, ?_, ?_⟩
        · rw [uI_s, nI_1]
        · rw [dz_val w1, dz_val w2, h6, g6] at e3
          rw [dv, dv_congr (h := bdg rf I1 b) (fun k hk => by
            unfold bdg
            rw [uI_a _ _ _ hne.symm, nI_clamp (by omega), uI_k _ _ _ (by omega)])]
          have e6 : bdg rf (m_uI (m_uI I1 (rf b 0) (nI i).toNatClampNeg (lN c).toInt32) b 1 (nI i + 1)) b i = c := by
            unfold bdg
            rw [uI_a _ _ _ hne.symm, nI_clamp (by omega), uI_s, lN_i, u32_nI, Nat.mod_eq_of_lt (by omega)]
          rw [e6, e3]
          split <;> omega
        · intro hz
          rw [uI_k _ _ _ (by decide), uI_a _ _ _ hne, hIb, h5]
          split at hz
          · rename_i q; rw [if_pos q]
          · omega
        · intro hz
          rw [uI_k _ _ _ (by decide), uI_a _ _ _ hne, hIb, h5]
          split at hz
          · omega
          · rename_i q; rw [if_neg q]
        · intro I2 k1 k2
          refine hK I2 (fun q k3 k4 => ?_) k2
          rw [k1 q k3, uI_a _ _ _ k3, uI_a _ _ _ k4, e1 q k4]
      · have hlt : i < wh := by
          rcases Nat.lt_or_ge i wh with q | q
          · exact q
          · exact absurd (nI_le q (by omega)) h
        refine ⟨hb, fun h7 => ?_, fun h7 => ?_⟩
        · have h7 : I1 b 1 ≤ nI i := h7
          rw [hIb, h1] at h7
          have h8 := (nI_leI (by omega) (by omega)).mp h7
          refine ⟨wh - i, 1, Or.inr ⟨rfl, by omega⟩, i, c, rfl, rfl, rfl, hi, hc1, e1, e2, e3, Or.inr (Or.inl ⟨rfl, rfl, hlt, ?_⟩)⟩
          unfold dz
          rw [if_neg (by omega)]
          rfl
        · have h7 : ¬ I1 b 1 ≤ nI i := h7
          rw [hIb, h1] at h7
          have h8 : i < n := by
            rcases Nat.lt_or_ge i n with q | q
            · exact q
            · exact absurd (nI_le q (by omega)) h7
          refine ⟨hb, m_inb_i hB.2.1 (vp_in_nI (by omega) (by omega)), wh - i, 1, Or.inr ⟨rfl, by omega⟩, i, c, rfl, rfl, rfl, hi, hc1, e1, e2, e3, Or.inr (Or.inl ⟨rfl, rfl, hlt, ?_⟩)⟩
          unfold dz
          rw [if_pos h8, nI_clamp (by omega), l_mask, e2 i (Nat.le_refl _)]
          rfl
    rcases m_cu1 hc with ⟨rfl, rfl⟩ | hc
    · obtain ⟨rfl, hlt, rfl⟩ : b9 = 1 ∧ i < wh ∧ st = [.inr (.inl (lN (dz (bdg rf I b) n i))), .inr (.inl (lN c))] := by
        rcases e5 with ⟨q, -⟩ | ⟨-, q1, q2, q3⟩ | ⟨q, -⟩
        · cases q
        · exact ⟨q1, q2, q3⟩
        · cases q
      refine ⟨hF.1, fun h7 => ?_, fun h7 => ?_⟩
      · have h7 : I1 f 1 ≤ nI i := h7
        rw [hIf, g1] at h7
        have h8 := (nI_leI (by omega) (by omega)).mp h7
        refine ⟨wh - i, 0, Or.inr ⟨rfl, by omega⟩, i, c, rfl, rfl, rfl, hi, hc1, e1, e2, e3, Or.inr (Or.inr ⟨rfl, rfl, hlt, ?_⟩)⟩
        have e8 : dz (bdg rf I f) n2 i = 0 := by unfold dz; rw [if_neg (by omega)]
        rw [e8]
        rfl
      · have h7 : ¬ I1 f 1 ≤ nI i := h7
        rw [hIf, g1] at h7
        have h8 : i < n2 := by
          rcases Nat.lt_or_ge i n2 with q | q
          · exact q
          · exact absurd (nI_le q (by omega)) h7
        refine ⟨hF.1, m_inb_i hF.2.1 (vp_in_nI (by omega) (by omega)), wh - i, 0, Or.inr ⟨rfl, by omega⟩, i, c, rfl, rfl, rfl, hi, hc1, e1, e2, e3, Or.inr (Or.inr ⟨rfl, rfl, hlt, ?_⟩)⟩
        have e8 : dz (bdg rf I f) n2 i = bdg rf I f i := by unfold dz; rw [if_pos h8]
        rw [e8, nI_clamp (by omega), l_mask, e1 _ hpp]
        rfl
    rcases m_cu1 hc with ⟨rfl, rfl⟩ | hc
    · obtain ⟨rfl, hlt, rfl⟩ : b9 = 0 ∧ i < wh ∧ st = [.inr (.inl (lN (dz (bdg rf I f) n2 i))), .inr (.inl (lN (dz (bdg rf I b) n i))), .inr (.inl (lN c))] := by
        rcases e5 with ⟨q, -⟩ | ⟨q, -⟩ | ⟨-, q1, q2, q3⟩
        · cases q
        · cases q
        · exact ⟨q1, q2, q3⟩
      have hx : dz (bdg rf I b) n i < 2 ^ 32 := by
        unfold dz; split
        · exact bdg_lt rf I b i
        · decide
      have hy : dz (bdg rf I f) n2 i < 2 ^ 32 := by
        unfold dz; split
        · exact bdg_lt rf I f i
        · decide
      have es : lN c + (lN (dz (bdg rf I b) n i) + lN (dz (bdg rf I f) n2 i)) = lN (c + (dz (bdg rf I b) n i + dz (bdg rf I f) n2 i)) := by rw [lN_add, lN_add]
      refine ⟨hb, m_inb_i hB.2.1 (vp_in_nI (by omega) (by omega)), wh - (i + 1), 2, Or.inl (by omega), i + 1, (c + (dz (bdg rf I b) n i + dz (bdg rf I f) n2 i)) / 2 ^ 32, ?_, rfl, rfl, by omega, by omega, ?_, ?_, ?_, Or.inl ⟨rfl, rfl, rfl⟩⟩
      · rw [es, l_shr32 (by omega), ← nI_1]
      · intro q hq
        rw [uI_a _ _ _ hq, e1 q hq]
      · intro k hk
        rw [nI_clamp (by omega), uI_k _ _ _ (by omega), e2 k (by omega)]
      · rw [es, lN_i, nI_clamp (by omega)]
        have e9 : bdg rf (m_uI I1 (rf b 0) i (nI (c + (dz (bdg rf I b) n i + dz (bdg rf I f) n2 i)))) b i = (c + (dz (bdg rf I b) n i + dz (bdg rf I f) n2 i)) % 2 ^ 32 := by
          unfold bdg
          rw [uI_s, u32_nI]
        rw [dv, e9, dv_congr (h := bdg rf I1 b) (fun k hk => by
          unfold bdg
          rw [uI_k _ _ _ (by omega)]), dv, dv, Nat.pow_succ]
        exact add_step e3
    · cases hc

/-- one step of a subtraction, on the machine's numbers -/
theorem sub_m {bw x y : Nat} (hb : bw ≤ 1) (hx : x < 2 ^ 32) (hy : y < 2 ^ 32) {P D X Y : Nat} (h : D + Y = X + bw * P) : ∃ bw' : Nat, bw' ≤ 1 ∧ (cN bw + (lN x - lN y)) >>> ((32 : Int32).toInt64 &&& 63) = cN bw' ∧ (D + u32 (cN bw + (lN x - lN y)).toInt32 * P) + (Y + y * P) = (X + x * P) + bw' * (P * 2 ^ 32) := by
  rw [cN_sum hb]
  have e1 : (u32 (Int64.ofInt ((x : Int) - y - bw)).toInt32 : Int) = ((x : Int) - y - bw) % 4294967296 := by rw [l_ofInt_i, u32_ofInt]
  have h2 := sub_step (B := 2 ^ 32) (x := x) (y := y) h
  rcases Nat.lt_or_ge x (y + bw) with q | q
  · refine ⟨1, by omega, ?_, ?_⟩
    · rw [l_sar (by omega) (by omega), if_pos (by omega)]
    · rw [show u32 (Int64.ofInt ((x : Int) - y - bw)).toInt32 = x + 2 ^ 32 - y - bw by omega]
      exact h2.2 q (by omega)
  · refine ⟨0, by omega, ?_, ?_⟩
    · rw [l_sar (by omega) (by omega), if_neg (by omega)]
    · rw [show u32 (Int64.ofInt ((x : Int) - y - bw)).toInt32 = x - y - bw by omega]
      exact h2.1 q
def ct_X0_takeSize (sh : mSH) (rf : mRF) : Nat → Option (Nat × Bool × mPT) := fun k => match k with
  | 27 => some (1, true, pt_trim sh rf)
  | _ => none
set_option maxRecDepth 20000 in
theorem ce_X0_takeSize : m_CE RX0 1 20 cX0_takeSize 5 ct_X0_takeSize := by
  intro p l e s m args below meth c Q D cs ad sh rf N hx hb hml hown hts hK hi hN k n vf pt h
  unfold ct_X0_takeSize at h
  split at h
  · cases h
    exact m_CG_V mt_X0_trim hx hb hml hown hts hK hi hN (ci := 0) m_pv_rec rfl rfl (m_wck_ok (l := [(Cond.methodLink RX0 27 yX0_trim, 179), (Cond.instanceMethod yX0_trim, 181), (Cond.selects RX0 yX0_trim yX0_trim, 0), (Cond.initialized RX0, 58), (Cond.code yX0_trim cX0_trim 1 none, 182)]) (by decide +kernel)) ⟨rfl, by decide +kernel, by decide +kernel, by decide +kernel⟩ ⟨Nat.le_of_ble_eq_true rfl, Nat.le_of_ble_eq_true rfl⟩
  · cases h
set_option maxHeartbeats 4000000 in
set_option maxRecDepth 100000 in
theorem mt_X0_takeSize : m_Mt yX0_takeSize cX0_takeSize 5 none 1 20 pt_takeSize := by
  refine m_methodG (fl := fl_X0) (kI := kI_X0) (kJ := kJ_X0) (ct := ct_X0_takeSize) (cd := cd_X0_takeSize) (cut := [(5, [0, 1, 2, 4]), (52, [0, 1, 2, 4])]) (rk := 0) (fu := 80) (by decide +kernel) fl_X0_ok kI_X0_ok kJ_X0_ok ce_X0_takeSize rfl ck_X0_takeSize ⟨_, _, rfl, rfl⟩ ?_
  intro sh rf As I J K hpt
  obtain ⟨b, rest, rfl, hb, f, z, y, rfl, hL, hfb, ⟨cap, n, hB, h1, h2, h4, h5, h6⟩, ⟨cap2, n2, hF, g1, g2, g4, g5, g6⟩, hle, hK⟩ := hpt
  have hcap := hB.2.2.2
  have hcap2 := hF.2.2.2
  have hne := hB.ne
  have hpp : rf f 0 ≠ rf b 0 := fun e => hfb (hL f b hF.1 hB.1 e)
  have hfp : f ≠ rf b 0 := hF.nex hB
  have hzl : z.natAbs < 2 ^ (32 * n) := by
    rw [← h6, Nat.pow_mul]
    exact dv_lt (fun i _ => bdg_lt rf I b i)
  have w2 := BIs.lim (sh := sh) (cap := 0) (m := n) g4 g6 (by omega)
  refine ⟨Nat.le_of_ble_eq_true rfl, fun a b9 pc vs st I1 J1 => ∃ i c, vs = [.inr (.inr b), .inr (.inr f), .inr (.inl (cN c)), .inl (nI i)] ∧ J1 = J ∧ a = n - i ∧ i ≤ n ∧ c ≤ 1 ∧ (∀ q, q ≠ rf b 0 → I1 q = I q) ∧ (∀ k, i ≤ k → I1 (rf b 0) k = I (rf b 0) k) ∧ dv (2 ^ 32) (bdg rf I1 b) i + dv (2 ^ 32) (dz (bdg rf I f) n2) i = dv (2 ^ 32) (bdg rf I b) i + c * (2 ^ 32) ^ i ∧ (pc = 5 ∧ b9 = 2 ∧ st = [] ∨ pc = 52 ∧ b9 = 1 ∧ i < n ∧ st = [.inr (.inl (lN (dz (bdg rf I f) n2 i))), .inr (.inl (lN (bdg rf I b i))), .inr (.inl (cN c))]), ?_, ?_⟩
  · exact ⟨n, 2, 0, 0, rfl, rfl, by omega, Nat.zero_le _, by omega, fun _ _ => rfl, fun _ _ => rfl, rfl, Or.inl ⟨rfl, rfl, rfl⟩⟩
  · intro pc ks a b9 vs st I1 J1 hc hI
    obtain ⟨i, c, rfl, rfl, rfl, hi, hc1, e1, e2, e3, e5⟩ := hI
    have hIb : I1 b = I b := e1 b hne
    have hIf : I1 f = I f := e1 f hfp
    rcases m_cu1 hc with ⟨rfl, rfl⟩ | hc
    · obtain ⟨rfl, rfl⟩ : b9 = 2 ∧ st = [] := by
        rcases e5 with ⟨-, q1, q2⟩ | ⟨q, -⟩
        · exact ⟨q1, q2⟩
        · cases q
      refine ⟨hb, fun h => ?_, fun h => ?_⟩
      · have h : I1 b 1 ≤ nI i := h
        rw [hIb, h1] at h
        have hge := (nI_leI (by omega) (by omega)).mp h
        obtain rfl : i = n := by omega
        rw [dz_val w2, h6, g6] at e3
        have hlt : dv (2 ^ 32) (bdg rf I1 b) i < (2 ^ 32) ^ i := dv_lt (fun k _ => bdg_lt rf I1 b k)
        have hval : dv (2 ^ 32) (bdg rf I1 b) i = z.natAbs - y.natAbs := by
          rcases (show c = 0 ∨ c = 1 by omega) with rfl | rfl <;> omega
        refine ⟨b, [], rfl, hb, cap, i, (if z < 0 then -((z.natAbs - y.natAbs : Nat) : Int) else ((z.natAbs - y.natAbs : Nat) : Int)), rfl, hB, ?_, h2, ?_, ?_, ?_, ?_⟩
        · rw [hIb, h1]
        · rw [hval]
          split <;> omega
        · intro hz
          rw [hIb, h5]
          split at hz
          · rename_i q; rw [if_pos q]
          · omega
        · intro hz
          rw [hIb, h5]
          split at hz
          · omega
          · rename_i q; rw [if_neg q]
        · intro I2 k1 k2
          refine hK I2 (fun q k3 k4 => ?_) k2
          rw [k1 q k3, e1 q k4]
      · have h : ¬ I1 b 1 ≤ nI i := h
        rw [hIb, h1] at h
        have hlt : i < n := by
          rcases Nat.lt_or_ge i n with q | q
          · exact q
          · exact absurd (nI_le q (by omega)) h
        refine ⟨hb, m_inb_i hB.2.1 (vp_in_nI (by omega) (by omega)), hF.1, fun h7 => ?_, fun h7 => ?_⟩
        · have h7 : I1 f 1 ≤ nI i := h7
          rw [hIf, g1] at h7
          have h8 := (nI_leI (by omega) (by omega)).mp h7
          refine ⟨n - i, 1, Or.inr ⟨rfl, by omega⟩, i, c, rfl, rfl, rfl, hi, hc1, e1, e2, e3, Or.inr ⟨rfl, rfl, hlt, ?_⟩⟩
          have e8 : dz (bdg rf I f) n2 i = 0 := by unfold dz; rw [if_neg (by omega)]
          rw [e8, nI_clamp (by omega), l_mask, e2 i (Nat.le_refl _)]
          rfl
        · have h7 : ¬ I1 f 1 ≤ nI i := h7
          rw [hIf, g1] at h7
          have h8 : i < n2 := by
            rcases Nat.lt_or_ge i n2 with q | q
            · exact q
            · exact absurd (nI_le q (by omega)) h7
          refine ⟨hF.1, m_inb_i hF.2.1 (vp_in_nI (by omega) (by omega)), n - i, 1, Or.inr ⟨rfl, by omega⟩, i, c, rfl, rfl, rfl, hi, hc1, e1, e2, e3, Or.inr ⟨rfl, rfl, hlt, ?_⟩⟩
          have e8 : dz (bdg rf I f) n2 i = bdg rf I f i := by unfold dz; rw [if_pos h8]
          rw [e8, nI_clamp (by omega), l_mask, l_mask, e1 _ hpp, e2 i (Nat.le_refl _)]
          rfl
    rcases m_cu1 hc with ⟨rfl, rfl⟩ | hc
    · obtain ⟨rfl, hlt, rfl⟩ : b9 = 1 ∧ i < n ∧ st = [.inr (.inl (lN (dz (bdg rf I f) n2 i))), .inr (.inl (lN (bdg rf I b i))), .inr (.inl (cN c))] := by
        rcases e5 with ⟨q, -⟩ | ⟨-, q1, q2, q3⟩
        · cases q
        · exact ⟨q1, q2, q3⟩
      have hx : bdg rf I b i < 2 ^ 32 := bdg_lt rf I b i
      have hy : dz (bdg rf I f) n2 i < 2 ^ 32 := by
        unfold dz; split
        · exact bdg_lt rf I f i
        · decide
      obtain ⟨c', hc', k1, k2⟩ := sub_m hc1 hx hy e3
      refine ⟨hb, m_inb_i hB.2.1 (vp_in_nI (by omega) (by omega)), n - (i + 1), 2, Or.inl (by omega), i + 1, c', ?_, rfl, rfl, by omega, hc', ?_, ?_, ?_, Or.inl ⟨rfl, rfl, rfl⟩⟩
      · rw [← k1, ← nI_1]
      · intro q hq
        rw [uI_a _ _ _ hq, e1 q hq]
      · intro k hk
        rw [nI_clamp (by omega), uI_k _ _ _ (by omega), e2 k (by omega)]
      · rw [nI_clamp (by omega)]
        have e9 : bdg rf (m_uI I1 (rf b 0) i (cN c + (lN (bdg rf I b i) - lN (dz (bdg rf I f) n2 i))).toInt32) b i = u32 (cN c + (lN (bdg rf I b i) - lN (dz (bdg rf I f) n2 i))).toInt32 := by
          unfold bdg
          rw [uI_s]
        rw [dv, e9, dv_congr (h := bdg rf I1 b) (fun k hk => by
          unfold bdg
          rw [uI_k _ _ _ (by omega)]), dv, dv, Nat.pow_succ]
        exact k2
    · cases hc

def ct_X0_takeSizeFrom (sh : mSH) (rf : mRF) : Nat → Option (Nat × Bool × mPT) := fun k => match k with
  | 30 => some (2, true, pt_makeRoom sh rf)
  | 27 => some (1, true, pt_trim sh rf)
  | _ => none
set_option maxRecDepth 20000 in
theorem ce_X0_takeSizeFrom : m_CE RX0 1 21 cX0_takeSizeFrom 5 ct_X0_takeSizeFrom := by
  intro p l e s m args below meth c Q D cs ad sh rf N hx hb hml hown hts hK hi hN k n vf pt h
  unfold ct_X0_takeSizeFrom at h
  split at h
  · cases h
    exact m_CG_V mt_X0_makeRoom hx hb hml hown hts hK hi hN (ci := 0) m_pv_rec rfl rfl (m_wck_ok (l := [(Cond.methodLink RX0 30 yX0_makeRoom, 320), (Cond.instanceMethod yX0_makeRoom, 322), (Cond.selects RX0 yX0_makeRoom yX0_makeRoom, 2), (Cond.initialized RX0, 58), (Cond.code yX0_makeRoom cX0_makeRoom 2 none, 323)]) (by decide +kernel)) ⟨rfl, by decide +kernel, by decide +kernel, by decide +kernel⟩ ⟨Nat.le_of_ble_eq_true rfl, Nat.le_of_ble_eq_true rfl⟩
  · cases h
    exact m_CG_V mt_X0_trim hx hb hml hown hts hK hi hN (ci := 0) m_pv_rec rfl rfl (m_wck_ok (l := [(Cond.methodLink RX0 27 yX0_trim, 179), (Cond.instanceMethod yX0_trim, 181), (Cond.selects RX0 yX0_trim yX0_trim, 0), (Cond.initialized RX0, 58), (Cond.code yX0_trim cX0_trim 1 none, 182)]) (by decide +kernel)) ⟨rfl, by decide +kernel, by decide +kernel, by decide +kernel⟩ ⟨Nat.le_of_ble_eq_true rfl, Nat.le_of_ble_eq_true rfl⟩
  · cases h
set_option maxHeartbeats 4000000 in
set_option maxRecDepth 100000 in
theorem mt_X0_takeSizeFrom : m_Mt yX0_takeSizeFrom cX0_takeSizeFrom 5 none 1 21 pt_takeSizeFrom := by
  refine m_methodG (fl := fl_X0) (kI := kI_X0) (kJ := kJ_X0) (ct := ct_X0_takeSizeFrom) (cd := cd_X0_takeSizeFrom) (cut := [(13, [0, 1, 2, 4]), (60, [0, 1, 2, 4])]) (rk := 0) (fu := 80) (by decide +kernel) fl_X0_ok kI_X0_ok kJ_X0_ok ce_X0_takeSizeFrom rfl ck_X0_takeSizeFrom ⟨_, _, rfl, rfl⟩ ?_
  intro sh rf As I J K hpt
  obtain ⟨b, rest, rfl, hb, cap, f, z, y, rfl, hB, hL, hfb, ⟨cap1, n, hB', h1, h2, h4, h5, h6⟩, ⟨cap2, n2, hF, g1, g2, g4, g5, g6⟩, hle, hyc, hK⟩ := hpt
  obtain rfl := hB.cap hB'
  have hcap := hB.2.2.2
  have hcap2 := hF.2.2.2
  have hne := hB.ne
  have hpp : rf f 0 ≠ rf b 0 := fun e => hfb (hL f b hF.1 hB.1 e)
  have hfp : f ≠ rf b 0 := hF.nex hB
  have hyl : y.natAbs < 2 ^ (32 * n2) := by
    rw [← g6, Nat.pow_mul]
    exact dv_lt (fun i _ => bdg_lt rf I f i)
  have w1 := BIs.lim (sh := sh) (cap := 0) (m := n2) h4 h6 (by omega)
  have w3 := BIs.lim (sh := sh) (cap := 0) (m := cap) g4 g6 hyc
  refine ⟨Nat.le_of_ble_eq_true rfl, fun a b9 pc vs st I1 J1 => ∃ i c, vs = [.inr (.inr b), .inr (.inr f), .inr (.inl (cN c)), .inl (nI i)] ∧ J1 = J ∧ a = n2 - i ∧ i ≤ n2 ∧ c ≤ 1 ∧ (∀ q, q ≠ rf b 0 → I1 q = I q) ∧ (∀ k, i ≤ k → I1 (rf b 0) k = I (rf b 0) k) ∧ dv (2 ^ 32) (bdg rf I1 b) i + dv (2 ^ 32) (dz (bdg rf I b) n) i = dv (2 ^ 32) (bdg rf I f) i + c * (2 ^ 32) ^ i ∧ (pc = 13 ∧ b9 = 2 ∧ st = [] ∨ pc = 60 ∧ b9 = 1 ∧ i < n2 ∧ st = [.inr (.inl (lN (dz (bdg rf I b) n i))), .inr (.inl (lN (bdg rf I f i))), .inr (.inl (cN c))]), ?_, ?_⟩
  · exact ⟨hF.1, b, [.inl (I f 1)], rfl, hb, cap, n2, by rw [g1], hB, w3, n2, 2, 0, 0, rfl, rfl, by omega, Nat.zero_le _, by omega, fun _ _ => rfl, fun _ _ => rfl, rfl, Or.inl ⟨rfl, rfl, rfl⟩⟩
  · intro pc ks a b9 vs st I1 J1 hc hI
    obtain ⟨i, c, rfl, rfl, rfl, hi, hc1, e1, e2, e3, e5⟩ := hI
    have hIb : I1 b = I b := e1 b hne
    have hIf : I1 f = I f := e1 f hfp
    rcases m_cu1 hc with ⟨rfl, rfl⟩ | hc
    · obtain ⟨rfl, rfl⟩ : b9 = 2 ∧ st = [] := by
        rcases e5 with ⟨-, q1, q2⟩ | ⟨q, -⟩
        · exact ⟨q1, q2⟩
        · cases q
      refine ⟨hF.1, fun h => ?_, fun h => ?_⟩
      · have h : I1 f 1 ≤ nI i := h
        rw [hIf, g1] at h
        have hge := (nI_leI (by omega) (by omega)).mp h
        obtain rfl : i = n2 := by omega
        rw [dz_val w1, h6, g6] at e3
        have hlt : dv (2 ^ 32) (bdg rf I1 b) i < (2 ^ 32) ^ i := dv_lt (fun k _ => bdg_lt rf I1 b k)
        have hval : dv (2 ^ 32) (bdg rf I1 b) i = y.natAbs - z.natAbs := by
          rcases (show c = 0 ∨ c = 1 by omega) with rfl | rfl <;> omega
        refine ⟨hF.1, hb, b, [], rfl, hb, cap, i, (if z < 0 then -((y.natAbs - z.natAbs : Nat) : Int) else ((y.natAbs - z.natAbs : Nat) : Int)), rfl, hB, ?_, w3, ?_, ?_, ?_, ?_⟩
        · rw [uI_s]
          show I1 f 1 = nI i
          rw [hIf, g1]
        · rw [dv_congr (h := bdg rf I1 b) (fun k hk => by
            unfold bdg
            rw [uI_a _ _ _ hne.symm]), hval]
          split <;> omega
        · intro hz
          rw [uI_k _ _ _ (by decide), hIb, h5]
          split at hz
          · rename_i q; rw [if_pos q]
          · omega
        · intro hz
          rw [uI_k _ _ _ (by decide), hIb, h5]
          split at hz
          · omega
          · rename_i q; rw [if_neg q]
        · intro I2 k1 k2
          refine hK I2 (fun q k3 k4 => ?_) k2
          rw [k1 q k3, uI_a _ _ _ k3, e1 q k4]
      · have h : ¬ I1 f 1 ≤ nI i := h
        rw [hIf, g1] at h
        have hlt : i < n2 := by
          rcases Nat.lt_or_ge i n2 with q | q
          · exact q
          · exact absurd (nI_le q (by omega)) h
        refine ⟨hF.1, m_inb_i hF.2.1 (vp_in_nI (by omega) (by omega)), hb, fun h7 => ?_, fun h7 => ?_⟩
        · have h7 : I1 b 1 ≤ nI i := h7
          rw [hIb, h1] at h7
          have h8 := (nI_leI (by omega) (by omega)).mp h7
          refine ⟨n2 - i, 1, Or.inr ⟨rfl, by omega⟩, i, c, rfl, rfl, rfl, hi, hc1, e1, e2, e3, Or.inr ⟨rfl, rfl, hlt, ?_⟩⟩
          have e8 : dz (bdg rf I b) n i = 0 := by unfold dz; rw [if_neg (by omega)]
          rw [e8, nI_clamp (by omega), l_mask, e1 _ hpp]
          rfl
        · have h7 : ¬ I1 b 1 ≤ nI i := h7
          rw [hIb, h1] at h7
          have h8 : i < n := by
            rcases Nat.lt_or_ge i n with q | q
            · exact q
            · exact absurd (nI_le q (by omega)) h7
          refine ⟨hb, m_inb_i hB.2.1 (vp_in_nI (by omega) (by omega)), n2 - i, 1, Or.inr ⟨rfl, by omega⟩, i, c, rfl, rfl, rfl, hi, hc1, e1, e2, e3, Or.inr ⟨rfl, rfl, hlt, ?_⟩⟩
          have e8 : dz (bdg rf I b) n i = bdg rf I b i := by unfold dz; rw [if_pos h8]
          rw [e8, nI_clamp (by omega), l_mask, l_mask, e1 _ hpp, e2 i (Nat.le_refl _)]
          rfl
    rcases m_cu1 hc with ⟨rfl, rfl⟩ | hc
    · obtain ⟨rfl, hlt, rfl⟩ : b9 = 1 ∧ i < n2 ∧ st = [.inr (.inl (lN (dz (bdg rf I b) n i))), .inr (.inl (lN (bdg rf I f i))), .inr (.inl (cN c))] := by
        rcases e5 with ⟨q, -⟩ | ⟨-, q1, q2, q3⟩
        · cases q
        · exact ⟨q1, q2, q3⟩
      have hx : bdg rf I f i < 2 ^ 32 := bdg_lt rf I f i
      have hy : dz (bdg rf I b) n i < 2 ^ 32 := by
        unfold dz; split
        · exact bdg_lt rf I b i
        · decide
      obtain ⟨c', hc', k1, k2⟩ := sub_m hc1 hx hy e3
      refine ⟨hb, m_inb_i hB.2.1 (vp_in_nI (by omega) (by omega)), n2 - (i + 1), 2, Or.inl (by omega), i + 1, c', ?_, rfl, rfl, by omega, hc', ?_, ?_, ?_, Or.inl ⟨rfl, rfl, rfl⟩⟩
      · rw [← k1, ← nI_1]
      · intro q hq
        rw [uI_a _ _ _ hq, e1 q hq]
      · intro k hk
        rw [nI_clamp (by omega), uI_k _ _ _ (by omega), e2 k (by omega)]
      · rw [nI_clamp (by omega)]
        have e9 : bdg rf (m_uI I1 (rf b 0) i (cN c + (lN (bdg rf I f i) - lN (dz (bdg rf I b) n i))).toInt32) b i = u32 (cN c + (lN (bdg rf I f i) - lN (dz (bdg rf I b) n i))).toInt32 := by
          unfold bdg
          rw [uI_s]
        rw [dv, e9, dv_congr (h := bdg rf I1 b) (fun k hk => by
          unfold bdg
          rw [uI_k _ _ _ (by omega)]), dv, dv, Nat.pow_succ]
        exact k2
    · cases hc

