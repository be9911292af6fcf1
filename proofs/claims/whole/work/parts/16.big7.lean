/-! ===== division without rest ===== -/
theorem u32_mul (a b : Int32) : u32 (a * b) = u32 a * u32 b % 2 ^ 32 := by
  unfold u32
  rw [Int32.toBitVec_mul, BitVec.toNat_mul]
theorem l_and32 {s : Nat} (h : s < 2 ^ 64) : lN s &&& 4294967295 = lN (s % 2 ^ 32) := by
  apply u64_inj
  rw [u64_lN, Nat.mod_eq_of_lt (by omega)]
  unfold u64
  rw [Int64.toBitVec_and, show (4294967295 : Int64).toBitVec = BitVec.ofNat 64 (2 ^ 32 - 1) by decide, BitVec.toNat_and, BitVec.toNat_ofNat, Nat.mod_eq_of_lt (by decide), Nat.and_two_pow_sub_one_eq_mod]
  have := u64_lN s
  rw [Nat.mod_eq_of_lt h] at this
  unfold u64 at this
  rw [this]
/-- g less L, on the machine -/
theorem dif_m {g L : Nat} (hg : g < 2 ^ 32) (hL : L < 2 ^ 33) (hl : L ≤ g + 2 ^ 32) : (0 ≤ lg_cmp (lN g - lN L) 0 ↔ L ≤ g) ∧ u32 (lN g - lN L).toInt32 = (if L ≤ g then g - L else (g + 2 ^ 32 - L) % 2 ^ 32) := by
  have e : lN g - lN L = Int64.ofInt ((g : Int) - L) := by rw [lN_int, lN_int, ← Int64.ofInt_sub]
  have e2 : (Int64.ofInt ((g : Int) - L)).toInt = (g : Int) - L := by
    rw [Int64.toInt_ofInt_of_le (by omega) (by omega)]
  refine ⟨?_, ?_⟩
  · rw [l_ge0, e, e2]
    omega
  · rw [e, l_ofInt_i]
    have := u32_ofInt ((g : Int) - L)
    split <;> omega
theorem odd_cancel {D T q k : Int} {W : Nat} (hD : D % 2 = 1) (h : T * D = D * q + k * (2 ^ 32) ^ W) (hT0 : 0 ≤ T) (hT : T < (2 ^ 32) ^ W) (hq0 : 0 ≤ q) (hq : q < (2 ^ 32) ^ W) : T = q := by
  have h1 : D * (T - q) = k * (2 ^ 32) ^ W := by grind
  have h2 : ((2 ^ 32) ^ W : Int) ∣ D * (T - q) := ⟨k, by rw [h1, Int.mul_comm]⟩
  have h3 : (2 ^ 32) ^ W ∣ D.natAbs * (T - q).natAbs := by
    have := Int.natAbs_dvd_natAbs.mpr h2
    rw [Int.natAbs_mul] at this
    have e : ((2 ^ 32) ^ W : Int).natAbs = (2 ^ 32) ^ W := by rw [Int.natAbs_pow]; rfl
    rw [e] at this
    exact this
  have hc : Nat.Coprime ((2 ^ 32) ^ W) D.natAbs := by
    rw [← Nat.pow_mul]
    apply Nat.Coprime.pow_left
    show Nat.gcd 2 D.natAbs = 1
    rw [Nat.gcd_rec, show D.natAbs % 2 = 1 by omega]
    rfl
  have h4 := hc.dvd_of_dvd_mul_left h3
  have h5 : (T - q).natAbs < (2 ^ 32) ^ W := by
    have e : (((2 ^ 32) ^ W : Nat) : Int) = (2 ^ 32) ^ W := by
      rw [Int.natCast_pow]; rfl
    omega
  have h6 := Nat.eq_zero_of_dvd_of_lt h4 h5
  omega
theorem div_step1 {B P Q c x y g g' bo T T' T0 D s : Nat} (hs : s = c + x * y) (h : T + x * P * D = T0 + c * (P * Q)) (hu : T' + g * (P * Q) = T + g' * (P * Q)) (hg : g' + s % B = g + bo * B) : T' + x * P * (D + y * Q) = T0 + (s / B + bo) * (P * (Q * B)) := by
  have e := Nat.div_add_mod s B
  generalize s / B = u at e ⊢
  generalize s % B = r at e hg
  have e2 : (B * u + r) * (P * Q) = (c + x * y) * (P * Q) := by rw [e, hs]
  have e3 : (g' + r) * (P * Q) = (g + bo * B) * (P * Q) := by rw [hg]
  grind
def pt_divideByOdd : mSH → mRF → mPT := m_pv 0 (fun sh rf b rest I J K => ∃ (f : Nat) (z d q : Int), rest = [.inr (.inr f)] ∧ BL sh rf ∧ f ≠ b ∧ BIs sh rf I b z ∧ BIs sh rf I f d ∧ d.natAbs % 2 = 1 ∧ z = d * q ∧ ∀ I1, BCh rf I I1 b → BIs sh rf I1 b q → K none I1 J)
def dboInv (rf : mRF) (b f W nd : Nat) (z d : Int) (I : mPI) (J : mPJ) : Nat → Nat → mCV := fun a b9 pc vs st I1 J1 => ∃ (i T0 : Nat) (v : Int32) (k : Int), st = [] ∧ J1 = J ∧ I (rf f 0) 0 * v = 1 ∧ (∀ q, q ≠ rf b 0 → I1 q = I q) ∧ i ≤ W ∧ a = W - i ∧ (T0 : Int) - (dv (2 ^ 32) (bdg rf I1 b) i : Int) + (dv (2 ^ 32) (bdg rf I1 b) i : Int) * (d.natAbs : Int) = (z.natAbs : Int) + k * (2 ^ 32) ^ W ∧
      ((pc = 29 ∧ b9 = 2 * (nd + W + 1) + 2 ∧ vs = [.inr (.inr b), .inr (.inr f), .inl (nI W), .inl v, .inl (nI i)] ∧ dv (2 ^ 32) (bdg rf I1 b) W = T0) ∨
       (i < W ∧ ∃ (x c j : Nat) (dg : Int32), x = u32 dg ∧ c ≤ x ∧
        ((pc = 61 ∧ b9 = (nd + W + 1) + (nd - j) + 1 ∧ j ≤ nd ∧ i + j ≤ W ∧ vs = [.inr (.inr b), .inr (.inr f), .inl (nI W), .inl v, .inl (nI i), .inl dg, .inr (.inl (lN x)), .inr (.inl (lN c)), .inl (nI j)] ∧ (j = 0 → c = 0 ∧ x * bdg rf I f 0 % 2 ^ 32 = bdg rf I1 b i) ∧ (1 ≤ j → bdg rf I1 b i = 0) ∧ dv (2 ^ 32) (bdg rf I1 b) W + x * (2 ^ 32) ^ i * dv (2 ^ 32) (bdg rf I f) j = T0 + c * ((2 ^ 32) ^ i * (2 ^ 32) ^ j)) ∨
         (bdg rf I1 b i = 0 ∧ ∃ e : Int,
          ((pc = 172 ∧ i + 1 ≤ j ∧ j ≤ W + nd ∧ b9 = (W - j) + 1 ∧ vs = [.inr (.inr b), .inr (.inr f), .inl (nI W), .inl v, .inl (nI i), .inl dg, .inr (.inl (lN c)), .inl (nI j)] ∧ (dv (2 ^ 32) (bdg rf I1 b) W : Int) + x * (2 ^ 32) ^ i * (d.natAbs : Int) = T0 + c * (2 ^ 32) ^ j + e * (2 ^ 32) ^ W) ∨
           (pc = 232 ∧ b9 = 0 ∧ vs = [.inr (.inr b), .inr (.inr f), .inl (nI W), .inl v, .inl (nI i), .inl dg] ∧ (dv (2 ^ 32) (bdg rf I1 b) W : Int) + x * (2 ^ 32) ^ i * (d.natAbs : Int) = T0 + e * (2 ^ 32) ^ W))))))
def pt_divideWhole : mSH → mRF → mPT := m_pv 0 (fun sh rf b rest I J K => ∃ (f s caps : Nat) (z d q : Int), rest = [.inr (.inr f), .inr (.inr s)] ∧ BSh sh rf s caps ∧ BL sh rf ∧ f ≠ s ∧ b ≠ s ∧ BIs sh rf I b z ∧ BIs sh rf I f d ∧ d ≠ 0 ∧ z = d * q ∧ d.natAbs < 2 ^ (32 * caps) ∧ caps < 2 ^ 20 ∧ ∀ I1, BCh2 rf I I1 b s → BIs sh rf I1 b q → K none I1 J)
def ct_X0_divideByOdd (sh : mSH) (rf : mRF) : Nat → Option (Nat × Bool × mPT) := fun k => match k with
  | 7 => some (2, false, pt_max sh rf)
  | 103 => some (1, false, pt_inverseOf sh rf)
  | 27 => some (1, true, pt_trim sh rf)
  | _ => none
set_option maxRecDepth 20000 in
theorem ce_X0_divideByOdd : m_CE RX0 1 22 cX0_divideByOdd 13 ct_X0_divideByOdd := by
  intro p l e s m args below meth c Q D cs ad sh rf N hx hb hml hown hts hK hi hN k n vf pt h
  unfold ct_X0_divideByOdd at h
  split at h
  · cases h
    exact m_CG_max hx hb hml hown hts hK hi hN (m_wck_ok (l := [(Cond.methodLink RX0 7 Lib.Math.max.name, 93), (Cond.static Lib.Math.max.name, 94), (Cond.initialized "java/lang/Math", 59), (Cond.code Lib.Math.max.name Lib.Math.max.code 2 (some .int), 95)]) (by decide +kernel)) ⟨Nat.le_of_ble_eq_true rfl, Nat.le_of_ble_eq_true rfl⟩
  · cases h
    exact m_CG_S mt_X0_inverseOf hx hb hml hown hts hK hi hN (m_wck_ok (l := [(Cond.methodLink RX0 103 yX0_inverseOf, 555), (Cond.static yX0_inverseOf, 556), (Cond.initialized RX0, 58), (Cond.code yX0_inverseOf cX0_inverseOf 3 (some .int), 557)]) (by decide +kernel)) ⟨by decide +kernel, by decide +kernel, by decide +kernel⟩ ⟨Nat.le_of_ble_eq_true rfl, Nat.le_of_ble_eq_true rfl⟩
  · cases h
    exact m_CG_V mt_X0_trim hx hb hml hown hts hK hi hN (ci := 0) m_pv_rec rfl rfl (m_wck_ok (l := [(Cond.methodLink RX0 27 yX0_trim, 179), (Cond.instanceMethod yX0_trim, 181), (Cond.selects RX0 yX0_trim yX0_trim, 0), (Cond.initialized RX0, 58), (Cond.code yX0_trim cX0_trim 1 none, 182)]) (by decide +kernel)) ⟨rfl, by decide +kernel, by decide +kernel, by decide +kernel⟩ ⟨Nat.le_of_ble_eq_true rfl, Nat.le_of_ble_eq_true rfl⟩
  · cases h
set_option maxHeartbeats 4000000 in
set_option maxRecDepth 100000 in
theorem mt_X0_divideByOdd : m_Mt yX0_divideByOdd cX0_divideByOdd 13 none 1 22 pt_divideByOdd := by
  refine m_methodG (fl := fl_X0) (kI := kI_X0) (kJ := kJ_X0) (ct := ct_X0_divideByOdd) (cd := cd_X0_divideByOdd) (cut := [(29, [0, 1, 2, 3, 4]), (61, [0, 1, 2, 3, 4, 5, 6, 8, 10]), (172, [0, 1, 2, 3, 4, 5, 8, 10]), (232, [0, 1, 2, 3, 4, 5])]) (rk := 0) (fu := 120) (by decide +kernel) fl_X0_ok kI_X0_ok kJ_X0_ok ce_X0_divideByOdd rfl ck_X0_divideByOdd ⟨_, _, rfl, rfl⟩ ?_
  intro sh rf As I J K hpt
  obtain ⟨b, rest, rfl, hb, f, z, d, q, rfl, hL, hfb, ⟨cap, n, hB, h1, h2, h4, h5, h6⟩, ⟨cap2, nd, hF, g1, g2, g4, g5, g6⟩, hodd, hzq, hK⟩ := hpt
  have hcap := hB.2.2
  have hcap2 := hF.2.2
  have hne := hB.ne
  have hfp : rf f 0 ≠ rf b 0 := fun e => hfb (hL f b hF.1 hB.1 e)
  have hf0 : f ≠ rf b 0 := hF.nex hB
  have hdg : ∀ I c i, bdg rf I c i < 2 ^ 32 := fun I c i => bdg_lt rf I c i
  have hnd : 1 ≤ nd := by
    rcases Nat.eq_zero_or_pos nd with e | e
    · have := (BIs.zero (sh := sh) g4 g6).mp e
      omega
    · exact e
  have hd0 : u32 (I (rf f 0) 0) % 2 = 1 := by
    obtain ⟨m, rfl⟩ : ∃ m, nd = m + 1 := ⟨nd - 1, by omega⟩
    have := dv_low (B := 2 ^ 32) (by decide) (hdg I f) m
    rw [g6] at this
    have e : bdg rf I f 0 = u32 (I (rf f 0) 0) := rfl
    omega
  obtain ⟨W, hW⟩ : ∃ W, W = n + 1 - nd := ⟨_, rfl⟩
  have eW : (if I b 1 - I f 1 + 1 < 0 then (0 : Int32) else I b 1 - I f 1 + 1) = nI W := by
    rw [h1, g1, show nI n - nI nd + 1 = nI (n + 1) - nI nd by rw [← nI_1]; grind]
    rcases Nat.lt_or_ge (n + 1) nd with e | e
    · rw [if_pos (pk_sneg (by omega) e), show W = 0 by omega]
      rfl
    · rw [pk_sub e, if_neg (nI_pos (by omega)), hW]
  have hMpos : 0 < (2 ^ 32) ^ W := Nat.pow_pos (by decide)
  have hqW : q.natAbs < (2 ^ 32) ^ W := by
    rcases Nat.lt_or_ge q.natAbs ((2 ^ 32) ^ W) with e | e
    · exact e
    · exfalso
      obtain ⟨m, rfl⟩ : ∃ m, nd = m + 1 := ⟨nd - 1, by omega⟩
      have a1 : (2 ^ 32) ^ m ≤ d.natAbs := by rw [← g6]; exact dv_top (fun e => g4 (by omega) (u32_0.mp e))
      have a2 : z.natAbs < (2 ^ 32) ^ n := by rw [← h6]; exact dv_lt (fun i _ => hdg I b i)
      have a3 : z.natAbs = d.natAbs * q.natAbs := by rw [hzq, Int.natAbs_mul]
      have a4 : (2 ^ 32) ^ m * (2 ^ 32) ^ W ≤ d.natAbs * q.natAbs := Nat.mul_le_mul a1 e
      rw [← Nat.pow_add] at a4
      have a5 : (2 ^ 32) ^ n ≤ (2 ^ 32) ^ (m + W) := Nat.pow_le_pow_right (by decide) (by omega)
      omega
  refine ⟨Nat.le_of_ble_eq_true rfl, dboInv rf b f W nd z d I J, ?_, ?_⟩
  · refine ⟨hb, hF.1, I b 1 - I f 1 + 1, 0, rfl, hF.1, m_inb_i hF.2.1 (vp_in_nI (n := 0) (by omega) (by omega)), _, rfl, hd0, fun v hv => ?_⟩
    have hz1 : ∃ k : Int, ((dv (2 ^ 32) (bdg rf I b) W : Nat) : Int) = (z.natAbs : Int) + k * (2 ^ 32) ^ W := by
      obtain ⟨m, hm⟩ : ∃ m, n = W + m := ⟨n - W, by omega⟩
      refine ⟨-((dv (2 ^ 32) (fun j => bdg rf I b (W + j)) m : Nat) : Int), ?_⟩
      rw [← h6, hm, dv_split W m, Int.natCast_add, Int.natCast_mul, Int.natCast_pow]
      have : ((2 ^ 32 : Nat) : Int) = 2 ^ 32 := rfl
      rw [this]
      grind
    obtain ⟨k, hk⟩ := hz1
    refine ⟨W, 2 * (nd + W + 1) + 2, 0, dv (2 ^ 32) (bdg rf I b) W, v, k, rfl, rfl, hv, fun _ _ => rfl, Nat.zero_le _, rfl, ?_, Or.inl ⟨rfl, rfl, ?_, rfl⟩⟩
    · show ((dv (2 ^ 32) (bdg rf I b) W : Nat) : Int) - ((0 : Nat) : Int) + ((0 : Nat) : Int) * _ = _
      rw [hk]
      simp
    · rw [← eW]
      rfl
  · intro pc ks a b9 vs st I1 J1 hc hI
    obtain ⟨i, T0, v, k, rfl, rfl, hv, e1, hi, rfl, hE, e5⟩ := hI
    have hIb : I1 b = I b := e1 b hne
    have hIf : I1 f = I f := e1 f hf0
    rcases m_cu1 hc with ⟨rfl, rfl⟩ | hc
    · obtain ⟨rfl, rfl, e3⟩ : b9 = 2 * (nd + W + 1) + 2 ∧ vs = [.inr (.inr b), .inr (.inr f), .inl (nI W), .inl v, .inl (nI i)] ∧ dv (2 ^ 32) (bdg rf I1 b) W = T0 := by
        rcases e5 with ⟨-, e⟩ | ⟨-, x, c, j, dg, -, -, ⟨e, -⟩ | ⟨-, e0, ⟨e, -⟩ | ⟨e, -⟩⟩⟩
        · exact e
        · cases e
        · cases e
        · cases e
      clear e5
      refine ⟨fun h => ?_, fun h => ?_⟩
      · have hge := (nI_leI (by omega) (by omega)).mp h
        obtain rfl : i = W := by omega
        have hT : dv (2 ^ 32) (bdg rf I1 b) i = q.natAbs := by
          have hzN : (z.natAbs : Int) = (d.natAbs : Int) * (q.natAbs : Int) := by rw [hzq, Int.natAbs_mul, Int.natCast_mul]
          have hlt : dv (2 ^ 32) (bdg rf I1 b) i < (2 ^ 32) ^ i := dv_lt (fun k _ => hdg I1 b k)
          have e : (((2 ^ 32) ^ i : Nat) : Int) = (2 ^ 32) ^ i := by rw [Int.natCast_pow]; rfl
          have := odd_cancel (D := (d.natAbs : Int)) (T := (dv (2 ^ 32) (bdg rf I1 b) i : Int)) (q := (q.natAbs : Int)) (k := k) (W := i) (by omega) (by rw [← hzN, ← hE, ← e3]; grind) (by omega) (by omega) (by omega) (by omega)
          omega
        have fin : ∀ s : Int32, (q < 0 → s = 1) → (0 < q → s = 0) → pt_trim sh rf [.inr (.inr b)] (m_uI (m_uI I1 b 1 (nI i)) b 2 s) J1 K := by
          intro s s1 s2
          refine ⟨b, [], rfl, hb, cap, i, q, rfl, hB, ?_, by omega, ?_, ?_, ?_, ?_⟩
          · rw [uI_k _ _ _ (by decide), uI_s]
          · rw [dv_congr (h := bdg rf I1 b) (fun k hk => by unfold bdg; rw [uI_a _ _ _ hne.symm, uI_a _ _ _ hne.symm]), hT]
          · intro e; rw [uI_s]; exact s1 e
          · intro e; rw [uI_s]; exact s2 e
          · intro I2 k1 k2
            refine hK I2 (fun e k3 k4 => ?_) k2
            rw [k1 e k3, uI_a _ _ _ k3, uI_a _ _ _ k3, e1 e k4]
        refine ⟨hb, hb, hF.1, fun h7 => ?_, fun h7 => ?_⟩
        · have h7 : m_uI I1 b 1 (nI i) b 2 = m_uI I1 b 1 (nI i) f 2 := h7
          rw [uI_k _ _ _ (by decide), uI_a _ _ _ hfb, hIb, hIf, h5, g5] at h7
          refine ⟨hb, Or.inl rfl, fin 0 (fun e => ?_) (fun _ => rfl)⟩
          exfalso
          by_cases q2 : d < 0
          · rw [if_pos q2, if_neg (by rw [hzq]; have := Int.mul_pos_of_neg_of_neg q2 e; omega)] at h7; exact absurd h7 (by decide)
          · rw [if_neg q2, if_pos (by rw [hzq]; exact Int.mul_neg_of_pos_of_neg (by omega) e)] at h7; exact absurd h7 (by decide)
        · have h7 : ¬ m_uI I1 b 1 (nI i) b 2 = m_uI I1 b 1 (nI i) f 2 := h7
          rw [uI_k _ _ _ (by decide), uI_a _ _ _ hfb, hIb, hIf, h5, g5] at h7
          refine ⟨hb, Or.inr rfl, fin 1 (fun _ => rfl) (fun e => ?_)⟩
          exfalso
          by_cases q2 : d < 0
          · rw [if_pos q2, if_pos (by rw [hzq]; exact Int.mul_neg_of_neg_of_pos q2 e)] at h7; exact absurd rfl h7
          · rw [if_neg q2, if_neg (by rw [hzq]; have := Int.mul_pos (show 0 < d by omega) e; omega)] at h7; exact absurd rfl h7
      · have hlt : i < W := by
          rcases Nat.lt_or_ge i W with e | e
          · exact e
          · exact absurd (nI_le e (by omega)) h
        obtain ⟨dg, hdg9⟩ : ∃ dg, dg = I1 (rf b 0) (nI i).toNatClampNeg * v := ⟨_, rfl⟩
        refine ⟨hb, m_inb_i hB.2.1 (vp_in_nI (by omega) (by omega)), W - i, (nd + W + 1) + (nd - 0) + 1, Or.inr ⟨rfl, by omega⟩, i, T0, v, k, rfl, rfl, hv, e1, hi, rfl, hE, Or.inr ⟨hlt, u32 dg, 0, 0, dg, rfl, Nat.zero_le _, Or.inl ⟨rfl, rfl, Nat.zero_le _, by omega, ?_, fun _ => ⟨rfl, ?_⟩, fun e => absurd e (by omega), ?_⟩⟩⟩
        · rw [l_mask, ← hdg9]
          rfl
        · rw [hdg9, nI_clamp (by omega)]
          show u32 (I1 (rf b 0) i * v) * u32 (I (rf f 0) 0) % 2 ^ 32 = u32 (I1 (rf b 0) i)
          rw [← u32_mul, Int32.mul_assoc, Int32.mul_comm v, hv, Int32.mul_one]
        · rw [e3]
          simp [dv]
    rcases m_cu1 hc with ⟨rfl, rfl⟩ | hc
    · obtain ⟨hlt, x, c, j, dg, hx, hcx, rfl, hj, hij, rfl, e6, e7, e8⟩ : i < W ∧ ∃ (x c j : Nat) (dg : Int32), x = u32 dg ∧ c ≤ x ∧ b9 = (nd + W + 1) + (nd - j) + 1 ∧ j ≤ nd ∧ i + j ≤ W ∧ vs = [.inr (.inr b), .inr (.inr f), .inl (nI W), .inl v, .inl (nI i), .inl dg, .inr (.inl (lN x)), .inr (.inl (lN c)), .inl (nI j)] ∧ (j = 0 → c = 0 ∧ x * bdg rf I f 0 % 2 ^ 32 = bdg rf I1 b i) ∧ (1 ≤ j → bdg rf I1 b i = 0) ∧ dv (2 ^ 32) (bdg rf I1 b) W + x * (2 ^ 32) ^ i * dv (2 ^ 32) (bdg rf I f) j = T0 + c * ((2 ^ 32) ^ i * (2 ^ 32) ^ j) := by
        rcases e5 with ⟨e, -⟩ | ⟨e9, x, c, j, dg, e10, e11, ⟨-, e⟩ | ⟨-, e0, ⟨e, -⟩ | ⟨e, -⟩⟩⟩
        · cases e
        · exact ⟨e9, x, c, j, dg, e10, e11, e⟩
        · cases e
        · cases e
      clear e5
      have hx32 : x < 2 ^ 32 := by rw [hx]; exact u32_lt dg
      have hp : ∀ t, (((2 ^ 32) ^ t : Nat) : Int) = (2 ^ 32) ^ t := fun t => by rw [Int.natCast_pow]; rfl
      refine ⟨hF.1, fun h => ?_, fun h => ?_⟩
      · have h : I1 f 1 ≤ nI j := h
        rw [hIf, g1] at h
        have hge := (nI_leI (by omega) (by omega)).mp h
        obtain rfl : j = nd := by omega
        refine ⟨hF.1, W - i, (W - (i + j)) + 1, Or.inr ⟨rfl, by omega⟩, i, T0, v, k, rfl, rfl, hv, e1, hi, rfl, hE, Or.inr ⟨hlt, x, c, i + j, dg, hx, hcx, Or.inr ⟨e7 hnd, 0, Or.inl ⟨rfl, by omega, by omega, rfl, ?_, ?_⟩⟩⟩⟩
        · rw [← nI_add, ← g1, ← hIf]
        · rw [g6] at e8
          have e9 := congrArg (fun t : Nat => (t : Int)) e8
          simp only [Int.natCast_add, Int.natCast_mul, hp] at e9
          rw [Int.zero_mul, Int.add_zero, Int.pow_add]
          exact e9
      · have h : ¬ I1 f 1 ≤ nI j := h
        rw [hIf, g1] at h
        have hjl : j < nd := by
          rcases Nat.lt_or_ge j nd with e | e
          · exact e
          · exact absurd (nI_le e (by omega)) h
        refine ⟨fun h7 => ?_, fun h7 => ?_⟩
        · have h7 : nI W ≤ nI i + nI j := h7
          rw [nI_add] at h7
          have hge := (nI_leI (by omega) (by omega)).mp h7
          have hij' : i + j = W := by omega
          obtain ⟨m, hm⟩ : ∃ m, nd = j + m := ⟨nd - j, by omega⟩
          refine ⟨hF.1, W - i, (W - (i + nd)) + 1, Or.inr ⟨rfl, by omega⟩, i, T0, v, k, rfl, rfl, hv, e1, hi, rfl, hE, Or.inr ⟨hlt, x, c, i + nd, dg, hx, hcx, Or.inr ⟨e7 (by omega), (c : Int) + (x : Int) * ((dv (2 ^ 32) (fun t => bdg rf I f (j + t)) m : Nat) : Int) - (c : Int) * (2 ^ 32) ^ m, Or.inl ⟨rfl, by omega, by omega, rfl, ?_, ?_⟩⟩⟩⟩
          · rw [← nI_add, ← g1, ← hIf]
          · have hd : (d.natAbs : Int) = ((dv (2 ^ 32) (bdg rf I f) j : Nat) : Int) + (2 ^ 32) ^ j * ((dv (2 ^ 32) (fun t => bdg rf I f (j + t)) m : Nat) : Int) := by
              rw [← g6, hm, dv_split j m, Int.natCast_add, Int.natCast_mul, hp]
            have e9 := congrArg (fun t : Nat => (t : Int)) e8
            simp only [Int.natCast_add, Int.natCast_mul, hp] at e9
            rw [hd, hm, ← hij', ← Nat.add_assoc, Int.pow_add _ (i + j), Int.pow_add _ i]
            grind
        · have h7 : ¬ nI W ≤ nI i + nI j := h7
          rw [nI_add] at h7
          have hijl : i + j < W := by
            rcases Nat.lt_or_ge (i + j) W with e | e
            · exact e
            · exact absurd (nI_le e (by omega)) h7
          have e6' : nI i + nI j = nI (i + j) := nI_add i j
          have i1 : m_inb sh (rf b 0) 0 (nI i + nI j) := by
            rw [e6']
            exact m_inb_i hB.2.1 (vp_in_nI (by omega) (by omega))
          have d2 := hdg I f j
          have d3 := hdg I1 b (i + j)
          have hpr : x * bdg rf I f j ≤ x * (2 ^ 32 - 1) := Nat.mul_le_mul_left _ (by omega)
          have hpr2 : x * (2 ^ 32 - 1) ≤ (2 ^ 32 - 1) * (2 ^ 32 - 1) := Nat.mul_le_mul_right _ (by omega)
          obtain ⟨s, hs⟩ : ∃ s, s = c + x * bdg rf I f j := ⟨_, rfl⟩
          have hs64 : s < 2 ^ 64 := by omega
          have hsx : s ≤ x * 2 ^ 32 := by omega
          have es : lN c + lN x * ((I1 (rf f 0) (nI j).toNatClampNeg).toInt64 &&& 4294967295) = lN s := by
            rw [nI_clamp (by omega), l_mask, e1 _ hfp, lN_mul, lN_add, hs]
            rfl
          have ed : ((I1 (rf b 0) (nI i + nI j).toNatClampNeg).toInt64 &&& 4294967295) - (lN s &&& 4294967295) = lN (bdg rf I1 b (i + j)) - lN (s % 2 ^ 32) := by
            rw [e6', nI_clamp (by omega), l_mask, l_and32 hs64]
            rfl
          obtain ⟨m1, m2⟩ := dif_m (g := bdg rf I1 b (i + j)) (L := s % 2 ^ 32) d3 (by omega) (by omega)
          have main : ∀ (bo : Nat) (g' : Nat), u32 (lN (bdg rf I1 b (i + j)) - lN (s % 2 ^ 32)).toInt32 = g' → g' + s % 2 ^ 32 = bdg rf I1 b (i + j) + bo * 2 ^ 32 → bo ≤ 1 → (bo = 1 → 1 ≤ s % 2 ^ 32) →
              ∃ a1 b1, (a1 < W - i ∨ a1 = W - i ∧ b1 < (nd + W + 1) + (nd - j) + 1) ∧ dboInv rf b f W nd z d I J1 a1 b1 61 [.inr (.inr b), .inr (.inr f), .inl (nI W), .inl v, .inl (nI i), .inl dg, .inr (.inl (lN x)), .inr (.inl (lN (s / 2 ^ 32 + bo))), .inl (nI j + 1)] [] (m_uI I1 (rf b 0) (i + j) (lN (bdg rf I1 b (i + j)) - lN (s % 2 ^ 32)).toInt32) J1 := by
            intro bo g' hg1 hg2 hbo hbo1
            have hlow : ∀ t, t ≠ i + j → bdg rf (m_uI I1 (rf b 0) (i + j) (lN (bdg rf I1 b (i + j)) - lN (s % 2 ^ 32)).toInt32) b t = bdg rf I1 b t := fun t ht => by unfold bdg; rw [uI_k _ _ _ ht]
            have hu := dv_upd (B := 2 ^ 32) (g := bdg rf I1 b) (g' := bdg rf (m_uI I1 (rf b 0) (i + j) (lN (bdg rf I1 b (i + j)) - lN (s % 2 ^ 32)).toInt32) b) (k := i + j) (v := g') (by unfold bdg; rw [uI_s]; exact hg1) hlow (N := W) hijl
            rw [Nat.pow_add] at hu
            refine ⟨W - i, (nd + W + 1) + (nd - (j + 1)) + 1, Or.inr ⟨rfl, by omega⟩, i, T0, v, k, rfl, rfl, hv, fun t ht => by rw [uI_a _ _ _ ht, e1 t ht], hi, rfl, ?_, Or.inr ⟨hlt, x, s / 2 ^ 32 + bo, j + 1, dg, hx, ?_, Or.inl ⟨rfl, rfl, by omega, by omega, by rw [← nI_1], fun e => absurd e (by omega), fun _ => ?_, ?_⟩⟩⟩
            · rw [dv_congr (fun t ht => hlow t (by omega))]
              exact hE
            · rcases (show bo = 0 ∨ bo = 1 by omega) with e | e
              · omega
              · have := hbo1 e
                omega
            · rcases Nat.eq_zero_or_pos j with e | e
              · subst e
                obtain ⟨c0, c1⟩ := e6 rfl
                unfold bdg
                rw [Nat.add_zero, uI_s]
                have c2 : s % 2 ^ 32 = bdg rf I1 b i := by rw [hs, c0, Nat.zero_add]; exact c1
                have c3 : (lN (bdg rf I1 b (i + 0)) - lN (s % 2 ^ 32)).toInt32 = 0 := by
                  rw [c2, Nat.add_zero, lN_sub (Nat.le_refl _), Nat.sub_self]
                  rfl
                rw [Nat.add_zero] at c3
                show u32 (lN (bdg rf I1 b i) - lN (s % 2 ^ 32)).toInt32 = 0
                rw [c3]
                rfl
              · rw [hlow i (by omega)]
                exact e7 e
            · rw [dv, show (2 ^ 32) ^ (j + 1) = (2 ^ 32) ^ j * 2 ^ 32 from Nat.pow_succ _ _]
              exact div_step1 hs e8 hu hg2
          refine ⟨hF.1, m_inb_i hF.2.1 (vp_in_nI (by omega) (by omega)), hb, i1, hb, i1, fun h8 => ?_, fun h8 => ?_⟩
          · rw [es, ed] at h8
            have h9 := m1.mp h8
            rw [if_pos h9] at m2
            have := main 0 _ m2 (by omega) (by omega) (fun e => absurd e (by decide))
            rw [Nat.add_zero] at this
            obtain ⟨a1, b1, r1, r2⟩ := this
            refine ⟨a1, b1, r1, ?_⟩
            rw [es, ed, e6', nI_clamp (by omega), l_shr32 hs64]
            rw [show lN (s / 2 ^ 32) + (0 : Int32).toInt64 = lN (s / 2 ^ 32) from Int64.add_zero _]
            exact r2
          · rw [es, ed] at h8
            have h9 : ¬ s % 2 ^ 32 ≤ bdg rf I1 b (i + j) := fun e => h8 (m1.mpr e)
            rw [if_neg h9, show (bdg rf I1 b (i + j) + 2 ^ 32 - s % 2 ^ 32) % 2 ^ 32 = bdg rf I1 b (i + j) + 2 ^ 32 - s % 2 ^ 32 from Nat.mod_eq_of_lt (by omega)] at m2
            obtain ⟨a1, b1, r1, r2⟩ := main 1 _ m2 (by omega) (by omega) (fun _ => by omega)
            refine ⟨a1, b1, r1, ?_⟩
            rw [es, ed, e6', nI_clamp (by omega), l_shr32 hs64]
            rw [show lN (s / 2 ^ 32) + (1 : Int32).toInt64 = lN (s / 2 ^ 32 + 1) from lN_add _ 1]
            exact r2
    rcases m_cu1 hc with ⟨rfl, rfl⟩ | hc
    · obtain ⟨hlt, x, c, j, dg, hx, hcx, h0, e, hij, hjW, rfl, rfl, e8⟩ : i < W ∧ ∃ (x c j : Nat) (dg : Int32), x = u32 dg ∧ c ≤ x ∧ bdg rf I1 b i = 0 ∧ ∃ e : Int, i + 1 ≤ j ∧ j ≤ W + nd ∧ b9 = (W - j) + 1 ∧ vs = [.inr (.inr b), .inr (.inr f), .inl (nI W), .inl v, .inl (nI i), .inl dg, .inr (.inl (lN c)), .inl (nI j)] ∧ (dv (2 ^ 32) (bdg rf I1 b) W : Int) + x * (2 ^ 32) ^ i * (d.natAbs : Int) = T0 + c * (2 ^ 32) ^ j + e * (2 ^ 32) ^ W := by
        rcases e5 with ⟨e, -⟩ | ⟨e9, x, c, j, dg, e10, e11, ⟨e, -⟩ | ⟨e12, e0, ⟨-, e⟩ | ⟨e, -⟩⟩⟩
        · cases e
        · cases e
        · exact ⟨e9, x, c, j, dg, e10, e11, e12, e0, e⟩
        · cases e
      clear e5
      have hx32 : x < 2 ^ 32 := by rw [hx]; exact u32_lt dg
      have hp : ∀ t, (((2 ^ 32) ^ t : Nat) : Int) = (2 ^ 32) ^ t := fun t => by rw [Int.natCast_pow]; rfl
      refine ⟨fun h => ?_, fun h => ?_⟩
      · have hge := (nI_leI (by omega) (by omega)).mp h
        obtain ⟨m, hm⟩ : ∃ m, j = W + m := ⟨j - W, by omega⟩
        refine ⟨W - i, 0, Or.inr ⟨rfl, by omega⟩, i, T0, v, k, rfl, rfl, hv, e1, hi, rfl, hE, Or.inr ⟨hlt, x, c, j, dg, hx, hcx, Or.inr ⟨h0, (c : Int) * (2 ^ 32) ^ m + e, Or.inr ⟨rfl, rfl, rfl, ?_⟩⟩⟩⟩
        rw [e8, hm, Int.pow_add]
        grind
      · have hjl : j < W := by
          rcases Nat.lt_or_ge j W with q1 | q1
          · exact q1
          · exact absurd (nI_le q1 (by omega)) h
        refine ⟨fun h7 => ?_, fun h7 => ?_⟩
        · have hc0 : c = 0 := by
            have h7 : lg_cmp (lN c) (lN 0) = 0 := h7
            rw [lg_cmp_N (by omega) (by decide)] at h7
            unfold cmpN at h7
            rcases Nat.eq_zero_or_pos c with q1 | q1
            · exact q1
            · rw [if_neg (by omega), if_neg (by omega)] at h7
              exact absurd h7 (by decide)
          refine ⟨W - i, 0, Or.inr ⟨rfl, by omega⟩, i, T0, v, k, rfl, rfl, hv, e1, hi, rfl, hE, Or.inr ⟨hlt, x, c, j, dg, hx, hcx, Or.inr ⟨h0, e, Or.inr ⟨rfl, rfl, rfl, ?_⟩⟩⟩⟩
          rw [e8, hc0]
          simp
        · have hc0 : 1 ≤ c := by
            have h7 : ¬ lg_cmp (lN c) (lN 0) = 0 := h7
            rw [lg_cmp_N (by omega) (by decide)] at h7
            unfold cmpN at h7
            rcases Nat.eq_zero_or_pos c with q1 | q1
            · rw [if_neg (by omega), if_pos q1] at h7
              exact absurd rfl h7
            · exact q1
          have i1 : m_inb sh (rf b 0) 0 (nI j) := m_inb_i hB.2.1 (vp_in_nI (by omega) (by omega))
          have d3 := hdg I1 b j
          have ed : ((I1 (rf b 0) (nI j).toNatClampNeg).toInt64 &&& 4294967295) - lN c = lN (bdg rf I1 b j) - lN c := by
            rw [nI_clamp (by omega), l_mask]
            rfl
          obtain ⟨m1, m2⟩ := dif_m (g := bdg rf I1 b j) (L := c) d3 (by omega) (by omega)
          have hlow : ∀ t, t ≠ j → bdg rf (m_uI I1 (rf b 0) j (lN (bdg rf I1 b j) - lN c).toInt32) b t = bdg rf I1 b t := fun t ht => by unfold bdg; rw [uI_k _ _ _ ht]
          have hstep : ∀ (bo g' : Nat), u32 (lN (bdg rf I1 b j) - lN c).toInt32 = g' → g' + c = bdg rf I1 b j + bo * 2 ^ 32 → ((dv (2 ^ 32) (bdg rf (m_uI I1 (rf b 0) j (lN (bdg rf I1 b j) - lN c).toInt32) b) W : Nat) : Int) + x * (2 ^ 32) ^ i * (d.natAbs : Int) = T0 + bo * (2 ^ 32) ^ (j + 1) + e * (2 ^ 32) ^ W := by
            intro bo g' q1 q2
            have hu := dv_upd (B := 2 ^ 32) (g := bdg rf I1 b) (g' := bdg rf (m_uI I1 (rf b 0) j (lN (bdg rf I1 b j) - lN c).toInt32) b) (k := j) (v := g') (by unfold bdg; rw [uI_s]; exact q1) hlow (N := W) hjl
            have hu2 := congrArg (fun t : Nat => (t : Int)) hu
            have q3 := congrArg (fun t : Nat => (t : Int)) q2
            simp only [Int.natCast_add, Int.natCast_mul, hp] at hu2 q3
            rw [show ((2 ^ 32 : Nat) : Int) = 2 ^ 32 from rfl] at q3
            rw [show ((2 : Int) ^ 32) ^ (j + 1) = (2 ^ 32) ^ j * 2 ^ 32 from Int.pow_succ _ _]
            generalize ((2 : Int) ^ 32) ^ j = P at *
            generalize ((2 : Int) ^ 32) ^ i = P2 at *
            generalize ((2 : Int) ^ 32) ^ W = P3 at *
            have q4 : (g' + c : Int) * P = (bdg rf I1 b j + bo * 2 ^ 32) * P := by rw [q3]
            grind
          refine ⟨hb, i1, hb, i1, fun h8 => ?_, fun h8 => ?_⟩
          · rw [ed] at h8
            have h9 := m1.mp h8
            rw [if_pos h9] at m2
            refine ⟨W - i, (W - (j + 1)) + 1, Or.inr ⟨rfl, by omega⟩, i, T0, v, k, rfl, rfl, hv, fun t ht => by rw [uI_a _ _ _ ht, e1 t ht], hi, rfl, ?_, Or.inr ⟨hlt, x, 0, j + 1, dg, hx, Nat.zero_le _, Or.inr ⟨?_, e, Or.inl ⟨rfl, by omega, by omega, rfl, ?_, ?_⟩⟩⟩⟩
            · rw [ed, nI_clamp (by omega), dv_congr (fun t ht => hlow t (by omega))]
              exact hE
            · rw [ed, nI_clamp (by omega), hlow i (by omega)]
              exact h0
            · rw [← nI_1]
              rfl
            · rw [ed, nI_clamp (by omega)]
              exact hstep 0 _ m2 (by omega)
          · rw [ed] at h8
            have h9 : ¬ c ≤ bdg rf I1 b j := fun q1 => h8 (m1.mpr q1)
            rw [if_neg h9, Nat.mod_eq_of_lt (by omega)] at m2
            refine ⟨W - i, (W - (j + 1)) + 1, Or.inr ⟨rfl, by omega⟩, i, T0, v, k, rfl, rfl, hv, fun t ht => by rw [uI_a _ _ _ ht, e1 t ht], hi, rfl, ?_, Or.inr ⟨hlt, x, 1, j + 1, dg, hx, by omega, Or.inr ⟨?_, e, Or.inl ⟨rfl, by omega, by omega, rfl, ?_, ?_⟩⟩⟩⟩
            · rw [ed, nI_clamp (by omega), dv_congr (fun t ht => hlow t (by omega))]
              exact hE
            · rw [ed, nI_clamp (by omega), hlow i (by omega)]
              exact h0
            · rw [← nI_1]
              rfl
            · rw [ed, nI_clamp (by omega)]
              exact hstep 1 _ m2 (by omega)
    rcases m_cu1 hc with ⟨rfl, rfl⟩ | hc
    · obtain ⟨hlt, x, dg, hx, h0, e, rfl, rfl, e8⟩ : i < W ∧ ∃ (x : Nat) (dg : Int32), x = u32 dg ∧ bdg rf I1 b i = 0 ∧ ∃ e : Int, b9 = 0 ∧ vs = [.inr (.inr b), .inr (.inr f), .inl (nI W), .inl v, .inl (nI i), .inl dg] ∧ (dv (2 ^ 32) (bdg rf I1 b) W : Int) + x * (2 ^ 32) ^ i * (d.natAbs : Int) = T0 + e * (2 ^ 32) ^ W := by
        rcases e5 with ⟨e, -⟩ | ⟨e9, x, c, j, dg, e10, e11, ⟨e, -⟩ | ⟨e12, e0, ⟨e, -⟩ | ⟨-, e⟩⟩⟩
        · cases e
        · cases e
        · cases e
        · exact ⟨e9, x, dg, e10, e12, e0, e⟩
      clear e5
      have hp : ∀ t, (((2 ^ 32) ^ t : Nat) : Int) = (2 ^ 32) ^ t := fun t => by rw [Int.natCast_pow]; rfl
      have hlow : ∀ t, t ≠ i → bdg rf (m_uI I1 (rf b 0) i dg) b t = bdg rf I1 b t := fun t ht => by unfold bdg; rw [uI_k _ _ _ ht]
      have hu := dv_upd (B := 2 ^ 32) (g := bdg rf I1 b) (g' := bdg rf (m_uI I1 (rf b 0) i dg) b) (k := i) (v := x) (by unfold bdg; rw [uI_s, hx]) hlow (N := W) hlt
      rw [h0, Nat.zero_mul, Nat.add_zero] at hu
      refine ⟨hb, m_inb_i hB.2.1 (vp_in_nI (by omega) (by omega)), W - (i + 1), 2 * (nd + W + 1) + 2, Or.inl (by omega), i + 1, dv (2 ^ 32) (bdg rf (m_uI I1 (rf b 0) i dg) b) W, v, k + e, rfl, rfl, hv, ?_, by omega, rfl, ?_, Or.inl ⟨rfl, rfl, ?_, ?_⟩⟩
      · intro t ht
        rw [uI_a _ _ _ ht, e1 t ht]
      · rw [nI_clamp (by omega)]
        have e9 : bdg rf (m_uI I1 (rf b 0) i dg) b i = x := by unfold bdg; rw [uI_s, hx]
        have e10 : dv (2 ^ 32) (bdg rf (m_uI I1 (rf b 0) i dg) b) i = dv (2 ^ 32) (bdg rf I1 b) i := dv_congr (fun t ht => hlow t (by omega))
        rw [dv, e9, e10, hu, Int.natCast_add, Int.natCast_add, Int.natCast_mul, hp]
        grind
      · rw [← nI_1]
      · rw [nI_clamp (by omega)]
    · cases hc

def ct_X0_divideWhole (sh : mSH) (rf : mRF) : Nat → Option (Nat × Bool × mPT) := fun k => match k with
  | 93 => some (1, true, pt_twos sh rf)
  | 66 => some (2, true, pt_setBig sh rf)
  | 97 => some (2, true, pt_shiftRight sh rf)
  | 100 => some (2, true, pt_divideByOdd sh rf)
  | _ => none
set_option maxRecDepth 20000 in
theorem ce_X0_divideWhole : m_CE RX0 2 81 cX0_divideWhole 4 ct_X0_divideWhole := by
  intro p l e s m args below meth c Q D cs ad sh rf N hx hb hml hown hts hK hi hN k n vf pt h
  unfold ct_X0_divideWhole at h
  split at h
  · cases h
    exact m_CG_V mt_X0_twos hx hb hml hown hts hK hi hN (ci := 0) m_pv_rec rfl rfl (m_wck_ok (l := [(Cond.methodLink RX0 93 yX0_twos, 540), (Cond.instanceMethod yX0_twos, 541), (Cond.selects RX0 yX0_twos yX0_twos, 542), (Cond.initialized RX0, 58), (Cond.code yX0_twos cX0_twos 2 (some .int), 543)]) (by decide +kernel)) ⟨rfl, by decide +kernel, by decide +kernel, by decide +kernel⟩ ⟨Nat.le_of_ble_eq_true rfl, Nat.le_of_ble_eq_true rfl⟩
  · cases h
    exact m_CG_V mt_X0_setBig hx hb hml hown hts hK hi hN (ci := 0) m_pv_rec rfl rfl (m_wck_ok (l := [(Cond.methodLink RX0 66 yX0_setBig, 351), (Cond.instanceMethod yX0_setBig, 352), (Cond.selects RX0 yX0_setBig yX0_setBig, 353), (Cond.initialized RX0, 58), (Cond.code yX0_setBig cX0_setBig 2 none, 354)]) (by decide +kernel)) ⟨rfl, by decide +kernel, by decide +kernel, by decide +kernel⟩ ⟨Nat.le_of_ble_eq_true rfl, Nat.le_of_ble_eq_true rfl⟩
  · cases h
    exact m_CG_V mt_X0_shiftRight hx hb hml hown hts hK hi hN (ci := 0) m_pv_rec rfl rfl (m_wck_ok (l := [(Cond.methodLink RX0 97 yX0_shiftRight, 547), (Cond.instanceMethod yX0_shiftRight, 548), (Cond.selects RX0 yX0_shiftRight yX0_shiftRight, 549), (Cond.initialized RX0, 58), (Cond.code yX0_shiftRight cX0_shiftRight 8 none, 550)]) (by decide +kernel)) ⟨rfl, by decide +kernel, by decide +kernel, by decide +kernel⟩ ⟨Nat.le_of_ble_eq_true rfl, Nat.le_of_ble_eq_true rfl⟩
  · cases h
    exact m_CG_V mt_X0_divideByOdd hx hb hml hown hts hK hi hN (ci := 0) m_pv_rec rfl rfl (m_wck_ok (l := [(Cond.methodLink RX0 100 yX0_divideByOdd, 551), (Cond.instanceMethod yX0_divideByOdd, 552), (Cond.selects RX0 yX0_divideByOdd yX0_divideByOdd, 553), (Cond.initialized RX0, 58), (Cond.code yX0_divideByOdd cX0_divideByOdd 13 none, 554)]) (by decide +kernel)) ⟨rfl, by decide +kernel, by decide +kernel, by decide +kernel⟩ ⟨Nat.le_of_ble_eq_true rfl, Nat.le_of_ble_eq_true rfl⟩
  · cases h
set_option maxHeartbeats 4000000 in
set_option maxRecDepth 100000 in
theorem mt_X0_divideWhole : m_Mt yX0_divideWhole cX0_divideWhole 4 none 2 81 pt_divideWhole := by
  refine m_method0 80 (fl := fl_X0) (kI := kI_X0) (kJ := kJ_X0) (ct := ct_X0_divideWhole) (cd := cd_X0_divideWhole) (rk := 0) (by decide +kernel) fl_X0_ok kI_X0_ok kJ_X0_ok ce_X0_divideWhole rfl ck_X0_divideWhole ⟨_, _, rfl, rfl⟩ ?_
  intro sh rf As I J K hpt
  obtain ⟨b, rest, rfl, hb, f, s, caps, z, d, q, rfl, hS, hL, hfs, hbs, hz, hd, hd0, hzq, hlim, hcs, hK⟩ := hpt
  obtain ⟨capf, hF⟩ := hd.sh
  refine ⟨Nat.le_of_ble_eq_true rfl, f, [], rfl, hF.1, d, rfl, hd, fun e => absurd e hd0, fun t y hty ht => ?_⟩
  refine ⟨s, [.inr (.inr f)], rfl, hS.1, caps, f, d, rfl, hS, hL, hfs, hd, hlim, fun I1 k1 k2 => ?_⟩
  have hz1 := hz.other hL hS hbs k1
  obtain ⟨d', hd', hodd⟩ : ∃ d' : Int, d = 2 ^ t * d' ∧ d'.natAbs % 2 = 1 := by
    refine ⟨d.sign * ((2 * y + 1 : Nat) : Int), ?_, ?_⟩
    · have e1 := Int.sign_mul_natAbs d
      have e2 : ((2 : Nat) : Int) = 2 := rfl
      rw [hty, Int.natCast_mul, Int.natCast_pow, e2] at e1
      rw [Int.mul_left_comm]
      exact e1.symm
    · rw [Int.natAbs_mul, Int.natAbs_natCast]
      have : d.sign.natAbs = 1 := by
        rcases Int.lt_trichotomy d 0 with e | e | e
        · rw [Int.sign_eq_neg_one_of_neg e]; rfl
        · exact absurd e hd0
        · rw [Int.sign_eq_one_of_pos e]; rfl
      rw [this]
      omega
  refine ⟨s, [.inl (nI t)], rfl, hS.1, t, d, d', rfl, ht, k2, hd', fun I2 k3 k4 => ?_⟩
  have hz2 := hz1.other hL hS hbs k3
  refine ⟨b, [.inl (nI t)], rfl, hb, t, z, d' * q, rfl, ht, hz2, by rw [hzq, hd', Int.mul_assoc], fun I3 k5 k6 => ?_⟩
  obtain ⟨capb, hB⟩ := hz.sh
  have k7 := k4.other hL hB hbs.symm k5
  refine ⟨b, [.inr (.inr s)], rfl, hb, s, d' * q, d', q, rfl, hL, hbs.symm, k6, k7, hodd, rfl, fun I4 k8 k9 => hK I4 (fun a a1 a2 a3 a4 => ?_) k9⟩
  rw [k8 a a1 a2, k5 a a1 a2, k3 a a3 a4, k1 a a3 a4]

