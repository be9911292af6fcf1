/-! ===== the desk: shut, differs ===== -/
theorem i_sar1 (x : Int32) : (x >>> ((1 : Int32) &&& 31)).toInt = x.toInt / 2 := by
  rw [show ((1 : Int32) &&& 31) = 1 by decide]
  have e : (x >>> (1 : Int32)).toInt = x.toInt >>> 1 := by
    show (x >>> (1 : Int32)).toBitVec.toInt = _
    rw [Int32.toBitVec_shiftRight, BitVec.sshiftRight', BitVec.toInt_sshiftRight]
    rfl
  rw [e, Int.shiftRight_eq_div_pow]
  rfl
theorem i_addT {x y : Int32} (h1 : -2147483648 ≤ x.toInt + y.toInt) (h2 : x.toInt + y.toInt ≤ 2147483647) : (x + y).toInt = x.toInt + y.toInt := by
  rw [Int32.toInt_add]
  exact Int.bmod_eq_of_le (by omega) (by omega)
theorem i_subT {x y : Int32} (h1 : -2147483648 ≤ x.toInt - y.toInt) (h2 : x.toInt - y.toInt ≤ 2147483647) : (x - y).toInt = x.toInt - y.toInt := by
  rw [Int32.toInt_sub]
  exact Int.bmod_eq_of_le (by omega) (by omega)
def shBt (mo : Nat → Int) (k i : Nat) (v : Int) : Nat → Int → Int → Int
  | 0, lo, _ => lo
  | n + 1, lo, hi => if 1 < hi - lo then (if nI i < rbR mo k ((lo + hi) / 2) v then shBt mo k i v n lo ((lo + hi) / 2) else shBt mo k i v n ((lo + hi) / 2) hi) else lo
def shR (mo : Nat → Int) (k i : Nat) (v : Int) : Int32 := if nI i < rbR mo k (-512 * v) v ∨ ¬ nI i < rbR mo k (512 * v) v then -2000001 else Int32.ofInt (shBt mo k i v 32 (-512 * v) (512 * v))
def spShut (mo : Nat → Int) (k i d : Int) (l : Nat) : Int32 := if hasP mo l k ∧ 0 ≤ i ∧ i < k then (if 0 ≤ d ∧ d ≤ 10 then (if (gwf mo l : Int) < k then -3000005 else shR mo k.toNat i.toNat (2 ^ d.toNat)) else -3000002) else -3000001
def pt_shut : mSH → mRF → mPT := m_pv 4 (fun sh rf d rest I J K => ∃ k i e : Int32, sh = shL ∧ rf = rfL ∧ d = 523 ∧ rest = [.inl k, .inl i, .inl e] ∧ Tel I J K (fun _ _ l => spShut (moC J 0) k.toInt i.toInt e.toInt l))
theorem shl_10 : ∀ n, n < 11 → (1 : Int32) <<< (nI n &&& 31) = nI (2 ^ n) ∧ ((-512 : Int32) * nI (2 ^ n)).toInt = -512 * 2 ^ n ∧ ((512 : Int32) * nI (2 ^ n)).toInt = 512 * 2 ^ n ∧ (nI (2 ^ n)).toInt = 2 ^ n ∧ (2 : Int) ^ n ≤ 1024 ∧ (0 : Int) < 2 ^ n := by decide +kernel
abbrev isK (I : mPI) (pl : Int32) : Prop := (pl = 0 ∧ ¬ I 525 0 = 0) ∨ (pl = 1 ∧ ¬ I 525 1 = 0)
def pt_isKeptAt : mSH → mRF → mPT := m_pv 4 (fun sh rf d rest I J K => ∃ pl : Int32, sh = shL ∧ rf = rfL ∧ d = 523 ∧ rest = [.inl pl] ∧ K (some (.inl (if isK I pl then 1 else 0))) I J)
abbrev smP (m1 m2 : Nat → Int) (k : Nat) : Prop := ∀ i, i < k → Nm m1 k i * Dt m2 k = Nm m2 k i * Dt m1 k
def dfR (m1 m2 : Nat → Int) (t1 t2 : Nat) : Nat → Nat → Int32
  | 0, _ => -6
  | n + 1, k => if t1 < k ∧ t2 < k then -6 else if t1 < k ∨ t2 < k ∨ ¬ smP m1 m2 k then nI k else dfR m1 m2 t1 t2 n (k + 1)
def lK (I : mPI) (p : Nat) : Nat := (I (513 + p) 1).toInt.toNat
def spDiff (I : mPI) (J : mPJ) (pl : Int32) (l : Nat) : Int32 := if isK I pl then dfR (moC J 0) (moC J (1 + pl.toInt.toNat)) (tpf (moC J 0) l) (tpf (moC J (1 + pl.toInt.toNat)) (lK I (1 + pl.toInt.toNat))) 5 1 else -1
def pt_differs : mSH → mRF → mPT := m_pv 4 (fun sh rf d rest I J K => ∃ pl : Int32, sh = shL ∧ rf = rfL ∧ d = 523 ∧ rest = [.inl pl] ∧ Tel I J K (fun _ _ l => spDiff I J pl l))

def ct_X4_shut (sh : mSH) (rf : mRF) : Nat → Option (Nat × Bool × mPT) := fun k => match k with
  | 138 => some (1, true, pt_wpolys sh rf)
  | 155 => some (2, true, pt_phas sh rf)
  | 233 => some (1, true, pt_pgood sh rf)
  | 236 => some (5, true, pt_rootsBelow sh rf)
  | _ => none
set_option maxRecDepth 20000 in
theorem ce_X4_shut : m_CE RX4 6 179 cX4_shut 10 ct_X4_shut := by
  intro p l e s m args below meth c Q D cs ad sh rf N hx hb hml hown hts hK hi hN k n vf pt h
  unfold ct_X4_shut at h
  split at h
  · cases h
    exact m_CG_V mt_X3_polys hx hb hml hown hts hK hi hN (ci := 3) m_pv_rec rfl rfl (m_wck_ok (l := [(Cond.methodLink RX4 138 yX3_polys, 420), (Cond.instanceMethod yX3_polys, 421), (Cond.selects RX3 yX3_polys yX3_polys, 422), (Cond.initialized RX3, 56), (Cond.code yX3_polys cX3_polys 1 (some (.object "MomentDesk$Polys")), 423)]) (by decide +kernel)) ⟨rfl, by decide +kernel, by decide +kernel, by decide +kernel⟩ ⟨Nat.le_of_ble_eq_true rfl, Nat.le_of_ble_eq_true rfl⟩
  · cases h
    exact m_CG_V mt_X2_has hx hb hml hown hts hK hi hN (ci := 2) m_pv_rec rfl rfl (m_wck_ok (l := [(Cond.methodLink RX4 155 yX2_has, 467), (Cond.instanceMethod yX2_has, 446), (Cond.selects RX2 yX2_has yX2_has, 447), (Cond.initialized RX2, 57), (Cond.code yX2_has cX2_has 2 (some .boolean), 448)]) (by decide +kernel)) ⟨rfl, by decide +kernel, by decide +kernel, by decide +kernel⟩ ⟨Nat.le_of_ble_eq_true rfl, Nat.le_of_ble_eq_true rfl⟩
  · cases h
    exact m_CG_V mt_X2_goodWorths hx hb hml hown hts hK hi hN (ci := 2) m_pv_rec rfl rfl (m_wck_ok (l := [(Cond.methodLink RX4 233 yX2_goodWorths, 617), (Cond.instanceMethod yX2_goodWorths, 618), (Cond.selects RX2 yX2_goodWorths yX2_goodWorths, 619), (Cond.initialized RX2, 57), (Cond.code yX2_goodWorths cX2_goodWorths 2 (some .int), 620)]) (by decide +kernel)) ⟨rfl, by decide +kernel, by decide +kernel, by decide +kernel⟩ ⟨Nat.le_of_ble_eq_true rfl, Nat.le_of_ble_eq_true rfl⟩
  · cases h
    exact m_CG_V mt_X4_rootsBelow hx hb hml hown hts hK hi hN (ci := 4) m_pv_rec rfl rfl (m_wck_ok (l := [(Cond.methodLink RX4 236 yX4_rootsBelow, 623), (Cond.instanceMethod yX4_rootsBelow, 625), (Cond.selects RX4 yX4_rootsBelow yX4_rootsBelow, 11), (Cond.initialized RX4, 55), (Cond.code yX4_rootsBelow cX4_rootsBelow 9 (some .int), 626)]) (by decide +kernel)) ⟨rfl, by decide +kernel, by decide +kernel, by decide +kernel⟩ ⟨Nat.le_of_ble_eq_true rfl, Nat.le_of_ble_eq_true rfl⟩
  · cases h
set_option maxHeartbeats 4000000 in
set_option maxRecDepth 100000 in
theorem mt_X4_shut : m_Mt yX4_shut cX4_shut 10 (some .int) 6 179 pt_shut := by
  refine m_methodG (fl := fl_X4) (kI := kI_X4) (kJ := kJ_X4) (ct := ct_X4_shut) (cd := cd_X4_shut) (cut := [(112, [0, 1, 2, 3, 4, 5, 6, 7, 8])]) (rk := 1) (fu := 120) (by decide +kernel) fl_X4_ok kI_X4_ok kJ_X4_ok ce_X4_shut rfl ck_X4_shut ⟨_, _, rfl, rfl⟩ ?_
  intro sh rf As I J K hpt
  obtain ⟨d, rest, rfl, hd, k, i, e, rfl, rfl, rfl, rfl, l, U, L, hC, hH, hL, h1, hl, hK⟩ := hpt
  obtain ⟨h3, hmo, hold⟩ := hC.cur h1 hl
  have gl := gwf_le (moC J 0) l
  refine ⟨Nat.le_of_ble_eq_true rfl, fun a9 b9 pc vs st I2 J2 => ∃ (I1 : mPI) (kk ii n s : Nat) (lo hi : Int32), vs = [.inr (.inr 523), .inl (nI kk), .inl (nI ii), .inl e, .inr (.inr 504), .inl (nI (2 ^ n)), .inl lo, .inl hi, .inl (nI s)] ∧ st = [] ∧ J2 = J ∧ a9 = 32 - s ∧ s ≤ 32 ∧ Bse I I1 J l ∧ Wk I1 I2 ∧ kk ≤ tpf (moC J 0) l ∧ ii < kk ∧ n ≤ 10 ∧ lo.toInt.natAbs ≤ 2 ^ 19 ∧ hi.toInt.natAbs ≤ 2 ^ 19 ∧ spShut (moC J 0) k.toInt i.toInt e.toInt l = Int32.ofInt (shBt (moC J 0) kk ii (2 ^ n) (32 - s) lo.toInt hi.toInt), ?_, ?_⟩
  · refine ⟨rfl, 513, [], rfl, rfl, l, rfl, lay_W0, h1, hl, hmo, hold, fun I1 a1 a2 a3 a4 => ?_⟩
    obtain ⟨hPf, hC1, hP⟩ := polys_post (p := 0) (by decide) hC h1 hl a1 a2 a4
    have hV := hPf.vis (by decide)
    have hH1 := hH.pf (by decide) hPf
    have tl := tpf_le (moC J 0) l
    have h11 : I1 513 1 = nI l := (hV.2 0 (by decide) 1 (by decide)).trans h1
    have k0 : ∀ I2, Wk I1 I2 → K (some (.inl (spShut (moC J 0) k.toInt i.toInt e.toInt l))) I2 J := fun I2 f => hK I2 (hV.trans f.fr.vis) (hC1.fr f.fr) (hH1.wk f)
    have k1 : ¬ (hasP (moC J 0) l k.toInt ∧ 0 ≤ i.toInt ∧ i.toInt < k.toInt) → K (some (.inl (-3000001))) I1 J := fun q => by
      have := k0 I1 (Wk.rfl' I1)
      unfold spShut at this
      rw [if_neg q] at this
      exact this
    refine ⟨504, [.inl k], rfl, rfl, k, tpf (moC J 0) l, rfl, hP.2.1, tl.1, fun kk hkk hk => ?_, fun hn => ?_⟩
    · have ek : k.toInt = kk := by rw [hk, nI_toInt (by omega)]
      refine ⟨fun h => absurd h (by decide), fun _ => ⟨fun h => ?_, fun h => ⟨fun h2 => ?_, fun h2 => ?_⟩⟩⟩
      · exact k1 (fun q => absurd (i_lt0.mp h) (by omega))
      · have h2 : i < k := h2
        rw [Int32.lt_iff_toInt_lt, ek] at h2
        have h0 : 0 ≤ i.toInt := by
          have := mt i_lt0.mpr h
          omega
        obtain ⟨ei, hi2⟩ := i_nat h0
        have c1 : hasP (moC J 0) l k.toInt ∧ 0 ≤ i.toInt ∧ i.toInt < k.toInt := by
          rw [ek]
          exact ⟨⟨by omega, by omega⟩, h0, h2⟩
        have k2 : ¬ (0 ≤ e.toInt ∧ e.toInt ≤ 10) → K (some (.inl (-3000002))) I1 J := fun q => by
          have := k0 I1 (Wk.rfl' I1)
          unfold spShut at this
          rw [if_pos c1, if_neg q] at this
          exact this
        refine ⟨fun h4 => ?_, fun h4 => ⟨fun h5 => ?_, fun h5 => ?_⟩⟩
        · exact k2 (fun q => absurd (i_lt0.mp h4) (by omega))
        · have h5 : e ≤ 10 := h5
          have e10 : (10 : Int32).toInt = 10 := rfl
          rw [Int32.le_iff_toInt_le, e10] at h5
          have h6 : 0 ≤ e.toInt := by
            have := mt i_lt0.mpr h4
            omega
          obtain ⟨ee, he2⟩ := i_nat h6
          have c2 : 0 ≤ e.toInt ∧ e.toInt ≤ 10 := ⟨h6, h5⟩
          have sp : spShut (moC J 0) k.toInt i.toInt e.toInt l = if (gwf (moC J 0) l : Int) < kk then -3000005 else shR (moC J 0) kk i.toInt.toNat (2 ^ e.toInt.toNat) := by
            unfold spShut
            rw [if_pos c1, if_pos c2, ek]
            rfl
          have hii : i.toInt.toNat < kk := by omega
          have hnn : e.toInt.toNat < 11 := by omega
          rw [sp] at k0
          generalize i.toInt.toNat = ii at ei hii k0 sp
          generalize e.toInt.toNat = n at ee hnn k0 sp
          clear h4 h5 h6 c2 k2 h h0 h2 hi2 he2
          obtain ⟨s1, s2, s3, s4, s5, s6⟩ := shl_10 n hnn
          refine ⟨504, [], rfl, rfl, moC J 0, l, rfl, lay_P (p := 0) (by decide), hP, fun h7 => ?_, fun h7 => ?_⟩
          · have h7 : k ≤ nI (gwf (moC J 0) l) := h7
            rw [hk, nI_leI (by omega) (by omega)] at h7
            rw [if_neg (by omega)] at k0 sp
            unfold shR at k0 sp
            have eA : ((1 : Int32) <<< (e &&& 31)) = nI (2 ^ n) := by rw [ee]; exact s1
            refine ⟨523, [.inr (.inr 504), .inl k, .inl (-512 * ((1 : Int32) <<< (e &&& 31))), .inl ((1 : Int32) <<< (e &&& 31))], rfl, rfl, kk, l, -512 * nI (2 ^ n), nI (2 ^ n), moC J 0, rfl, rfl, rfl, by rw [eA, hk], hP, hkk, by rw [s2]; omega, by rw [s4]; omega, fun I2 w1 => ?_⟩
            rw [s2, s4]
            refine ⟨fun h8 => ?_, fun h8 => ?_⟩
            · have h8 : i < rbR (moC J 0) kk (-512 * 2 ^ n) (2 ^ n) := h8
              rw [ei] at h8
              have := k0 I2 w1
              rw [if_pos (Or.inl h8)] at this
              exact this
            · have h8 : ¬ i < rbR (moC J 0) kk (-512 * 2 ^ n) (2 ^ n) := h8
              rw [ei] at h8
              have hP2 := PIs.fr (p := 0) (by decide) hP w1.fr
              refine ⟨523, [.inr (.inr 504), .inl k, .inl (512 * ((1 : Int32) <<< (e &&& 31))), .inl ((1 : Int32) <<< (e &&& 31))], rfl, rfl, kk, l, 512 * nI (2 ^ n), nI (2 ^ n), moC J 0, rfl, rfl, rfl, by rw [eA, hk], hP2, hkk, by rw [s3]; omega, by rw [s4]; omega, fun I3 w2 => ?_⟩
              rw [s3, s4]
              refine ⟨fun h9 => ?_, fun h9 => ?_⟩
              · have h9 : i < rbR (moC J 0) kk (512 * 2 ^ n) (2 ^ n) := h9
                rw [ei] at h9
                rw [if_neg (fun q => q.elim h8 (fun r => r h9))] at sp
                refine ⟨32 - 0, 0, I1, kk, ii, n, 0, -512 * nI (2 ^ n), 512 * nI (2 ^ n), ?_, rfl, rfl, rfl, by omega, ⟨hPf, hC1, hP⟩, w1.trans w2, hkk, hii, by omega, by rw [s2]; omega, by rw [s3]; omega, ?_⟩
                · show ([.inr (.inr 523), .inl k, .inl i, .inl e, .inr (.inr 504), .inl ((1 : Int32) <<< (e &&& 31)), .inl (-512 * ((1 : Int32) <<< (e &&& 31))), .inl (512 * ((1 : Int32) <<< (e &&& 31))), .inl 0] : List mPV) = _
                  rw [eA, hk, ei]
                  rfl
                · rw [s2, s3]
                  exact sp
              · have h9 : ¬ i < rbR (moC J 0) kk (512 * 2 ^ n) (2 ^ n) := h9
                rw [ei] at h9
                have := k0 I3 (w1.trans w2)
                rw [if_pos (Or.inr h9)] at this
                exact this
          · have h7 : ¬ k ≤ nI (gwf (moC J 0) l) := h7
            rw [hk, nI_leI (by omega) (by omega)] at h7
            have := k0 I1 (Wk.rfl' I1)
            rw [if_pos (by omega)] at this
            exact this
        · have h5 : ¬ e ≤ 10 := h5
          have e10 : (10 : Int32).toInt = 10 := rfl
          rw [Int32.le_iff_toInt_le, e10] at h5
          exact k2 (fun q => h5 q.2)
      · have h2 : ¬ i < k := h2
        rw [Int32.lt_iff_toInt_lt] at h2
        exact k1 (fun q => h2 q.2.2)
    · refine ⟨fun _ => k1 (fun q => ?_), fun h => absurd rfl h⟩
      exact hn k.toInt.toNat (by have := q.1.2; omega) (i_nat q.1.1).1
  · intro pc ks a9 b9 vs st I2 J2 hc hI
    rcases m_cu1 hc with ⟨rfl, rfl⟩ | hc
    · obtain ⟨I1, kk, ii, n, s, lo, hi, rfl, rfl, rfl, rfl, hs, ⟨hPf, hC1, hP⟩, w1, hkk, hii, hn, hlo, hhi, sp⟩ := hI
      have tl := tpf_le (moC J2 0) l
      have k0 : ∀ I3, Wk I1 I3 → K (some (.inl (spShut (moC J2 0) k.toInt i.toInt e.toInt l))) I3 J2 := fun I3 f => hK I3 ((hPf.vis (by decide)).trans f.fr.vis) (hC1.fr f.fr) ((hH.pf (by decide) hPf).wk f)
      obtain ⟨s1, s2, s3, s4, s5, s6⟩ := shl_10 n (by omega)
      have e1 : (1 : Int32).toInt = 1 := rfl
      have fin : shBt (moC J2 0) kk ii (2 ^ n) (32 - s) lo.toInt hi.toInt = lo.toInt → K (some (.inl lo)) I2 J2 := fun q => by
        have := k0 I2 w1
        rw [sp, q, Int32.ofInt_toInt] at this
        exact this
      refine ⟨fun h => ?_, fun h => ⟨fun h2 => ?_, fun h2 => ?_⟩⟩
      · have h : nI 32 ≤ nI s := h
        rw [nI_leI (by omega) (by omega)] at h
        refine fin ?_
        rw [show 32 - s = 0 by omega]
        rfl
      · have h : ¬ nI 32 ≤ nI s := h
        rw [nI_leI (by omega) (by omega)] at h
        have h2 : hi - lo ≤ 1 := h2
        rw [Int32.le_iff_toInt_le, i_subT (by omega) (by omega), e1] at h2
        refine fin ?_
        rw [show 32 - s = (31 - s) + 1 by omega, shBt, if_neg (by omega)]
      · have h : ¬ nI 32 ≤ nI s := h
        rw [nI_leI (by omega) (by omega)] at h
        have h2 : ¬ hi - lo ≤ 1 := h2
        rw [Int32.le_iff_toInt_le, i_subT (by omega) (by omega), e1] at h2
        have em : ((lo + hi) >>> ((1 : Int32) &&& 31)).toInt = (lo.toInt + hi.toInt) / 2 := by rw [i_sar1, i_addT (by omega) (by omega)]
        generalize hmd : (lo + hi) >>> ((1 : Int32) &&& 31) = md at em
        have hP2 := PIs.fr (p := 0) (by decide) hP w1.fr
        rw [show 32 - s = (31 - s) + 1 by omega, shBt, if_pos (by omega), ← em] at sp
        refine ⟨523, [.inr (.inr 504), .inl (nI kk), .inl ((lo + hi) >>> ((1 : Int32) &&& 31)), .inl (nI (2 ^ n))], rfl, rfl, kk, l, md, nI (2 ^ n), moC J2 0, rfl, rfl, rfl, by rw [hmd], hP2, hkk, by omega, by rw [s4]; omega, fun I3 w2 => ?_⟩
        rw [s4]
        refine ⟨fun h3 => ?_, fun h3 => ?_⟩
        · have h3 : rbR (moC J2 0) kk md.toInt (2 ^ n) ≤ nI ii := h3
          rw [if_neg (by rw [Int32.not_lt]; exact h3)] at sp
          refine ⟨32 - (s + 1), 0, Or.inl (by omega), I1, kk, ii, n, s + 1, md, hi, ?_, rfl, rfl, rfl, by omega, ⟨hPf, hC1, hP⟩, w1.trans w2, hkk, hii, hn, by omega, hhi, ?_⟩
          · rw [← nI_1 s, ← hmd]
          · rw [show 32 - (s + 1) = 31 - s by omega]
            exact sp
        · have h3 : ¬ rbR (moC J2 0) kk md.toInt (2 ^ n) ≤ nI ii := h3
          rw [if_pos (by rw [← Int32.not_le]; exact h3)] at sp
          refine ⟨32 - (s + 1), 0, Or.inl (by omega), I1, kk, ii, n, s + 1, lo, md, ?_, rfl, rfl, rfl, by omega, ⟨hPf, hC1, hP⟩, w1.trans w2, hkk, hii, hn, hlo, by omega, ?_⟩
          · rw [← nI_1 s, ← hmd]
          · rw [show 32 - (s + 1) = 31 - s by omega]
            exact sp
    · cases hc

set_option maxHeartbeats 4000000 in
set_option maxRecDepth 100000 in
theorem mt_X4_isKeptAt : m_Mt yX4_isKeptAt cX4_isKeptAt 2 (some .boolean) 0 0 pt_isKeptAt := by
  refine m_method0 80 (fl := fl_X4) (kI := kI_X4) (kJ := kJ_X4) (ct := ct_none) (cd := cd_X4_isKeptAt) (rk := 3) (by decide +kernel) fl_X4_ok kI_X4_ok kJ_X4_ok (ce_none _ _ _ _ _) rfl ck_X4_isKeptAt ⟨_, _, rfl, rfl⟩ ?_
  intro sh rf As I J K hpt
  obtain ⟨d, rest, rfl, hd, pl, rfl, rfl, rfl, rfl, hK⟩ := hpt
  have k1 : ¬ isK I pl → (0 = (0 : Int32) ∨ 0 = (1 : Int32)) ∧ K (some (.inl 0)) I J := fun q => by
    rw [if_neg q] at hK
    exact ⟨Or.inl rfl, hK⟩
  have e2 : (2 : Int32).toInt = 2 := rfl
  refine ⟨Nat.le_of_ble_eq_true rfl, fun h => k1 (fun q => ?_), fun h => ⟨fun h2 => k1 (fun q => ?_), fun h2 => ?_⟩⟩
  · rcases q with ⟨rfl, -⟩ | ⟨rfl, -⟩ <;> exact absurd h (by decide)
  · rcases q with ⟨rfl, -⟩ | ⟨rfl, -⟩ <;> exact absurd h2 (by decide)
  · have h2 : ¬ 2 ≤ pl := h2
    rw [Int32.le_iff_toInt_le, e2] at h2
    have h := mt i_lt0.mpr h
    obtain ⟨ep, -⟩ := i_nat (k := pl) (by omega)
    have hlt : pl.toInt.toNat < 2 := by omega
    generalize pl.toInt.toNat = p at ep hlt
    clear h h2
    subst ep
    refine ⟨rfl, m_inb_i (n := 2) rfl (vp_in_nI hlt (by decide)), fun h3 => k1 (fun q => ?_), fun h3 => ?_⟩
    · have h3 : I 525 (nI p).toNatClampNeg = 0 := h3
      rw [nI_clamp (by omega)] at h3
      rcases q with ⟨q1, q2⟩ | ⟨q1, q2⟩
      · obtain rfl : p = 0 := (nI_eq (by omega) (by omega)).mp q1
        exact q2 h3
      · obtain rfl : p = 1 := (nI_eq (by omega) (by omega)).mp q1
        exact q2 h3
    · have h3 : ¬ I 525 (nI p).toNatClampNeg = 0 := h3
      rw [nI_clamp (by omega)] at h3
      have hk : isK I (nI p) := by
        rcases (show p = 0 ∨ p = 1 by omega) with rfl | rfl
        · exact Or.inl ⟨rfl, h3⟩
        · exact Or.inr ⟨rfl, h3⟩
      rw [if_pos hk] at hK
      exact ⟨Or.inr rfl, hK⟩

def ct_X4_differs (sh : mSH) (rf : mRF) : Nat → Option (Nat × Bool × mPT) := fun k => match k with
  | 248 => some (2, true, pt_isKeptAt sh rf)
  | 138 => some (1, true, pt_wpolys sh rf)
  | 155 => some (2, true, pt_phas sh rf)
  | 251 => some (4, true, pt_isSame sh rf)
  | _ => none
set_option maxRecDepth 20000 in
theorem ce_X4_differs : m_CE RX4 6 173 cX4_differs 5 ct_X4_differs := by
  intro p l e s m args below meth c Q D cs ad sh rf N hx hb hml hown hts hK hi hN k n vf pt h
  unfold ct_X4_differs at h
  split at h
  · cases h
    exact m_CG_V mt_X4_isKeptAt hx hb hml hown hts hK hi hN (ci := 4) m_pv_rec rfl rfl (m_wck_ok (l := [(Cond.methodLink RX4 248 yX4_isKeptAt, 659), (Cond.instanceMethod yX4_isKeptAt, 661), (Cond.selects RX4 yX4_isKeptAt yX4_isKeptAt, 12), (Cond.initialized RX4, 55), (Cond.code yX4_isKeptAt cX4_isKeptAt 2 (some .boolean), 662)]) (by decide +kernel)) ⟨rfl, by decide +kernel, by decide +kernel, by decide +kernel⟩ ⟨Nat.le_of_ble_eq_true rfl, Nat.le_of_ble_eq_true rfl⟩
  · cases h
    exact m_CG_V mt_X3_polys hx hb hml hown hts hK hi hN (ci := 3) m_pv_rec rfl rfl (m_wck_ok (l := [(Cond.methodLink RX4 138 yX3_polys, 420), (Cond.instanceMethod yX3_polys, 421), (Cond.selects RX3 yX3_polys yX3_polys, 422), (Cond.initialized RX3, 56), (Cond.code yX3_polys cX3_polys 1 (some (.object "MomentDesk$Polys")), 423)]) (by decide +kernel)) ⟨rfl, by decide +kernel, by decide +kernel, by decide +kernel⟩ ⟨Nat.le_of_ble_eq_true rfl, Nat.le_of_ble_eq_true rfl⟩
  · cases h
    exact m_CG_V mt_X2_has hx hb hml hown hts hK hi hN (ci := 2) m_pv_rec rfl rfl (m_wck_ok (l := [(Cond.methodLink RX4 155 yX2_has, 467), (Cond.instanceMethod yX2_has, 446), (Cond.selects RX2 yX2_has yX2_has, 447), (Cond.initialized RX2, 57), (Cond.code yX2_has cX2_has 2 (some .boolean), 448)]) (by decide +kernel)) ⟨rfl, by decide +kernel, by decide +kernel, by decide +kernel⟩ ⟨Nat.le_of_ble_eq_true rfl, Nat.le_of_ble_eq_true rfl⟩
  · cases h
    exact m_CG_V mt_X4_isSamePoly hx hb hml hown hts hK hi hN (ci := 4) m_pv_rec rfl rfl (m_wck_ok (l := [(Cond.methodLink RX4 251 yX4_isSamePoly, 667), (Cond.instanceMethod yX4_isSamePoly, 669), (Cond.selects RX4 yX4_isSamePoly yX4_isSamePoly, 13), (Cond.initialized RX4, 55), (Cond.code yX4_isSamePoly cX4_isSamePoly 5 (some .boolean), 670)]) (by decide +kernel)) ⟨rfl, by decide +kernel, by decide +kernel, by decide +kernel⟩ ⟨Nat.le_of_ble_eq_true rfl, Nat.le_of_ble_eq_true rfl⟩
  · cases h
set_option maxHeartbeats 4000000 in
set_option maxRecDepth 100000 in
theorem mt_X4_differs : m_Mt yX4_differs cX4_differs 5 (some .int) 6 173 pt_differs := by
  refine m_methodG (fl := fl_X4) (kI := kI_X4) (kJ := kJ_X4) (ct := ct_X4_differs) (cd := cd_X4_differs) (cut := [(31, [0, 1, 2, 3, 4])]) (rk := 1) (fu := 120) (by decide +kernel) fl_X4_ok kI_X4_ok kJ_X4_ok ce_X4_differs rfl ck_X4_differs ⟨_, _, rfl, rfl⟩ ?_
  intro sh rf As I J K hpt
  obtain ⟨d, rest, rfl, hd, pl, rfl, rfl, rfl, rfl, l, U, L, hC, hH, hL, h1, hl, hK⟩ := hpt
  obtain ⟨h3, hmo, hold⟩ := hC.cur h1 hl
  refine ⟨Nat.le_of_ble_eq_true rfl, fun a9 b9 pc vs st I3 J3 => ∃ (I2 : mPI) (p k l2 : Nat), vs = [.inr (.inr 523), .inl pl, .inr (.inr 504), .inr (.inr (504 + (1 + p))), .inl (nI k)] ∧ st = [] ∧ J3 = J ∧ a9 = 6 - k ∧ p < 2 ∧ 1 ≤ k ∧ k ≤ 6 ∧ Vis I I2 ∧ CI I2 J ∧ HIs shL rfL I2 522 U L ∧ PIs shL rfL I2 504 (moC J 0) l ∧ PIs shL rfL I2 (504 + (1 + p)) (moC J (1 + p)) l2 ∧ Wk I2 I3 ∧ spDiff I J pl l = dfR (moC J 0) (moC J (1 + p)) (tpf (moC J 0) l) (tpf (moC J (1 + p)) l2) (6 - k) k, ?_, ?_⟩
  · refine ⟨523, [.inl pl], rfl, rfl, pl, rfl, rfl, rfl, rfl, fun h => ?_, fun h => ?_⟩
    · have h : ¬ (if isK I pl then (1 : Int32) else 0) = 0 := h
      have hk : isK I pl := by
        by_cases q : isK I pl
        · exact q
        · rw [if_neg q] at h
          exact absurd rfl h
      have hp : ∃ p, p < 2 ∧ pl = nI p := by
        rcases hk with ⟨q, -⟩ | ⟨q, -⟩
        · exact ⟨0, by decide, q⟩
        · exact ⟨1, by decide, q⟩
      obtain ⟨p, hp2, rfl⟩ := hp
      have etn : (nI p).toInt.toNat = p := by
        rw [nI_toInt (by omega)]
        omega
      have sp : spDiff I J (nI p) l = dfR (moC J 0) (moC J (1 + p)) (tpf (moC J 0) l) (tpf (moC J (1 + p)) (lK I (1 + p))) 5 1 := by
        unfold spDiff
        rw [if_pos hk, etn]
      refine ⟨rfl, 513, [], rfl, rfl, l, rfl, lay_W0, h1, hl, hmo, hold, fun I1 a1 a2 a3 a4 => ?_⟩
      obtain ⟨hPf, hC1, hP⟩ := polys_post (p := 0) (by decide) hC h1 hl a1 a2 a4
      have hV := hPf.vis (by decide)
      have hH1 := hH.pf (by decide) hPf
      obtain ⟨l2, q1, q2, q3, q4, q5, q6, q7⟩ := hC1 (1 + p) (by omega)
      have el : lK I (1 + p) = l2 := by
        unfold lK
        rw [← hV.2 (1 + p) (by omega) 1 (by decide), q1, nI_toInt (by omega)]
        omega
      rw [el] at sp
      obtain ⟨hW, r4, r5, r6⟩ := lay_W (p := 1 + p) (by omega)
      have ekp : rfL 524 (nI p).toNatClampNeg = 513 + (1 + p) := by
        rw [nI_clamp (by omega)]
        rcases (show p = 0 ∨ p = 1 by omega) with rfl | rfl <;> rfl
      refine ⟨rfl, m_inr_i (t := 4) (n := 2) rfl (Or.inr rfl) (vp_in_nI hp2 (by decide)), 513 + (1 + p), [], congrArg (fun x => [Sum.inr (Sum.inr x)]) ekp, hW.1, l2, rfl, hW, q1, q3, by rw [r5]; exact q4, by rw [r5, r6]; exact q6, fun I2 b1 b2 b3 b4 => ?_⟩
      obtain ⟨gPf, gC1, gP⟩ := polys_post (p := 1 + p) (by omega) hC1 q1 q3 b1 b2 b4
      refine ⟨6 - 1, 0, I2, p, 1, l2, ?_, rfl, rfl, rfl, hp2, by omega, by omega, hV.trans (gPf.vis (by omega)), gC1, hH1.pf (by omega) gPf, ?_, gP, Wk.rfl' I2, sp⟩
      · rw [← r6]
        rfl
      · exact PIs_keep (p := 0) (by decide) hP (fun a ha => gPf.1 a (by unfold PA at ha; omega) (by unfold PA at ha; omega) (by unfold PA at ha; omega))
    · have h : (if isK I pl then (1 : Int32) else 0) = 0 := h
      have : K (some (.inl (spDiff I J pl l))) I J := hK I (Fr.rfl' I).vis hC hH
      unfold spDiff at this
      rw [if_neg (fun q => by rw [if_pos q] at h; exact absurd h (by decide))] at this
      exact this
  · intro pc ks a9 b9 vs st I3 J3 hc hI
    rcases m_cu1 hc with ⟨rfl, rfl⟩ | hc
    · obtain ⟨I2, p, k, l2, rfl, rfl, rfl, rfl, hp2, hk1, hk6, hV, hC2, hH2, hP, hQ, w1, sp⟩ := hI
      have tl := tpf_le (moC J3 0) l
      have tl2 := tpf_le (moC J3 (1 + p)) l2
      have k0 : ∀ I4, Wk I2 I4 → K (some (.inl (spDiff I J3 pl l))) I4 J3 := fun I4 f => hK I4 (hV.trans f.fr.vis) (hC2.fr f.fr) (hH2.wk f)
      rw [sp] at k0
      have hP3 := PIs.fr (p := 0) (by decide) hP w1.fr
      have hQ3 := PIs.fr (p := 1 + p) (by omega) hQ w1.fr
      have hPR : shL (504 + (1 + p)) = .inl 2 := (lay_P (p := 1 + p) (by omega)).1
      refine ⟨fun h => ?_, fun h => ?_⟩
      · have h : nI 5 < nI k := h
        rw [nI_ltI (by omega) (by omega)] at h
        have := k0 I3 w1
        rw [show 6 - k = 0 by omega] at this
        exact this
      · have h : ¬ nI 5 < nI k := h
        rw [nI_ltI (by omega) (by omega)] at h
        rw [show 6 - k = (5 - k) + 1 by omega, dfR] at k0 sp
        have kz := k0 I3 w1
        have step2 : ¬ (tpf (moC J3 0) l < k ∧ tpf (moC J3 (1 + p)) l2 < k) → (k ≤ tpf (moC J3 0) l → k ≤ tpf (moC J3 (1 + p)) l2 → smP (moC J3 0) (moC J3 (1 + p)) k → ∀ I4, Wk I2 I4 → spDiff I J3 pl l = dfR (moC J3 0) (moC J3 (1 + p)) (tpf (moC J3 0) l) (tpf (moC J3 (1 + p)) l2) (6 - (k + 1)) (k + 1)) ∧ ((tpf (moC J3 0) l < k ∨ tpf (moC J3 (1 + p)) l2 < k ∨ ¬ smP (moC J3 0) (moC J3 (1 + p)) k) → ∀ I4, Wk I2 I4 → K (some (.inl (nI k))) I4 J3) := by
          intro hb
          refine ⟨fun g1 g2 g3 I4 f => ?_, fun g I4 f => ?_⟩
          · rw [if_neg hb, if_neg (by rintro (g | g | g); omega; omega; exact g g3)] at sp
            rw [show 6 - (k + 1) = 5 - k by omega]
            exact sp
          · have := k0 I4 f
            rw [if_neg hb, if_pos g] at this
            exact this
        refine ⟨504, [.inl (nI k)], rfl, rfl, nI k, tpf (moC J3 0) l, rfl, hP3.2.1, tl.1, fun j hj hk => ?_, fun hn => ?_⟩
        · obtain rfl : k = j := (nI_eq (by omega) (by omega)).mp hk
          refine ⟨fun _ => ?_, fun h => absurd h (by decide)⟩
          obtain ⟨sA, sB⟩ := step2 (by omega)
          refine ⟨504, [.inl (nI k)], rfl, rfl, nI k, tpf (moC J3 0) l, rfl, hP3.2.1, tl.1, fun j hj2 hk => ?_, fun hn => absurd rfl (hn k hj)⟩
          refine ⟨fun h => absurd h (by decide), fun _ => ?_⟩
          refine ⟨504 + (1 + p), [.inl (nI k)], rfl, hPR, nI k, tpf (moC J3 (1 + p)) l2, rfl, hQ3.2.1, tl2.1, fun j hj3 hk2 => ?_, fun hn => ?_⟩
          · obtain rfl : k = j := (nI_eq (by omega) (by omega)).mp hk2
            refine ⟨fun h => absurd h (by decide), fun _ => ?_⟩
            refine ⟨523, [.inr (.inr (504 + 0)), .inr (.inr (504 + (1 + p))), .inl (nI k)], rfl, rfl, 0, 1 + p, k, l, l2, moC J3 0, moC J3 (1 + p), rfl, rfl, rfl, rfl, by decide, by omega, hP3, hQ3, by omega, by omega, by omega, fun I4 w2 => ⟨fun h4 => ?_, fun h4 => ?_⟩⟩
            · have h4 : ¬ (if smP (moC J3 0) (moC J3 (1 + p)) k then (1 : Int32) else 0) = 0 := h4
              have g3 : smP (moC J3 0) (moC J3 (1 + p)) k := by
                by_cases q : smP (moC J3 0) (moC J3 (1 + p)) k
                · exact q
                · rw [if_neg q] at h4
                  exact absurd rfl h4
              exact ⟨6 - (k + 1), 0, Or.inl (by omega), I2, p, k + 1, l2, by rw [← nI_1 k], rfl, rfl, rfl, hp2, by omega, by omega, hV, hC2, hH2, hP, hQ, w1.trans w2, sA hj hj3 g3 I4 (w1.trans w2)⟩
            · have h4 : (if smP (moC J3 0) (moC J3 (1 + p)) k then (1 : Int32) else 0) = 0 := h4
              refine sB (Or.inr (Or.inr (fun q => ?_))) I4 (w1.trans w2)
              rw [if_pos q] at h4
              exact absurd h4 (by decide)
          · refine ⟨fun _ => sB (Or.inr (Or.inl ?_)) I3 w1, fun h => absurd rfl h⟩
            rcases Nat.lt_or_ge (tpf (moC J3 (1 + p)) l2) k with q | q
            · exact q
            · exact absurd rfl (hn k q)
        · have n1 : tpf (moC J3 0) l < k := by
            rcases Nat.lt_or_ge (tpf (moC J3 0) l) k with q | q
            · exact q
            · exact absurd rfl (hn k q)
          refine ⟨fun h => absurd rfl h, fun _ => ?_⟩
          refine ⟨504 + (1 + p), [.inl (nI k)], rfl, hPR, nI k, tpf (moC J3 (1 + p)) l2, rfl, hQ3.2.1, tl2.1, fun j hj3 hk2 => ?_, fun hn2 => ?_⟩
          · obtain rfl : k = j := (nI_eq (by omega) (by omega)).mp hk2
            refine ⟨fun _ => ?_, fun h => absurd h (by decide)⟩
            obtain ⟨sA, sB⟩ := step2 (by omega)
            refine ⟨504, [.inl (nI k)], rfl, rfl, nI k, tpf (moC J3 0) l, rfl, hP3.2.1, tl.1, fun j hj4 hk3 => absurd hk3 (hn j hj4), fun _ => ⟨fun _ => sB (Or.inl n1) I3 w1, fun h => absurd rfl h⟩⟩
          · refine ⟨fun h => absurd rfl h, fun _ => ?_⟩
            have n2 : tpf (moC J3 (1 + p)) l2 < k := by
              rcases Nat.lt_or_ge (tpf (moC J3 (1 + p)) l2) k with q | q
              · exact q
              · exact absurd rfl (hn2 k q)
            rw [if_pos ⟨n1, n2⟩] at kz
            exact kz
    · cases hc

