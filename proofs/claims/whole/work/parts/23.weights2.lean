/-! ===== Weights: points, spans, copies; the desk's helpers ===== -/
def pt_cpX (sh : mSH) (rf : mRF) : mPT := fun As I J K => pt_cpI sh rf As I J K ∨ pt_cpJ sh rf As I J K
section MC
variable {p : Program} {l : Launch} {e : Env} {R : Room} {s : State} {m : MethodId} {args : Array Value} {below : List Frame} {meth : Method} {c : Code} {Q : State → Prop} {cc : ByteArray} {own : String}
variable {D : va_G} {cs : Nat → ClassId} {ad : Nat → Nat} {sh : mSH} {rf : mRF} {N : Nat} {nL : Nat}
theorem m_CG_cpX (hx : p.tables.exec = Jvm.exec) (hb : c.code = cc) (hml : c.maxLocals = nL) (hown : s.vm.findClass own = some m.cls) (hts : ∀ w ∈ m_tw, w.before args s = true) (hK : va_K D m_cl (m_ty cs) s) (hi : ∀ i j, i < N → j < N → ad i = ad j → i = j) (hN : ∀ i, sh i ≠ .inr (9, 0) → i < N)
    {k : Nat} (hw : ∀ w ∈ [Cond.methodLink own k arraycopyName, Cond.native arraycopyName, Cond.static arraycopyName, Cond.initialized "java/lang/System"], w ∈ m_tb) (hR : 1 ≤ R.frames ∧ 8 + (nativeFrameWords "java/lang/System" "arraycopy" 5 + 11) ≤ R.locals) :
    m_CG p l e R s m args below meth c Q D cs ad sh rf N nL cc k 5 false (pt_cpX sh rf) := by
  intro pc hdec As rest lv I J K hlen hcat hpt hk
  rcases hpt with h | h
  · exact m_CG_cpI hx hb hml hown hts hK hi hN hw hR pc hdec As rest lv I J K hlen hcat h hk
  · exact m_CG_cpJ hx hb hml hown hts hK hi hN hw hR pc hdec As rest lv I J K hlen hcat h hk
end MC
def pt_wcopy : mSH → mRF → mPT := m_pv 3 (fun sh rf w rest I J K => ∃ v : Nat, rest = [.inr (.inr v)] ∧ v ≠ w ∧ WSh sh rf w ∧ WSh sh rf v ∧ (I v 3 = 0 ∨ I v 3 = 1) ∧ ∀ I1 J1, (∀ a, a ≠ w → a ≠ rf w 4 → I1 a = I a) → (∀ k, k < 4 → I1 w k = I v k) → I1 w 7 = 1 → (∀ k, k < 19 → I1 (rf w 4) k = I (rf v 4) k) → (∀ a, a ≠ rf w 5 → J1 a = J a) → (∀ k, k < 12 → J1 (rf w 5) k = J (rf v 5) k) → K none I1 J1)
def pt_wpoint : mSH → mRF → mPT := m_pv 3 (fun sh rf w rest I J K => ∃ (x wt : Int32) (xx : Nat), rest = [.inl x, .inl wt] ∧ x + 9 = nI xx ∧ xx < 19 ∧ WSh sh rf w ∧ ∀ I1 J1, (∀ a, a ≠ w → a ≠ rf w 4 → I1 a = I a) → (∀ k, k ≠ 2 → k ≠ 7 → I1 w k = I w k) → I1 w 2 = I w 2 + (if I (rf w 4) xx = 0 then 1 else 0) - (if I (rf w 4) xx + wt = 0 then 1 else 0) → I1 w 7 = 1 → I1 (rf w 4) xx = I (rf w 4) xx + wt → (∀ k, k ≠ xx → I1 (rf w 4) k = I (rf w 4) k) → (∀ a, a ≠ rf w 5 → J1 a = J a) → (∀ k, k < 12 → J1 (rf w 5) k = J (rf w 5) k + wt.toInt64 * pwL x.toInt64 k) → K none I1 J1)
def pt_wspread : mSH → mRF → mPT := m_pv 3 (fun sh rf w rest I J K => ∃ a b : Int32, rest = [.inl a, .inl b] ∧ WSh sh rf w ∧ ∀ J1, (∀ q, q ≠ rf w 5 → J1 q = J q) → (∀ k, k < 12 → J1 (rf w 5) k = (nI (27720 / (k + 1))).toInt64 * (pwL b.toInt64 (k + 1) - pwL a.toInt64 (k + 1))) → K none I J1)
def ct_X3_copyFrom (sh : mSH) (rf : mRF) : Nat → Option (Nat × Bool × mPT) := fun k => match k with
  | 60 => some (5, false, pt_cpX sh rf)
  | _ => none
set_option maxRecDepth 20000 in
theorem ce_X3_copyFrom : m_CE RX3 1 60 cX3_copyFrom 2 ct_X3_copyFrom := by
  intro p l e s m args below meth c Q D cs ad sh rf N hx hb hml hown hts hK hi hN k n vf pt h
  unfold ct_X3_copyFrom at h
  split at h
  · cases h
    exact m_CG_cpX hx hb hml hown hts hK hi hN (m_wck_ok (l := [(Cond.methodLink RX3 60 arraycopyName, 395), (Cond.native arraycopyName, 339), (Cond.static arraycopyName, 338), (Cond.initialized "java/lang/System", 64)]) (by decide +kernel)) (by decide +kernel)
  · cases h
set_option maxHeartbeats 4000000 in
set_option maxRecDepth 100000 in
theorem mt_X3_copyFrom : m_Mt yX3_copyFrom cX3_copyFrom 2 none 1 60 pt_wcopy := by
  refine m_method0 100 (fl := fl_X3) (kI := kI_X3) (kJ := kJ_X3) (ct := ct_X3_copyFrom) (cd := cd_X3_copyFrom) (rk := 0) (by decide +kernel) fl_X3_ok kI_X3_ok kJ_X3_ok ce_X3_copyFrom rfl ck_X3_copyFrom ⟨_, _, rfl, rfl⟩ ?_
  intro sh rf As I J K hpt
  obtain ⟨w, rest, rfl, hw, v, rfl, hvw, hW, hV, hch, hK⟩ := hpt
  have hA := hW.2.1
  have hAv := hV.2.1
  have hne : rf w 4 ≠ w := fun e => by rw [e, hw] at hA; cases hA
  have hvn : rf v 4 ≠ w := fun e => by rw [e, hw] at hAv; cases hAv
  have hnv : rf w 4 ≠ v := fun e => by rw [e, hV.1] at hA; cases hA
  have e0 : (0 : Int32).toNatClampNeg = 0 := by decide
  have l1 : m_len sh (rf w 4) = nI 19 := m_len_i hA
  have l2 : m_len sh (rf w 5) = nI 12 := m_len_i hW.2.2.1
  have c19 : (nI 19).toNatClampNeg = 19 := by decide
  have c12 : (nI 12).toNatClampNeg = 12 := by decide
  refine ⟨Nat.le_of_ble_eq_true rfl, hV.1, hw, hV.1, hw, hV.1, hw, hV.1, hw, ?_, hV.1, hw, hw, m_isa_i hA (by decide), Or.inl ⟨rf v 4, 0, rf w 4, 0, m_len sh (rf w 4), 19, 19, rfl, hAv, hA, by decide, by decide, ?_, ?_, ?_, ?_⟩⟩
  · show m_uI (m_uI (m_uI I w 0 _) w 1 _) w 2 _ v 3 = 0 ∨ m_uI (m_uI (m_uI I w 0 _) w 1 _) w 2 _ v 3 = 1
    rw [uI_a _ _ _ hvw, uI_a _ _ _ hvw, uI_a _ _ _ hvw]
    exact hch
  · rw [l1]; decide
  · rw [l1, e0, c19]; decide
  · rw [l1, e0, c19]; decide
  · refine ⟨hV.1, hw, hw, m_isa_i hW.2.2.1 (by decide), Or.inr ⟨rf v 5, 0, rf w 5, 0, m_len sh (rf w 5), 12, 12, rfl, hV.2.2.1, hW.2.2.1, by decide, by decide, ?_, ?_, ?_, hw, Or.inr rfl, ?_⟩⟩
    · rw [l2]; decide
    · rw [l2, e0, c12]; decide
    · rw [l2, e0, c12]; decide
    · rw [l1, l2, e0, c19, c12]
      refine hK _ _ (fun a a1 a2 => ?_) (fun k hk => ?_) (uI_s _ _ _ _) (fun k hk => ?_) (fun a a1 => va_up_ne _ _ a1) (fun k hk => ?_)
      · rw [uI_a _ _ _ a1, va_up_ne _ _ a2, uI_a _ _ _ a1, uI_a _ _ _ a1, uI_a _ _ _ a1, uI_a _ _ _ a1]
      · rw [uI_k _ _ _ (by omega), va_up_ne _ _ hne.symm]
        rcases (show k = 0 ∨ k = 1 ∨ k = 2 ∨ k = 3 by omega) with rfl | rfl | rfl | rfl
        · rw [uI_k _ _ _ (by decide), uI_k _ _ _ (by decide), uI_k _ _ _ (by decide), uI_s]
        · rw [uI_k _ _ _ (by decide), uI_k _ _ _ (by decide), uI_s]
          show m_uI I w 0 _ v 1 = I v 1
          rw [uI_a _ _ _ hvw]
        · rw [uI_k _ _ _ (by decide), uI_s]
          show m_uI (m_uI I w 0 _) w 1 _ v 2 = I v 2
          rw [uI_a _ _ _ hvw, uI_a _ _ _ hvw]
        · rw [uI_s]
          show m_uI (m_uI (m_uI I w 0 _) w 1 _) w 2 _ v 3 = I v 3
          rw [uI_a _ _ _ hvw, uI_a _ _ _ hvw, uI_a _ _ _ hvw]
      · rw [uI_a _ _ _ hne, va_up_self, pk_cpy_in (by omega) (by omega), show 0 + (k - 0) = k by omega, uI_a _ _ _ hvn, uI_a _ _ _ hvn, uI_a _ _ _ hvn, uI_a _ _ _ hvn]
      · rw [va_up_self, pk_cpy_in (by omega) (by omega), show 0 + (k - 0) = k by omega]

def ct_X3_addPoint (sh : mSH) (rf : mRF) : Nat → Option (Nat × Bool × mPT) := fun k => match k with
  | 52 => some (3, true, pt_wadd sh rf)
  | _ => none
set_option maxRecDepth 20000 in
theorem ce_X3_addPoint : m_CE RX3 1 26 cX3_addPoint 5 ct_X3_addPoint := by
  intro p l e s m args below meth c Q D cs ad sh rf N hx hb hml hown hts hK hi hN k n vf pt h
  unfold ct_X3_addPoint at h
  split at h
  · cases h
    exact m_CG_V mt_X3_addToMoments hx hb hml hown hts hK hi hN (ci := 3) m_pv_rec rfl rfl (m_wck_ok (l := [(Cond.methodLink RX3 52 yX3_addToMoments, 260), (Cond.instanceMethod yX3_addToMoments, 261), (Cond.selects RX3 yX3_addToMoments yX3_addToMoments, 262), (Cond.initialized RX3, 56), (Cond.code yX3_addToMoments cX3_addToMoments 7 none, 263)]) (by decide +kernel)) ⟨rfl, by decide +kernel, by decide +kernel, by decide +kernel⟩ ⟨Nat.le_of_ble_eq_true rfl, Nat.le_of_ble_eq_true rfl⟩
  · cases h
set_option maxHeartbeats 4000000 in
set_option maxRecDepth 100000 in
theorem mt_X3_addPoint : m_Mt yX3_addPoint cX3_addPoint 5 none 1 26 pt_wpoint := by
  refine m_method0 80 (fl := fl_X3) (kI := kI_X3) (kJ := kJ_X3) (ct := ct_X3_addPoint) (cd := cd_X3_addPoint) (rk := 0) (by decide +kernel) fl_X3_ok kI_X3_ok kJ_X3_ok ce_X3_addPoint rfl ck_X3_addPoint ⟨_, _, rfl, rfl⟩ ?_
  intro sh rf As I J K hpt
  obtain ⟨w, rest, rfl, hw, x, wt, xx, rfl, hxx, hx19, hW, hK⟩ := hpt
  have hA := hW.2.1
  have hne : rf w 4 ≠ w := fun e => by rw [e, hw] at hA; cases hA
  have ib : m_inb sh (rf w 4) 0 (x + 9) := by rw [hxx]; exact m_inb_i hA (vp_in_nI hx19 (by decide))
  have ec : (x + 9).toNatClampNeg = xx := by rw [hxx]; exact nI_clamp (by omega)
  have fin : ∀ (I2 : mPI), (∀ a, a ≠ w → a ≠ rf w 4 → I2 a = I a) → (∀ k, k ≠ 2 → I2 w k = I w k) → I2 w 2 = I w 2 + (if I (rf w 4) xx = 0 then 1 else 0) - (if I (rf w 4) xx + wt = 0 then 1 else 0) → I2 (rf w 4) xx = I (rf w 4) xx + wt → (∀ k, k ≠ xx → I2 (rf w 4) k = I (rf w 4) k) → pt_wadd sh rf [.inr (.inr w), .inl x, .inr (.inl wt.toInt64)] I2 J K := by
    intro I2 q1 q2 q3 q4 q5
    refine ⟨w, _, rfl, hw, x, wt.toInt64, rfl, hW, fun J1 k1 k2 => hK _ J1 (fun a a1 a2 => ?_) (fun k a1 a2 => ?_) ?_ (uI_s _ _ _ _) ?_ (fun k a1 => ?_) k1 k2⟩
    · rw [uI_a _ _ _ a1, q1 a a1 a2]
    · rw [uI_k _ _ _ a2, q2 k a1]
    · rw [uI_k _ _ _ (by decide), q3]
    · rw [uI_a _ _ _ hne, q4]
    · rw [uI_a _ _ _ hne, q5 k a1]
  refine ⟨Nat.le_of_ble_eq_true rfl, hw, ib, hw, ib, fun h => ⟨fun h2 => ?_, fun h2 => ?_⟩, fun h => ?_⟩
  · have h : ¬ I (rf w 4) (x + 9).toNatClampNeg = 0 := h
    have h2 : ¬ I (rf w 4) (x + 9).toNatClampNeg + wt = 0 := h2
    rw [ec] at h h2
    rw [ec]
    refine fin _ (fun a a1 a2 => uI_a _ _ _ a2) (fun k _ => by rw [uI_a _ _ _ hne.symm]) ?_ (uI_s _ _ _ _) (fun k a1 => uI_k _ _ _ a1)
    rw [uI_a _ _ _ hne.symm, if_neg h, if_neg h2, Int32.add_zero, Int32.sub_zero]
  · have h : ¬ I (rf w 4) (x + 9).toNatClampNeg = 0 := h
    have h2 : I (rf w 4) (x + 9).toNatClampNeg + wt = 0 := h2
    rw [ec] at h h2
    rw [ec]
    refine ⟨hw, hw, fin _ (fun a a1 a2 => ?_) (fun k a1 => ?_) ?_ ?_ (fun k a1 => ?_)⟩
    · rw [uI_a _ _ _ a1, uI_a _ _ _ a2]
    · rw [uI_k _ _ _ a1, uI_a _ _ _ hne.symm]
    · rw [uI_s]
      show m_uI I (rf w 4) xx _ w 2 - 1 = _
      rw [uI_a _ _ _ hne.symm, if_neg h, if_pos h2, Int32.add_zero]
    · rw [uI_a _ _ _ hne, uI_s]
    · rw [uI_a _ _ _ hne, uI_k _ _ _ a1]
  · have h : I (rf w 4) (x + 9).toNatClampNeg = 0 := h
    rw [ec] at h
    refine ⟨hw, hw, fun h2 => ?_, fun h2 => ?_⟩
    · have h2 : ¬ I (rf w 4) (x + 9).toNatClampNeg + wt = 0 := h2
      rw [ec] at h2
      rw [ec]
      refine fin _ (fun a a1 a2 => ?_) (fun k a1 => ?_) ?_ ?_ (fun k a1 => ?_)
      · rw [uI_a _ _ _ a1, uI_a _ _ _ a2]
      · rw [uI_k _ _ _ a1, uI_a _ _ _ hne.symm]
      · rw [uI_s]
        show m_uI I (rf w 4) xx _ w 2 + 1 = _
        rw [uI_a _ _ _ hne.symm, if_pos h, if_neg h2, Int32.sub_zero]
      · rw [uI_a _ _ _ hne, uI_s]
      · rw [uI_a _ _ _ hne, uI_k _ _ _ a1]
    · have h2 : I (rf w 4) (x + 9).toNatClampNeg + wt = 0 := h2
      rw [ec] at h2
      rw [ec]
      refine ⟨hw, hw, fin _ (fun a a1 a2 => ?_) (fun k a1 => ?_) ?_ ?_ (fun k a1 => ?_)⟩
      · rw [uI_a _ _ _ a1, uI_a _ _ _ a1, uI_a _ _ _ a2]
      · rw [uI_k _ _ _ a1, uI_k _ _ _ a1, uI_a _ _ _ hne.symm]
      · rw [uI_s]
        show m_uI (m_uI I (rf w 4) xx _) w 2 (m_uI I (rf w 4) xx _ w 2 + 1) w 2 - 1 = _
        rw [uI_s, uI_a _ _ _ hne.symm, if_pos h, if_pos h2]
      · rw [uI_a _ _ _ hne, uI_a _ _ _ hne, uI_s]
      · rw [uI_a _ _ _ hne, uI_a _ _ _ hne, uI_k _ _ _ a1]

def ct_X3_spread (sh : mSH) (rf : mRF) : Nat → Option (Nat × Bool × mPT) := fun k => match k with
  | 56 => some (2, false, pt_power sh rf)
  | _ => none
set_option maxRecDepth 20000 in
theorem ce_X3_spread : m_CE RX3 1 24 cX3_spread 4 ct_X3_spread := by
  intro p l e s m args below meth c Q D cs ad sh rf N hx hb hml hown hts hK hi hN k n vf pt h
  unfold ct_X3_spread at h
  split at h
  · cases h
    exact m_CG_SN (host := "MomentDesk") mt_X4_power hx hb hml hown hts hK hi hN (by decide +kernel) (m_wck_ok (l := [(Cond.static yX4_power, 286), (Cond.initialized RX4, 55), (Cond.code yX4_power cX4_power 5 (some .long), 287)]) (by decide +kernel)) ⟨by decide +kernel, by decide +kernel, by decide +kernel⟩ ⟨Nat.le_of_ble_eq_true rfl, Nat.le_of_ble_eq_true rfl⟩
  · cases h
set_option maxHeartbeats 4000000 in
set_option maxRecDepth 100000 in
theorem mt_X3_spread : m_Mt yX3_spread cX3_spread 4 none 1 24 pt_wspread := by
  refine m_methodG (fl := fl_X3) (kI := kI_X3) (kJ := kJ_X3) (ct := ct_X3_spread) (cd := cd_X3_spread) (cut := [(2, [0, 1, 2, 3])]) (rk := 0) (fu := 80) (by decide +kernel) fl_X3_ok kI_X3_ok kJ_X3_ok ce_X3_spread rfl ck_X3_spread ⟨_, _, rfl, rfl⟩ ?_
  intro sh rf As I J K hpt
  obtain ⟨w, rest, rfl, hw, a, b, rfl, hW, hK⟩ := hpt
  refine ⟨Nat.le_of_ble_eq_true rfl, fun a9 b9 pc vs st I1 J1 => ∃ k, vs = [.inr (.inr w), .inl a, .inl b, .inl (nI k)] ∧ st = [] ∧ I1 = I ∧ a9 = 12 - k ∧ k ≤ 12 ∧ (∀ q, q ≠ rf w 5 → J1 q = J q) ∧ (∀ j, j < k → J1 (rf w 5) j = (nI (27720 / (j + 1))).toInt64 * (pwL b.toInt64 (j + 1) - pwL a.toInt64 (j + 1))), ?_, ?_⟩
  · exact ⟨12, 0, 0, rfl, rfl, rfl, rfl, by omega, fun _ _ => rfl, fun j h => absurd h (Nat.not_lt_zero j)⟩
  · intro pc ks a9 b9 vs st I1 J1 hc hI
    rcases m_cu1 hc with ⟨rfl, rfl⟩ | hc
    · obtain ⟨k, rfl, rfl, rfl, rfl, hk, e1, e2⟩ := hI
      refine ⟨fun h => ?_, fun h => ?_⟩
      · have h : nI 11 < nI k := h
        have := (nI_ltI (by decide) (by omega)).mp h
        obtain rfl : k = 12 := by omega
        exact hK J1 e1 e2
      · have h : ¬ nI 11 < nI k := h
        have hk12 : k < 12 := by
          rcases Nat.lt_or_ge 11 k with q | q
          · exact absurd ((nI_ltI (by decide) (by omega)).mpr q) h
          · omega
        have ek : nI k + 1 = nI (k + 1) := nI_1 k
        refine ⟨hw, ?_, b, k + 1, by rw [← ek]; rfl, by omega, a, k + 1, by rw [← ek]; rfl, by omega, m_inb_i hW.2.2.1 (vp_in_nI hk12 (by decide)), 12 - (k + 1), 0, Or.inl (by omega), k + 1, by rw [← nI_1], rfl, rfl, rfl, by omega, ?_, ?_⟩
        · show ¬ nI k + 1 = 0
          rw [ek]
          exact nI_ne0 (by omega) (by omega)
        · intro q hq
          rw [uJ_a _ _ _ hq, e1 q hq]
        · intro j hj
          rw [nI_clamp (by omega)]
          by_cases e : j = k
          · subst e
            rw [uJ_s]
            show ((27720 : Int32) / (nI j + 1)).toInt64 * _ = _
            rw [ek, show (27720 : Int32) = nI 27720 from rfl, pk_div (by decide) (by omega) (by omega)]
          · rw [uJ_k _ _ _ e, e2 j (by omega)]
    · cases hc

