/-! ===== the reference: point ===== -/
def LRm (I : mPI) (w : Nat → Int32) : Prop := ∃ n, I 528 7 = nI n ∧ n ≤ 10 ∧ (∀ i, i < n → ∃ x, x < 19 ∧ I 533 i = nI x - 9 ∧ I 534 i = w x ∧ w x ≠ 0) ∧ (∀ i j, i < n → j < n → I 533 i = I 533 j → i = j) ∧ ∀ x, x < 19 → w x ≠ 0 → ∃ i, i < n ∧ I 533 i = nI x - 9
theorem sub9 {x y : Nat} (hx : x < 19) (hy : y < 19) (h : nI x - 9 = nI y - 9) : x = y := by
  have h2 := congrArg (fun z : Int32 => z + 9) h
  simp only [Int32.sub_add_cancel] at h2
  exact (nI_eq (by omega) (by omega)).mp h2
abbrev wUp (w : Nat → Int32) (X : Nat) (v : Int32) : Nat → Int32 := fun y => if y = X then v else w y
theorem lr_new {I I1 : mPI} {w : Nat → Int32} {n X : Nat} {v : Int32} (hX : X < 19) (h7 : I1 528 7 = nI (n + 1)) (hn : n < 10) (a1 : ∀ i, i < n → ∃ x, x < 19 ∧ I 533 i = nI x - 9 ∧ I 534 i = w x ∧ w x ≠ 0) (a2 : ∀ i j, i < n → j < n → I 533 i = I 533 j → i = j) (a3 : ∀ x, x < 19 → w x ≠ 0 → ∃ i, i < n ∧ I 533 i = nI x - 9) (nf : ∀ i, i < n → ¬ I 533 i = nI X - 9) (e1 : I1 533 n = nI X - 9) (e2 : I1 534 n = v) (hv : v ≠ 0) (k1 : ∀ i, i < n → I1 533 i = I 533 i) (k2 : ∀ i, i < n → I1 534 i = I 534 i) : LRm I1 (wUp w X v) := by
  refine ⟨n + 1, h7, by omega, fun i hi => ?_, fun i j hi hj e => ?_, fun x hx hw => ?_⟩
  · by_cases q : i = n
    · subst q
      exact ⟨X, hX, e1, by rw [e2]; exact (if_pos rfl).symm, by show (if X = X then v else w X) ≠ 0; rw [if_pos rfl]; exact hv⟩
    · obtain ⟨x, b1, b2, b3, b4⟩ := a1 i (by omega)
      have hne : x ≠ X := fun r => nf i (by omega) (by rw [b2, r])
      exact ⟨x, b1, by rw [k1 i (by omega)]; exact b2, by rw [k2 i (by omega), b3]; exact (if_neg hne).symm, by show (if x = X then v else w x) ≠ 0; rw [if_neg hne]; exact b4⟩
  · by_cases q : i = n
    · by_cases r : j = n
      · omega
      · rw [q, e1, k1 j (by omega)] at e
        exact absurd e.symm (nf j (by omega))
    · by_cases r : j = n
      · rw [r, e1, k1 i (by omega)] at e
        exact absurd e (nf i (by omega))
      · rw [k1 i (by omega), k1 j (by omega)] at e
        exact a2 i j (by omega) (by omega) e
  · by_cases q : x = X
    · exact ⟨n, by omega, by rw [q]; exact e1⟩
    · have hw : (if x = X then v else w x) ≠ 0 := hw
      rw [if_neg q] at hw
      obtain ⟨i, b1, b2⟩ := a3 x hx hw
      exact ⟨i, by omega, by rw [k1 i b1]; exact b2⟩
theorem lr_upd {I I1 : mPI} {w : Nat → Int32} {n X i0 : Nat} {v : Int32} (hX : X < 19) (h7 : I1 528 7 = nI n) (hn : n ≤ 10) (a1 : ∀ i, i < n → ∃ x, x < 19 ∧ I 533 i = nI x - 9 ∧ I 534 i = w x ∧ w x ≠ 0) (a2 : ∀ i j, i < n → j < n → I 533 i = I 533 j → i = j) (a3 : ∀ x, x < 19 → w x ≠ 0 → ∃ i, i < n ∧ I 533 i = nI x - 9) (hi0 : i0 < n) (f : I 533 i0 = nI X - 9) (hv : v ≠ 0) (k1 : ∀ i, i < n → I1 533 i = I 533 i) (e2 : I1 534 i0 = v) (k2 : ∀ i, i < n → i ≠ i0 → I1 534 i = I 534 i) : LRm I1 (wUp w X v) := by
  refine ⟨n, h7, hn, fun i hi => ?_, fun i j hi hj e => ?_, fun x hx hw => ?_⟩
  · by_cases q : i = i0
    · subst q
      exact ⟨X, hX, by rw [k1 i hi]; exact f, by rw [e2]; exact (if_pos rfl).symm, by show (if X = X then v else w X) ≠ 0; rw [if_pos rfl]; exact hv⟩
    · obtain ⟨x, b1, b2, b3, b4⟩ := a1 i hi
      have hne : x ≠ X := fun r => q (a2 i i0 hi hi0 (by rw [b2, f, r]))
      exact ⟨x, b1, by rw [k1 i hi]; exact b2, by rw [k2 i hi q, b3]; exact (if_neg hne).symm, by show (if x = X then v else w x) ≠ 0; rw [if_neg hne]; exact b4⟩
  · rw [k1 i hi, k1 j hj] at e
    exact a2 i j hi hj e
  · by_cases q : x = X
    · exact ⟨i0, hi0, by rw [k1 i0 hi0, q]; exact f⟩
    · have hw : (if x = X then v else w x) ≠ 0 := hw
      rw [if_neg q] at hw
      obtain ⟨i, b1, b2⟩ := a3 x hx hw
      exact ⟨i, b1, by rw [k1 i b1]; exact b2⟩
theorem lr_del {I I1 : mPI} {w : Nat → Int32} {n X i0 : Nat} (hX : X < 19) (h7 : I1 528 7 = nI (n - 1)) (hn : n ≤ 10) (a1 : ∀ i, i < n → ∃ x, x < 19 ∧ I 533 i = nI x - 9 ∧ I 534 i = w x ∧ w x ≠ 0) (a2 : ∀ i j, i < n → j < n → I 533 i = I 533 j → i = j) (a3 : ∀ x, x < 19 → w x ≠ 0 → ∃ i, i < n ∧ I 533 i = nI x - 9) (hi0 : i0 < n) (f : I 533 i0 = nI X - 9) (k1 : ∀ i, i < n - 1 → i ≠ i0 → I1 533 i = I 533 i ∧ I1 534 i = I 534 i) (e1 : i0 < n - 1 → I1 533 i0 = I 533 (n - 1) ∧ I1 534 i0 = I 534 (n - 1)) : LRm I1 (wUp w X 0) := by
  have key : ∀ i, i < n - 1 → ∃ j, j < n ∧ j ≠ i0 ∧ I1 533 i = I 533 j ∧ I1 534 i = I 534 j ∧ (j = i ∨ (i = i0 ∧ j = n - 1)) := fun i hi => by
    by_cases q : i = i0
    · subst q
      obtain ⟨b1, b2⟩ := e1 hi
      exact ⟨n - 1, by omega, by omega, b1, b2, Or.inr ⟨rfl, rfl⟩⟩
    · obtain ⟨b1, b2⟩ := k1 i hi q
      exact ⟨i, by omega, q, b1, b2, Or.inl rfl⟩
  refine ⟨n - 1, h7, by omega, fun i hi => ?_, fun i j hi hj e => ?_, fun x hx hw => ?_⟩
  · obtain ⟨j, c1, c2, c3, c4, -⟩ := key i hi
    obtain ⟨x, b1, b2, b3, b4⟩ := a1 j c1
    have hne : x ≠ X := fun r => c2 (a2 j i0 c1 hi0 (by rw [b2, f, r]))
    exact ⟨x, b1, by rw [c3]; exact b2, by rw [c4, b3]; exact (if_neg hne).symm, by show (if x = X then 0 else w x) ≠ 0; rw [if_neg hne]; exact b4⟩
  · obtain ⟨i', c1, c2, c3, -, c5⟩ := key i hi
    obtain ⟨j', d1, d2, d3, -, d5⟩ := key j hj
    rw [c3, d3] at e
    have := a2 i' j' c1 d1 e
    rcases c5 with c5 | c5 <;> rcases d5 with d5 | d5 <;> omega
  · have hw : (if x = X then 0 else w x) ≠ 0 := hw
    by_cases q : x = X
    · rw [if_pos q] at hw
      exact absurd rfl hw
    · rw [if_neg q] at hw
      obtain ⟨i, b1, b2⟩ := a3 x hx hw
      have hne : i ≠ i0 := fun r => q (sub9 hx hX (by rw [← b2, r, f]))
      by_cases r : i = n - 1
      · have hlt : i0 < n - 1 := by omega
        exact ⟨i0, hlt, by rw [(e1 hlt).1, ← r]; exact b2⟩
      · exact ⟨i, by omega, by rw [(k1 i (by omega) hne).1]; exact b2⟩
def pt_mpoint : mSH → mRF → mPT := m_pv 5 (fun sh rf d rest I J K => ∃ (x wt : Int32) (w : Nat → Int32) (σ : Nat → Int), sh = shL ∧ rf = rfL ∧ d = 528 ∧ rest = [.inl x, .inl wt] ∧ MS I σ ∧ (I 528 4 = 0 → I 528 6 = 0 → LRm I w ∧ ∀ y, y < 19 → (w y).toInt.natAbs ≤ 99) ∧ Out (pointO (I 528 4) (I 528 7) (I 528 6) (w (x.toInt + 9).toNat) x.toInt wt.toInt) (fun r => K (some (.inl r)) I J) (∀ I1 J1, UpdM I J I1 J1 (I 528 4) (I 528 5) (I 528 7 + (if w (x.toInt + 9).toNat = 0 then 1 else 0) - (if w (x.toInt + 9).toNat + wt = 0 then 1 else 0)) (I 528 6) (fun k => J 532 k + wt.toInt64 * pwL x.toInt64 k) → LRm I1 (wUp w (x.toInt + 9).toNat (w (x.toInt + 9).toNat + wt)) → SlotsM I σ I1 → K (some (.inl (I1 528 7))) I1 J1))
theorem in99 {c : Int32} : ((-99 : Int64).toInt ≤ c.toInt64.toInt ∧ c.toInt64.toInt ≤ (99 : Int64).toInt) ↔ win c.toInt 99 := by
  rw [Int32.toInt_toInt64, show (-99 : Int64).toInt = -99 from rfl, show (99 : Int64).toInt = 99 from rfl]
def ptP (I : mPI) (w : Nat → Int32) (X : Nat) (wt : Int32) (I1 : mPI) : Prop := (∀ a, a ≠ 528 → a ≠ 533 → a ≠ 534 → I1 a = I a) ∧ I1 528 4 = I 528 4 ∧ I1 528 5 = I 528 5 ∧ I1 528 6 = I 528 6 ∧ I1 528 7 = (I 528 7 + (if w X = 0 then 1 else 0) - (if w X + wt = 0 then 1 else 0)) ∧ LRm I1 (wUp w X (w X + wt))
def ptF (I : mPI) (w : Nat → Int32) (n X i : Nat) (x : Int32) : Prop := (i = n ∧ w X = 0 ∧ ∀ j, j < n → ¬ I 533 j = x) ∨ (i < n ∧ I 533 i = x ∧ I 534 i = w X ∧ w X ≠ 0)
theorem ptF_A {I : mPI} {w : Nat → Int32} {n X : Nat} {x wt : Int32} (hX : X < 19) (hx : x = nI X - 9) (h7 : I 528 7 = nI n) (hn : n < 10) (a1 : ∀ i, i < n → ∃ x, x < 19 ∧ I 533 i = nI x - 9 ∧ I 534 i = w x ∧ w x ≠ 0) (a2 : ∀ i j, i < n → j < n → I 533 i = I 533 j → i = j) (a3 : ∀ x, x < 19 → w x ≠ 0 → ∃ i, i < n ∧ I 533 i = nI x - 9) (w0 : w X = 0) (nf : ∀ j, j < n → ¬ I 533 j = x) (hv : wt ≠ 0) {nw : Int32} (hnw : nw = wt) : ptP I w X wt (m_uI (m_uI (m_uI I 533 n x) 534 n nw) 528 7 (nI n + 1)) := by
  subst hnw hx
  refine ⟨fun a q1 q2 q3 => ?_, ?_, ?_, ?_, ?_, ?_⟩
  · rw [uI_a _ _ _ q1, uI_a _ _ _ q3, uI_a _ _ _ q2]
  · rw [uI_k _ _ _ (by decide), uI_a _ _ _ (by decide), uI_a _ _ _ (by decide)]
  · rw [uI_k _ _ _ (by decide), uI_a _ _ _ (by decide), uI_a _ _ _ (by decide)]
  · rw [uI_k _ _ _ (by decide), uI_a _ _ _ (by decide), uI_a _ _ _ (by decide)]
  · rw [uI_s, w0, if_pos rfl, Int32.zero_add, if_neg hv, h7, Int32.sub_zero]
  · rw [w0, Int32.zero_add]
    refine lr_new hX (by rw [uI_s, nI_1]) hn a1 a2 a3 nf ?_ ?_ hv (fun i hi => ?_) (fun i hi => ?_)
    · rw [uI_a _ _ _ (by decide), uI_a _ _ _ (by decide), uI_s]
    · rw [uI_a _ _ _ (by decide), uI_s]
    · rw [uI_a _ _ _ (by decide), uI_a _ _ _ (by decide), uI_k _ _ _ (by omega)]
    · rw [uI_a _ _ _ (by decide), uI_k _ _ _ (by omega), uI_a _ _ _ (by decide)]
theorem ptF_B {I : mPI} {w : Nat → Int32} {n X i0 : Nat} {x wt : Int32} (hX : X < 19) (hx : x = nI X - 9) (h7 : I 528 7 = nI n) (hn : n ≤ 10) (a1 : ∀ i, i < n → ∃ x, x < 19 ∧ I 533 i = nI x - 9 ∧ I 534 i = w x ∧ w x ≠ 0) (a2 : ∀ i j, i < n → j < n → I 533 i = I 533 j → i = j) (a3 : ∀ x, x < 19 → w x ≠ 0 → ∃ i, i < n ∧ I 533 i = nI x - 9) (hi0 : i0 < n) (f : I 533 i0 = x) (w0 : w X ≠ 0) {nw : Int32} (hnw : nw = w X + wt) (hv : nw ≠ 0) : ptP I w X wt (m_uI (m_uI (m_uI I 533 i0 x) 534 i0 nw) 528 7 (nI n)) := by
  subst hnw hx
  refine ⟨fun a q1 q2 q3 => ?_, ?_, ?_, ?_, ?_, ?_⟩
  · rw [uI_a _ _ _ q1, uI_a _ _ _ q3, uI_a _ _ _ q2]
  · rw [uI_k _ _ _ (by decide), uI_a _ _ _ (by decide), uI_a _ _ _ (by decide)]
  · rw [uI_k _ _ _ (by decide), uI_a _ _ _ (by decide), uI_a _ _ _ (by decide)]
  · rw [uI_k _ _ _ (by decide), uI_a _ _ _ (by decide), uI_a _ _ _ (by decide)]
  · rw [uI_s, if_neg w0, if_neg hv, h7, Int32.add_zero, Int32.sub_zero]
  · refine lr_upd hX (by rw [uI_s]) hn a1 a2 a3 hi0 f hv (fun i hi => ?_) ?_ (fun i hi q => ?_)
    · rw [uI_a _ _ _ (by decide), uI_a _ _ _ (by decide)]
      by_cases q : i = i0
      · rw [q, uI_s, f]
      · rw [uI_k _ _ _ q]
    · rw [uI_a _ _ _ (by decide), uI_s]
    · rw [uI_a _ _ _ (by decide), uI_k _ _ _ q, uI_a _ _ _ (by decide)]
theorem ptF_C {I : mPI} {w : Nat → Int32} {n X i0 c : Nat} {x wt : Int32} (hX : X < 19) (hx : x = nI X - 9) (h7 : I 528 7 = nI n) (hn : n ≤ 10) (a1 : ∀ i, i < n → ∃ x, x < 19 ∧ I 533 i = nI x - 9 ∧ I 534 i = w x ∧ w x ≠ 0) (a2 : ∀ i j, i < n → j < n → I 533 i = I 533 j → i = j) (a3 : ∀ x, x < 19 → w x ≠ 0 → ∃ i, i < n ∧ I 533 i = nI x - 9) (hi0 : i0 < n) (f : I 533 i0 = x) (w0 : w X ≠ 0) (hz : w X + wt = 0) {p1 p2 : Int32} {I4 : mPI} (e4 : I4 = m_uI (m_uI (m_uI (m_uI I 533 i0 x) 534 i0 (w X + wt)) 528 7 (nI n)) 528 7 (nI n - 1)) (hp1 : p1 = I4 533 (n - 1)) (hp2 : p2 = m_uI I4 533 i0 p1 534 (n - 1)) : ptP I w X wt (m_uI (m_uI I4 533 i0 p1) 534 i0 p2) := by
  have em : nI n - 1 = nI (n - 1) := pk_sub (b := 1) (by omega)
  subst hx
  have o4 : ∀ a, a ≠ 528 → a ≠ 533 → a ≠ 534 → I4 a = I a := fun a q1 q2 q3 => by
    rw [e4, uI_a _ _ _ q1, uI_a _ _ _ q1, uI_a _ _ _ q3, uI_a _ _ _ q2]
  have g3 : ∀ j, I4 533 j = I 533 j := fun j => by
    rw [e4, uI_a _ _ _ (by decide), uI_a _ _ _ (by decide), uI_a _ _ _ (by decide)]
    by_cases q : j = i0
    · rw [q, uI_s, f]
    · rw [uI_k _ _ _ q]
  have g4 : ∀ j, j ≠ i0 → I4 534 j = I 534 j := fun j q => by
    rw [e4, uI_a _ _ _ (by decide), uI_a _ _ _ (by decide), uI_k _ _ _ q, uI_a _ _ _ (by decide)]
  have g8 : ∀ k, k ≠ 7 → I4 528 k = I 528 k := fun k q => by
    rw [e4, uI_k _ _ _ q, uI_k _ _ _ q, uI_a _ _ _ (by decide), uI_a _ _ _ (by decide)]
  have g7 : I4 528 7 = nI n - 1 := by rw [e4, uI_s]
  clear e4
  subst hp1 hp2
  have t8 : ∀ k, m_uI (m_uI I4 533 i0 (I4 533 (n - 1))) 534 i0 (m_uI I4 533 i0 (I4 533 (n - 1)) 534 (n - 1)) 528 k = I4 528 k := fun k => by rw [uI_a _ _ _ (by decide), uI_a _ _ _ (by decide)]
  refine ⟨fun a q1 q2 q3 => ?_, ?_, ?_, ?_, ?_, ?_⟩
  · rw [uI_a _ _ _ q3, uI_a _ _ _ q2]
    exact o4 a q1 q2 q3
  · rw [t8, g8 4 (by decide)]
  · rw [t8, g8 5 (by decide)]
  · rw [t8, g8 6 (by decide)]
  · rw [t8, g7, if_neg w0, if_pos hz, h7, Int32.add_zero]
  · rw [hz]
    refine lr_del (i0 := i0) hX (by rw [t8, g7, em]) hn a1 a2 a3 hi0 f (fun i hi q => ⟨?_, ?_⟩) (fun hlt => ⟨?_, ?_⟩)
    · rw [uI_a _ _ _ (by decide), uI_k _ _ _ q, g3]
    · rw [uI_k _ _ _ q, uI_a _ _ _ (by decide), g4 i q]
    · rw [uI_a _ _ _ (by decide), uI_s, g3]
    · rw [uI_s, uI_a _ _ _ (by decide), g4 _ (by omega)]

def ct_X5_point (sh : mSH) (rf : mRF) : Nat → Option (Nat × Bool × mPT) := fun k => match k with
  | 134 => some (3, false, pt_in sh rf)
  | 142 => some (3, true, pt_maddw sh rf)
  | _ => none
set_option maxRecDepth 20000 in
theorem ce_X5_point : m_CE RX5 2 49 cX5_point 5 ct_X5_point := by
  intro p l e s m args below meth c Q D cs ad sh rf N hx hb hml hown hts hK hi hN k n vf pt h
  unfold ct_X5_point at h
  split at h
  · cases h
    exact m_CG_S mt_X5_in hx hb hml hown hts hK hi hN (m_wck_ok (l := [(Cond.methodLink RX5 134 yX5_in, 748), (Cond.static yX5_in, 749), (Cond.initialized RX5, 62), (Cond.code yX5_in cX5_in 6 (some .boolean), 750)]) (by decide +kernel)) ⟨by decide +kernel, by decide +kernel, by decide +kernel⟩ ⟨Nat.le_of_ble_eq_true rfl, Nat.le_of_ble_eq_true rfl⟩
  · cases h
    exact m_CG_V mt_X5_addWeight hx hb hml hown hts hK hi hN (ci := 5) m_pv_rec rfl rfl (m_wck_ok (l := [(Cond.methodLink RX5 142 yX5_addWeight, 753), (Cond.instanceMethod yX5_addWeight, 755), (Cond.selects RX5 yX5_addWeight yX5_addWeight, 16), (Cond.initialized RX5, 62), (Cond.code yX5_addWeight cX5_addWeight 5 none, 756)]) (by decide +kernel)) ⟨rfl, by decide +kernel, by decide +kernel, by decide +kernel⟩ ⟨Nat.le_of_ble_eq_true rfl, Nat.le_of_ble_eq_true rfl⟩
  · cases h
set_option maxHeartbeats 4000000 in
set_option maxRecDepth 100000 in
theorem mt_X5_point : m_Mt yX5_point cX5_point 5 (some .int) 2 49 pt_mpoint := by
  refine m_methodG (fl := fl_X5) (kI := kI_X5) (kJ := kJ_X5) (ct := ct_X5_point) (cd := cd_X5_point) (cut := [(14, [0, 1, 2]), (54, [0, 1, 2, 3]), (78, [0, 1, 2, 3]), (109, [0, 1, 2, 3, 4]), (212, [0, 1, 2])]) (rk := 1) (fu := 120) (by decide +kernel) fl_X5_ok kI_X5_ok kJ_X5_ok ce_X5_point rfl ck_X5_point ⟨_, _, rfl, rfl⟩ ?_
  intro sh rf As I J K hpt
  obtain ⟨d, rest, rfl, hd, x, wt, w, σ, rfl, rfl, rfl, rfl, hM, hL, hS, hU⟩ := hpt
  have w0 : wt = 0 ↔ wt.toInt = 0 := i_of (j := 0) (by decide)
  by_cases G : (win x.toInt 9 ∧ wt.toInt ≠ 0 ∧ win wt.toInt 99) ∧ I 528 4 = 0 ∧ I 528 6 = 0
  · obtain ⟨⟨g1, g2, g3⟩, g4, g6⟩ := G
    obtain ⟨⟨n, h7, hn, a1, a2, a3⟩, hwb⟩ := hL g4 g6
    obtain ⟨X, hX, -, hxi, hx9⟩ := win_x g1
    have hx : x = nI X - 9 := by rw [← hx9, Int32.add_sub_cancel]
    have eX : (x.toInt + 9).toNat = X := by omega
    rw [eX] at hS hU
    have hwX := hwb X hX
    have hv : wt ≠ 0 := mt w0.mp g2
    have adT : (w X + wt).toInt = (w X).toInt + wt.toInt := i_addT (by omega) (by omega)
    have pO : pointO (I 528 4) (I 528 7) (I 528 6) (w X) x.toInt wt.toInt = if w X = 0 ∧ 10 ≤ I 528 7 then .inl (-4) else if ¬ win ((w X).toInt + wt.toInt) 99 then .inl (-5) else .inr () := by
      unfold pointO
      rw [if_neg (fun q => q ⟨g1, g2, g3⟩), if_neg (fun q => by rcases q with q | q; exact q g4; exact q g6)]
    rw [pO] at hS hU
    refine ⟨Nat.le_of_ble_eq_true rfl, fun a9 b9 pc vs st I1 J1 => st = [] ∧ J1 = J ∧ ((pc = 14 ∧ a9 = 50 ∧ I1 = I ∧ vs = [.inr (.inr 528), .inl x, .inl wt]) ∨ (pc = 54 ∧ I1 = I ∧ ∃ i, i ≤ n ∧ a9 = 40 - i ∧ vs = [.inr (.inr 528), .inl x, .inl wt, .inl (nI i)] ∧ ∀ j, j < i → ¬ I 533 j = x) ∨ (pc = 78 ∧ a9 = 20 ∧ I1 = I ∧ ∃ i, vs = [.inr (.inr 528), .inl x, .inl wt, .inl (nI i)] ∧ ptF I w n X i x) ∨ (pc = 109 ∧ a9 = 10 ∧ I1 = I ∧ ∃ i, i < 10 ∧ vs = [.inr (.inr 528), .inl x, .inl wt, .inl (nI i), .inl (w X + wt)] ∧ ptF I w n X i x) ∨ (pc = 212 ∧ a9 = 5 ∧ vs = [.inr (.inr 528), .inl x, .inl wt] ∧ win ((w X).toInt + wt.toInt) 99 ∧ ¬ (w X = 0 ∧ 10 ≤ I 528 7) ∧ ptP I w X wt I1)), ?_, ?_⟩
    · refine ⟨x.toInt64, -9, 9, rfl, fun h => absurd g1 (mt in9.mpr (w_is0 h)), fun _ => ⟨50, 0, rfl, rfl, Or.inl ⟨rfl, rfl, rfl, rfl⟩⟩⟩
    · intro pc ks a9 b9 vs st I1 J1 hc hI
      obtain ⟨rfl, rfl, hI⟩ := hI
      rcases m_cu1 hc with ⟨rfl, rfl⟩ | hc
      · obtain ⟨rfl, rfl, rfl⟩ : a9 = 50 ∧ I1 = I ∧ vs = [.inr (.inr 528), .inl x, .inl wt] := by
          rcases hI with ⟨-, q⟩ | ⟨q, -⟩ | ⟨q, -⟩ | ⟨q, -⟩ | ⟨q, -⟩
          · exact q
          · exact absurd q (by decide)
          · exact absurd q (by decide)
          · exact absurd q (by decide)
          · exact absurd q (by decide)
        clear hI
        exact ⟨wt.toInt64, -99, 99, rfl, fun h => absurd g3 (mt in99.mpr (w_is0 h)), fun _ => ⟨fun _ => ⟨rfl, fun q => absurd g4 q, fun _ => ⟨rfl, fun _ => ⟨40 - 0, 0, Or.inl (by omega), rfl, rfl, Or.inr (Or.inl ⟨rfl, rfl, 0, Nat.zero_le _, rfl, rfl, fun j hj => absurd hj (Nat.not_lt_zero j)⟩)⟩, fun q => absurd g6 q⟩⟩, fun q => absurd q hv⟩⟩
      rcases m_cu1 hc with ⟨rfl, rfl⟩ | hc
      · obtain ⟨rfl, i, hi, rfl, rfl, h8⟩ : I1 = I ∧ ∃ i, i ≤ n ∧ a9 = 40 - i ∧ vs = [.inr (.inr 528), .inl x, .inl wt, .inl (nI i)] ∧ ∀ j, j < i → ¬ I 533 j = x := by
          rcases hI with ⟨q, -⟩ | ⟨-, q⟩ | ⟨q, -⟩ | ⟨q, -⟩ | ⟨q, -⟩
          · exact absurd q (by decide)
          · exact q
          · exact absurd q (by decide)
          · exact absurd q (by decide)
          · exact absurd q (by decide)
        clear hI
        refine ⟨rfl, fun h => ?_, fun h => ?_⟩
        · have h : I1 528 7 ≤ nI i := h
          rw [h7, nI_leI (by omega) (by omega)] at h
          obtain rfl : i = n := by omega
          refine ⟨20, 0, Or.inl (by omega), rfl, rfl, Or.inr (Or.inr (Or.inl ⟨rfl, rfl, rfl, i, rfl, Or.inl ⟨rfl, ?_, h8⟩⟩))⟩
          by_cases q : w X = 0
          · exact q
          · obtain ⟨j, b1, b2⟩ := a3 X hX q
            exact absurd (b2.trans hx.symm) (h8 j b1)
        · have h : ¬ I1 528 7 ≤ nI i := h
          rw [h7, nI_leI (by omega) (by omega)] at h
          have icl : (nI i).toNatClampNeg = i := nI_clamp (by omega)
          refine ⟨rfl, m_inb_i (n := 10) rfl (vp_in_nI (by omega) (by decide)), fun h2 => ?_, fun h2 => ?_⟩
          · have h2 : I1 533 (nI i).toNatClampNeg = x := h2
            rw [icl] at h2
            obtain ⟨y, b1, b2, b3, b4⟩ := a1 i (by omega)
            have : y = X := sub9 b1 hX (by rw [← b2, h2, hx])
            subst this
            exact ⟨20, 0, Or.inl (by omega), rfl, rfl, Or.inr (Or.inr (Or.inl ⟨rfl, rfl, rfl, i, rfl, Or.inr ⟨by omega, h2, b3, b4⟩⟩))⟩
          · have h2 : ¬ I1 533 (nI i).toNatClampNeg = x := h2
            rw [icl] at h2
            refine ⟨40 - (i + 1), 0, Or.inl (by omega), rfl, rfl, Or.inr (Or.inl ⟨rfl, rfl, i + 1, by omega, rfl, by rw [← nI_1 i], fun j hj => ?_⟩)⟩
            by_cases q : j = i
            · rw [q]
              exact h2
            · exact h8 j (by omega)
      rcases m_cu1 hc with ⟨rfl, rfl⟩ | hc
      · obtain ⟨rfl, rfl, i, rfl, hF⟩ : a9 = 20 ∧ I1 = I ∧ ∃ i, vs = [.inr (.inr 528), .inl x, .inl wt, .inl (nI i)] ∧ ptF I w n X i x := by
          rcases hI with ⟨q, -⟩ | ⟨q, -⟩ | ⟨-, q⟩ | ⟨q, -⟩ | ⟨q, -⟩
          · exact absurd q (by decide)
          · exact absurd q (by decide)
          · exact q
          · exact absurd q (by decide)
          · exact absurd q (by decide)
        clear hI
        have hi : i ≤ n := by rcases hF with q | q <;> omega
        have icl : (nI i).toNatClampNeg = i := nI_clamp (by omega)
        refine ⟨fun h => ?_, fun h => ?_⟩
        · have h : ¬ nI i = nI 10 := h
          rw [nI_eq (by omega) (by omega)] at h
          refine ⟨rfl, fun h2 => ?_, fun h2 => ?_⟩
          · have h2 : I1 528 7 ≤ nI i := h2
            rw [h7, nI_leI (by omega) (by omega)] at h2
            rcases hF with ⟨e, z, nf⟩ | ⟨q, -⟩
            · refine ⟨10, 0, Or.inl (by omega), rfl, rfl, Or.inr (Or.inr (Or.inr (Or.inl ⟨rfl, rfl, rfl, i, by omega, ?_, Or.inl ⟨e, z, nf⟩⟩)))⟩
              rw [z]
              show ([.inr (.inr 528), .inl x, .inl wt, .inl (nI i), .inl (wt + 0)] : List mPV) = _
              rw [Int32.add_zero, Int32.zero_add]
            · omega
          · have h2 : ¬ I1 528 7 ≤ nI i := h2
            rw [h7, nI_leI (by omega) (by omega)] at h2
            rcases hF with ⟨e, -⟩ | ⟨q, q2, q3, q4⟩
            · omega
            · refine ⟨rfl, m_inb_i (n := 10) rfl (vp_in_nI (by omega) (by decide)), 10, 0, Or.inl (by omega), rfl, rfl, Or.inr (Or.inr (Or.inr (Or.inl ⟨rfl, rfl, rfl, i, by omega, ?_, Or.inr ⟨q, q2, q3, q4⟩⟩)))⟩
              show ([.inr (.inr 528), .inl x, .inl wt, .inl (nI i), .inl (wt + I1 534 (nI i).toNatClampNeg)] : List mPV) = _
              rw [icl, q3, Int32.add_comm]
        · have h : nI i = nI 10 := h
          rw [nI_eq (by omega) (by omega)] at h
          rcases hF with ⟨e, z, -⟩ | ⟨q, -⟩
          · refine hS (-4) (if_pos ⟨z, ?_⟩)
            rw [h7, show n = 10 by omega]
            decide
          · omega
      rcases m_cu1 hc with ⟨rfl, rfl⟩ | hc
      · obtain ⟨rfl, rfl, i, hi10, rfl, hF⟩ : a9 = 10 ∧ I1 = I ∧ ∃ i, i < 10 ∧ vs = [.inr (.inr 528), .inl x, .inl wt, .inl (nI i), .inl (w X + wt)] ∧ ptF I w n X i x := by
          rcases hI with ⟨q, -⟩ | ⟨q, -⟩ | ⟨q, -⟩ | ⟨-, q⟩ | ⟨q, -⟩
          · exact absurd q (by decide)
          · exact absurd q (by decide)
          · exact absurd q (by decide)
          · exact q
          · exact absurd q (by decide)
        clear hI
        have icl : (nI i).toNatClampNeg = i := nI_clamp (by omega)
        have nfull : ¬ (w X = 0 ∧ 10 ≤ I1 528 7) := fun q => by
          rcases hF with ⟨e, -⟩ | ⟨-, -, -, z⟩
          · have q2 := q.2
            rw [h7] at q2
            have q2 : nI 10 ≤ nI n := q2
            rw [nI_leI (by omega) (by omega)] at q2
            omega
          · exact z q.1
        refine ⟨(w X + wt).toInt64, -99, 99, rfl, fun h => ?_, fun h => ?_⟩
        · have h := in99.mp (w_not0 h)
          rw [adT] at h
          have r7 : m_uI (m_uI I1 533 (nI i).toNatClampNeg x) 534 (nI i).toNatClampNeg (w X + wt) 528 7 = nI n := by
            rw [uI_a _ _ _ (by decide), uI_a _ _ _ (by decide)]
            exact h7
          have fin : ∀ I2, ptP I1 w X wt I2 → ∃ a1 b1, (a1 < 10 ∨ a1 = 10 ∧ b1 < b9) ∧ ([] : List mPV) = [] ∧ J1 = J1 ∧ ((212 = 14 ∧ a1 = 50 ∧ I2 = I1 ∧ ([.inr (.inr 528), .inl x, .inl wt] : List mPV) = [.inr (.inr 528), .inl x, .inl wt]) ∨ (212 = 54 ∧ I2 = I1 ∧ ∃ i, i ≤ n ∧ a1 = 40 - i ∧ ([.inr (.inr 528), .inl x, .inl wt] : List mPV) = [.inr (.inr 528), .inl x, .inl wt, .inl (nI i)] ∧ ∀ j, j < i → ¬ I1 533 j = x) ∨ (212 = 78 ∧ a1 = 20 ∧ I2 = I1 ∧ ∃ i, ([.inr (.inr 528), .inl x, .inl wt] : List mPV) = [.inr (.inr 528), .inl x, .inl wt, .inl (nI i)] ∧ ptF I1 w n X i x) ∨ (212 = 109 ∧ a1 = 10 ∧ I2 = I1 ∧ ∃ i, i < 10 ∧ ([.inr (.inr 528), .inl x, .inl wt] : List mPV) = [.inr (.inr 528), .inl x, .inl wt, .inl (nI i), .inl (w X + wt)] ∧ ptF I1 w n X i x) ∨ (212 = 212 ∧ a1 = 5 ∧ ([.inr (.inr 528), .inl x, .inl wt] : List mPV) = [.inr (.inr 528), .inl x, .inl wt] ∧ win ((w X).toInt + wt.toInt) 99 ∧ ¬ (w X = 0 ∧ 10 ≤ I1 528 7) ∧ ptP I1 w X wt I2)) := fun I2 hP => ⟨5, 0, Or.inl (by omega), rfl, rfl, Or.inr (Or.inr (Or.inr (Or.inr ⟨rfl, rfl, rfl, h, nfull, hP⟩)))⟩
          have i3 : m_inb shL 533 0 (nI i) := m_inb_i (n := 10) rfl (vp_in_nI (by omega) (by decide))
          have i4 : m_inb shL 534 0 (nI i) := m_inb_i (n := 10) rfl (vp_in_nI (by omega) (by decide))
          refine ⟨rfl, i3, rfl, i4, rfl, fun h2 => ?_, fun h2 => ?_⟩
          · have h2 : ¬ nI i = m_uI (m_uI I1 533 (nI i).toNatClampNeg x) 534 (nI i).toNatClampNeg (w X + wt) 528 7 := h2
            rw [r7, nI_eq (by omega) (by omega)] at h2
            rcases hF with ⟨e, -⟩ | ⟨q, q2, q3, q4⟩
            · exact absurd e h2
            · refine ⟨rfl, rfl, fun h3 => ?_, fun h3 => ?_⟩
              · have h3 : ¬ w X + wt = 0 := h3
                refine fin _ ?_
                show ptP I1 w X wt (m_uI (m_uI (m_uI I1 533 (nI i).toNatClampNeg x) 534 (nI i).toNatClampNeg (w X + wt)) 528 7 (m_uI (m_uI I1 533 (nI i).toNatClampNeg x) 534 (nI i).toNatClampNeg (w X + wt) 528 7))
                rw [r7, icl]
                exact ptF_B hX hx h7 hn a1 a2 a3 q q2 q4 rfl h3
              · have h3 : w X + wt = 0 := h3
                have em : nI n - 1 = nI (n - 1) := pk_sub (b := 1) (by omega)
                have hn1 : n - 1 < 10 := by omega
                have t7 : ∀ I9 : mPI, ∀ v, m_uI I9 528 7 v 528 7 = v := fun I9 v => uI_s _ _ _ _
                obtain ⟨I4, e4⟩ : ∃ I4, I4 = m_uI (m_uI (m_uI (m_uI I1 533 (nI i).toNatClampNeg x) 534 (nI i).toNatClampNeg (w X + wt)) 528 7 (m_uI (m_uI I1 533 (nI i).toNatClampNeg x) 534 (nI i).toNatClampNeg (w X + wt) 528 7)) 528 7 (m_uI (m_uI (m_uI I1 533 (nI i).toNatClampNeg x) 534 (nI i).toNatClampNeg (w X + wt)) 528 7 (m_uI (m_uI I1 533 (nI i).toNatClampNeg x) 534 (nI i).toNatClampNeg (w X + wt) 528 7) 528 7 - 1) := ⟨_, rfl⟩
                have e4' : I4 = m_uI (m_uI (m_uI (m_uI I1 533 i x) 534 i (w X + wt)) 528 7 (nI n)) 528 7 (nI n - 1) := by
                  rw [e4, t7, r7, icl]
                have r47 : I4 528 7 = nI (n - 1) := by rw [e4', uI_s, em]
                have r57 : ∀ y z, m_uI I4 533 y z 528 7 = nI (n - 1) := fun y z => by
                  rw [uI_a _ _ _ (by decide)]
                  exact r47
                have j3 : m_inb shL 533 0 (I4 528 7) := by
                  rw [r47]
                  exact m_inb_i (n := 10) rfl (vp_in_nI hn1 (by decide))
                have j4 : m_inb shL 534 0 (m_uI I4 533 (nI i).toNatClampNeg (I4 533 (I4 528 7).toNatClampNeg) 528 7) := by
                  rw [r57]
                  exact m_inb_i (n := 10) rfl (vp_in_nI hn1 (by decide))
                have hC := ptF_C (c := 0) (p1 := I4 533 (n - 1)) (p2 := m_uI I4 533 i (I4 533 (n - 1)) 534 (n - 1)) hX hx h7 hn a1 a2 a3 q q2 q4 h3 e4' rfl rfl
                have hC2 : ptP I1 w X wt (m_uI (m_uI I4 533 (nI i).toNatClampNeg (I4 533 (I4 528 7).toNatClampNeg)) 534 (nI i).toNatClampNeg (m_uI I4 533 (nI i).toNatClampNeg (I4 533 (I4 528 7).toNatClampNeg) 534 (m_uI I4 533 (nI i).toNatClampNeg (I4 533 (I4 528 7).toNatClampNeg) 528 7).toNatClampNeg)) := by
                  rw [r57, r47, icl, nI_clamp (by omega)]
                  exact hC
                rw [e4] at j3 j4 hC2
                exact ⟨rfl, rfl, rfl, rfl, rfl, j3, i3, rfl, rfl, rfl, j4, i4, fin _ hC2⟩
          · have h2 : nI i = m_uI (m_uI I1 533 (nI i).toNatClampNeg x) 534 (nI i).toNatClampNeg (w X + wt) 528 7 := h2
            rw [r7, nI_eq (by omega) (by omega)] at h2
            rcases hF with ⟨e, z, nf⟩ | ⟨q, -⟩
            · subst e
              refine ⟨rfl, rfl, fun h3 => ?_, fun h3 => ?_⟩
              · refine fin _ ?_
                show ptP I1 w X wt (m_uI (m_uI (m_uI I1 533 (nI i).toNatClampNeg x) 534 (nI i).toNatClampNeg (w X + wt)) 528 7 (m_uI (m_uI I1 533 (nI i).toNatClampNeg x) 534 (nI i).toNatClampNeg (w X + wt) 528 7 + 1))
                rw [r7, icl]
                exact ptF_A hX hx h7 hi10 a1 a2 a3 z nf hv (by rw [z, Int32.zero_add])
              · have h3 : w X + wt = 0 := h3
                rw [z, Int32.zero_add] at h3
                exact absurd h3 hv
            · omega
        · have h := mt in99.mpr (w_is0 h)
          rw [adT] at h
          exact hS (-5) (by rw [if_neg nfull, if_pos h])
      rcases m_cu1 hc with ⟨rfl, rfl⟩ | hc
      · obtain ⟨rfl, rfl, hw99, nfull, hP⟩ : a9 = 5 ∧ vs = [.inr (.inr 528), .inl x, .inl wt] ∧ win ((w X).toInt + wt.toInt) 99 ∧ ¬ (w X = 0 ∧ 10 ≤ I 528 7) ∧ ptP I w X wt I1 := by
          rcases hI with ⟨q, -⟩ | ⟨q, -⟩ | ⟨q, -⟩ | ⟨q, -⟩ | ⟨-, q⟩
          · exact absurd q (by decide)
          · exact absurd q (by decide)
          · exact absurd q (by decide)
          · exact absurd q (by decide)
          · exact q
        clear hI
        obtain ⟨p1, p2, p3, p4, p5, p6⟩ := hP
        have hU2 := hU (by rw [if_neg nfull, if_neg (fun q => q hw99)])
        refine ⟨528, [.inl x, .inr (.inl wt.toInt64)], rfl, rfl, x, wt.toInt64, rfl, rfl, rfl, rfl, fun J2 b1 b2 => ⟨rfl, ?_⟩⟩
        exact hU2 I1 J2 ⟨fun a q1 _ _ _ q5 q6 _ => p1 a q1 q5 q6, p2, p3, p5, p4, fun a q _ => b1 a q, b2⟩ p6 ⟨σ, hM.cg (p1 _ (by decide) (by decide) (by decide)) (p1 _ (by decide) (by decide) (by decide)) (p1 _ (by decide) (by decide) (by decide)), rfl, rfl⟩
      · cases hc
  · refine ⟨Nat.le_of_ble_eq_true rfl, fun a9 b9 pc vs st I1 J1 => pc = 14 ∧ a9 = 50 ∧ st = [] ∧ J1 = J ∧ I1 = I ∧ vs = [.inr (.inr 528), .inl x, .inl wt] ∧ win x.toInt 9, ?_, ?_⟩
    · refine ⟨x.toInt64, -9, 9, rfl, fun h => ?_, fun h => ⟨50, 0, rfl, rfl, rfl, rfl, rfl, rfl, in9.mp (w_not0 h)⟩⟩
      have h := mt in9.mpr (w_is0 h)
      exact hS (-2) (if_pos (fun q => h q.1))
    · intro pc ks a9 b9 vs st I1 J1 hc hI
      obtain ⟨rfl, rfl, rfl, rfl, rfl, rfl, g1⟩ := hI
      rcases m_cu1 hc with ⟨-, rfl⟩ | hc
      · have out : ¬ (wt.toInt ≠ 0 ∧ win wt.toInt 99) → K (some (.inl (-2))) I1 J1 := fun q => hS (-2) (if_pos (fun z => q z.2))
        refine ⟨wt.toInt64, -99, 99, rfl, fun h => ?_, fun h => ⟨fun h2 => ⟨rfl, fun h3 => ?_, fun h3 => ⟨rfl, fun h4 => ?_, fun h4 => ?_⟩⟩, fun h2 => ?_⟩⟩
        · have h := mt in99.mpr (w_is0 h)
          exact out (fun q => h q.2)
        · have h := in99.mp (w_not0 h)
          have h3 : ¬ I1 528 4 = 0 := h3
          exact hS (-3) (by unfold pointO; rw [if_neg (fun q => q ⟨g1, mt w0.mpr h2, h⟩), if_pos (Or.inl h3)])
        · have h := in99.mp (w_not0 h)
          exact absurd ⟨⟨g1, mt w0.mpr h2, h⟩, h3, h4⟩ G
        · have h := in99.mp (w_not0 h)
          have h4 : ¬ I1 528 6 = 0 := h4
          exact hS (-3) (by unfold pointO; rw [if_neg (fun q => q ⟨g1, mt w0.mpr h2, h⟩), if_pos (Or.inr h4)])
        · exact out (fun q => q.1 (w0.mp h2))
      · rcases m_cu1 hc with ⟨q, -⟩ | hc
        · exact absurd q (by decide)
        rcases m_cu1 hc with ⟨q, -⟩ | hc
        · exact absurd q (by decide)
        rcases m_cu1 hc with ⟨q, -⟩ | hc
        · exact absurd q (by decide)
        rcases m_cu1 hc with ⟨q, -⟩ | hc
        · exact absurd q (by decide)
        · cases hc

