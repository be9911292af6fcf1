/-! ===== the desk: what calls change ===== -/
theorem l_mulT {x y : Int64} (h : (x.toInt * y.toInt).natAbs ≤ 2 ^ 62) : (x * y).toInt = x.toInt * y.toInt := by
  rw [Int64.toInt_mul]
  exact Int.bmod_eq_of_le (by omega) (by omega)
theorem l_addT {x y : Int64} (h : (x.toInt + y.toInt).natAbs ≤ 2 ^ 62) : (x + y).toInt = x.toInt + y.toInt := by
  rw [Int64.toInt_add]
  exact Int.bmod_eq_of_le (by omega) (by omega)
theorem l_subT {x y : Int64} (h : (x.toInt - y.toInt).natAbs ≤ 2 ^ 62) : (x - y).toInt = x.toInt - y.toInt := by
  rw [Int64.toInt_sub]
  exact Int.bmod_eq_of_le (by omega) (by omega)
theorem pwL_tab : ∀ m : Nat, m < 19 → ∀ k, k < 13 → (pwL (Int32.ofInt ((m : Int) - 9)).toInt64 k).toInt = ((m : Int) - 9) ^ k ∧ (((m : Int) - 9) ^ k).natAbs ≤ 9 ^ 12 ∧ (k < 12 → (((m : Int) - 9) ^ k).natAbs ≤ 2 ^ 35) := by decide +kernel
abbrev win (v m : Int) : Prop := -m ≤ v ∧ v ≤ m
theorem win_x {x : Int32} (h : win x.toInt 9) : ∃ m : Nat, m < 19 ∧ x = Int32.ofInt ((m : Int) - 9) ∧ x.toInt = (m : Int) - 9 ∧ x + 9 = nI m := by
  have hm : x.toInt = (((x.toInt + 9).toNat : Nat) : Int) - 9 := by omega
  refine ⟨(x.toInt + 9).toNat, by omega, ?_, hm, ?_⟩
  · rw [← hm, Int32.ofInt_toInt]
  · refine Int32.toInt_inj.mp ?_
    rw [i_addT, nI_toInt (by omega)]
    · have : (9 : Int32).toInt = 9 := rfl
      omega
    · have : (9 : Int32).toInt = 9 := rfl
      omega
    · have : (9 : Int32).toInt = 9 := rfl
      omega
theorem pwL_int {x : Int32} (h : win x.toInt 9) {k : Nat} (hk : k < 13) : (pwL x.toInt64 k).toInt = x.toInt ^ k ∧ (x.toInt ^ k).natAbs ≤ 9 ^ 12 ∧ (k < 12 → (x.toInt ^ k).natAbs ≤ 2 ^ 35) := by
  obtain ⟨m, h1, h2, h3, -⟩ := win_x h
  rw [h2]
  rw [← h2, h3]
  have := pwL_tab m h1 k hk
  rw [← h2] at this
  exact this
theorem within_i {v m : Int32} (hm : 0 ≤ m.toInt) : (-m ≤ v ∧ v ≤ m) ↔ win v.toInt m.toInt := by
  have h2 := m.toInt_lt
  have e : (-m).toInt = -m.toInt := by
    rw [Int32.toInt_neg]
    exact Int.bmod_eq_of_le (by omega) (by omega)
  rw [Int32.le_iff_toInt_le, Int32.le_iff_toInt_le, e]
theorem w_not0 {p : Prop} [Decidable p] (h : ¬ (if p then (1 : Int32) else 0) = 0) : p := by
  by_cases q : p
  · exact q
  · rw [if_neg q] at h
    exact absurd rfl h
theorem w_is0 {p : Prop} [Decidable p] (h : (if p then (1 : Int32) else 0) = 0) : ¬ p := fun q => by
  rw [if_pos q] at h
  exact absurd h (by decide)
theorem madd_T {a t p : Int64} {b c : Nat} (ha : a.toInt.natAbs ≤ b) (ht : (t.toInt * p.toInt).natAbs ≤ c) (hs : b + c ≤ 2 ^ 62) : (a + t * p).toInt = a.toInt + t.toInt * p.toInt ∧ (a + t * p).toInt.natAbs ≤ b + c := by
  have e1 := l_mulT (x := t) (y := p) (by omega)
  have e2 : (a + t * p).toInt = a.toInt + t.toInt * p.toInt := by
    rw [l_addT (by rw [e1]; omega), e1]
  exact ⟨e2, by rw [e2]; omega⟩
theorem lsum_le {g : Nat → Int} {k : Nat} (hk : k < 12) (hg : ∀ x, x < 19 → (g x).natAbs ≤ 99) : ∀ n, n ≤ 19 → (lsum g k n).natAbs ≤ n * (99 * 2 ^ 35)
  | 0, _ => Nat.le_refl 0
  | n + 1, hn => by
    have ih := lsum_le hk hg n (by omega)
    have h1 := hg n (by omega)
    have h2 := (pwL_tab n (by omega) k (by omega)).2.2 hk
    have h3 : (g n * ((n : Int) - 9) ^ k).natAbs ≤ 99 * 2 ^ 35 := by
      rw [Int.natAbs_mul]
      exact Nat.mul_le_mul h1 h2
    have h4 := Int.natAbs_add_le (lsum g k n) (g n * ((n : Int) - 9) ^ k)
    rw [lsum]
    omega
theorem lsum_up {g h : Nat → Int} {k xx : Nat} {d : Int} (h1 : h xx = g xx + d) (h2 : ∀ x, x ≠ xx → h x = g x) : ∀ n, lsum h k n = lsum g k n + (if xx < n then d * ((xx : Int) - 9) ^ k else 0)
  | 0 => by rw [if_neg (Nat.not_lt_zero _)]; rfl
  | n + 1 => by
    have ih := lsum_up (k := k) h1 h2 n
    rw [lsum, lsum, ih]
    by_cases e : n = xx
    · subst e
      rw [h1, if_neg (by omega), if_pos (by omega)]
      grind
    · rw [h2 n e]
      by_cases q : xx < n
      · rw [if_pos q, if_pos (by omega)]
        omega
      · rw [if_neg q, if_neg (by omega)]
        omega
def SameC (I : mPI) (J : mPJ) (I1 : mPI) (J1 : mPJ) : Prop := Wk I I1 ∧ ∀ a, a ≠ 526 → J1 a = J a
theorem SameC.rfl' (I : mPI) (J : mPJ) : SameC I J I J := ⟨Wk.rfl' I, fun _ _ => rfl⟩
def UpdC (I : mPI) (J : mPJ) (I1 : mPI) (J1 : mPJ) (kd l pts ch : Int32) (w : Nat → Int32) (mo : Nat → Int64) : Prop := (∀ a, ¬ wkA a → a ≠ 513 → a ≠ 516 → I1 a = I a) ∧ I1 513 0 = kd ∧ I1 513 1 = l ∧ I1 513 2 = pts ∧ I1 513 3 = ch ∧ (∀ x, x < 19 → I1 516 x = w x) ∧ (∀ a, a ≠ 519 → a ≠ 526 → J1 a = J a) ∧ (∀ k, k < 12 → J1 519 k = mo k) ∧ CI I1 J1
def Out (x : Int32 ⊕ Unit) (S : Int32 → Prop) (U : Prop) : Prop := (∀ r, x = .inl r → S r) ∧ (x = .inr () → U)
theorem WI.keepJ {I : mPI} {J J1 : mPJ} {p : Nat} (h : WI I J p) (hj : J1 (519 + p) = J (519 + p)) : WI I J1 p := by
  have e : moC J1 p = moC J p := by
    unfold moC
    rw [hj]
  unfold WI LI at *
  rw [e, hj]
  exact h
theorem CI.fr2 {I I1 : mPI} {J J1 : mPJ} (h : CI I J) (hf : Fr I I1) (hj : ∀ a, a ≠ 526 → J1 a = J a) : CI I1 J1 := fun p hp => (h.fr hf p hp).keepJ (hj _ (by omega))
theorem CI_upd {I I1 : mPI} {J J1 : mPJ} {l : Nat} (hC : CI I J) (hI : ∀ a, ¬ wkA a → a ≠ 513 → a ≠ 516 → I1 a = I a) (hJ : ∀ a, a ≠ 519 → a ≠ 526 → J1 a = J a) (h1 : I1 513 1 = nI l) (h2 : 3 ≤ l) (h3 : l ≤ 11) (hm : ∀ k, k < 12 → (J1 519 k).toInt.natAbs ≤ MB) (h4 : I1 513 3 = 0 ∨ I1 513 3 = 1) (h7 : I1 513 7 = 1) (hLI : LI I1 J1 0) : CI I1 J1 := by
  intro p hp
  by_cases e : p = 0
  · subst e
    exact ⟨l, h1, h2, h3, hm, h4, fun q => absurd (h7.symm.trans q) (by decide), hLI⟩
  · refine WI.keepJ (J := J) ?_ (hJ _ (by omega) (by omega))
    exact (hC p hp).keep hp (hI _ (by unfold wkA; omega) (by omega) (by omega)) (hI _ (by unfold wkA; omega) (by omega) (by omega)) (fun a ha => hI a (PA_nwk hp ha).1 (by unfold PA at ha; omega) (by unfold PA at ha; omega))
theorem CI.kind {I : mPI} {J : mPJ} (h : CI I J) : ∃ l, I 513 1 = nI l ∧ 3 ≤ l ∧ l ≤ 11 ∧ (∀ k, k < 12 → (J 519 k).toInt.natAbs ≤ MB) ∧ (I 513 3 = 0 ∨ I 513 3 = 1) ∧ LI I J 0 := by
  obtain ⟨l, b1, b2, b3, b4, b5, b6, b7⟩ := h 0 (by decide)
  exact ⟨l, b1, b2, b3, b4, b5, b7⟩
theorem MB62 : MB + 1 = 2 ^ 62 := by decide
/-! clear -/
def pt_clear : mSH → mRF → mPT := m_pv 4 (fun sh rf d rest I J K => sh = shL ∧ rf = rfL ∧ d = 523 ∧ rest = [] ∧ CI I J ∧ ∀ I1 J1, UpdC I J I1 J1 0 11 0 0 (fun _ => 0) (fun _ => 0) → K (some (.inl (I 513 1))) I1 J1)
theorem lsum_0 (g : Nat → Int) (k : Nat) (h : ∀ x, x < 19 → g x = 0) : ∀ n, n ≤ 19 → lsum g k n = 0
  | 0, _ => rfl
  | n + 1, hn => by rw [lsum, lsum_0 g k h n (by omega), h n (by omega), Int.zero_mul]; rfl
/-- after begin -/
theorem beg_upd {I I1 : mPI} {J J1 : mPJ} {kd : Int32} (hC : CI I J) (a1 : ∀ a, a ≠ 513 → a ≠ rfL 513 4 → I1 a = I a) (a2 : I1 513 0 = kd) (a3 : I1 513 1 = 11) (a4 : I1 513 2 = 0) (a5 : I1 513 3 = 0) (a6 : I1 513 7 = 1) (a7 : ∀ k, k < 19 → I1 (rfL 513 4) k = 0) (a8 : ∀ a, a ≠ rfL 513 5 → J1 a = J a) (a9 : ∀ k, k < 12 → J1 (rfL 513 5) k = 0) : UpdC I J I1 J1 kd 11 0 0 (fun _ => 0) (fun _ => 0) := by
  have e4 : rfL 513 4 = 516 := rfl
  have e5 : rfL 513 5 = 519 := rfl
  rw [e4] at a1 a7
  rw [e5] at a8 a9
  refine ⟨fun a _ q1 q2 => a1 a q1 q2, a2, a3, a4, a5, a7, fun a q _ => a8 a q, a9, ?_⟩
  refine CI_upd (l := 11) hC (fun a _ q1 q2 => a1 a q1 q2) (fun a q _ => a8 a q) a3 (by decide) (by decide) (fun k hk => by rw [a9 k hk]; decide) (Or.inl a5) a6 (fun _ _ => ⟨fun k hk => ?_, fun x hx => ?_⟩)
  · show (J1 519 k).toInt = _
    rw [a9 k hk]
    exact (lsum_0 _ k (fun x hx => by show (I1 516 x).toInt = 0; rw [a7 x hx]; rfl) 19 (by decide)).symm
  · show (I1 516 x).toInt.natAbs ≤ 99
    rw [a7 x hx]
    decide

def ct_X4_clear (sh : mSH) (rf : mRF) : Nat → Option (Nat × Bool × mPT) := fun k => match k with
  | 61 => some (2, true, pt_wbegin sh rf)
  | _ => none
set_option maxRecDepth 20000 in
theorem ce_X4_clear : m_CE RX4 2 45 cX4_clear 2 ct_X4_clear := by
  intro p l e s m args below meth c Q D cs ad sh rf N hx hb hml hown hts hK hi hN k n vf pt h
  unfold ct_X4_clear at h
  split at h
  · cases h
    exact m_CG_V mt_X3_begin hx hb hml hown hts hK hi hN (ci := 3) m_pv_rec rfl rfl (m_wck_ok (l := [(Cond.methodLink RX4 61 yX3_begin, 239), (Cond.instanceMethod yX3_begin, 240), (Cond.selects RX3 yX3_begin yX3_begin, 241), (Cond.initialized RX3, 56), (Cond.code yX3_begin cX3_begin 2 none, 242)]) (by decide +kernel)) ⟨rfl, by decide +kernel, by decide +kernel, by decide +kernel⟩ ⟨Nat.le_of_ble_eq_true rfl, Nat.le_of_ble_eq_true rfl⟩
  · cases h
set_option maxHeartbeats 4000000 in
set_option maxRecDepth 100000 in
theorem mt_X4_clear : m_Mt yX4_clear cX4_clear 2 (some .int) 2 45 pt_clear := by
  refine m_method0 80 (fl := fl_X4) (kI := kI_X4) (kJ := kJ_X4) (ct := ct_X4_clear) (cd := cd_X4_clear) (rk := 1) (by decide +kernel) fl_X4_ok kI_X4_ok kJ_X4_ok ce_X4_clear rfl ck_X4_clear ⟨_, _, rfl, rfl⟩ ?_
  intro sh rf As I J K hpt
  obtain ⟨d, rest, rfl, hd, rfl, rfl, rfl, rfl, hC, hK⟩ := hpt
  exact ⟨Nat.le_of_ble_eq_true rfl, rfl, rfl, rfl, 513, [.inl 0], rfl, rfl, 0, rfl, lay_W0, fun I1 J1 a1 a2 a3 a4 a5 a6 a7 a8 a9 => hK I1 J1 (beg_upd hC a1 a2 a3 a4 a5 a6 a7 a8 a9)⟩

/-! point -/
def pointO (kd pts ch before : Int32) (x wt : Int) : Int32 ⊕ Unit := if ¬ (win x 9 ∧ wt ≠ 0 ∧ win wt 99) then .inl (-2) else if ¬ kd = 0 ∨ ¬ ch = 0 then .inl (-3) else if before = 0 ∧ 10 ≤ pts then .inl (-4) else if ¬ win (before.toInt + wt) 99 then .inl (-5) else .inr ()
def wAt (I : mPI) (x : Int) : Int32 := I 516 (x + 9).toNat
def pt_point : mSH → mRF → mPT := m_pv 4 (fun sh rf d rest I J K => ∃ x wt : Int32, sh = shL ∧ rf = rfL ∧ d = 523 ∧ rest = [.inl x, .inl wt] ∧ CI I J ∧ Out (pointO (I 513 0) (I 513 2) (I 513 3) (wAt I x.toInt) x.toInt wt.toInt) (fun r => ∀ I1 J1, SameC I J I1 J1 → K (some (.inl r)) I1 J1) (∀ I1 J1, UpdC I J I1 J1 (I 513 0) (I 513 1) (I 513 2 + (if wAt I x.toInt = 0 then 1 else 0) - (if wAt I x.toInt + wt = 0 then 1 else 0)) (I 513 3) (fun y => if y = (x.toInt + 9).toNat then wAt I x.toInt + wt else I 516 y) (fun k => J 519 k + wt.toInt64 * pwL x.toInt64 k) → K (some (.inl (I1 513 2))) I1 J1))

def ct_X4_point (sh : mSH) (rf : mRF) : Nat → Option (Nat × Bool × mPT) := fun k => match k with
  | 64 => some (2, false, pt_isWithin sh rf)
  | 82 => some (3, true, pt_wpoint sh rf)
  | _ => none
set_option maxRecDepth 20000 in
theorem ce_X4_point : m_CE RX4 2 50 cX4_point 4 ct_X4_point := by
  intro p l e s m args below meth c Q D cs ad sh rf N hx hb hml hown hts hK hi hN k n vf pt h
  unfold ct_X4_point at h
  split at h
  · cases h
    exact m_CG_S mt_X4_isWithin hx hb hml hown hts hK hi hN (m_wck_ok (l := [(Cond.methodLink RX4 64 yX4_isWithin, 253), (Cond.static yX4_isWithin, 254), (Cond.initialized RX4, 55), (Cond.code yX4_isWithin cX4_isWithin 2 (some .boolean), 255)]) (by decide +kernel)) ⟨by decide +kernel, by decide +kernel, by decide +kernel⟩ ⟨Nat.le_of_ble_eq_true rfl, Nat.le_of_ble_eq_true rfl⟩
  · cases h
    exact m_CG_V mt_X3_addPoint hx hb hml hown hts hK hi hN (ci := 3) m_pv_rec rfl rfl (m_wck_ok (l := [(Cond.methodLink RX4 82 yX3_addPoint, 256), (Cond.instanceMethod yX3_addPoint, 257), (Cond.selects RX3 yX3_addPoint yX3_addPoint, 258), (Cond.initialized RX3, 56), (Cond.code yX3_addPoint cX3_addPoint 5 none, 259)]) (by decide +kernel)) ⟨rfl, by decide +kernel, by decide +kernel, by decide +kernel⟩ ⟨Nat.le_of_ble_eq_true rfl, Nat.le_of_ble_eq_true rfl⟩
  · cases h
set_option maxHeartbeats 4000000 in
set_option maxRecDepth 100000 in
theorem mt_X4_point : m_Mt yX4_point cX4_point 4 (some .int) 2 50 pt_point := by
  refine m_method0 80 (fl := fl_X4) (kI := kI_X4) (kJ := kJ_X4) (ct := ct_X4_point) (cd := cd_X4_point) (rk := 1) (by decide +kernel) fl_X4_ok kI_X4_ok kJ_X4_ok ce_X4_point rfl ck_X4_point ⟨_, _, rfl, rfl⟩ ?_
  intro sh rf As I J K hpt
  obtain ⟨d, rest, rfl, hd, x, wt, rfl, rfl, rfl, rfl, hC, hS, hU⟩ := hpt
  obtain ⟨l, h1, h2, h3, hm, hch, hLI⟩ := hC.kind
  have n9 : (9 : Int32).toInt = 9 := rfl
  have n99 : (99 : Int32).toInt = 99 := rfl
  have k2 : ¬ (win x.toInt 9 ∧ wt.toInt ≠ 0 ∧ win wt.toInt 99) → K (some (.inl (-2))) I J := fun q => hS _ (if_pos q) I J (SameC.rfl' I J)
  refine ⟨Nat.le_of_ble_eq_true rfl, x, 9, rfl, fun h => ?_, fun h => ⟨fun h4 => ?_, fun h4 => ⟨wt, 99, rfl, fun h5 => ?_, fun h5 => ?_⟩⟩⟩
  · have h := mt (within_i (by decide)).mpr (w_is0 h)
    exact k2 (fun q => h q.1)
  · have h4 : wt = 0 := h4
    exact k2 (fun q => q.2.1 (by rw [h4]; rfl))
  · have hx := (within_i (by decide)).mp (w_not0 h)
    have hw := (within_i (by decide)).mp (w_not0 h5)
    rw [n9] at hx
    rw [n99] at hw
    have hw0 : wt.toInt ≠ 0 := fun q => h4 (Int32.toInt_inj.mp q)
    have c1 : ¬ ¬ (win x.toInt 9 ∧ wt.toInt ≠ 0 ∧ win wt.toInt 99) := fun q => q ⟨hx, hw0, hw⟩
    have k3 : (¬ I 513 0 = 0 ∨ ¬ I 513 3 = 0) → K (some (.inl (-3))) I J := fun q => hS _ (by unfold pointO; rw [if_neg c1, if_pos q]) I J (SameC.rfl' I J)
    refine ⟨rfl, rfl, fun h6 => k3 (Or.inl h6), fun h6 => ⟨rfl, rfl, fun h7 => ?_, fun h7 => k3 (Or.inr h7)⟩⟩
    have h6 : I 513 0 = 0 := h6
    have h7 : I 513 3 = 0 := h7
    have c2 : ¬ (¬ I 513 0 = 0 ∨ ¬ I 513 3 = 0) := fun q => q.elim (fun r => r h6) (fun r => r h7)
    obtain ⟨m, m1, m2, m3, m4⟩ := win_x hx
    have em : (x.toInt + 9).toNat = m := by omega
    have eb : wAt I x.toInt = I 516 m := by
      unfold wAt
      rw [em]
    obtain ⟨hL1, hL2⟩ := hLI h6 h7
    have hb : (I 516 m).toInt.natAbs ≤ 99 := hL2 m m1
    rw [eb, em] at hU
    rw [eb] at hS
    have go : ¬ (I 516 m = 0 ∧ 10 ≤ I 513 2) → pt_isWithin shL rfL [.inl (I 516 m + wt), .inl 99] I J (fun r I1 J1 => (∃ t, r = some (.inl t) ∧ t = 0 ∧ K (some (.inl (-5))) I1 J1) ∨ (∃ t, r = some (.inl t) ∧ ¬ t = 0 ∧ pt_wpoint shL rfL [.inr (.inr 513), .inl x, .inl wt] I1 J1 (fun _ I2 J2 => K (some (.inl (I2 513 2))) I2 J2))) := by
      intro c3
      have esum : (I 516 m + wt).toInt = (I 516 m).toInt + wt.toInt := i_addT (by omega) (by omega)
      refine ⟨_, _, rfl, ?_⟩
      by_cases q : -99 ≤ I 516 m + wt ∧ I 516 m + wt ≤ 99
      · refine Or.inr ⟨_, rfl, by rw [if_pos q]; decide, ?_⟩
        have q2 := (within_i (m := 99) (by decide)).mp q
        rw [n99, esum] at q2
        have hU := hU (by unfold pointO; rw [if_neg c1, if_neg c2, if_neg c3, if_neg (fun r => r q2)])
        refine ⟨513, [.inl x, .inl wt], rfl, rfl, x, wt, m, rfl, m4, m1, lay_W0, fun I1 J1 b1 b2 b3 b4 b5 b6 b7 b8 => hU I1 J1 ?_⟩
        have e4 : rfL 513 4 = 516 := rfl
        have e5 : rfL 513 5 = 519 := rfl
        rw [e4] at b1 b3 b5 b6
        rw [e5] at b7 b8
        have eJ : ∀ k, k < 12 → (J1 519 k).toInt = (J 519 k).toInt + wt.toInt * x.toInt ^ k := by
          intro k hk
          obtain ⟨p1, p2, p3⟩ := pwL_int hx (k := k) (by omega)
          have l1 : (J 519 k).toInt.natAbs ≤ 19 * (99 * 2 ^ 35) := by
            have := hL1 k hk
            have l2 := lsum_le hk hL2 19 (Nat.le_refl _)
            rw [← this] at l2
            exact l2
          have l3 : (wt.toInt * x.toInt ^ k).natAbs ≤ 99 * 2 ^ 35 := by
            rw [Int.natAbs_mul]
            exact Nat.mul_le_mul (by omega) (p3 hk)
          have := (madd_T (a := J 519 k) (t := wt.toInt64) (p := pwL x.toInt64 k) l1 (c := 99 * 2 ^ 35) (by rw [p1, Int32.toInt_toInt64]; exact l3) (by decide)).1
          rw [b8 k hk, this, p1, Int32.toInt_toInt64]
        have eW : ∀ y, y < 19 → I1 516 y = if y = m then I 516 m + wt else I 516 y := by
          intro y hy
          by_cases r : y = m
          · rw [if_pos r, r]
            exact b5
          · rw [if_neg r]
            exact b6 y r
        have hW99 : ∀ y, y < 19 → (I1 516 y).toInt.natAbs ≤ 99 := by
          intro y hy
          rw [eW y hy]
          by_cases r : y = m
          · rw [if_pos r, esum]
            omega
          · rw [if_neg r]
            exact hL2 y hy
        have hLI1 : LI I1 J1 0 := fun _ _ => ⟨fun k hk => by
          have := lsum_up (k := k) (g := fun y => (I 516 y).toInt) (h := fun y => (I1 516 y).toInt) (xx := m) (d := wt.toInt) (by show (I1 516 m).toInt = _; rw [b5, esum]) (fun y hy => by show (I1 516 y).toInt = _; rw [b6 y hy]) 19
          show (J1 519 k).toInt = lsum (fun y => (I1 516 y).toInt) k 19
          rw [this, if_pos m1, eJ k hk, m3]
          have l1 : (J 519 k).toInt = lsum (fun y => (I 516 y).toInt) k 19 := hL1 k hk
          rw [l1], hW99⟩
        refine ⟨fun a _ r1 r2 => b1 a r1 r2, b2 0 (by decide) (by decide), b2 1 (by decide) (by decide), b3, b2 3 (by decide) (by decide), eW, fun a r _ => b7 a r, b8, ?_⟩
        refine CI_upd (l := l) hC (fun a _ r1 r2 => b1 a r1 r2) (fun a r _ => b7 a r) ((b2 1 (by decide) (by decide)).trans h1) h2 h3 (fun k hk => ?_) (by rw [b2 3 (by decide) (by decide)]; exact hch) b4 hLI1
        have l1 : (J1 519 k).toInt = lsum (fun y => (I1 516 y).toInt) k 19 := (hLI1 ((b2 0 (by decide) (by decide)).trans h6) ((b2 3 (by decide) (by decide)).trans h7)).1 k hk
        have l2 := lsum_le hk hW99 19 (Nat.le_refl _)
        rw [l1]
        exact Nat.le_trans l2 (by decide)
      · refine Or.inl ⟨_, rfl, if_neg q, ?_⟩
        have q2 := mt (within_i (m := 99) (by decide)).mpr q
        rw [n99, esum] at q2
        exact hS _ (by unfold pointO; rw [if_neg c1, if_neg c2, if_neg c3, if_pos q2]) I J (SameC.rfl' I J)
    have hin : m_inb shL 516 0 (x + 9) := by
      rw [m4]
      exact m_inb_i (n := 19) rfl (vp_in_nI m1 (by decide))
    have ecl : (x + 9).toNatClampNeg = m := by
      rw [m4]
      exact nI_clamp (by omega)
    refine ⟨rfl, rfl, hin, ?_⟩
    show (¬ I 516 (x + 9).toNatClampNeg = 0 → _) ∧ (I 516 (x + 9).toNatClampNeg = 0 → _)
    rw [ecl]
    have fin : ¬ (I 516 m = 0 ∧ 10 ≤ I 513 2) → ∃ v m1 : Int32, ([.inl (I 516 m + wt), .inl 99] : List mPV) = [.inl v, .inl m1] ∧ ((¬ (if -m1 ≤ v ∧ v ≤ m1 then (1 : Int32) else 0) = 0 → shL 523 = .inl 4 ∧ pt_wpoint shL rfL [.inr (.inr 513), .inl x, .inl wt] I J (fun _ I2 J2 => shL 523 = .inl 4 ∧ shL 513 = .inl 3 ∧ K (some (.inl (I2 513 2))) I2 J2)) ∧ ((if -m1 ≤ v ∧ v ≤ m1 then (1 : Int32) else 0) = 0 → K (some (.inl (-5))) I J)) := by
      intro c3
      obtain ⟨v, mm, g1, g2⟩ := go c3
      refine ⟨v, mm, g1, fun r => ?_, fun r => ?_⟩
      · rcases g2 with ⟨t, g3, g4, g5⟩ | ⟨t, g3, g4, g5⟩
        · cases g3
          exact absurd g4 r
        · obtain ⟨b, rest, c1, c2, x', wt', xx, c3, c4, c5, c6, c7⟩ := g5
          exact ⟨rfl, b, rest, c1, c2, x', wt', xx, c3, c4, c5, c6, fun I1 J1 b1 b2 b3 b4 b5 b6 b7 b8 => ⟨rfl, rfl, c7 I1 J1 b1 b2 b3 b4 b5 b6 b7 b8⟩⟩
      · rcases g2 with ⟨t, g3, g4, g5⟩ | ⟨t, g3, g4, g5⟩
        · exact g5
        · cases g3
          exact absurd r g4
    refine ⟨fun h8 => ?_, fun h8 => ⟨rfl, rfl, fun h9 => ?_, fun h9 => ?_⟩⟩
    · obtain ⟨v, mm, g1, g2, g3⟩ := fin (fun q => h8 q.1)
      refine ⟨v, mm, g1, fun r => ?_, g3⟩
      obtain ⟨-, b, rest, c1, c2, x', wt', xx, c3, c4, c5, c6, c7⟩ := g2 r
      exact ⟨rfl, b, rest, c1, c2, x', wt', xx, c3, c4, c5, c6, c7⟩
    · have h9 : I 513 2 < 10 := h9
      obtain ⟨v, mm, g1, g2, g3⟩ := fin (fun q => absurd q.2 (by rw [Int32.not_le]; exact h9))
      refine ⟨v, mm, g1, fun r => ?_, g3⟩
      obtain ⟨-, b, rest, c1, c2, x', wt', xx, c3, c4, c5, c6, c7⟩ := g2 r
      exact ⟨rfl, b, rest, c1, c2, x', wt', xx, c3, c4, c5, c6, c7⟩
    · have h9 : ¬ I 513 2 < 10 := h9
      exact hS _ (by unfold pointO; rw [if_neg c1, if_neg c2, if_pos ⟨h8, Int32.not_lt.mp h9⟩]) I J (SameC.rfl' I J)
  · have h5 := mt (within_i (by decide)).mpr (w_is0 h5)
    exact k2 (fun q => h5 q.2.2)

