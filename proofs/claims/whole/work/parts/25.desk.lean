/-! ===== the desk's cells: frames ===== -/
/-- cells that any call may use up -/
def wkA (a : Nat) : Prop := (a < 468 ∧ 152 ≤ a % 156) ∨ (476 ≤ a ∧ a < 504)
def HA (a : Nat) : Prop := (468 ≤ a ∧ a < 476) ∨ a = 522
def Wk (I I1 : mPI) : Prop := ∀ a, ¬ wkA a → I1 a = I a
def Fr (I I1 : mPI) : Prop := ∀ a, ¬ wkA a → ¬ HA a → I1 a = I a
def PA (p a : Nat) : Prop := (156 * p ≤ a ∧ a < 156 * p + 152) ∨ a = 504 + p
def Vis (I I1 : mPI) : Prop := (∀ a, 516 ≤ a → a ≠ 522 → I1 a = I a) ∧ ∀ p, p < 3 → ∀ k, k ≠ 7 → I1 (513 + p) k = I (513 + p) k
def Pf (p : Nat) (I I1 : mPI) : Prop := (∀ a, ¬ (156 * p ≤ a ∧ a < 156 * p + 156) → a ≠ 513 + p → a ≠ 504 + p → I1 a = I a) ∧ ∀ k, k ≠ 7 → I1 (513 + p) k = I (513 + p) k
theorem Wk.rfl' (I : mPI) : Wk I I := fun _ _ => rfl
theorem Fr.rfl' (I : mPI) : Fr I I := fun _ _ _ => rfl
theorem Wk.trans {I I1 I2 : mPI} (h : Wk I I1) (h2 : Wk I1 I2) : Wk I I2 := fun a q => (h2 a q).trans (h a q)
theorem Fr.trans {I I1 I2 : mPI} (h : Fr I I1) (h2 : Fr I1 I2) : Fr I I2 := fun a q r => (h2 a q r).trans (h a q r)
theorem Vis.trans {I I1 I2 : mPI} (h : Vis I I1) (h2 : Vis I1 I2) : Vis I I2 := ⟨fun a q r => (h2.1 a q r).trans (h.1 a q r), fun p hp k hk => (h2.2 p hp k hk).trans (h.2 p hp k hk)⟩
theorem Wk.fr {I I1 : mPI} (h : Wk I I1) : Fr I I1 := fun a q _ => h a q
theorem Fr.vis {I I1 : mPI} (h : Fr I I1) : Vis I I1 := by
  refine ⟨fun a a1 a2 => h a ?_ ?_, fun p hp k _ => congrFun (h _ ?_ ?_) k⟩
  · unfold wkA; omega
  · unfold HA; omega
  · unfold wkA; omega
  · unfold HA; omega
theorem Pf.vis {p : Nat} {I I1 : mPI} (hp : p < 3) (h : Pf p I I1) : Vis I I1 := by
  refine ⟨fun a a1 a2 => h.1 a (by omega) (by omega) (by omega), fun q hq k hk => ?_⟩
  by_cases e : q = p
  · subst e
    exact h.2 k hk
  · exact congrFun (h.1 _ (by omega) (by omega) (by omega)) k
theorem rf0 {a : Nat} (h : a < 504) : rfL a 0 = a + 1 := by
  unfold rfL
  rw [if_pos h]
theorem bch_wk {b : Nat} {I I1 : mPI} (h1 : 476 ≤ b) (h2 : b < 503) (h : BCh rfL I I1 b) : Wk I I1 := by
  intro a ha
  unfold wkA at ha
  exact h a (by omega) (by rw [rf0 (by omega)]; omega)
theorem bch2_wk {b s : Nat} {I I1 : mPI} (h1 : 476 ≤ b) (h2 : b < 503) (h3 : 476 ≤ s) (h4 : s < 503) (h : BCh2 rfL I I1 b s) : Wk I I1 := by
  intro a ha
  unfold wkA at ha
  exact h a (by omega) (by rw [rf0 (by omega)]; omega) (by omega) (by rw [rf0 (by omega)]; omega)
theorem bch2_wkp {b p : Nat} {I I1 : mPI} (h1 : 476 ≤ b) (h2 : b < 503) (hp : p < 3) (h : BCh2 rfL I I1 b (pbg rfL (504 + p) 76)) : Wk I I1 := by
  intro a ha
  unfold wkA at ha
  rw [BCh2, lay_pbg hp (by decide)] at h
  exact h a (by omega) (by rw [rf0 (by omega)]; omega) (by omega) (by rw [rf0 (by omega)]; omega)
theorem peval_wk {b p : Nat} {I I1 : mPI} (h1 : 476 ≤ b) (h2 : b < 503) (hp : p < 3) (h : ∀ a, a ≠ b → a ≠ rfL b 0 → a ≠ pbg rfL (504 + p) 76 → a ≠ rfL (pbg rfL (504 + p) 76) 0 → a ≠ pbg rfL (504 + p) 77 → a ≠ rfL (pbg rfL (504 + p) 77) 0 → I1 a = I a) : Wk I I1 := by
  intro a ha
  unfold wkA at ha
  rw [lay_pbg hp (by decide), lay_pbg hp (by decide)] at h
  exact h a (by omega) (by rw [rf0 (by omega)]; omega) (by omega) (by rw [rf0 (by omega)]; omega) (by omega) (by rw [rf0 (by omega)]; omega)
theorem hch_fr {I I1 : mPI} (h : HCh rfL I I1 522) : Fr I I1 := by
  intro a ha hb
  unfold HA at hb
  refine h a (by omega) (fun k hk => ?_)
  rw [lay_H.2, rf0 (by omega)]
  omega
theorem BIs.wk {I I1 : mPI} {b : Nat} {z : Int} (h : BIs shL rfL I b z) (hb : b < 503) (h1 : ¬ wkA b) (h2 : ¬ wkA (b + 1)) (hf : Wk I I1) : BIs shL rfL I1 b z := h.keep (hf b h1) (by rw [rf0 (by omega)]; exact hf _ h2)
theorem BIs.fr {I I1 : mPI} {b : Nat} {z : Int} (h : BIs shL rfL I b z) (hb : b < 467) (h1 : ¬ wkA b) (h2 : ¬ wkA (b + 1)) (hf : Fr I I1) : BIs shL rfL I1 b z := h.keep (hf b h1 (by unfold HA; omega)) (by rw [rf0 (by omega)]; exact hf _ h2 (by unfold HA; omega))
theorem PIs_keep {p : Nat} {I I1 : mPI} {mo : Nat → Int} {l : Nat} (hp : p < 3) (h : PIs shL rfL I (504 + p) mo l) (hk : ∀ a, PA p a → I1 a = I a) : PIs shL rfL I1 (504 + p) mo l := by
  obtain ⟨p1, p2, p3, p4, p5, p6⟩ := h
  have hP := hk (504 + p) (Or.inr rfl)
  have h64 := (pw_t l p3).2.2.1
  refine ⟨by rw [hP]; exact p1, by rw [hP]; exact p2, p3, p4, fun k h12 => ?_, fun c hc => ?_⟩
  · have := p5 k h12
    rw [lay_pbg hp (by omega)] at this ⊢
    refine this.keep (hk _ (Or.inl (by omega))) ?_
    rw [rf0 (by omega)]
    exact hk _ (Or.inl (by omega))
  · have := p6 c hc
    rw [lay_pbg hp (by omega)] at this ⊢
    refine this.keep (hk _ (Or.inl (by omega))) ?_
    rw [rf0 (by omega)]
    exact hk _ (Or.inl (by omega))
theorem PA_nwk {p a : Nat} (hp : p < 3) (h : PA p a) : ¬ wkA a ∧ ¬ HA a := by
  unfold PA at h
  unfold wkA HA
  omega
theorem PIs.fr {p : Nat} {I I1 : mPI} {mo : Nat → Int} {l : Nat} (hp : p < 3) (h : PIs shL rfL I (504 + p) mo l) (hf : Fr I I1) : PIs shL rfL I1 (504 + p) mo l := PIs_keep hp h (fun a ha => hf a (PA_nwk hp ha).1 (PA_nwk hp ha).2)
theorem HIs_keep {I I1 : mPI} {U L : Int} (h : HIs shL rfL I 522 U L) (hk : ∀ a, HA a → I1 a = I a) : HIs shL rfL I1 522 U L := by
  obtain ⟨u, l, h1, h2, h3, h4, h5⟩ := h
  have e0 : rfL 522 0 = 468 := rfl
  have e1 : rfL 522 1 = 470 := rfl
  rw [e0] at h1
  rw [e1] at h2
  refine ⟨u, l, ?_, ?_, h3, h4, ?_⟩
  · rw [e0]
    refine h1.keep (hk _ (Or.inl (by omega))) ?_
    rw [rf0 (by omega)]
    exact hk _ (Or.inl (by omega))
  · rw [e1]
    refine h2.keep (hk _ (Or.inl (by omega))) ?_
    rw [rf0 (by omega)]
    exact hk _ (Or.inl (by omega))
  · rw [hk 522 (Or.inr rfl)]
    exact h5
theorem HA_nwk {a : Nat} (h : HA a) : ¬ wkA a := by
  unfold HA at h
  unfold wkA
  omega
theorem HIs.wk {I I1 : mPI} {U L : Int} (h : HIs shL rfL I 522 U L) (hf : Wk I I1) : HIs shL rfL I1 522 U L := HIs_keep h (fun a ha => hf a (HA_nwk ha))
theorem HIs.pf {p : Nat} {I I1 : mPI} {U L : Int} (hp : p < 3) (h : HIs shL rfL I 522 U L) (hf : Pf p I I1) : HIs shL rfL I1 522 U L := HIs_keep h (fun a ha => hf.1 a (by unfold HA at ha; omega) (by unfold HA at ha; omega) (by unfold HA at ha; omega))
/-! ===== what holds of the three weights ===== -/
def moC (J : mPJ) (p : Nat) : Nat → Int := fun k => (J (519 + p) k).toInt
def lsum (g : Nat → Int) (k : Nat) : Nat → Int
  | 0 => 0
  | x + 1 => lsum g k x + g x * ((x : Int) - 9) ^ k
def LI (I : mPI) (J : mPJ) (p : Nat) : Prop := I (513 + p) 0 = 0 → I (513 + p) 3 = 0 → (∀ k, k < 12 → moC J p k = lsum (fun x => (I (516 + p) x).toInt) k 19) ∧ ∀ x, x < 19 → (I (516 + p) x).toInt.natAbs ≤ 99
def WI (I : mPI) (J : mPJ) (p : Nat) : Prop := ∃ l, I (513 + p) 1 = nI l ∧ 3 ≤ l ∧ l ≤ 11 ∧ (∀ k, k < 12 → (J (519 + p) k).toInt.natAbs ≤ MB) ∧ (I (513 + p) 3 = 0 ∨ I (513 + p) 3 = 1) ∧ (I (513 + p) 7 = 0 → PIs shL rfL I (504 + p) (moC J p) l) ∧ LI I J p
def CI (I : mPI) (J : mPJ) : Prop := ∀ p, p < 3 → WI I J p
theorem LI.keep {I I1 : mPI} {J : mPJ} {p : Nat} (h : LI I J p) (h1 : ∀ k, k ≠ 7 → I1 (513 + p) k = I (513 + p) k) (h2 : I1 (516 + p) = I (516 + p)) : LI I1 J p := by
  intro a b
  rw [h1 0 (by decide)] at a
  rw [h1 3 (by decide)] at b
  rw [h2]
  exact h a b
theorem WI.keep {I I1 : mPI} {J : mPJ} {p : Nat} (hp : p < 3) (h : WI I J p) (h1 : I1 (513 + p) = I (513 + p)) (h2 : I1 (516 + p) = I (516 + p)) (h3 : ∀ a, PA p a → I1 a = I a) : WI I1 J p := by
  obtain ⟨l, a1, a2, a3, a4, a5, a6, a7⟩ := h
  exact ⟨l, by rw [h1]; exact a1, a2, a3, a4, by rw [h1]; exact a5, fun e => PIs_keep hp (a6 (by rw [h1] at e; exact e)) h3, a7.keep (fun k _ => by rw [h1]) h2⟩
theorem CI.fr {I I1 : mPI} {J : mPJ} (h : CI I J) (hf : Fr I I1) : CI I1 J := fun p hp => (h p hp).keep hp (hf _ (by unfold wkA; omega) (by unfold HA; omega)) (hf _ (by unfold wkA; omega) (by unfold HA; omega)) (fun a ha => hf a (PA_nwk hp ha).1 (PA_nwk hp ha).2)
theorem polys_post {p l : Nat} (hp : p < 3) {I I1 : mPI} {J : mPJ} (hC : CI I J) (h1 : I (513 + p) 1 = nI l) (hl : l ≤ 11) (a1 : ∀ a, a ≠ 513 + p → a ≠ rfL (513 + p) 6 → (∀ j, j < 78 → a ≠ pbg rfL (rfL (513 + p) 6) j ∧ a ≠ rfL (pbg rfL (rfL (513 + p) 6) j) 0) → I1 a = I a) (a2 : ∀ k, k ≠ 7 → I1 (513 + p) k = I (513 + p) k) (a4 : PIs shL rfL I1 (rfL (513 + p) 6) (fun k => (J (rfL (513 + p) 5) k).toInt) l) : Pf p I I1 ∧ CI I1 J ∧ PIs shL rfL I1 (504 + p) (moC J p) l := by
  obtain ⟨hW, -, r5, r6⟩ := lay_W hp
  rw [r6, r5] at a4
  have hPf : Pf p I I1 := by
    refine ⟨fun a b1 b2 b3 => a1 a b2 (by rw [r6]; exact b3) (fun j hj => ?_), a2⟩
    rw [r6, lay_pbg hp hj, rf0 (by omega)]
    omega
  refine ⟨hPf, fun q hq => ?_, a4⟩
  by_cases e : q = p
  · subst e
    obtain ⟨l', b1, b2, b3, b4, b5, b6, b7⟩ := hC q hq
    obtain rfl : l' = l := by
      rw [b1] at h1
      exact (nI_eq (by omega) (by omega)).mp h1
    exact ⟨l', by rw [a2 1 (by decide)]; exact b1, b2, b3, b4, by rw [a2 3 (by decide)]; exact b5, fun _ => a4, b7.keep a2 (hPf.1 _ (by omega) (by omega) (by omega))⟩
  · exact (hC q hq).keep hq (hPf.1 _ (by omega) (by omega) (by omega)) (hPf.1 _ (by omega) (by omega) (by omega)) (fun a ha => hPf.1 a (by unfold PA at ha; omega) (by unfold PA at ha; omega) (by unfold PA at ha; omega))
/-! ===== the answers that lay a fraction ===== -/
def Dt (mo : Nat → Int) (k : Nat) : Int := mn mo (2 ^ k - 1)
def Nm (mo : Nat → Int) (k i : Nat) : Int := mn mo (cm k i)
abbrev mSL : Type := Int32 ⊕ (Int × Int)
def slR : mSL → Int32
  | .inl c => c
  | .inr q => sgA (q.1 * q.2)
def slU (U : Int) : mSL → Int
  | .inl _ => U
  | .inr q => q.1
def slL (L : Int) : mSL → Int
  | .inl _ => L
  | .inr q => q.2
/-- a call that asks, and may lay r -/
def Ask (I : mPI) (J : mPJ) (K : mKT) (r : Nat → mSL) : Prop := ∃ (l : Nat) (U L : Int), CI I J ∧ HIs shL rfL I 522 U L ∧ L ≠ 0 ∧ I 513 1 = nI l ∧ l ≤ 11 ∧ ∀ I1, Vis I I1 → CI I1 J → HIs shL rfL I1 522 (slU U (r l)) (slL L (r l)) → K (some (.inl (slR (r l)))) I1 J
/-- a call that asks and lays nothing -/
def Tel (I : mPI) (J : mPJ) (K : mKT) (r : Int → Int → Nat → Int32) : Prop := ∃ (l : Nat) (U L : Int), CI I J ∧ HIs shL rfL I 522 U L ∧ L ≠ 0 ∧ I 513 1 = nI l ∧ l ≤ 11 ∧ ∀ I1, Vis I I1 → CI I1 J → HIs shL rfL I1 522 U L → K (some (.inl (r U L l))) I1 J
theorem i_of {k : Int32} {j : Nat} (hj : j < 2 ^ 31) : k = nI j ↔ k.toInt = j := by
  constructor
  · intro e
    rw [e]
    exact nI_toInt hj
  · intro e
    refine Int32.toInt_inj.mp ?_
    rw [e, nI_toInt hj]
theorem i_nat {k : Int32} (h : 0 ≤ k.toInt) : k = nI k.toInt.toNat ∧ k.toInt.toNat < 2 ^ 31 := by
  have h2 := k.toInt_lt
  have h3 : k.toInt.toNat < 2 ^ 31 := by omega
  exact ⟨(i_of h3).mpr (by omega), h3⟩
abbrev hasP (mo : Nat → Int) (l : Nat) (k : Int) : Prop := 0 ≤ k ∧ k ≤ tpf mo l
abbrev hasW (mo : Nat → Int) (l : Nat) (k : Int) : Prop := hasP mo l k ∧ 2 * k ≤ l
def spMoment (mo : Nat → Int) (k : Int) (l : Nat) : mSL := if 0 ≤ k ∧ k ≤ l then .inr (mo k.toNat, 1) else .inl (-1)
def spWorth (mo : Nat → Int) (k : Int) (l : Nat) : mSL := if hasW mo l k then .inr (Dt mo (k.toNat + 1), Dt mo k.toNat) else .inl (-1)
def spDet (mo : Nat → Int) (k : Int) (l : Nat) : mSL := if 0 ≤ k ∧ k ≤ 6 ∧ 2 * k - 2 ≤ l then .inr (Dt mo k.toNat, 1) else .inl (-1)
def spNum (mo : Nat → Int) (k i : Int) (l : Nat) : mSL := if hasP mo l k ∧ 0 ≤ i then (if k < i then .inr (0, 1) else .inr (Nm mo k.toNat i.toNat, Dt mo k.toNat)) else .inl (-1)
def pt_layMoment : mSH → mRF → mPT := m_pv 4 (fun sh rf d rest I J K => ∃ k : Int32, sh = shL ∧ rf = rfL ∧ d = 523 ∧ rest = [.inl k] ∧ Ask I J K (spMoment (moC J 0) k.toInt))
def pt_layWorth : mSH → mRF → mPT := m_pv 4 (fun sh rf d rest I J K => ∃ k : Int32, sh = shL ∧ rf = rfL ∧ d = 523 ∧ rest = [.inl k] ∧ Ask I J K (spWorth (moC J 0) k.toInt))
def pt_layDet : mSH → mRF → mPT := m_pv 4 (fun sh rf d rest I J K => ∃ k : Int32, sh = shL ∧ rf = rfL ∧ d = 523 ∧ rest = [.inl k] ∧ Ask I J K (spDet (moC J 0) k.toInt))
def pt_layNum : mSH → mRF → mPT := m_pv 4 (fun sh rf d rest I J K => ∃ k i : Int32, sh = shL ∧ rf = rfL ∧ d = 523 ∧ rest = [.inl k, .inl i] ∧ Ask I J K (spNum (moC J 0) k.toInt i.toInt))
/-- of what polys() gives -/
theorem P_det {p l k : Nat} {I : mPI} {mo : Nat → Int} (h : PIs shL rfL I (504 + p) mo l) (hk : k ≤ 6) (hl : 2 * k ≤ l + 2) : BIs shL rfL I (pbg rfL (504 + p) (2 ^ k - 1)) (Dt mo k) ∧ (Dt mo k).natAbs < 2 ^ (32 * 12) := by
  refine ⟨h.2.2.2.2.2 _ (pw_det (mo := mo) hl hk), ?_⟩
  exact (mn_lt h.2.2.2.1 (by have := (shl_det k hk).2; omega)).1
theorem P_num {p l k i : Nat} {I : mPI} {mo : Nat → Int} (h : PIs shL rfL I (504 + p) mo l) (hk : k ≤ 5) (hi : i ≤ k) (hl : 2 * k ≤ l + 1) : BIs shL rfL I (pbg rfL (504 + p) ((2 ^ (k + 1) - 1) ^^^ 2 ^ i)) (Nm mo k i) ∧ (Nm mo k i).natAbs < 2 ^ (32 * 12) := by
  refine ⟨h.2.2.2.2.2 (cm k i) (pw_cm hk hl hi), ?_⟩
  exact (mn_lt h.2.2.2.1 (cm_t k (by omega) i (by omega)).2.1).1
theorem big_lt {z : Int} {n m : Nat} (h : z.natAbs < 2 ^ n) (hm : n ≤ m) : z.natAbs < 2 ^ m := Nat.lt_of_lt_of_le h (Nat.pow_le_pow_right (by decide) hm)
theorem pbg_ne {p c b : Nat} (hp : p < 3) (hc : c < 78) (hb : 468 ≤ b) : pbg rfL (504 + p) c ≠ b := by
  rw [lay_pbg hp hc]
  omega
theorem pbg_nh {p c : Nat} (hp : p < 3) (hc : c < 78) (k : Nat) : pbg rfL (504 + p) c ≠ rfL 522 k := by
  rw [lay_H.2]
  exact pbg_ne hp hc (by omega)
theorem det64 {k : Nat} (hk : k ≤ 6) : 2 ^ k - 1 < 78 := by
  have := (shl_det k hk).2
  omega
theorem num64 {k i : Nat} (hk : k ≤ 5) (hi : i ≤ k) : (2 ^ (k + 1) - 1) ^^^ 2 ^ i < 78 := by
  have := (cm_t k (by omega) i (by omega)).2.1
  unfold cm at this
  omega
/-- below the top no determinant is 0 -/
theorem tpF_nz (mo : Nat → Int) (l : Nat) : ∀ n k, (∀ j, j ≤ k → Dt mo j ≠ 0) → ∀ j, j ≤ tpF mo l n k → Dt mo j ≠ 0
  | 0, k, h => h
  | n + 1, k, h => by
    rw [tpF]
    split
    · next q =>
      refine tpF_nz mo l n (k + 1) (fun j hj => ?_)
      rcases Nat.lt_or_ge j (k + 1) with e | e
      · exact h j (by omega)
      · obtain rfl : j = k + 1 := by omega
        exact q.2.2
    · exact h
theorem top_nz {mo : Nat → Int} {l j : Nat} (h : j ≤ tpf mo l) : Dt mo j ≠ 0 := by
  refine tpF_nz mo l 6 0 (fun i hi => ?_) j h
  obtain rfl : i = 0 := by omega
  show (1 : Int) ≠ 0
  decide
def ct_X4_layMoment (sh : mSH) (rf : mRF) : Nat → Option (Nat × Bool × mPT) := fun k => match k with
  | 134 => some (2, true, pt_layWhole sh rf)
  | _ => none
set_option maxRecDepth 20000 in
theorem ce_X4_layMoment : m_CE RX4 3 66 cX4_layMoment 2 ct_X4_layMoment := by
  intro p l e s m args below meth c Q D cs ad sh rf N hx hb hml hown hts hK hi hN k n vf pt h
  unfold ct_X4_layMoment at h
  split at h
  · cases h
    exact m_CG_V mt_X1_layWhole hx hb hml hown hts hK hi hN (ci := 1) m_pv_rec rfl rfl (m_wck_ok (l := [(Cond.methodLink RX4 134 yX1_layWhole, 404), (Cond.instanceMethod yX1_layWhole, 405), (Cond.selects RX1 yX1_layWhole yX1_layWhole, 406), (Cond.initialized RX1, 61), (Cond.code yX1_layWhole cX1_layWhole 3 (some .int), 407)]) (by decide +kernel)) ⟨rfl, by decide +kernel, by decide +kernel, by decide +kernel⟩ ⟨Nat.le_of_ble_eq_true rfl, Nat.le_of_ble_eq_true rfl⟩
  · cases h
set_option maxHeartbeats 4000000 in
set_option maxRecDepth 100000 in
theorem mt_X4_layMoment : m_Mt yX4_layMoment cX4_layMoment 2 (some .int) 3 66 pt_layMoment := by
  refine m_method0 80 (fl := fl_X4) (kI := kI_X4) (kJ := kJ_X4) (ct := ct_X4_layMoment) (cd := cd_X4_layMoment) (rk := 1) (by decide +kernel) fl_X4_ok kI_X4_ok kJ_X4_ok ce_X4_layMoment rfl ck_X4_layMoment ⟨_, _, rfl, rfl⟩ ?_
  intro sh rf As I J K hpt
  obtain ⟨d, rest, rfl, hd, k, rfl, rfl, rfl, rfl, l, U, L, hC, hH, hL, h1, hl, hK⟩ := hpt
  have k1 : ¬ (0 ≤ k.toInt ∧ k.toInt ≤ l) → K (some (.inl (-1))) I J := fun q => by
    have e : spMoment (moC J 0) k.toInt l = .inl (-1) := if_neg q
    rw [e] at hK
    exact hK I (Fr.rfl' I).vis hC hH
  have z0 : (0 : Int32).toInt = 0 := rfl
  refine ⟨Nat.le_of_ble_eq_true rfl, fun h => ?_, fun h => ⟨rfl, rfl, fun h2 => ?_, fun h2 => ?_⟩⟩
  · exact k1 (fun q => by rw [Int32.lt_iff_toInt_lt, z0] at h; omega)
  · have h2 : k ≤ I 513 1 := h2
    rw [h1, Int32.le_iff_toInt_le, nI_toInt (by omega)] at h2
    rw [Int32.lt_iff_toInt_lt, z0] at h
    obtain ⟨e1, e2⟩ := i_nat (k := k) (by omega)
    have e : spMoment (moC J 0) k.toInt l = .inr (moC J 0 k.toInt.toNat, 1) := if_pos ⟨by omega, h2⟩
    rw [e] at hK
    have hin : vp_in k 12 := by rw [e1]; exact vp_in_nI (by omega) (by decide)
    have ecl : k.toNatClampNeg = k.toInt.toNat := by
      have := nI_clamp (n := k.toInt.toNat) (by omega)
      rw [← e1] at this
      exact this
    refine ⟨rfl, rfl, rfl, m_inb_i (n := 12) rfl hin, 522, [.inr (.inl (J 519 k.toNatClampNeg))], rfl, rfl, J 519 k.toNatClampNeg, rfl, lay_H.1, fun I1 a1 a2 => ?_⟩
    have hf := hch_fr a1
    rw [ecl] at a2 ⊢
    have := hK I1 hf.vis (hC.fr hf) a2
    have es : slR (.inr (moC J 0 k.toInt.toNat, 1)) = sgA (J 519 k.toInt.toNat).toInt := by
      show sgA (moC J 0 k.toInt.toNat * 1) = _
      rw [Int.mul_one]
      rfl
    rw [es] at this
    exact this
  · have h2 : ¬ k ≤ I 513 1 := h2
    rw [h1, Int32.le_iff_toInt_le, nI_toInt (by omega)] at h2
    exact k1 (fun q => h2 q.2)

