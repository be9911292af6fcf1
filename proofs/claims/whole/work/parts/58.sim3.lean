/-! ===== mathematics: answers speak of the moments up to the last alone ===== -/
def leP (b : Nat) : mP → Bool
  | [] => true
  | t :: p => t.2.all (fun i => Nat.ble i b) && leP b p
abbrev eqT (l : Nat) (m1 m2 : Nat → Int) : Prop := ∀ i, i ≤ l → m1 i = m2 i
theorem mon_cg {m1 m2 : Nat → Int} {b : Nat} (h : eqT b m1 m2) : ∀ l : List Nat, l.all (fun i => Nat.ble i b) = true → mon m1 l = mon m2 l
  | [], _ => rfl
  | i :: l, q => by
    rw [List.all_cons, Bool.and_eq_true] at q
    rw [mon, mon, mon_cg h l q.2, h i (Nat.le_of_ble_eq_true q.1)]
theorem ev_cg {m1 m2 : Nat → Int} {b : Nat} (h : eqT b m1 m2) : ∀ p, leP b p = true → ev m1 p = ev m2 p
  | [], _ => rfl
  | t :: p, q => by
    rw [leP, Bool.and_eq_true] at q
    rw [ev, ev, ev_cg h p q.2, mon_cg h t.2 q.1]
theorem eqT.mono {m1 m2 : Nat → Int} {a b : Nat} (h : eqT b m1 m2) (q : a ≤ b) : eqT a m1 m2 := fun i hi => h i (by omega)
set_option maxRecDepth 20000 in
theorem Dt_tab : ∀ k, k < 7 → leP (2 * k - 2) (mnP k (2 ^ k - 1)) = true := by decide +kernel
set_option maxRecDepth 20000 in
theorem Nm_tab : ∀ k, k < 6 → ∀ i, i < k + 1 → leP (2 * k - 1) (mnP k (cm k i)) = true := by decide +kernel
set_option maxRecDepth 20000 in
theorem A_tab : ∀ n, n < 7 → ∀ i, i < n → ∀ j, j < n → leP (2 * n - 2) (cofP n i j) = true := by decide +kernel
theorem Dt_cg {m1 m2 : Nat → Int} {l k : Nat} (h : eqT l m1 m2) (hk : k ≤ 6) (hl : 2 * k ≤ l + 2) : Dt m1 k = Dt m2 k := by
  obtain ⟨p1, p2⟩ := pop_d k (by omega)
  have := ev_cg (h.mono (a := 2 * k - 2) (by omega)) _ (Dt_tab k (by omega))
  rw [ev_mnP m1 k _ p2 p1, ev_mnP m2 k _ p2 p1] at this
  exact this
theorem Nm_cg {m1 m2 : Nat → Int} {l k i : Nat} (h : eqT l m1 m2) (hk : k ≤ 5) (hi : i ≤ k) (hl : 2 * k ≤ l + 1) : Nm m1 k i = Nm m2 k i := by
  obtain ⟨-, p2, p1, -⟩ := cm_t k (by omega) i (by omega)
  have := ev_cg (h.mono (a := 2 * k - 1) (by omega)) _ (Nm_tab k (by omega) i (by omega))
  rw [ev_mnP m1 k _ p2 p1, ev_mnP m2 k _ p2 p1] at this
  exact this
theorem A_cg {m1 m2 : Nat → Int} {l n i j : Nat} (h : eqT l m1 m2) (hn : n ≤ 6) (hi : i < n) (hj : j < n) (hl : 2 * n ≤ l + 2) : A m1 n i j = A m2 n i j := ev_cg (h.mono (a := 2 * n - 2) (by omega)) _ (A_tab n (by omega) i hi j hj)
theorem ofN_cg {m1 m2 : Nat → Int} {l k d : Nat} (h : eqT l m1 m2) (hk : k ≤ 5) (hl : 2 * k ≤ l + 1) (hd : d + k ≤ l) : ∀ j, j ≤ k + 1 → ofN m1 k d j = ofN m2 k d j
  | 0, _ => rfl
  | j + 1, hj => by
    have e1 : mn m1 (cm k j) = mn m2 (cm k j) := Nm_cg h hk (i := j) (by omega) hl
    rw [ofN, ofN, ofN_cg h hk hl hd j (by omega), e1, h (d + j) (by omega)]
theorem evN_cg {m1 m2 : Nat → Int} {l k : Nat} (h : eqT l m1 m2) (hk : k ≤ 5) (hl : 2 * k ≤ l + 1) (u v : Int) : ∀ t, t ≤ k → evN m1 k u v t = evN m2 k u v t
  | 0, _ => Dt_cg h (by omega) (by omega)
  | t + 1, ht => by
    have e1 : mn m1 (cm k (k - 1 - t)) = mn m2 (cm k (k - 1 - t)) := Nm_cg h hk (i := k - 1 - t) (by omega) hl
    rw [evN, evN, evN_cg h hk hl u v t (by omega), e1]
theorem tpF_cg {m1 m2 : Nat → Int} {l : Nat} (h : eqT l m1 m2) : ∀ n k, tpF m1 l n k = tpF m2 l n k
  | 0, _ => rfl
  | n + 1, k => by
    rw [tpF, tpF]
    by_cases q : k < 5 ∧ 2 * k + 1 ≤ l
    · have e1 : mn m1 (2 ^ (k + 1) - 1) = mn m2 (2 ^ (k + 1) - 1) := Dt_cg h (k := k + 1) (by omega) (by omega)
      rw [e1, tpF_cg h n]
    · rw [if_neg (fun r => q ⟨r.1, r.2.1⟩), if_neg (fun r => q ⟨r.1, r.2.1⟩)]
theorem tpf_cg {m1 m2 : Nat → Int} {l : Nat} (h : eqT l m1 m2) : tpf m1 l = tpf m2 l := tpF_cg h 6 0
theorem gwF_cg {m1 m2 : Nat → Int} {l : Nat} (h : eqT l m1 m2) : ∀ n k, gwF m1 l n k = gwF m2 l n k
  | 0, _ => rfl
  | n + 1, k => by
    rw [gwF, gwF, tpf_cg h]
    by_cases q : k ≤ tpf m2 l ∧ 2 * k ≤ l
    · have t5 := (tpf_le m2 l).1
      have e1 : mn m1 (2 ^ (k + 1) - 1) = mn m2 (2 ^ (k + 1) - 1) := Dt_cg h (k := k + 1) (by omega) (by omega)
      have e2 : mn m1 (2 ^ k - 1) = mn m2 (2 ^ k - 1) := Dt_cg h (k := k) (by omega) (by omega)
      rw [e1, e2, gwF_cg h n]
    · rw [if_neg (fun r => q ⟨r.1, r.2.1⟩), if_neg (fun r => q ⟨r.1, r.2.1⟩)]
theorem gwf_cg {m1 m2 : Nat → Int} {l : Nat} (h : eqT l m1 m2) : gwf m1 l = gwf m2 l := gwF_cg h 7 0
theorem rbF_cg {m1 m2 : Nat → Int} {l k : Nat} (h : eqT l m1 m2) (hk : k ≤ 5) (hl : 2 * k ≤ l + 1) (u v : Int) : ∀ i, i ≤ k → rbF m1 u v i = rbF m2 u v i
  | 0, _ => rfl
  | i + 1, hi => by rw [rbF, rbF, rbF_cg h hk hl u v i (by omega), evN_cg h (k := i + 1) (by omega) (by omega) u v (i + 1) (Nat.le_refl _)]
theorem rbR_cg {m1 m2 : Nat → Int} {l k : Nat} (h : eqT l m1 m2) (hk : k ≤ 5) (hl : 2 * k ≤ l + 1) (u v : Int) : rbR m1 k u v = rbR m2 k u v := by
  unfold rbR
  rw [rbF_cg h hk hl u v k (Nat.le_refl _)]
theorem shBt_cg {m1 m2 : Nat → Int} {l k : Nat} (h : eqT l m1 m2) (hk : k ≤ 5) (hl : 2 * k ≤ l + 1) (i : Nat) (v : Int) : ∀ n lo hi, shBt m1 k i v n lo hi = shBt m2 k i v n lo hi
  | 0, _, _ => rfl
  | n + 1, lo, hi => by rw [shBt, shBt, rbR_cg h hk hl, shBt_cg h hk hl i v n, shBt_cg h hk hl i v n]
theorem shR_cg {m1 m2 : Nat → Int} {l k : Nat} (h : eqT l m1 m2) (hk : k ≤ 5) (hl : 2 * k ≤ l + 1) (i : Nat) (v : Int) : shR m1 k i v = shR m2 k i v := by
  unfold shR
  rw [rbR_cg h hk hl, rbR_cg h hk hl, shBt_cg h hk hl]
theorem sd_cg {m1 m2 : Nat → Int} {l n : Nat} (h : eqT l m1 m2) (hn : n ≤ 5) (h1 : 1 ≤ n) (hl : 2 * n ≤ l + 1) : ∀ t i, i < n → sd m1 n t i = sd m2 n t i
  | 0, _, _ => rfl
  | t + 1, i, hi => by
    rw [sd_s, sd_s, Dt_cg h (k := n) (by omega) (by omega), Nm_cg h hn (i := i) (by omega) hl, sd_cg h hn h1 hl t (n - 1) (by omega)]
    cases i with
    | zero => rfl
    | succ i => rw [sdp, sdp, sd_cg h hn h1 hl t i (by omega)]
theorem lefS_cg {m1 m2 : Nat → Int} {l n d : Nat} (h : eqT l m1 m2) (hn : n ≤ 5) (h1 : 1 ≤ n) (hl : 2 * n ≤ l + 1) (hd : d ≤ l) (hnd : n ≤ d) : ∀ j, lefS m1 n d j = lefS m2 n d j
  | 0 => rfl
  | j + 1 => by
    rw [lefS, lefS, lefS_cg h hn h1 hl hd hnd j, Dt_cg h (k := n) (by omega) (by omega), ofN_cg h hn hl (d := d - n - j) (by omega) (n + 1) (Nat.le_refl _)]
    unfold qq
    rw [sd_cg h hn h1 hl j (n - 1) (by omega)]
theorem Sk_cg {m1 m2 : Nat → Int} {l n : Nat} (h : eqT l m1 m2) (hn : n ≤ 6) (hl : 2 * n ≤ l + 2) (x y : Int) : Sk m1 x y n = Sk m2 x y n := by
  unfold Sk
  refine fs_cg (fun a ha => fs_cg (fun b hb => ?_))
  show A m1 n a b * _ = A m2 n a b * _
  rw [A_cg h hn ha hb hl]
theorem smP_cg {m1 m2 n1 n2 : Nat → Int} {l1 l2 k : Nat} (h1 : eqT l1 m1 n1) (h2 : eqT l2 m2 n2) (hk : k ≤ 5) (hl1 : 2 * k ≤ l1 + 1) (hl2 : 2 * k ≤ l2 + 1) : smP m1 m2 k ↔ smP n1 n2 k := by
  unfold smP
  rw [Dt_cg h1 (k := k) (by omega) (by omega), Dt_cg h2 (k := k) (by omega) (by omega)]
  constructor
  · intro q i hi
    have := q i hi
    rw [Nm_cg h1 hk (i := i) (by omega) hl1, Nm_cg h2 hk (i := i) (by omega) hl2] at this
    exact this
  · intro q i hi
    rw [Nm_cg h1 hk (i := i) (by omega) hl1, Nm_cg h2 hk (i := i) (by omega) hl2]
    exact q i hi
theorem dfR_cg {m1 m2 n1 n2 : Nat → Int} {l1 l2 t1 t2 : Nat} (h1 : eqT l1 m1 n1) (h2 : eqT l2 m2 n2) (a1 : t1 ≤ 5) (b1 : 2 * t1 ≤ l1 + 1) (b2 : 2 * t2 ≤ l2 + 1) : ∀ n k, dfR m1 m2 t1 t2 n k = dfR n1 n2 t1 t2 n k
  | 0, _ => rfl
  | n + 1, k => by
    rw [dfR, dfR, dfR_cg h1 h2 a1 b1 b2 n]
    by_cases q : t1 < k ∨ t2 < k
    · by_cases r : t1 < k ∧ t2 < k
      · rw [if_pos r, if_pos r]
      · have g1 : t1 < k ∨ t2 < k ∨ ¬ smP m1 m2 k := by
          rcases q with q | q
          · exact Or.inl q
          · exact Or.inr (Or.inl q)
        have g2 : t1 < k ∨ t2 < k ∨ ¬ smP n1 n2 k := by
          rcases q with q | q
          · exact Or.inl q
          · exact Or.inr (Or.inl q)
        rw [if_neg r, if_neg r, if_pos g1, if_pos g2]
    · have hkk : ¬ t1 < k ∧ ¬ t2 < k := ⟨fun z => q (Or.inl z), fun z => q (Or.inr z)⟩
      obtain ⟨k1, k2⟩ := hkk
      have this := smP_cg h1 h2 (k := k) (by omega) (by omega) (by omega)
      have nb : ¬ (t1 < k ∧ t2 < k) := fun z => k1 z.1
      rw [if_neg nb, if_neg nb]
      by_cases s : smP m1 m2 k
      · have s2 := this.mp s
        have g1 : ¬ (t1 < k ∨ t2 < k ∨ ¬ smP m1 m2 k) := by
          intro z
          rcases z with z | z | z
          · exact k1 z
          · exact k2 z
          · exact z s
        have g2 : ¬ (t1 < k ∨ t2 < k ∨ ¬ smP n1 n2 k) := by
          intro z
          rcases z with z | z | z
          · exact k1 z
          · exact k2 z
          · exact z s2
        rw [if_neg g1, if_neg g2]
      · have s2 := mt this.mpr s
        rw [if_pos (Or.inr (Or.inr s)), if_pos (Or.inr (Or.inr s2))]
theorem mirS_cg {m1 m2 : Nat → Int} {l k : Nat} (h : eqT l m1 m2) (c : Int32) (hk : k ≤ l) : ∀ j, j ≤ k + 1 → mirS m1 c k j = mirS m2 c k j
  | 0, _ => rfl
  | j + 1, hj => by rw [mirS, mirS, mirS_cg h c hk j (by omega), h j (by omega)]
theorem mirO_cg {m1 m2 : Nat → Int} {l : Nat} (h : eqT l m1 m2) (c : Int32) : mirO l m1 c = mirO l m2 c := by
  unfold mirO
  have : (∀ k, k < l + 1 → (mirS m1 c k (k + 1)).natAbs < 2 ^ 62) ↔ (∀ k, k < l + 1 → (mirS m2 c k (k + 1)).natAbs < 2 ^ 62) :=
    ⟨fun q k hk => by rw [← mirS_cg h c (k := k) (by omega) (k + 1) (Nat.le_refl _)]; exact q k hk, fun q k hk => by rw [mirS_cg h c (k := k) (by omega) (k + 1) (Nat.le_refl _)]; exact q k hk⟩
  by_cases q : ¬ win c.toInt 9
  · rw [if_pos q, if_pos q]
  · rw [if_neg q, if_neg q]
    by_cases r : ∀ k, k < l + 1 → (mirS m1 c k (k + 1)).natAbs < 2 ^ 62
    · rw [if_pos r, if_pos (this.mp r)]
    · rw [if_neg r, if_neg (mt this.mpr r)]
theorem byV_cg {m1 m2 : Nat → Int} {l k : Nat} (h : eqT l m1 m2) (c : Int) (hk : k < l) : byV m1 c k = byV m2 c k := by
  unfold byV
  rw [h k (by omega), h (k + 1) (by omega)]
theorem byO_cg {m1 m2 : Nat → Int} {l : Nat} (h : eqT l m1 m2) (c : Int) : byO l m1 c = byO l m2 c := by
  unfold byO
  have : (∀ k, k < l → (byV m1 c k).natAbs < 2 ^ 62) ↔ (∀ k, k < l → (byV m2 c k).natAbs < 2 ^ 62) :=
    ⟨fun q k hk => by rw [← byV_cg h c hk]; exact q k hk, fun q k hk => by rw [byV_cg h c hk]; exact q k hk⟩
  by_cases q : ¬ win c 9
  · rw [if_pos q, if_pos q]
  · rw [if_neg q, if_neg q]
    by_cases q2 : l ≤ 3
    · rw [if_pos q2, if_pos q2]
    · rw [if_neg q2, if_neg q2]
      by_cases r : ∀ k, k < l → (byV m1 c k).natAbs < 2 ^ 62
      · rw [if_pos r, if_pos (this.mp r)]
      · rw [if_neg r, if_neg (mt this.mpr r)]
/-! the answers as fractions -/
def frE : mSL → mSL → Prop
  | .inl a, .inl b => a = b
  | .inr x, .inr y => x.1 * y.2 = y.1 * x.2 ∧ x.2 ≠ 0 ∧ y.2 ≠ 0
  | _, _ => False
theorem frE_r {U L : Int} (h : L ≠ 0) : frE (.inr (U, L)) (.inr (U, L)) := ⟨rfl, h, h⟩
theorem hasP_cg {m1 m2 : Nat → Int} {l : Nat} (h : eqT l m1 m2) (k : Int) : hasP m1 l k ↔ hasP m2 l k := by
  unfold hasP
  rw [tpf_cg h]
theorem hasP.b {mo : Nat → Int} {l : Nat} {k : Int} (h : hasP mo l k) : k.toNat ≤ 5 ∧ 2 * k.toNat ≤ l + 1 ∧ k.toNat ≤ tpf mo l ∧ k = (k.toNat : Int) := by
  have := tpf_le mo l
  unfold hasP at h
  omega
theorem fr_Moment {m1 m2 : Nat → Int} {l : Nat} (h : eqT l m1 m2) (k : Int) : frE (spMoment m1 k l) (spMoment m2 k l) := by
  unfold spMoment
  by_cases q : 0 ≤ k ∧ k ≤ l
  · rw [if_pos q, if_pos q, h k.toNat (by omega)]
    exact frE_r (by decide)
  · rw [if_neg q, if_neg q]
    rfl
theorem fr_Worth {m1 m2 : Nat → Int} {l : Nat} (h : eqT l m1 m2) (k : Int) : frE (spWorth m1 k l) (spWorth m2 k l) := by
  unfold spWorth
  by_cases q : hasW m2 l k
  · have q1 : hasW m1 l k := ⟨(hasP_cg h k).mpr q.1, q.2⟩
    obtain ⟨b1, b2, b3, b4⟩ := q.1.b
    have := q.2
    rw [if_pos q, if_pos q1, Dt_cg h (k := k.toNat + 1) (by omega) (by omega), Dt_cg h (k := k.toNat) (by omega) (by omega)]
    exact frE_r (top_nz b3)
  · have q1 : ¬ hasW m1 l k := fun r => q ⟨(hasP_cg h k).mp r.1, r.2⟩
    rw [if_neg q, if_neg q1]
    rfl
theorem fr_Det {m1 m2 : Nat → Int} {l : Nat} (h : eqT l m1 m2) (k : Int) : frE (spDet m1 k l) (spDet m2 k l) := by
  unfold spDet
  by_cases q : 0 ≤ k ∧ k ≤ 6 ∧ 2 * k - 2 ≤ l
  · rw [if_pos q, if_pos q, Dt_cg h (k := k.toNat) (by omega) (by omega)]
    exact frE_r (by decide)
  · rw [if_neg q, if_neg q]
    rfl
theorem fr_Num {m1 m2 : Nat → Int} {l : Nat} (h : eqT l m1 m2) (k i : Int) : frE (spNum m1 k i l) (spNumM m2 k i l) := by
  unfold spNum spNumM
  by_cases q : hasP m2 l k ∧ 0 ≤ i
  · have q1 : hasP m1 l k ∧ 0 ≤ i := ⟨(hasP_cg h k).mpr q.1, q.2⟩
    obtain ⟨b1, b2, b3, b4⟩ := q.1.b
    have q2 := q.2
    rw [if_pos q, if_pos q1]
    by_cases r : k < i
    · rw [if_pos r, if_neg (by omega)]
      exact ⟨by show (0 : Int) * _ = 0 * 1; omega, by show (1 : Int) ≠ 0; decide, top_nz b3⟩
    · rw [if_neg r, if_pos (by omega), Dt_cg h (k := k.toNat) (by omega) (by omega), Nm_cg h (k := k.toNat) (i := i.toNat) (by omega) (by omega) (by omega)]
      exact frE_r (top_nz b3)
  · have q1 : ¬ (hasP m1 l k ∧ 0 ≤ i) := fun r => q ⟨(hasP_cg h k).mp r.1, r.2⟩
    rw [if_neg q, if_neg q1]
    rfl
theorem fr_Rule {m1 m2 : Nat → Int} {l : Nat} (h : eqT l m1 m2) (k wh : Int) : frE (spRule m1 k wh l) (spRule m2 k wh l) := by
  unfold spRule
  rw [tpf_cg h]
  by_cases q : 0 ≤ k ∧ k < tpf m2 l
  · have t5 := tpf_le m2 l
    have d0 := Dt_cg h (k := k.toNat) (by omega) (by omega)
    have d1 := Dt_cg h (k := k.toNat + 1) (by omega) (by omega)
    have n0 : Dt m2 k.toNat ≠ 0 := top_nz (l := l) (by omega)
    have n1 : Dt m2 (k.toNat + 1) ≠ 0 := top_nz (l := l) (by omega)
    rw [if_pos q, if_pos q]
    by_cases r : wh = 0
    · rw [if_pos r, if_pos r]
      have e : ruleA m1 k.toNat = ruleA m2 k.toNat := by
        unfold ruleA
        rw [d0, d1, Nm_cg h (k := k.toNat + 1) (i := k.toNat) (by omega) (by omega) (by omega)]
        by_cases z : k.toNat = 0
        · rw [if_pos z, if_pos z]
        · rw [if_neg z, if_neg z, Nm_cg h (k := k.toNat) (i := k.toNat - 1) (by omega) (by omega) (by omega)]
      rw [e]
      exact frE_r (Int.mul_ne_zero n0 n1)
    · rw [if_neg r, if_neg r]
      by_cases r2 : wh = 1
      · rw [if_pos r2, if_pos r2]
        have e : ruleB m1 k.toNat = ruleB m2 k.toNat := by
          unfold ruleB
          by_cases z : k.toNat = 0
          · rw [if_pos z, if_pos z, Dt_cg h (k := 1) (by omega) (by omega), Dt_cg h (k := 0) (by omega) (by omega)]
          · rw [if_neg z, if_neg z, d0, d1, Dt_cg h (k := k.toNat - 1) (by omega) (by omega)]
        rw [e]
        unfold ruleB
        by_cases z : k.toNat = 0
        · rw [if_pos z]
          rw [z] at n0
          exact frE_r n0
        · rw [if_neg z]
          exact frE_r (Int.mul_ne_zero n0 n0)
      · rw [if_neg r2, if_neg r2]
        rfl
  · rw [if_neg q, if_neg q]
    rfl
theorem fr_Value {m1 m2 : Nat → Int} {l : Nat} (h : eqT l m1 m2) (k u v : Int) : frE (spValue m1 k u v l) (spValue m2 k u v l) := by
  unfold spValue
  by_cases q : hasP m2 l k
  · have q1 : hasP m1 l k := (hasP_cg h k).mpr q
    obtain ⟨b1, b2, b3, b4⟩ := q.b
    rw [if_pos q, if_pos q1]
    by_cases r : isFr u v
    · rw [if_pos r, if_pos r, evN_cg h b1 b2 u v _ (Nat.le_refl _), Dt_cg h (k := k.toNat) (by omega) (by omega)]
      exact frE_r (Int.mul_ne_zero (top_nz b3) (Int.pow_ne_zero (by have := r.2; omega)))
    · rw [if_neg r, if_neg r]
      rfl
  · have q1 : ¬ hasP m1 l k := mt (hasP_cg h k).mp q
    rw [if_neg q, if_neg q1]
    rfl
theorem fr_Product {m1 m2 : Nat → Int} {l : Nat} (h : eqT l m1 m2) (i j : Int) : frE (spProduct m1 i j l) (spProdM m2 i j l) := by
  unfold spProduct spProdM
  by_cases q : hasP m2 l i ∧ hasP m2 l j ∧ i + j ≤ l
  · have q1 : hasP m1 l i ∧ hasP m1 l j ∧ i + j ≤ l := ⟨(hasP_cg h i).mpr q.1, (hasP_cg h j).mpr q.2.1, q.2.2⟩
    obtain ⟨b1, b2, b3, b4⟩ := q.1.b
    obtain ⟨c1, c2, c3, c4⟩ := q.2.1.b
    have q3 := q.2.2
    rw [if_pos q, if_pos q1, prS_val m2 b1 c1]
    by_cases r : i = j
    · subst r
      rw [if_pos rfl, if_pos rfl, Dt_cg h (k := i.toNat) (by omega) (by omega), Dt_cg h (k := i.toNat + 1) (by omega) (by omega)]
      refine ⟨?_, top_nz b3, Int.mul_ne_zero (top_nz b3) (top_nz b3)⟩
      show Dt m2 (i.toNat + 1) * (Dt m2 i.toNat * Dt m2 i.toNat) = Dt m2 i.toNat * Dt m2 (i.toNat + 1) * Dt m2 i.toNat
      grind
    · rw [if_neg r, if_neg (fun e => r (by omega))]
      exact ⟨by show (0 : Int) * _ = 0 * 1; omega, by show (1 : Int) ≠ 0; decide, Int.mul_ne_zero (top_nz b3) (top_nz c3)⟩
  · have q1 : ¬ (hasP m1 l i ∧ hasP m1 l j ∧ i + j ≤ l) := fun r => q ⟨(hasP_cg h i).mp r.1, (hasP_cg h j).mp r.2.1, r.2.2⟩
    rw [if_neg q, if_neg q1]
    rfl
theorem fr_Share {m1 m2 : Nat → Int} {l : Nat} (h : eqT l m1 m2) (d k : Int) : frE (spShare m1 d k l) (spShare m2 d k l) := by
  unfold spShare
  by_cases q : hasW m2 l k ∧ 0 ≤ d ∧ d ≤ l - k
  · have q1 : hasW m1 l k ∧ 0 ≤ d ∧ d ≤ l - k := ⟨⟨(hasP_cg h k).mpr q.1.1, q.1.2⟩, q.2⟩
    obtain ⟨b1, b2, b3, b4⟩ := q.1.1.b
    have q3 := q.1.2
    have q4 := q.2
    have d1 := Dt_cg h (k := k.toNat + 1) (by omega) (by omega)
    rw [if_pos q, if_pos q1, d1]
    by_cases r : Dt m2 (k.toNat + 1) = 0
    · rw [if_pos r, if_pos r]
      rfl
    · rw [if_neg r, if_neg r, ofN_cg h b1 b2 (d := d.toNat) (by omega) _ (Nat.le_refl _)]
      exact frE_r r
  · have q1 : ¬ (hasW m1 l k ∧ 0 ≤ d ∧ d ≤ l - k) := fun r => q ⟨⟨(hasP_cg h k).mp r.1.1, r.1.2⟩, r.2⟩
    rw [if_neg q, if_neg q1]
    rfl
theorem fr_Kernel {m1 m2 : Nat → Int} {l : Nat} (h : eqT l m1 m2) (n x y : Int) : frE (spKernel m1 n x y l) (spKernel m2 n x y l) := by
  unfold spKernel
  by_cases q : hasW m2 l n
  · have q1 : hasW m1 l n := ⟨(hasP_cg h n).mpr q.1, q.2⟩
    obtain ⟨b1, b2, b3, b4⟩ := q.1.b
    have q3 := q.2
    rw [if_pos q, if_pos q1]
    by_cases r : win x 1000 ∧ win y 1000
    · rw [if_pos r, if_pos r, Dt_cg h (k := n.toNat + 1) (by omega) (by omega)]
      by_cases z : Dt m2 (n.toNat + 1) = 0
      · rw [if_pos z, if_pos z]
        rfl
      · rw [if_neg z, if_neg z, Sk_cg h (n := n.toNat + 1) (by omega) (by omega)]
        exact frE_r z
    · rw [if_neg r, if_neg r]
      rfl
  · have q1 : ¬ hasW m1 l n := fun r => q ⟨(hasP_cg h n).mp r.1, r.2⟩
    rw [if_neg q, if_neg q1]
    rfl
theorem fr_Left {m1 m2 : Nat → Int} {l : Nat} (h : eqT l m1 m2) (n d : Int) : frE (spLeft m1 n d l) (spLeft m2 n d l) := by
  unfold spLeft
  by_cases q : n ≠ 0 ∧ hasP m2 l n ∧ 0 ≤ d ∧ d ≤ l
  · have q1 : n ≠ 0 ∧ hasP m1 l n ∧ 0 ≤ d ∧ d ≤ l := ⟨q.1, (hasP_cg h n).mpr q.2.1, q.2.2⟩
    obtain ⟨b1, b2, b3, b4⟩ := q.2.1.b
    have q3 := q.2.2
    have q4 := q.1
    rw [if_pos q, if_pos q1]
    by_cases r : d - 2 * n < 0
    · rw [if_pos r, if_pos r]
      exact frE_r (by decide)
    · rw [if_neg r, if_neg r, lefS_cg h b1 (by omega) b2 (d := d.toNat) (by omega) (by omega), Dt_cg h (k := n.toNat) (by omega) (by omega)]
      exact frE_r (Int.pow_ne_zero (top_nz b3))
  · have q1 : ¬ (n ≠ 0 ∧ hasP m1 l n ∧ 0 ≤ d ∧ d ≤ l) := fun r => q ⟨r.1, (hasP_cg h n).mp r.2.1, r.2.2⟩
    rw [if_neg q, if_neg q1]
    rfl
theorem eq_Below {m1 m2 : Nat → Int} {l : Nat} (h : eqT l m1 m2) (k u v : Int) : spBelow m1 k u v l = spBelow m2 k u v l := by
  unfold spBelow
  rw [gwf_cg h]
  by_cases q : hasP m2 l k
  · have q1 : hasP m1 l k := (hasP_cg h k).mpr q
    obtain ⟨b1, b2, b3, b4⟩ := q.b
    rw [if_pos q, if_pos q1, rbR_cg h b1 b2]
  · rw [if_neg q, if_neg (mt (hasP_cg h k).mp q)]
theorem eq_Shut {m1 m2 : Nat → Int} {l : Nat} (h : eqT l m1 m2) (k i d : Int) : spShut m1 k i d l = spShut m2 k i d l := by
  unfold spShut
  rw [gwf_cg h]
  by_cases q : hasP m2 l k ∧ 0 ≤ i ∧ i < k
  · have q1 : hasP m1 l k ∧ 0 ≤ i ∧ i < k := ⟨(hasP_cg h k).mpr q.1, q.2⟩
    obtain ⟨b1, b2, b3, b4⟩ := q.1.b
    rw [if_pos q, if_pos q1, shR_cg h b1 b2]
  · rw [if_neg q, if_neg (fun r => q ⟨(hasP_cg h k).mp r.1, r.2⟩)]
theorem eq_Few {m1 m2 : Nat → Int} {l : Nat} (h : eqT l m1 m2) : spFew m1 l = spFew m2 l := by
  unfold spFew
  rw [gwf_cg h]
  have : fewP m1 l (gwf m2 l) ↔ fewP m2 l (gwf m2 l) := by
    unfold fewP
    rw [tpf_cg h]
    have t5 := tpf_le m2 l
    constructor
    · rintro ⟨q1, q2, q3⟩
      refine ⟨q1, by rw [← Dt_cg h (k := gwf m2 l + 1) (by omega) (by omega)]; exact q2, fun i hi => ?_⟩
      rw [← ofN_cg h (k := gwf m2 l) (by omega) (by omega) (d := i) (by omega) _ (Nat.le_refl _)]
      exact q3 i hi
    · rintro ⟨q1, q2, q3⟩
      refine ⟨q1, by rw [Dt_cg h (k := gwf m2 l + 1) (by omega) (by omega)]; exact q2, fun i hi => ?_⟩
      rw [ofN_cg h (k := gwf m2 l) (by omega) (by omega) (d := i) (by omega) _ (Nat.le_refl _)]
      exact q3 i hi
  by_cases q : fewP m2 l (gwf m2 l)
  · rw [if_pos q, if_pos (this.mpr q)]
  · rw [if_neg q, if_neg (mt this.mp q)]

