/-! ===== mathematics: the kernel; layKernel ===== -/
theorem adj_all {n i l : Nat} (h1 : 1 ≤ n) (hn : n ≤ 6) (hi : i < n) (hl : l < n) : adjC n i l = true := by
  rcases (show n = 1 ∨ n = 2 ∨ n = 3 ∨ n = 4 ∨ n = 5 ∨ n = 6 by omega) with e | e | e | e | e | e <;> subst e
  · exact adj_1 i hi l hl
  · exact adj_2 i hi l hl
  · exact adj_3 i hi l hl
  · exact adj_4 i hi l hl
  · exact adj_5 i hi l hl
  · exact adj_6 i hi l hl
theorem pop_d : ∀ n, n < 7 → popc (2 ^ n - 1) = n ∧ 2 ^ n - 1 < 64 := by decide +kernel
theorem adj_eq (mo : Nat → Int) {n i l : Nat} (hn : n ≤ 6) (hi : i < n) (hl : l < n) : fs (fun j => A mo n i j * mo (j + l)) n = if i = l then Dt mo n else 0 := by
  have h := adj_all (by omega) hn hi hl
  have e : ev mo (adjT n i l) = fs (fun j => A mo n i j * mo (j + l)) n := by
    unfold adjT
    rw [ev_fsP]
    refine fs_cg (fun j _ => ?_)
    rw [ev_mv, Int.one_mul]
    rfl
  unfold adjC at h
  split at h
  · next q =>
    rw [if_pos (Nat.eq_of_beq_eq_true q), ← e, pEq_ev mo _ _ h, ev_mnP mo n _ (pop_d n (by omega)).2 (pop_d n (by omega)).1]
    rfl
  · next q =>
    rw [if_neg (fun r => by rw [r, Nat.beq_refl] at q; exact absurd q (by decide)), ← e, pEq_ev mo _ _ h]
    rfl
/-! sizes -/
def n1 : mP → Nat
  | [] => 0
  | t :: p => t.1.natAbs + n1 p
def wfL (l : List Nat) : Bool := Nat.ble l.length 5 && l.all (fun i => Nat.ble i 11)
def wfP : mP → Bool
  | [] => true
  | t :: p => wfL t.2 && wfP p
theorem mon_le {mo : Nat → Int} (hm : ∀ k, k < 12 → (mo k).natAbs ≤ 2 ^ 62) : ∀ l : List Nat, l.all (fun i => Nat.ble i 11) = true → (mon mo l).natAbs ≤ (2 ^ 62) ^ l.length
  | [], _ => by show (1 : Int).natAbs ≤ _; exact Nat.le_refl 1
  | i :: l, h => by
    rw [List.all_cons, Bool.and_eq_true] at h
    have h1 := Nat.le_of_ble_eq_true h.1
    rw [mon, Int.natAbs_mul, List.length_cons, Nat.pow_succ, Nat.mul_comm]
    exact Nat.mul_le_mul (mon_le hm l h.2) (hm i (by omega))
theorem ev_le {mo : Nat → Int} (hm : ∀ k, k < 12 → (mo k).natAbs ≤ 2 ^ 62) : ∀ p, wfP p = true → (ev mo p).natAbs ≤ n1 p * 2 ^ 310
  | [], _ => Nat.zero_le _
  | t :: p, h => by
    rw [wfP, Bool.and_eq_true] at h
    obtain ⟨h1, h2⟩ := h
    unfold wfL at h1
    rw [Bool.and_eq_true] at h1
    have a1 := mon_le hm t.2 h1.2
    have a2 : (2 ^ 62) ^ t.2.length ≤ 2 ^ 310 := by
      rw [← Nat.pow_mul]
      exact Nat.pow_le_pow_right (by decide) (by have := Nat.le_of_ble_eq_true h1.1; omega)
    have a3 := ev_le hm p h2
    rw [ev, n1, Nat.add_mul]
    refine Nat.le_trans (Int.natAbs_add_le _ _) (Nat.add_le_add ?_ a3)
    rw [Int.natAbs_mul]
    exact Nat.mul_le_mul_left _ (Nat.le_trans a1 a2)
set_option maxRecDepth 20000 in
theorem cof_tab : ∀ n, n < 7 → ∀ i, i < n → ∀ j, j < n → (wfP (cofP n i j) && Nat.ble (n1 (cofP n i j)) 128) = true := by decide +kernel
theorem A_le {mo : Nat → Int} (hm : ∀ k, k < 12 → (mo k).natAbs ≤ MB) {n i j : Nat} (hn : n ≤ 6) (hi : i < n) (hj : j < n) : (A mo n i j).natAbs ≤ 2 ^ 317 := by
  have h1 : ∀ k, k < 12 → (mo k).natAbs ≤ 2 ^ 62 := fun k hk => Nat.le_trans (hm k hk) (by unfold MB; omega)
  have h := cof_tab n (by omega) i hi j hj
  rw [Bool.and_eq_true] at h
  have a := ev_le h1 _ h.1
  have b := Nat.le_of_ble_eq_true h.2
  refine Nat.le_trans a (Nat.le_trans (Nat.mul_le_mul_right _ b) ?_)
  rw [show 317 = 7 + 310 from rfl, Nat.pow_add 2 7]
  exact Nat.le_refl _
theorem fs_le {f : Nat → Int} {B : Nat} : ∀ n, (∀ i, i < n → (f i).natAbs ≤ B) → (fs f n).natAbs ≤ n * B
  | 0, _ => Nat.zero_le _
  | n + 1, h => by
    rw [fs, Nat.add_mul, Nat.one_mul]
    exact Nat.le_trans (Int.natAbs_add_le _ _) (Nat.add_le_add (fs_le n (fun i hi => h i (by omega))) (h n (by omega)))
/-- the kernel up to n - 1, times determinant n -/
def Sk (mo : Nat → Int) (x y : Int) (n : Nat) : Int := fs (fun a => fs (fun b => A mo n a b * (x ^ a * y ^ b)) n) n
theorem pw_le {x : Int} (hx : x.natAbs ≤ 2 ^ 10) : ∀ a, a < 6 → (x ^ a).natAbs ≤ 2 ^ 50 := by
  intro a ha
  rw [Int.natAbs_pow]
  refine Nat.le_trans (Nat.pow_le_pow_left hx a) ?_
  rw [← Nat.pow_mul]
  exact Nat.pow_le_pow_right (by decide) (by omega)
theorem Sk_le {mo : Nat → Int} (hm : ∀ k, k < 12 → (mo k).natAbs ≤ MB) {x y : Int} (hx : x.natAbs ≤ 2 ^ 10) (hy : y.natAbs ≤ 2 ^ 10) {n : Nat} (hn : n ≤ 6) : (Sk mo x y n).natAbs < 2 ^ (32 * 14) := by
  have h := fs_le (f := fun a => fs (fun b => A mo n a b * (x ^ a * y ^ b)) n) (B := 6 * 2 ^ 417) n (fun a ha => by
    refine Nat.le_trans (fs_le (B := 2 ^ 417) n (fun b hb => ?_)) (Nat.mul_le_mul_right _ hn)
    have := p2_mul (A_le hm hn ha hb) (p2_mul (pw_le hx a (by omega)) (pw_le hy b (by omega)))
    exact this)
  have h2 : n * (6 * 2 ^ 417) ≤ 6 * (6 * 2 ^ 417) := Nat.mul_le_mul_right _ hn
  exact Nat.lt_of_le_of_lt (Nat.le_trans h h2) (by decide)
/-! the recurrence -/
theorem Nm_top (mo : Nat → Int) {k : Nat} (hk : k ≤ 5) : Nm mo k k = Dt mo k := by
  have : ∀ k, k < 6 → cm k k = 2 ^ k - 1 := by decide
  unfold Nm Dt
  rw [this k (by omega)]
theorem of_top (mo : Nat → Int) {k : Nat} (hk : k ≤ 5) : ofN mo k k (k + 1) = Dt mo (k + 1) := by
  have tb : ∀ k, k < 6 → pEq (fsP (fun j => mv (j + k) 1 (mnP k (cm k j))) (k + 1)) (mnP (k + 1) (2 ^ (k + 1) - 1)) = true := by decide +kernel
  have h := pEq_ev mo _ _ (tb k (by omega))
  rw [ev_fsP, ev_mnP mo (k + 1) _ (pop_d (k + 1) (by omega)).2 (pop_d (k + 1) (by omega)).1] at h
  rw [ofN_fs]
  refine Eq.trans (fs_cg (fun j hj => ?_)) h
  obtain ⟨-, c1, c2, -⟩ := cm_t k (by omega) j hj
  show _ = ev mo (mv (j + k) 1 (mnP k (cm k j)))
  rw [ev_mv, ev_mnP mo k _ c1 c2, Int.one_mul]
  rfl
theorem of_eq (mo : Nat → Int) {k i : Nat} (hk : k ≤ 5) (hi : i ≤ k) : fs (fun j => Nm mo k j * mo (j + i)) (k + 1) = if i = k then Dt mo (k + 1) else 0 := by
  rw [← ofN_fs]
  by_cases e : i = k
  · rw [if_pos e, e]
    exact of_top mo hk
  · rw [if_neg e]
    exact of_zero mo hk (by omega)
theorem A_num (mo : Nat → Int) {k a : Nat} (hk : k ≤ 5) (ha : a < k) (hD : Dt mo k ≠ 0) : fs (fun b => A mo k a b * mo (b + k)) k = -Nm mo k a := by
  have e1 : ∀ b, b < k → fs (fun i => Nm mo k i * mo (i + b)) k = -(Dt mo k * mo (b + k)) := by
    intro b hb
    have := of_eq mo hk (i := b) (by omega)
    rw [fs, if_neg (by omega), Nm_top mo hk, Nat.add_comm k b] at this
    omega
  have e2 : fs (fun b => A mo k a b * fs (fun i => Nm mo k i * mo (i + b)) k) k = Dt mo k * Nm mo k a := by
    have : ∀ b, A mo k a b * fs (fun i => Nm mo k i * mo (i + b)) k = fs (fun i => Nm mo k i * (A mo k a b * mo (b + i))) k := by
      intro b
      rw [← fs_mul]
      refine fs_cg (fun i _ => ?_)
      rw [Nat.add_comm i b]
      grind
    rw [fs_cg (fun b _ => this b), fs_swap]
    have e3 : fs (fun i => fs (fun b => Nm mo k i * (A mo k a b * mo (b + i))) k) k = fs (fun i => if i = a then Nm mo k i * Dt mo k else 0) k := by
      refine fs_cg (fun i hi => ?_)
      rw [fs_mul, adj_eq mo (by omega) ha hi]
      by_cases q : a = i
      · rw [if_pos q, if_pos q.symm]
      · rw [if_neg q, if_neg (fun r => q r.symm), Int.mul_zero]
    rw [e3, fs_dl, if_pos ha, Int.mul_comm]
  have e4 : fs (fun b => A mo k a b * fs (fun i => Nm mo k i * mo (i + b)) k) k = -(Dt mo k) * fs (fun b => A mo k a b * mo (b + k)) k := by
    rw [← fs_mul]
    refine fs_cg (fun b hb => ?_)
    rw [e1 b hb]
    grind
  rw [e4] at e2
  apply Int.eq_of_mul_eq_mul_left hD
  rw [Int.mul_neg, ← e2]
  grind
/-- entry by entry -/
theorem A_rec (mo : Nat → Int) {k a c : Nat} (hk : k ≤ 5) (ha : a ≤ k) (hc : c ≤ k) (hD : Dt mo k ≠ 0) (hD1 : Dt mo (k + 1) ≠ 0) : Dt mo k * A mo (k + 1) a c = Dt mo (k + 1) * (if a < k ∧ c < k then A mo k a c else 0) + Nm mo k a * Nm mo k c := by
  have X0 : ∀ l, l ≤ k → fs (fun b => (Dt mo k * A mo (k + 1) a b + -(Dt mo (k + 1)) * (if a < k ∧ b < k then A mo k a b else 0) + -(Nm mo k a) * Nm mo k b) * mo (b + l)) (k + 1) = 0 := by
    intro l hl
    have s1 : fs (fun b => (Dt mo k * A mo (k + 1) a b + -(Dt mo (k + 1)) * (if a < k ∧ b < k then A mo k a b else 0) + -(Nm mo k a) * Nm mo k b) * mo (b + l)) (k + 1) = Dt mo k * fs (fun b => A mo (k + 1) a b * mo (b + l)) (k + 1) + -(Dt mo (k + 1)) * fs (fun b => (if a < k ∧ b < k then A mo k a b else 0) * mo (b + l)) (k + 1) + -(Nm mo k a) * fs (fun b => Nm mo k b * mo (b + l)) (k + 1) := by
      rw [← fs_mul, ← fs_mul, ← fs_mul, ← fs_add, ← fs_add]
      refine fs_cg (fun b _ => ?_)
      grind
    rw [s1, adj_eq mo (by omega) (by omega) (by omega), of_eq mo hk hl]
    have s2 : fs (fun b => (if a < k ∧ b < k then A mo k a b else 0) * mo (b + l)) (k + 1) = if a < k then (if l < k then (if a = l then Dt mo k else 0) else -Nm mo k a) else 0 := by
      rw [fs, if_neg (by omega), Int.zero_mul, Int.add_zero]
      by_cases q : a < k
      · rw [if_pos q]
        have : fs (fun b => (if a < k ∧ b < k then A mo k a b else 0) * mo (b + l)) k = fs (fun b => A mo k a b * mo (b + l)) k := fs_cg (fun b hb => by rw [if_pos ⟨q, hb⟩])
        rw [this]
        by_cases r : l < k
        · rw [if_pos r, adj_eq mo (by omega) q r]
        · rw [if_neg r]
          obtain rfl : l = k := by omega
          exact A_num mo hk q hD
      · rw [if_neg q]
        exact fs_0 (fun b _ => by rw [if_neg (fun r => q r.1), Int.zero_mul])
    rw [s2]
    by_cases q : a < k
    · rw [if_pos q]
      by_cases r : l < k
      · rw [if_pos r, if_neg (show ¬ l = k by omega)]
        by_cases t : a = l
        · rw [if_pos t, if_pos t]
          grind
        · rw [if_neg t, if_neg t]
          grind
      · rw [if_neg r, if_pos (show l = k by omega), if_neg (show ¬ a = l by omega)]
        grind
    · have ea : a = k := by omega
      rw [if_neg q, ea]
      by_cases r : l < k
      · rw [if_neg (show ¬ k = l by omega), if_neg (show ¬ l = k by omega)]
        grind
      · rw [if_pos (show k = l by omega), if_pos (show l = k by omega), Nm_top mo hk]
        grind
  have key : fs (fun l => A mo (k + 1) c l * fs (fun b => (Dt mo k * A mo (k + 1) a b + -(Dt mo (k + 1)) * (if a < k ∧ b < k then A mo k a b else 0) + -(Nm mo k a) * Nm mo k b) * mo (b + l)) (k + 1)) (k + 1) = 0 := fs_0 (fun l hl => by rw [X0 l (by omega), Int.mul_zero])
  have e1 : fs (fun l => A mo (k + 1) c l * fs (fun b => (Dt mo k * A mo (k + 1) a b + -(Dt mo (k + 1)) * (if a < k ∧ b < k then A mo k a b else 0) + -(Nm mo k a) * Nm mo k b) * mo (b + l)) (k + 1)) (k + 1) = (Dt mo k * A mo (k + 1) a c + -(Dt mo (k + 1)) * (if a < k ∧ c < k then A mo k a c else 0) + -(Nm mo k a) * Nm mo k c) * Dt mo (k + 1) := by
    have : ∀ l, A mo (k + 1) c l * fs (fun b => (Dt mo k * A mo (k + 1) a b + -(Dt mo (k + 1)) * (if a < k ∧ b < k then A mo k a b else 0) + -(Nm mo k a) * Nm mo k b) * mo (b + l)) (k + 1) = fs (fun b => (Dt mo k * A mo (k + 1) a b + -(Dt mo (k + 1)) * (if a < k ∧ b < k then A mo k a b else 0) + -(Nm mo k a) * Nm mo k b) * (A mo (k + 1) c l * mo (l + b))) (k + 1) := by
      intro l
      rw [← fs_mul]
      refine fs_cg (fun b _ => ?_)
      rw [Nat.add_comm b l]
      grind
    rw [fs_cg (fun l _ => this l), fs_swap]
    have e3 : fs (fun b => fs (fun l => (Dt mo k * A mo (k + 1) a b + -(Dt mo (k + 1)) * (if a < k ∧ b < k then A mo k a b else 0) + -(Nm mo k a) * Nm mo k b) * (A mo (k + 1) c l * mo (l + b))) (k + 1)) (k + 1) = fs (fun b => if b = c then (Dt mo k * A mo (k + 1) a b + -(Dt mo (k + 1)) * (if a < k ∧ b < k then A mo k a b else 0) + -(Nm mo k a) * Nm mo k b) * Dt mo (k + 1) else 0) (k + 1) := by
      refine fs_cg (fun b hb => ?_)
      rw [fs_mul, adj_eq mo (by omega) (by omega) hb]
      by_cases q : c = b
      · rw [if_pos q, if_pos q.symm]
      · rw [if_neg q, if_neg (c := b = c) (fun r => q r.symm), Int.mul_zero]
    rw [e3, fs_dl, if_pos (by omega)]
  rw [e1] at key
  have := (Int.mul_eq_zero.mp key).resolve_right hD1
  have h1 : -(Dt mo (k + 1)) * (if a < k ∧ c < k then A mo k a c else 0) = -(Dt mo (k + 1) * (if a < k ∧ c < k then A mo k a c else 0)) := Int.neg_mul _ _
  have h2 : -(Nm mo k a) * Nm mo k c = -(Nm mo k a * Nm mo k c) := Int.neg_mul _ _
  rw [h1, h2] at this
  omega
theorem evN_fs (mo : Nat → Int) (k : Nat) (x : Int) : ∀ t, t ≤ k → evN mo k x 1 t = fs (fun i => Nm mo k (k - t + i) * x ^ i) t + Dt mo k * x ^ t
  | 0, _ => by
    rw [evN, fs, Int.pow_zero, Int.mul_one, Int.zero_add]
    rfl
  | t + 1, ht => by
    have ih := evN_fs mo k x t (by omega)
    rw [evN, ih]
    have sh : ∀ n, fs (fun i => Nm mo k (k - (t + 1) + i) * x ^ i) (n + 1) = Nm mo k (k - (t + 1)) + x * fs (fun i => Nm mo k (k - (t + 1) + (i + 1)) * x ^ i) n := by
      intro n
      induction n with
      | zero =>
        rw [fs, fs, fs, Int.mul_zero, Int.pow_zero, Int.mul_one]
        show 0 + Nm mo k (k - (t + 1) + 0) = _
        rw [Nat.add_zero]
        omega
      | succ n ih2 =>
        rw [fs, ih2, fs, Int.mul_add, Int.pow_succ]
        grind
    rw [sh t]
    have e : ∀ i, k - (t + 1) + (i + 1) = k - t + i := fun i => by omega
    rw [fs_cg (f := fun i => Nm mo k (k - (t + 1) + (i + 1)) * x ^ i) (g := fun i => Nm mo k (k - t + i) * x ^ i) (fun i _ => by rw [e i])]
    rw [show k - 1 - t = k - (t + 1) by omega]
    show _ + Nm mo k (k - (t + 1)) * 1 ^ (t + 1) = _
    rw [Int.one_pow, Int.pow_succ]
    grind
theorem evN_num (mo : Nat → Int) {k : Nat} (hk : k ≤ 5) (x : Int) : evN mo k x 1 k = fs (fun i => Nm mo k i * x ^ i) (k + 1) := by
  rw [evN_fs mo k x k (Nat.le_refl _), fs, Nm_top mo hk]
  have : fs (fun i => Nm mo k (k - k + i) * x ^ i) k = fs (fun i => Nm mo k i * x ^ i) k := fs_cg (fun i _ => by rw [Nat.sub_self, Nat.zero_add])
  rw [this]
theorem Sk_rec (mo : Nat → Int) {k : Nat} (hk : k ≤ 5) (x y : Int) (hD : Dt mo k ≠ 0) (hD1 : Dt mo (k + 1) ≠ 0) : Sk mo x y k * Dt mo (k + 1) + evN mo k x 1 k * evN mo k y 1 k = Dt mo k * Sk mo x y (k + 1) := by
  have e1 : Dt mo k * Sk mo x y (k + 1) = fs (fun a => fs (fun b => Dt mo (k + 1) * ((if a < k ∧ b < k then A mo k a b else 0) * (x ^ a * y ^ b))) (k + 1) + Nm mo k a * x ^ a * fs (fun b => Nm mo k b * y ^ b) (k + 1)) (k + 1) := by
    unfold Sk
    rw [← fs_mul]
    refine fs_cg (fun a ha => ?_)
    rw [← fs_mul, ← fs_mul, ← fs_add]
    refine fs_cg (fun b hb => ?_)
    have := A_rec mo hk (a := a) (c := b) (by omega) (by omega) hD hD1
    rw [← Int.mul_assoc, this]
    grind
  have e2 : fs (fun a => fs (fun b => Dt mo (k + 1) * ((if a < k ∧ b < k then A mo k a b else 0) * (x ^ a * y ^ b))) (k + 1)) (k + 1) = Sk mo x y k * Dt mo (k + 1) := by
    unfold Sk
    rw [fs, fs_0 (f := fun b => Dt mo (k + 1) * ((if k < k ∧ b < k then A mo k k b else 0) * (x ^ k * y ^ b))) (fun b _ => by rw [if_neg (by omega), Int.zero_mul, Int.mul_zero]), Int.add_zero, Int.mul_comm, ← fs_mul]
    refine fs_cg (fun a ha => ?_)
    rw [fs, if_neg (by omega), Int.zero_mul, Int.mul_zero, Int.add_zero, ← fs_mul]
    exact fs_cg (fun b hb => by rw [if_pos ⟨ha, hb⟩])
  rw [e1, fs_add, e2, evN_num mo hk x, evN_num mo hk y]
  have e3 : fs (fun a => Nm mo k a * x ^ a * fs (fun b => Nm mo k b * y ^ b) (k + 1)) (k + 1) = fs (fun i => Nm mo k i * x ^ i) (k + 1) * fs (fun b => Nm mo k b * y ^ b) (k + 1) := by
    rw [Int.mul_comm, ← fs_mul]
    exact fs_cg (fun a _ => Int.mul_comm _ _)
  rw [e3]
def spKernel (mo : Nat → Int) (n x y : Int) (l : Nat) : mSL := if hasW mo l n then (if win x 1000 ∧ win y 1000 then (if Dt mo (n.toNat + 1) = 0 then .inl (-5) else .inr (Sk mo x y (n.toNat + 1), Dt mo (n.toNat + 1))) else .inl (-2)) else .inl (-1)
def pt_layKernel : mSH → mRF → mPT := m_pv 4 (fun sh rf d rest I J K => ∃ n x y : Int32, sh = shL ∧ rf = rfL ∧ d = 523 ∧ rest = [.inl n, .inl x, .inl y] ∧ Ask I J K (spKernel (moC J 0) n.toInt x.toInt y.toInt))

def ct_X4_layKernel (sh : mSH) (rf : mRF) : Nat → Option (Nat × Bool × mPT) := fun k => match k with
  | 138 => some (1, true, pt_wpolys sh rf)
  | 142 => some (2, true, pt_phasWorth sh rf)
  | 64 => some (2, false, pt_isWithin sh rf)
  | 186 => some (2, true, pt_pwsign sh rf)
  | 112 => some (2, true, pt_setLong sh rf)
  | 147 => some (2, true, pt_pdet sh rf)
  | 194 => some (3, true, pt_times sh rf)
  | 175 => some (5, true, pt_peval sh rf)
  | 198 => some (4, true, pt_addProduct sh rf)
  | 202 => some (3, true, pt_divideWhole sh rf)
  | 151 => some (3, true, pt_lay sh rf)
  | _ => none
set_option maxRecDepth 20000 in
theorem ce_X4_layKernel : m_CE RX4 6 173 cX4_layKernel 6 ct_X4_layKernel := by
  intro p l e s m args below meth c Q D cs ad sh rf N hx hb hml hown hts hK hi hN k n vf pt h
  unfold ct_X4_layKernel at h
  split at h
  · cases h
    exact m_CG_V mt_X3_polys hx hb hml hown hts hK hi hN (ci := 3) m_pv_rec rfl rfl (m_wck_ok (l := [(Cond.methodLink RX4 138 yX3_polys, 420), (Cond.instanceMethod yX3_polys, 421), (Cond.selects RX3 yX3_polys yX3_polys, 422), (Cond.initialized RX3, 56), (Cond.code yX3_polys cX3_polys 1 (some (.object "MomentDesk$Polys")), 423)]) (by decide +kernel)) ⟨rfl, by decide +kernel, by decide +kernel, by decide +kernel⟩ ⟨Nat.le_of_ble_eq_true rfl, Nat.le_of_ble_eq_true rfl⟩
  · cases h
    exact m_CG_V mt_X2_hasWorth hx hb hml hown hts hK hi hN (ci := 2) m_pv_rec rfl rfl (m_wck_ok (l := [(Cond.methodLink RX4 142 yX2_hasWorth, 441), (Cond.instanceMethod yX2_hasWorth, 442), (Cond.selects RX2 yX2_hasWorth yX2_hasWorth, 443), (Cond.initialized RX2, 57), (Cond.code yX2_hasWorth cX2_hasWorth 2 (some .boolean), 444)]) (by decide +kernel)) ⟨rfl, by decide +kernel, by decide +kernel, by decide +kernel⟩ ⟨Nat.le_of_ble_eq_true rfl, Nat.le_of_ble_eq_true rfl⟩
  · cases h
    exact m_CG_S mt_X4_isWithin hx hb hml hown hts hK hi hN (m_wck_ok (l := [(Cond.methodLink RX4 64 yX4_isWithin, 253), (Cond.static yX4_isWithin, 254), (Cond.initialized RX4, 55), (Cond.code yX4_isWithin cX4_isWithin 2 (some .boolean), 255)]) (by decide +kernel)) ⟨by decide +kernel, by decide +kernel, by decide +kernel⟩ ⟨Nat.le_of_ble_eq_true rfl, Nat.le_of_ble_eq_true rfl⟩
  · cases h
    exact m_CG_V mt_X2_worthSign hx hb hml hown hts hK hi hN (ci := 2) m_pv_rec rfl rfl (m_wck_ok (l := [(Cond.methodLink RX4 186 yX2_worthSign, 520), (Cond.instanceMethod yX2_worthSign, 521), (Cond.selects RX2 yX2_worthSign yX2_worthSign, 522), (Cond.initialized RX2, 57), (Cond.code yX2_worthSign cX2_worthSign 2 (some .int), 523)]) (by decide +kernel)) ⟨rfl, by decide +kernel, by decide +kernel, by decide +kernel⟩ ⟨Nat.le_of_ble_eq_true rfl, Nat.le_of_ble_eq_true rfl⟩
  · cases h
    exact m_CG_V mt_X0_setLong hx hb hml hown hts hK hi hN (ci := 0) m_pv_rec rfl rfl (m_wck_ok (l := [(Cond.methodLink RX4 112 yX0_setLong, 307), (Cond.instanceMethod yX0_setLong, 176), (Cond.selects RX0 yX0_setLong yX0_setLong, 177), (Cond.initialized RX0, 58), (Cond.code yX0_setLong cX0_setLong 5 none, 178)]) (by decide +kernel)) ⟨rfl, by decide +kernel, by decide +kernel, by decide +kernel⟩ ⟨Nat.le_of_ble_eq_true rfl, Nat.le_of_ble_eq_true rfl⟩
  · cases h
    exact m_CG_V mt_X2_determinant hx hb hml hown hts hK hi hN (ci := 2) m_pv_rec rfl rfl (m_wck_ok (l := [(Cond.methodLink RX4 147 yX2_determinant, 449), (Cond.instanceMethod yX2_determinant, 438), (Cond.selects RX2 yX2_determinant yX2_determinant, 439), (Cond.initialized RX2, 57), (Cond.code yX2_determinant cX2_determinant 2 (some (.object "MomentDesk$Big")), 440)]) (by decide +kernel)) ⟨rfl, by decide +kernel, by decide +kernel, by decide +kernel⟩ ⟨Nat.le_of_ble_eq_true rfl, Nat.le_of_ble_eq_true rfl⟩
  · cases h
    exact m_CG_V mt_X0_times hx hb hml hown hts hK hi hN (ci := 0) m_pv_rec rfl rfl (m_wck_ok (l := [(Cond.methodLink RX4 194 yX0_times, 532), (Cond.instanceMethod yX0_times, 533), (Cond.selects RX0 yX0_times yX0_times, 534), (Cond.initialized RX0, 58), (Cond.code yX0_times cX0_times 3 none, 535)]) (by decide +kernel)) ⟨rfl, by decide +kernel, by decide +kernel, by decide +kernel⟩ ⟨Nat.le_of_ble_eq_true rfl, Nat.le_of_ble_eq_true rfl⟩
  · cases h
    exact m_CG_V mt_X2_evaluate hx hb hml hown hts hK hi hN (ci := 2) m_pv_rec rfl rfl (m_wck_ok (l := [(Cond.methodLink RX4 175 yX2_evaluate, 496), (Cond.instanceMethod yX2_evaluate, 497), (Cond.selects RX2 yX2_evaluate yX2_evaluate, 498), (Cond.initialized RX2, 57), (Cond.code yX2_evaluate cX2_evaluate 6 none, 499)]) (by decide +kernel)) ⟨rfl, by decide +kernel, by decide +kernel, by decide +kernel⟩ ⟨Nat.le_of_ble_eq_true rfl, Nat.le_of_ble_eq_true rfl⟩
  · cases h
    exact m_CG_V mt_X0_addProduct hx hb hml hown hts hK hi hN (ci := 0) m_pv_rec rfl rfl (m_wck_ok (l := [(Cond.methodLink RX4 198 yX0_addProduct, 312), (Cond.instanceMethod yX0_addProduct, 313), (Cond.selects RX0 yX0_addProduct yX0_addProduct, 314), (Cond.initialized RX0, 58), (Cond.code yX0_addProduct cX0_addProduct 4 none, 315)]) (by decide +kernel)) ⟨rfl, by decide +kernel, by decide +kernel, by decide +kernel⟩ ⟨Nat.le_of_ble_eq_true rfl, Nat.le_of_ble_eq_true rfl⟩
  · cases h
    exact m_CG_V mt_X0_divideWhole hx hb hml hown hts hK hi hN (ci := 0) m_pv_rec rfl rfl (m_wck_ok (l := [(Cond.methodLink RX4 202 yX0_divideWhole, 536), (Cond.instanceMethod yX0_divideWhole, 537), (Cond.selects RX0 yX0_divideWhole yX0_divideWhole, 538), (Cond.initialized RX0, 58), (Cond.code yX0_divideWhole cX0_divideWhole 4 none, 539)]) (by decide +kernel)) ⟨rfl, by decide +kernel, by decide +kernel, by decide +kernel⟩ ⟨Nat.le_of_ble_eq_true rfl, Nat.le_of_ble_eq_true rfl⟩
  · cases h
    exact m_CG_V mt_X1_lay hx hb hml hown hts hK hi hN (ci := 1) m_pv_rec rfl rfl (m_wck_ok (l := [(Cond.methodLink RX4 151 yX1_lay, 450), (Cond.instanceMethod yX1_lay, 451), (Cond.selects RX1 yX1_lay yX1_lay, 452), (Cond.initialized RX1, 61), (Cond.code yX1_lay cX1_lay 3 (some .int), 453)]) (by decide +kernel)) ⟨rfl, by decide +kernel, by decide +kernel, by decide +kernel⟩ ⟨Nat.le_of_ble_eq_true rfl, Nat.le_of_ble_eq_true rfl⟩
  · cases h
set_option maxHeartbeats 4000000 in
set_option maxRecDepth 100000 in
theorem mt_X4_layKernel : m_Mt yX4_layKernel cX4_layKernel 6 (some .int) 6 173 pt_layKernel := by
  refine m_methodG (fl := fl_X4) (kI := kI_X4) (kJ := kJ_X4) (ct := ct_X4_layKernel) (cd := cd_X4_layKernel) (cut := [(66, [0, 1, 2, 3, 4, 5])]) (rk := 1) (fu := 120) (by decide +kernel) fl_X4_ok kI_X4_ok kJ_X4_ok ce_X4_layKernel rfl ck_X4_layKernel ⟨_, _, rfl, rfl⟩ ?_
  intro sh rf As I J K hpt
  obtain ⟨d, rest, rfl, hd, n, x, y, rfl, rfl, rfl, rfl, l, U, L, hC, hH, hL, h1, hl, hK⟩ := hpt
  obtain ⟨h3, hmo, hold⟩ := hC.cur h1 hl
  have e1000 : (1000 : Int32).toInt = 1000 := rfl
  refine ⟨Nat.le_of_ble_eq_true rfl, fun a9 b9 pc vs st I2 J2 => ∃ (I1 : mPI) (nn k : Nat), vs = [.inr (.inr 523), .inl (nI nn), .inl x, .inl y, .inr (.inr 504), .inl (nI k)] ∧ st = [] ∧ J2 = J ∧ a9 = nn + 1 - k ∧ k ≤ nn + 1 ∧ nn ≤ tpf (moC J 0) l ∧ 2 * nn ≤ l ∧ win x.toInt 1000 ∧ win y.toInt 1000 ∧ Dt (moC J 0) (nn + 1) ≠ 0 ∧ spKernel (moC J 0) n.toInt x.toInt y.toInt l = .inr (Sk (moC J 0) x.toInt y.toInt (nn + 1), Dt (moC J 0) (nn + 1)) ∧ Bse I I1 J l ∧ Wk I1 I2 ∧ BIs shL rfL I2 496 (Sk (moC J 0) x.toInt y.toInt k), ?_, ?_⟩
  · refine ⟨rfl, 513, [], rfl, rfl, l, rfl, lay_W0, h1, hl, hmo, hold, fun I1 a1 a2 a3 a4 => ?_⟩
    obtain ⟨hPf, hC1, hP⟩ := polys_post (p := 0) (by decide) hC h1 hl a1 a2 a4
    have hV := hPf.vis (by decide)
    have hH1 := hH.pf (by decide) hPf
    have tl := tpf_le (moC J 0) l
    have h11 : I1 513 1 = nI l := (hV.2 0 (by decide) 1 (by decide)).trans h1
    refine ⟨504, [.inl n], rfl, rfl, n, tpf (moC J 0) l, l, rfl, hP.2.1, tl.1, hP.1, hl, fun nn hnn hnl hk => ?_, fun hn => ?_⟩
    · have en : n.toInt = nn := by rw [hk, nI_toInt (by omega)]
      have hw : hasW (moC J 0) l n.toInt := by
        rw [en]
        exact ⟨⟨by omega, by omega⟩, by omega⟩
      have k2 : ¬ (win x.toInt 1000 ∧ win y.toInt 1000) → K (some (.inl (-2))) I1 J := fun q => by
        have e : spKernel (moC J 0) n.toInt x.toInt y.toInt l = .inl (-2) := by
          unfold spKernel
          rw [if_pos hw, if_neg q]
        rw [e] at hK
        exact hK I1 hV hC1 hH1
      refine ⟨fun _ => ⟨x, 1000, rfl, fun h => ?_, fun h => ⟨y, 1000, rfl, fun h2 => ?_, fun h2 => ?_⟩⟩, fun h => absurd h (by decide)⟩
      · have h := mt (within_i (by decide)).mpr (w_is0 h)
        exact k2 (fun q => h q.1)
      · have hx := (within_i (by decide)).mp (w_not0 h)
        have hy := (within_i (by decide)).mp (w_not0 h2)
        rw [e1000] at hx hy
        obtain ⟨d1, d2⟩ := P_det (p := 0) (k := nn + 1) hP (by omega) (by omega)
        obtain ⟨d3, d4⟩ := P_det (p := 0) (k := nn) hP (by omega) (by omega)
        have sp : spKernel (moC J 0) n.toInt x.toInt y.toInt l = if Dt (moC J 0) (nn + 1) = 0 then .inl (-5) else .inr (Sk (moC J 0) x.toInt y.toInt (nn + 1), Dt (moC J 0) (nn + 1)) := by
          unfold spKernel
          rw [if_pos hw, if_pos ⟨hx, hy⟩, en]
          rfl
        refine ⟨504, [.inl n], rfl, rfl, nn, _, _, by rw [hk], by omega, lay_P (p := 0) (by decide), d1, d3, fun h5 => ?_, fun h5 => ?_⟩
        · have h5 : ¬ sgI (Dt (moC J 0) (nn + 1)) * sgI (Dt (moC J 0) nn) = 0 := h5
          rw [sgI_x, sgI_0] at h5
          have n1 : Dt (moC J 0) (nn + 1) ≠ 0 := fun q => h5 (by rw [q, Int.zero_mul])
          rw [if_neg n1] at sp
          refine ⟨rfl, 496, [.inr (.inl 0)], rfl, rfl, 40, 0, rfl, L40 (b := 248) (by decide) (by decide), fun I2 c1 c2 => ?_⟩
          refine ⟨nn + 1 - 0, 0, I1, nn, 0, by rw [← hk]; rfl, rfl, rfl, rfl, by omega, hnn, hnl, hx, hy, n1, sp, ⟨hPf, hC1, hP⟩, bch_wk (b := 496) (by decide) (by decide) c1, c2⟩
        · have h5 : sgI (Dt (moC J 0) (nn + 1)) * sgI (Dt (moC J 0) nn) = 0 := h5
          rw [sgI_x, sgI_0] at h5
          have n1 : Dt (moC J 0) (nn + 1) = 0 := (Int.mul_eq_zero.mp h5).resolve_right (top_nz hnn)
          rw [if_pos n1] at sp
          rw [sp] at hK
          exact hK I1 hV hC1 hH1
      · have h2 := mt (within_i (by decide)).mpr (w_is0 h2)
        exact k2 (fun q => h2 q.2)
    · refine ⟨fun h => absurd rfl h, fun _ => ?_⟩
      have e : spKernel (moC J 0) n.toInt x.toInt y.toInt l = .inl (-1) := by
        refine if_neg (fun q => ?_)
        exact hn n.toInt.toNat (by have := q.1.2; omega) (by have := q.2; omega) (i_nat q.1.1).1
      rw [e] at hK
      exact hK I1 hV hC1 hH1
  · intro pc ks a9 b9 vs st I2 J2 hcu hI
    rcases m_cu1 hcu with ⟨rfl, rfl⟩ | hcu
    · obtain ⟨I1, nn, k, rfl, rfl, rfl, rfl, hk, hnn, hnl, hx, hy, hD, sp, ⟨hPf, hC1, hP⟩, w1, hs⟩ := hI
      have tl := tpf_le (moC J2 0) l
      have hm := hP.2.2.2.1
      have sb := Sk_le hm (x := x.toInt) (y := y.toInt) (by omega) (by omega) (n := k) (by omega)
      have hP2 := PIs.fr (p := 0) (by decide) hP w1.fr
      refine ⟨fun h => ?_, fun h => ?_⟩
      · have h : nI nn < nI k := h
        rw [nI_ltI (by omega) (by omega)] at h
        obtain rfl : k = nn + 1 := by omega
        rw [sp] at hK
        obtain ⟨d1, d2⟩ := P_det (p := 0) (k := nn + 1) hP2 (by omega) (by omega)
        refine ⟨rfl, rfl, 504, [.inl (nI nn + 1)], rfl, rfl, nn + 1, congrArg (fun x => [Sum.inl x]) (nI_1 nn), by omega, lay_P (p := 0) (by decide), 522, [.inr (.inr 496), .inr (.inr (pbg rfL 504 (2 ^ (nn + 1) - 1)))], rfl, rfl, 496, pbg rfL 504 (2 ^ (nn + 1) - 1), _, _, rfl, lay_H.1, fun i hi => ⟨by rw [lay_H.2]; omega, pbg_nh (p := 0) (by decide) (det64 (by omega)) i⟩, hs, d1, bup sb (by decide), bup d2 (by decide), hD, fun I3 b1 b2 => ?_⟩
        have hf := w1.fr.trans (hch_fr b1)
        exact hK I3 ((hPf.vis (by decide)).trans hf.vis) (hC1.fr hf) b2
      · have h : ¬ nI nn < nI k := h
        rw [nI_ltI (by omega) (by omega)] at h
        obtain ⟨d1, d2⟩ := P_det (p := 0) (k := k + 1) hP2 (by omega) (by omega)
        have hDk : Dt (moC J2 0) k ≠ 0 := top_nz (l := l) (by omega)
        have hDk1 : Dt (moC J2 0) (k + 1) ≠ 0 := by
          rcases Nat.lt_or_ge k nn with q | q
          · exact top_nz (l := l) (by omega)
          · obtain rfl : k = nn := by omega
            exact hD
        refine ⟨rfl, 504, [.inl (nI k + 1)], rfl, rfl, k + 1, congrArg (fun x => [Sum.inl x]) (nI_1 k), by omega, lay_P (p := 0) (by decide), rfl, 496, [.inr (.inr (pbg rfL 504 (2 ^ (k + 1) - 1))), .inr (.inr 502)], rfl, rfl, 40, pbg rfL 504 (2 ^ (k + 1) - 1), 502, 40, 14, 12, _, _, rfl, L40 (b := 248) (by decide) (by decide), L40 (b := 251) (by decide) (by decide), lay_BL, pbg_ne (p := 0) (by decide) (det64 (by omega)) (by decide), by decide, hs, d1, sb, d2, by decide, bup (bmul sb d2) (by decide), fun I3 c1 c2 => ?_⟩
        have w2 := w1.trans (bch2_wk (by decide) (by decide) (by decide) (by decide) c1)
        have hP3 := PIs.fr (p := 0) (by decide) hP w2.fr
        have t1 : (1 : Int32).toInt = 1 := rfl
        have evb : ∀ z : Int32, win z.toInt 1000 → (evN (moC J2 0) k z.toInt (1 : Int32).toInt k).natAbs < 2 ^ (32 * 16) := fun z hz => evN_lt hm (by omega) (by omega) (by rw [t1]; decide)
        refine ⟨rfl, 504, [.inr (.inr 498), .inl (nI k), .inl x, .inl 1], rfl, rfl, 498, k, l, x, 1, moC J2 0, rfl, lay_P (p := 0) (by decide), hP3, by omega, by omega, by omega, by decide, L40 (b := 249) (by decide) (by decide), fun j hj => (pbg_ne (p := 0) (by decide) hj (by decide)).symm, fun I4 c3 c4 => ?_⟩
        have w3 := w2.trans (peval_wk (p := 0) (by decide) (by decide) (by decide) c3)
        have hP4 := PIs.fr (p := 0) (by decide) hP w3.fr
        have kp : ∀ {Ia Ib : mPI} {b t : Nat} {z : Int}, (∀ a, a ≠ t → a ≠ rfL t 0 → a ≠ pbg rfL (504 + 0) 76 → a ≠ rfL (pbg rfL (504 + 0) 76) 0 → a ≠ pbg rfL (504 + 0) 77 → a ≠ rfL (pbg rfL (504 + 0) 77) 0 → Ib a = Ia a) → t < 503 → 476 ≤ t → 476 ≤ b → b < 503 → b ≠ t → b % 2 = 0 → t % 2 = 0 → BIs shL rfL Ia b z → BIs shL rfL Ib b z := by
          intro Ia Ib b t z c5 t1 t2 g1 g2 g3 g4 g6 g5
          have r1 : rfL t 0 = t + 1 := rf0 (by omega)
          have r2 : pbg rfL (504 + 0) 76 = 152 := lay_pbg (p := 0) (by decide) (by decide)
          have r3 : pbg rfL (504 + 0) 77 = 154 := lay_pbg (p := 0) (by decide) (by decide)
          have r4 : rfL 152 0 = 153 := rf0 (by decide)
          have r5 : rfL 154 0 = 155 := rf0 (by decide)
          rw [r1, r2, r3, r4, r5] at c5
          refine g5.keep (c5 b g3 (by omega) (by omega) (by omega) (by omega) (by omega)) ?_
          rw [rf0 (by omega)]
          exact c5 _ (by omega) (by omega) (by omega) (by omega) (by omega) (by omega)
        have s4 := kp c3 (by decide) (by decide) (by decide) (by decide) (by decide) (by decide) (by decide) c2
        refine ⟨rfl, 504, [.inr (.inr 500), .inl (nI k), .inl y, .inl 1], rfl, rfl, 500, k, l, y, 1, moC J2 0, rfl, lay_P (p := 0) (by decide), hP4, by omega, by omega, by omega, by decide, L40 (b := 250) (by decide) (by decide), fun j hj => (pbg_ne (p := 0) (by decide) hj (by decide)).symm, fun I5 c5 c6 => ?_⟩
        have w4 := w3.trans (peval_wk (p := 0) (by decide) (by decide) (by decide) c5)
        have s5 := kp c5 (by decide) (by decide) (by decide) (by decide) (by decide) (by decide) (by decide) s4
        have o5 := kp c5 (by decide) (by decide) (by decide) (by decide) (by decide) (by decide) (by decide) c4
        refine ⟨rfl, rfl, rfl, rfl, 496, [.inr (.inr 498), .inr (.inr 500), .inr (.inr 502)], rfl, rfl, 40, 498, 500, 502, 40, 16, 16, 32, _, _, _, rfl, L40 (b := 248) (by decide) (by decide), L40 (b := 251) (by decide) (by decide), lay_BL, by decide, by decide, by decide, s5, o5, c6, evb x hx, evb y hy, by decide, bup (bmul sb d2) (by decide), bmul (evb x hx) (evb y hy), by decide, fun I6 c7 c8 => ?_⟩
        have w5 := w4.trans (bch2_wk (by decide) (by decide) (by decide) (by decide) c7)
        have hP6 := PIs.fr (p := 0) (by decide) hP w5.fr
        obtain ⟨d5, d6⟩ := P_det (p := 0) (k := k) hP6 (by omega) (by omega)
        rw [t1, Sk_rec (moC J2 0) (k := k) (by omega) x.toInt y.toInt hDk hDk1] at c8
        refine ⟨rfl, 504, [.inl (nI k)], rfl, rfl, k, rfl, by omega, lay_P (p := 0) (by decide), rfl, 496, [.inr (.inr (pbg rfL 504 (2 ^ k - 1))), .inr (.inr 502)], rfl, rfl, pbg rfL 504 (2 ^ k - 1), 502, 40, _, _, _, rfl, L40 (b := 251) (by decide) (by decide), lay_BL, pbg_ne (p := 0) (by decide) (det64 (by omega)) (by decide), by decide, c8, d5, hDk, rfl, bup d6 (by decide), by decide, fun I7 c9 c10 => ?_⟩
        exact ⟨nn + 1 - (k + 1), 0, Or.inl (by omega), I1, nn, k + 1, by rw [← nI_1 k], rfl, rfl, rfl, by omega, hnn, hnl, hx, hy, hD, sp, ⟨hPf, hC1, hP⟩, w5.trans (bch2_wk (by decide) (by decide) (by decide) (by decide) c9), c10⟩
    · cases hcu

