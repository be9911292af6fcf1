/-! ===== the reference: determinants ===== -/
def col (sk x : Nat) : Nat := match Nat.ble sk x with
  | true => x + 1
  | false => x
def pr (mo : Nat → Int) (l : List Nat) (sk : Nat) : Nat → Int
  | 0 => 1
  | r + 1 => pr mo l sk r * mo (r + col sk (l.getD r 0))
def mLs (l : List Nat) (sk : Nat) : Nat → List Nat
  | 0 => []
  | r + 1 => ins (r + col sk (l.getD r 0)) (mLs l sk r)
theorem mon_mLs (mo : Nat → Int) (l : List Nat) (sk : Nat) : ∀ n, mon mo (mLs l sk n) = pr mo l sk n
  | 0 => rfl
  | r + 1 => by rw [mLs, mon_ins, mon_mLs mo l sk r, pr, Int.mul_comm]
def sgl (l : List Nat) (n : Nat) : Int := match Nat.beq (tou l n n % 2) 0 with
  | true => 1
  | false => -1
def Lr (mo : Nat → Int) (n sk : Nat) : Nat → List Nat → Int
  | 0, _ => 0
  | f + 1, l => sgl l n * pr mo l sk n + (match nxtL n l with | none => 0 | some l' => Lr mo n sk f l')
def LrP (n sk : Nat) : Nat → List Nat → mP
  | 0, _ => []
  | f + 1, l => mrg FU [(sgl l n, mLs l sk n)] (match nxtL n l with | none => [] | some l' => LrP n sk f l')
theorem ev_LrP (mo : Nat → Int) (n sk : Nat) : ∀ f l, ev mo (LrP n sk f l) = Lr mo n sk f l
  | 0, _ => rfl
  | f + 1, l => by
    rw [LrP, ev_mrg, Lr]
    have e : ev mo [(sgl l n, mLs l sk n)] = sgl l n * pr mo l sk n := by
      show sgl l n * mon mo (mLs l sk n) + 0 = _
      rw [mon_mLs, Int.add_zero]
    rw [e]
    cases nxtL n l with
    | none => rfl
    | some l' => rw [ev_LrP mo n sk f l']
def ends (n : Nat) : Nat → List Nat → Bool
  | 0, _ => false
  | f + 1, l => wfl n l && (match nxtL n l with | none => true | some l' => ends n f l')
def ngP : mP → mP
  | [] => []
  | t :: p => (-t.1, t.2) :: ngP p
theorem ev_ngP (mo : Nat → Int) : ∀ p, ev mo (ngP p) = -ev mo p
  | [] => rfl
  | t :: p => by
    rw [ngP, ev, ev, ev_ngP mo p]
    show -t.1 * mon mo t.2 + _ = _
    rw [Int.neg_mul]
    omega
def rg (n : Nat) : List Nat := List.range n
set_option maxRecDepth 100000 in
theorem ends_t : ∀ n, n < 7 → ends n 721 (rg n) = true := by decide +kernel
def leiC (k i : Nat) : Bool := match Nat.beq ((k + i) % 2) 0 with
  | true => pEq (LrP k i 721 (rg k)) (mnP k (cm k i))
  | false => pEq (LrP k i 721 (rg k)) (ngP (mnP k (cm k i)))
set_option maxRecDepth 100000 in
theorem lei_t : ∀ k, k < 6 → ∀ i, i < k + 1 → leiC k i = true := by decide +kernel
set_option maxRecDepth 100000 in
theorem lei_6 : pEq (LrP 6 6 721 (rg 6)) (mnP 6 63) = true := by decide +kernel
/-- Leibniz' sum is the number, but for its sign -/
theorem lei_num (mo : Nat → Int) {k i : Nat} (hk : k ≤ 5) (hi : i ≤ k) : Lr mo k i 721 (rg k) = if (k + i) % 2 = 0 then Nm mo k i else -Nm mo k i := by
  have h := lei_t k (by omega) i (by omega)
  obtain ⟨-, c1, c2, -⟩ := cm_t k (by omega) i (by omega)
  have e : ev mo (mnP k (cm k i)) = Nm mo k i := ev_mnP mo k _ c1 c2
  unfold leiC at h
  rw [← ev_LrP]
  split at h
  · next q =>
    rw [if_pos (Nat.eq_of_beq_eq_true q), pEq_ev mo _ _ h, e]
  · next q =>
    rw [if_neg (fun r => by rw [r] at q; exact absurd q (by decide)), pEq_ev mo _ _ h, ev_ngP, e]
theorem lei_det (mo : Nat → Int) {k : Nat} (hk : k ≤ 6) : Lr mo k k 721 (rg k) = Dt mo k := by
  rcases Nat.lt_or_ge k 6 with q | q
  · rw [lei_num mo (by omega) (Nat.le_refl k), if_pos (by omega)]
    have : ∀ k, k < 6 → cm k k = 2 ^ k - 1 := by decide
    unfold Nm Dt
    rw [this k q]
  · obtain rfl : k = 6 := by omega
    rw [← ev_LrP, pEq_ev mo _ _ lei_6, ev_mnP mo 6 63 (by decide) (by decide)]
    rfl

