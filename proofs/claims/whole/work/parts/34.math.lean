/-! ===== mathematics: polynomials in the moments, by lists ===== -/
abbrev mP : Type := List (Int × List Nat)
def mon (mo : Nat → Int) : List Nat → Int
  | [] => 1
  | i :: l => mo i * mon mo l
def ev (mo : Nat → Int) : mP → Int
  | [] => 0
  | t :: p => t.1 * mon mo t.2 + ev mo p
def ins (j : Nat) : List Nat → List Nat
  | [] => [j]
  | i :: l => match Nat.ble i j with
    | true => j :: i :: l
    | false => i :: ins j l
theorem mon_ins (mo : Nat → Int) (j : Nat) : ∀ l, mon mo (ins j l) = mo j * mon mo l
  | [] => rfl
  | i :: l => by
    rw [ins]
    split
    · rfl
    · rw [mon, mon, mon_ins mo j l]
      grind
def cmpL : List Nat → List Nat → Nat
  | [], [] => 1
  | [], _ :: _ => 0
  | _ :: _, [] => 2
  | a :: l, b :: m => match Nat.beq a b with
    | true => cmpL l m
    | false => match Nat.ble a b with
      | true => 0
      | false => 2
theorem cmpL_1 : ∀ l m, cmpL l m = 1 → l = m
  | [], [], _ => rfl
  | [], _ :: _, h => absurd h (by rw [cmpL]; decide)
  | _ :: _, [], h => absurd h (by rw [cmpL]; decide)
  | a :: l, b :: m, h => by
    rw [cmpL] at h
    split at h
    · next q =>
      rw [Nat.eq_of_beq_eq_true q, cmpL_1 l m h]
    · split at h <;> exact absurd h (by decide)
def mrg : Nat → mP → mP → mP
  | 0, p, q => p ++ q
  | _ + 1, [], q => q
  | _ + 1, t :: p, [] => t :: p
  | n + 1, t :: p, u :: q => match cmpL t.2 u.2 with
    | 0 => u :: mrg n (t :: p) q
    | 1 => match t.1 + u.1 with
      | .ofNat 0 => mrg n p q
      | s => (s, t.2) :: mrg n p q
    | _ => t :: mrg n p (u :: q)
theorem ev_app (mo : Nat → Int) : ∀ p q, ev mo (p ++ q) = ev mo p + ev mo q
  | [], q => by rw [List.nil_append, ev, Int.zero_add]
  | t :: p, q => by rw [List.cons_append, ev, ev, ev_app mo p q, Int.add_assoc]
theorem ev_mrg (mo : Nat → Int) : ∀ n p q, ev mo (mrg n p q) = ev mo p + ev mo q
  | 0, p, q => by rw [mrg]; exact ev_app mo p q
  | _ + 1, [], q => by rw [mrg, ev, Int.zero_add]
  | _ + 1, t :: p, [] => by rw [mrg]; show _ = ev mo (t :: p) + 0; rw [Int.add_zero]
  | n + 1, t :: p, u :: q => by
    rw [mrg]
    split
    · rw [ev, ev_mrg mo n, ev, ev]
      omega
    · next h =>
      have e := cmpL_1 _ _ h
      split
      · next h0 =>
        rw [ev_mrg mo n, ev, ev, ← e]
        have h0 : t.1 + u.1 = 0 := h0
        have : t.1 * mon mo t.2 + u.1 * mon mo t.2 = 0 := by rw [← Int.add_mul, h0, Int.zero_mul]
        omega
      · rw [ev, ev_mrg mo n, ev, ev, ← e]
        show (t.1 + u.1) * mon mo t.2 + _ = _
        rw [Int.add_mul]
        omega
    · rw [ev, ev_mrg mo n, ev, ev]
      omega
def mv (j : Nat) (s : Int) : mP → mP
  | [] => []
  | t :: p => (s * t.1, ins j t.2) :: mv j s p
theorem ev_mv (mo : Nat → Int) (j : Nat) (s : Int) : ∀ p, ev mo (mv j s p) = s * (ev mo p * mo j)
  | [] => by rw [mv, ev, Int.zero_mul, Int.mul_zero]
  | t :: p => by
    rw [mv, ev, ev, ev_mv mo j s p, mon_ins]
    grind
def FU : Nat := 4000
def mnSP (M : Nat → mP) (c : Nat) : Nat → mP
  | 0 => []
  | j + 1 => match c.testBit j with
    | true => mrg FU (mnSP M c j) (mv (popc c - 1 + j) (match Nat.beq (zb c j % 2) 1 with | true => -1 | false => 1) (M (c ^^^ 2 ^ j)))
    | false => mnSP M c j
theorem ev_mnSP (mo : Nat → Int) {M : Nat → mP} {c : Nat} : ∀ j, ev mo (mnSP M c j) = mnS mo (fun x => ev mo (M x)) c j
  | 0 => rfl
  | j + 1 => by
    rw [mnSP, mnS, ← ev_mnSP mo j]
    split
    · next h =>
      rw [if_pos h, ev_mrg, ev_mv]
      split
      · next q =>
        rw [if_pos (Nat.eq_of_beq_eq_true q)]
        grind
      · next q =>
        rw [if_neg (fun r => by rw [r] at q; exact absurd q (by decide)), Int.one_mul]
    · next h => rw [if_neg (by rw [h]; decide), Int.add_zero]
def mnP : Nat → Nat → mP
  | 0, _ => [(1, [])]
  | f + 1, c => mnSP (mnP f) c 6
theorem ev_mnP (mo : Nat → Int) : ∀ f c, c < 64 → popc c = f → ev mo (mnP f c) = mn mo c
  | 0, c, h, hp => by
    have : c = 0 := by
      by_cases q : c = 0
      · exact q
      · have := popc_pos c h q
        omega
    subst this
    rfl
  | f + 1, c, h, hp => by
    have h0 : c ≠ 0 := fun q => by
      rw [q] at hp
      have : popc 0 = 0 := by decide
      omega
    rw [mnP, ev_mnSP, mn_eq mo h0 h]
    refine mnS_congr (fun i hi hb => ?_)
    have := popc_xor c h i hi hb
    have := xor_lt c h i hi hb
    exact ev_mnP mo f _ (by omega) (by omega)
def fs (f : Nat → Int) : Nat → Int
  | 0 => 0
  | n + 1 => fs f n + f n
def fsP (f : Nat → mP) : Nat → mP
  | 0 => []
  | n + 1 => mrg FU (fsP f n) (f n)
theorem ev_fsP (mo : Nat → Int) (f : Nat → mP) : ∀ n, ev mo (fsP f n) = fs (fun i => ev mo (f i)) n
  | 0 => rfl
  | n + 1 => by rw [fsP, ev_mrg, ev_fsP mo f n, fs]
theorem fs_cg {f g : Nat → Int} : ∀ {n}, (∀ i, i < n → f i = g i) → fs f n = fs g n
  | 0, _ => rfl
  | n + 1, h => by rw [fs, fs, fs_cg (fun i hi => h i (by omega)), h n (by omega)]
theorem fs_add (f g : Nat → Int) : ∀ n, fs (fun i => f i + g i) n = fs f n + fs g n
  | 0 => rfl
  | n + 1 => by rw [fs, fs, fs, fs_add f g n]; omega
theorem fs_mul (c : Int) (f : Nat → Int) : ∀ n, fs (fun i => c * f i) n = c * fs f n
  | 0 => by rw [fs, fs, Int.mul_zero]
  | n + 1 => by rw [fs, fs, fs_mul c f n, Int.mul_add]
theorem fs_0 {f : Nat → Int} : ∀ {n}, (∀ i, i < n → f i = 0) → fs f n = 0
  | 0, _ => rfl
  | n + 1, h => by rw [fs, fs_0 (fun i hi => h i (by omega)), h n (by omega)]; rfl
theorem fs_swap (F : Nat → Nat → Int) (m : Nat) : ∀ n, fs (fun i => fs (fun j => F i j) m) n = fs (fun j => fs (fun i => F i j) n) m
  | 0 => by rw [fs]; exact (fs_0 (fun _ _ => rfl)).symm
  | n + 1 => by
    rw [fs, fs_swap F m n, ← fs_add]
    exact fs_cg (fun _ _ => rfl)
theorem fs_dl {f : Nat → Int} {c : Nat} : ∀ {n}, fs (fun i => if i = c then f i else 0) n = if c < n then f c else 0
  | 0 => by rw [if_neg (Nat.not_lt_zero _)]; rfl
  | n + 1 => by
    rw [fs, fs_dl]
    by_cases e : n = c
    · subst e
      rw [if_neg (Nat.lt_irrefl _), if_pos rfl, if_pos (by omega), Int.zero_add]
    · rw [if_neg e, Int.add_zero]
      by_cases q : c < n
      · rw [if_pos q, if_pos (by omega)]
      · rw [if_neg q, if_neg (by omega)]
theorem ofN_fs (mo : Nat → Int) (k i : Nat) : ∀ n, ofN mo k i n = fs (fun j => Nm mo k j * mo (j + i)) n
  | 0 => rfl
  | n + 1 => by
    rw [ofN, fs, ofN_fs mo k i n, Nat.add_comm i n]
    rfl
/-- P(k) gives 0 with each lower power -/
theorem of_tab : ∀ k, k < 6 → ∀ i, i < k → fsP (fun j => mv (j + i) 1 (mnP k (cm k j))) (k + 1) = [] := by decide +kernel
theorem of_zero (mo : Nat → Int) {k i : Nat} (hk : k ≤ 5) (hi : i < k) : ofN mo k i (k + 1) = 0 := by
  have h := congrArg (ev mo) (of_tab k (by omega) i hi)
  rw [ev_fsP] at h
  rw [ofN_fs]
  refine Eq.trans (fs_cg (fun j hj => ?_)) h
  obtain ⟨-, c1, c2, -⟩ := cm_t k (by omega) j hj
  show _ = ev mo (mv (j + i) 1 (mnP k (cm k j)))
  rw [ev_mv, ev_mnP mo k _ c1 c2, Int.one_mul]
  rfl
/-! the adjugate -/
/-- rows from the last on; each a shift -/
def dCol (D : List Nat → mP) (r : Nat) (neg : Bool) : List Nat → List Nat → mP
  | _, [] => []
  | pre, c :: post => mrg FU (mv (r + c) (match neg with | true => -1 | false => 1) (D (pre ++ post))) (dCol D r (!neg) (pre ++ [c]) post)
def dP : List Nat → List Nat → mP
  | [], _ => [(1, [])]
  | r :: rs, cols => dCol (dP rs) r (Nat.beq (cols.length % 2) 0) [] cols
def wo (n i : Nat) : List Nat := (List.range n).filter (fun x => !(Nat.beq x i))
def cofP (n i j : Nat) : mP := match Nat.beq ((i + j) % 2) 0 with
  | true => dP (wo n i).reverse (wo n j)
  | false => (dP (wo n i).reverse (wo n j)).map (fun t => (-t.1, t.2))
def adjT (n i l : Nat) : mP := fsP (fun j => mv (j + l) 1 (cofP n i j)) n
def A (mo : Nat → Int) (n i j : Nat) : Int := ev mo (cofP n i j)
def pEq : mP → mP → Bool
  | [], [] => true
  | t :: p, u :: q => (t.1 == u.1) && (Nat.beq (cmpL t.2 u.2) 1 && pEq p q)
  | _, _ => false
theorem pEq_ev (mo : Nat → Int) : ∀ p q, pEq p q = true → ev mo p = ev mo q
  | [], [], _ => rfl
  | [], _ :: _, h => absurd h (by rw [pEq]; decide; all_goals (intros; contradiction))
  | _ :: _, [], h => absurd h (by rw [pEq]; decide; all_goals (intros; contradiction))
  | t :: p, u :: q, h => by
    rw [pEq, Bool.and_eq_true, Bool.and_eq_true] at h
    rw [ev, ev, eq_of_beq h.1, cmpL_1 _ _ (Nat.eq_of_beq_eq_true h.2.1), pEq_ev mo p q h.2.2]
def adjC (n i l : Nat) : Bool := match Nat.beq i l with
  | true => pEq (adjT n i l) (mnP n (2 ^ n - 1))
  | false => pEq (adjT n i l) []

set_option maxRecDepth 20000 in
theorem adj_1 : ∀ i, i < 1 → ∀ l, l < 1 → adjC 1 i l = true := by decide +kernel
set_option maxRecDepth 20000 in
theorem adj_2 : ∀ i, i < 2 → ∀ l, l < 2 → adjC 2 i l = true := by decide +kernel
set_option maxRecDepth 20000 in
theorem adj_3 : ∀ i, i < 3 → ∀ l, l < 3 → adjC 3 i l = true := by decide +kernel
set_option maxRecDepth 20000 in
theorem adj_4 : ∀ i, i < 4 → ∀ l, l < 4 → adjC 4 i l = true := by decide +kernel
set_option maxRecDepth 20000 in
theorem adj_5 : ∀ i, i < 5 → ∀ l, l < 5 → adjC 5 i l = true := by decide +kernel
set_option maxRecDepth 20000 in
theorem adj_6 : ∀ i, i < 6 → ∀ l, l < 6 → adjC 6 i l = true := by decide +kernel
