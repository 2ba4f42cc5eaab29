/-! chance: sums and products of Ints, Euclid's walk, both sides -/
theorem cq_in {z : Int} (h1 : -2 ^ 63 < z) (h2 : z < 2 ^ 63) : (Int64.ofInt z).toInt = z := Int64.toInt_ofInt_of_le (by omega) h2
theorem cq_3264 {z : Int} (h1 : -2 ^ 31 ≤ z) (h2 : z < 2 ^ 31) : (Int32.ofInt z).toInt64 = Int64.ofInt z :=
  Int32.toInt64_ofInt (by rw [show Int32.minValue.toInt = -2147483648 from rfl]; omega) (by rw [show Int32.maxValue.toInt = 2147483647 from rfl]; omega)
theorem cq_nI (n : Nat) : nI n = Int32.ofInt (n : Int) := Int32.ofInt_eq_ofNat.symm
def cq_s (f : Nat → Int) : Nat → Int
  | 0 => 0
  | n + 1 => cq_s f n + f n
def cq_p (f : Nat → Int) : Nat → Int
  | 0 => 1
  | n + 1 => cq_p f n * f n
theorem cq_s_cg {f g : Nat → Int} : ∀ {n : Nat}, (∀ j, j < n → f j = g j) → cq_s f n = cq_s g n
  | 0, _ => rfl
  | n + 1, h => by
    rw [cq_s, cq_s, cq_s_cg (fun j hj => h j (by omega)), h n (by omega)]
theorem cq_p_cg {f g : Nat → Int} : ∀ {n : Nat}, (∀ j, j < n → f j = g j) → cq_p f n = cq_p g n
  | 0, _ => rfl
  | n + 1, h => by
    rw [cq_p, cq_p, cq_p_cg (fun j hj => h j (by omega)), h n (by omega)]
theorem cq_s_add (f : Nat → Int) (m : Nat) : ∀ n, cq_s f (m + n) = cq_s f m + cq_s (fun j => f (m + j)) n
  | 0 => by simp [cq_s]
  | n + 1 => by
    rw [← Nat.add_assoc, cq_s, cq_s_add f m n, cq_s, Int.add_assoc]
theorem cq_s_mul (f : Nat → Int) (c : Int) : ∀ n, cq_s (fun j => f j * c) n = cq_s f n * c
  | 0 => by simp [cq_s]
  | n + 1 => by rw [cq_s, cq_s, cq_s_mul f c n, Int.add_mul]
theorem cq_s_plus (f g : Nat → Int) : ∀ n, cq_s (fun j => f j + g j) n = cq_s f n + cq_s g n
  | 0 => by simp [cq_s]
  | n + 1 => by rw [cq_s, cq_s, cq_s, cq_s_plus f g n]; omega
theorem cq_s_bd {f : Nat → Int} {K : Nat} : ∀ {n : Nat}, (∀ j, j < n → -K ≤ f j ∧ f j ≤ K) → -(K * n : Nat) ≤ cq_s f n ∧ cq_s f n ≤ (K * n : Nat)
  | 0, _ => by simp [cq_s]
  | n + 1, h => by
    have h1 := cq_s_bd (n := n) (fun j hj => h j (by omega))
    have h2 := h n (by omega)
    rw [cq_s, Nat.mul_add, Nat.mul_one]
    omega
theorem cq_s_le {f g : Nat → Int} : ∀ {n : Nat}, (∀ j, j < n → 0 ≤ f j ∧ f j ≤ g j) → 0 ≤ cq_s f n ∧ cq_s f n ≤ cq_s g n
  | 0, _ => by simp [cq_s]
  | n + 1, h => by
    have h1 := cq_s_le (n := n) (fun j hj => h j (by omega))
    have h2 := h n (by omega)
    rw [cq_s, cq_s]
    omega
theorem cq_p_nn {f : Nat → Int} : ∀ {n : Nat}, (∀ j, j < n → 0 ≤ f j) → 0 ≤ cq_p f n
  | 0, _ => by simp [cq_p]
  | n + 1, h => by
    rw [cq_p]
    exact Int.mul_nonneg (cq_p_nn (fun j hj => h j (by omega))) (h n (by omega))
theorem cq_p_0 {f : Nat → Int} {p : Nat} (hf : f p = 0) : ∀ {n : Nat}, p < n → cq_p f n = 0
  | 0, h => absurd h (Nat.not_lt_zero _)
  | n + 1, h => by
    rw [cq_p]
    by_cases e : p = n
    · subst e; rw [hf, Int.mul_zero]
    · rw [cq_p_0 hf (by omega), Int.zero_mul]
/-- over all sets of the first n -/
theorem cq_hi {n j : Nat} (h : j < 2 ^ n) : j.testBit n = false ∧ (2 ^ n + j).testBit n = true ∧ ∀ p, p < n → (2 ^ n + j).testBit p = j.testBit p := by
  refine ⟨Nat.testBit_lt_two_pow h, ?_, fun p hp => Nat.testBit_two_pow_add_gt hp j⟩
  rw [Nat.testBit_two_pow_add_eq, Nat.testBit_lt_two_pow h]
  rfl
def cq_A (g : Nat → Bool → Int) (n : Nat) : Int := cq_s (fun j => cq_p (fun p => g p (j.testBit p)) n) (2 ^ n)
def cq_B (g d : Nat → Bool → Int) (n : Nat) : Int := cq_s (fun j => cq_p (fun p => g p (j.testBit p)) n * cq_s (fun p => d p (j.testBit p)) n) (2 ^ n)
theorem cq_A_S (g : Nat → Bool → Int) (n : Nat) : cq_A g (n + 1) = cq_A g n * (g n false + g n true) := by
  unfold cq_A
  rw [Nat.pow_succ, Nat.mul_two, cq_s_add]
  rw [cq_s_cg (f := fun j => cq_p (fun p => g p (j.testBit p)) (n + 1)) (g := fun j => cq_p (fun p => g p (j.testBit p)) n * g n false) (fun j hj => by
    show cq_p (fun p => g p (j.testBit p)) n * g n (j.testBit n) = _
    rw [(cq_hi hj).1])]
  rw [cq_s_cg (f := fun j => cq_p (fun p => g p ((2 ^ n + j).testBit p)) (n + 1)) (g := fun j => cq_p (fun p => g p (j.testBit p)) n * g n true) (fun j hj => by
    show cq_p (fun p => g p ((2 ^ n + j).testBit p)) n * g n ((2 ^ n + j).testBit n) = _
    rw [(cq_hi hj).2.1, cq_p_cg (fun p hp => by rw [(cq_hi hj).2.2 p hp])])]
  rw [cq_s_mul, cq_s_mul, Int.mul_add]
theorem cq_B_S (g d : Nat → Bool → Int) (n : Nat) : cq_B g d (n + 1) = cq_B g d n * (g n false + g n true) + cq_A g n * (g n false * d n false + g n true * d n true) := by
  have ring1 : ∀ P S x y : Int, P * x * (S + y) = P * S * x + P * (x * y) := fun P S x y => by
    rw [Int.mul_add, Int.mul_assoc P x S, Int.mul_comm x S, ← Int.mul_assoc, Int.mul_assoc P x y]
  unfold cq_B cq_A
  rw [Nat.pow_succ, Nat.mul_two, cq_s_add]
  rw [cq_s_cg (f := fun j => cq_p (fun p => g p (j.testBit p)) (n + 1) * cq_s (fun p => d p (j.testBit p)) (n + 1)) (g := fun j => cq_p (fun p => g p (j.testBit p)) n * cq_s (fun p => d p (j.testBit p)) n * g n false + cq_p (fun p => g p (j.testBit p)) n * (g n false * d n false)) (fun j hj => by
    show cq_p (fun p => g p (j.testBit p)) n * g n (j.testBit n) * (cq_s (fun p => d p (j.testBit p)) n + d n (j.testBit n)) = _
    rw [(cq_hi hj).1, ring1])]
  rw [cq_s_cg (f := fun j => cq_p (fun p => g p ((2 ^ n + j).testBit p)) (n + 1) * cq_s (fun p => d p ((2 ^ n + j).testBit p)) (n + 1)) (g := fun j => cq_p (fun p => g p (j.testBit p)) n * cq_s (fun p => d p (j.testBit p)) n * g n true + cq_p (fun p => g p (j.testBit p)) n * (g n true * d n true)) (fun j hj => by
    show cq_p (fun p => g p ((2 ^ n + j).testBit p)) n * g n ((2 ^ n + j).testBit n) * (cq_s (fun p => d p ((2 ^ n + j).testBit p)) n + d n ((2 ^ n + j).testBit n)) = _
    rw [(cq_hi hj).2.1, cq_p_cg (g := fun p => g p (j.testBit p)) (fun p hp => by rw [(cq_hi hj).2.2 p hp]), cq_s_cg (g := fun p => d p (j.testBit p)) (fun p hp => by rw [(cq_hi hj).2.2 p hp]), ring1])]
  rw [cq_s_plus, cq_s_plus, cq_s_mul, cq_s_mul, cq_s_mul, cq_s_mul, Int.mul_add, Int.mul_add]
  omega
def cq_n (s : Nat) : Nat → Nat
  | 0 => 0
  | n + 1 => cq_n s n + (if s.testBit n then 1 else 0)
theorem cq_pc (s : Nat) : pc s = cq_n s 8 := by
  have key : ∀ n, itr (fun p n => if s.testBit p then n + 1 else n) n 0 0 = cq_n s n := by
    intro n
    induction n with
    | zero => rfl
    | succ n ih =>
      rw [itr_lt, ih, Nat.zero_add, cq_n]
      split <;> rfl
  exact key 8
/-! the parts of a chance: who sits, his tenths, his pounds -/
def cq_g (W τ : Nat) (p : Nat) (c : Bool) : Int := if W.testBit p then (if c then (τ : Int) else 10 - τ) else (if c then 0 else 1)
def cq_d (a b κ : Nat) (u : Nat → Int) (p : Nat) (c : Bool) : Int := if a.testBit p then u p + (if c then (κ : Int) else 0) else if b.testBit p then -(u p + (if c then (κ : Int) else 0)) else 0
def cq_e (a b κ τ : Nat) (u : Nat → Int) (p : Nat) : Int := if a.testBit p then 10 * u p + τ * κ else if b.testBit p then -(10 * u p + τ * κ) else 0
theorem cq_AE (a b κ τ : Nat) (u : Nat → Int) : ∀ n, cq_A (cq_g (a ||| b) τ) n = 10 ^ cq_n (a ||| b) n ∧ 10 * cq_B (cq_g (a ||| b) τ) (cq_d a b κ u) n = 10 ^ cq_n (a ||| b) n * cq_s (cq_e a b κ τ u) n
  | 0 => by simp [cq_A, cq_B, cq_n, cq_s, cq_p]
  | n + 1 => by
    obtain ⟨hA, hB⟩ := cq_AE a b κ τ u n
    have hw : (a ||| b).testBit n = (a.testBit n || b.testBit n) := Nat.testBit_or a b n
    rw [cq_A_S, cq_B_S, hA, cq_n, cq_s]
    have ring2 : ∀ B P S : Int, 10 * B = P * S → ∀ x y : Int, 10 * (B * 10 + P * x) = P * 10 * (S + x) ∧ 10 * (B * 1 + P * 0) = P * S := fun B P S h x y => by
      refine ⟨?_, by omega⟩
      rw [Int.mul_add (P * 10), Int.mul_right_comm P 10 S, ← h, Int.mul_right_comm P 10 x]
      omega
    by_cases c : (a ||| b).testBit n = true
    · have g0 : cq_g (a ||| b) τ n false + cq_g (a ||| b) τ n true = 10 := by simp only [cq_g, c, if_true]; simp
      rw [g0, if_pos c, Int.pow_succ]
      refine ⟨rfl, ?_⟩
      have g1 : cq_g (a ||| b) τ n false * cq_d a b κ u n false + cq_g (a ||| b) τ n true * cq_d a b κ u n true = cq_e a b κ τ u n := by
        simp only [cq_g, cq_d, cq_e, c, if_true]
        by_cases ca : a.testBit n = true
        · simp only [ca, if_true]
          simp only [Bool.false_eq_true, if_false, Int.add_zero, Int.sub_mul, Int.mul_add]
          omega
        · have cb : b.testBit n = true := by simpa [hw, ca] using c
          simp only [ca, cb, if_true]
          simp only [Bool.false_eq_true, if_false, Int.add_zero, Int.sub_mul, Int.mul_add, Int.mul_neg, Int.neg_add]
          omega
      rw [g1]
      exact (ring2 _ _ _ hB _ 0).1
    · have g0 : cq_g (a ||| b) τ n false + cq_g (a ||| b) τ n true = 1 := by simp only [cq_g, c]; simp
      have ca : a.testBit n = false := by cases h : a.testBit n <;> simp_all
      have cb : b.testBit n = false := by cases h : b.testBit n <;> simp_all
      have g1 : cq_g (a ||| b) τ n false * cq_d a b κ u n false + cq_g (a ||| b) τ n true * cq_d a b κ u n true = 0 := by
        simp [cq_d, ca, cb]
      have g2 : cq_e a b κ τ u n = 0 := by simp [cq_e, ca, cb]
      rw [g0, g1, g2, if_neg c, Int.mul_one, Int.add_zero, Nat.add_zero]
      exact ⟨rfl, (ring2 _ _ _ hB 0 0).2⟩
def cq_u (a : Nat) (u : Nat → Int) (p : Nat) : Int := if a.testBit p then u p else 0
theorem cq_e_sum {a b : Nat} (hab : a &&& b = 0) (κ τ : Nat) (u : Nat → Int) : ∀ n, cq_s (cq_e a b κ τ u) n = 10 * (cq_s (cq_u a u) n - cq_s (cq_u b u) n) + τ * κ * ((cq_n a n : Int) - cq_n b n)
  | 0 => by simp [cq_s, cq_n]
  | n + 1 => by
    have hd : ¬ (a.testBit n = true ∧ b.testBit n = true) := fun ⟨h1, h2⟩ => by
      have := Nat.testBit_and a b n
      rw [hab, h1, h2, Nat.zero_testBit] at this
      exact absurd this (by decide)
    rw [cq_s, cq_s, cq_s, cq_n, cq_n, cq_e_sum hab κ τ u n]
    simp only [cq_e, cq_u]
    generalize (τ : Int) * κ = w
    by_cases ca : a.testBit n = true
    · have cb : ¬ b.testBit n = true := fun q => hd ⟨ca, q⟩
      rw [if_pos ca, if_pos ca, if_pos ca, if_neg cb, if_neg cb]
      simp only [Int.natCast_add, Int.mul_sub, Int.mul_add, Nat.add_zero, Int.natCast_one, Int.mul_one]
      omega
    · by_cases cb : b.testBit n = true
      · rw [if_neg ca, if_neg ca, if_neg ca, if_pos cb, if_pos cb, if_pos cb]
        simp only [Int.natCast_add, Int.mul_sub, Int.mul_add, Nat.add_zero, Int.natCast_one, Int.mul_one]
        omega
      · rw [if_neg ca, if_neg ca, if_neg ca, if_neg cb, if_neg cb, if_neg cb]
        simp only [Nat.add_zero]
        omega
theorem cq_d_sum {a b : Nat} (hab : a &&& b = 0) (κ s : Nat) (u : Nat → Int) : ∀ n, cq_s (fun p => cq_d a b κ u p (s.testBit p)) n = cq_s (cq_u a u) n - cq_s (cq_u b u) n + κ * ((cq_n (s &&& a) n : Int) - cq_n (s &&& b) n)
  | 0 => by simp [cq_s, cq_n]
  | n + 1 => by
    have hd : ¬ (a.testBit n = true ∧ b.testBit n = true) := fun ⟨h1, h2⟩ => by
      have := Nat.testBit_and a b n
      rw [hab, h1, h2, Nat.zero_testBit] at this
      exact absurd this (by decide)
    rw [cq_s, cq_s, cq_s, cq_n, cq_n, cq_d_sum hab κ s u n, Nat.testBit_and, Nat.testBit_and]
    simp only [cq_d, cq_u]
    by_cases ca : a.testBit n = true
    · have cb : b.testBit n = false := by cases h : b.testBit n <;> simp_all
      rw [ca, cb]
      cases s.testBit n <;> simp <;> simp only [Int.mul_sub, Int.mul_add, Int.mul_one] <;> omega
    · have ca' : a.testBit n = false := by simpa using ca
      rw [ca']
      cases b.testBit n <;> cases s.testBit n <;> simp <;> simp only [Int.mul_sub, Int.mul_add, Int.mul_one] <;> omega
theorem cq_g_0 {W s : Nat} (τ : Nat) (hW : W < 256) (hs : s < 256) (h : ¬ s &&& W = s) : cq_p (fun p => cq_g W τ p (s.testBit p)) 8 = 0 := by
  have : ∃ p, p < 8 ∧ s.testBit p = true ∧ W.testBit p = false := by
    refine Classical.byContradiction fun hn => h (Nat.eq_of_testBit_eq fun i => ?_)
    rw [Nat.testBit_and]
    by_cases hi : i < 8
    · cases h1 : s.testBit i
      · rfl
      · cases h2 : W.testBit i
        · exact absurd ⟨i, hi, h1, h2⟩ hn
        · rfl
    · rw [Nat.testBit_lt_two_pow (x := s) (Nat.lt_of_lt_of_le hs (Nat.pow_le_pow_right (n := 2) (by decide) (show 8 ≤ i by omega)))]
      rfl
  obtain ⟨p, hp, h1, h2⟩ := this
  refine cq_p_0 (p := p) ?_ hp
  show cq_g W τ p (s.testBit p) = 0
  rw [h1]
  simp [cq_g, h2]
theorem cq_sub {W s p : Nat} (h : s &&& W = s) (hb : W.testBit p = false) : s.testBit p = false := by
  have := Nat.testBit_and s W p
  rw [h, hb, Bool.and_false] at this
  exact this
theorem cq_g_pow {W s τ : Nat} (h : s &&& W = s) (hτ : τ ≤ 10) : ∀ n, cq_n s n ≤ cq_n W n ∧ cq_p (fun p => cq_g W τ p (s.testBit p)) n = (τ : Int) ^ cq_n s n * ((10 - τ : Nat) : Int) ^ (cq_n W n - cq_n s n)
  | 0 => by simp [cq_n, cq_p]
  | n + 1 => by
    obtain ⟨h1, h2⟩ := cq_g_pow h hτ n
    rw [cq_p, h2, cq_n, cq_n]
    simp only [cq_g]
    by_cases c : W.testBit n = true
    · rw [if_pos c]
      simp only [c, if_true]
      by_cases e : s.testBit n = true
      · rw [if_pos e]
        simp only [e, if_true]
        refine ⟨by omega, ?_⟩
        rw [Nat.add_sub_add_right, Int.pow_succ, Int.mul_right_comm]
      · simp only [e]
        refine ⟨by simp; omega, ?_⟩
        simp only [Bool.false_eq_true, if_false, Nat.add_zero]
        rw [show cq_n W n + 1 - cq_n s n = cq_n W n - cq_n s n + 1 by omega, Int.pow_succ, ← Int.mul_assoc, show ((10 - τ : Nat) : Int) = 10 - (τ : Int) by omega]
    · have e : s.testBit n = false := cq_sub h (by simpa using c)
      rw [e]
      simp only [c, Bool.false_eq_true, if_false, Nat.add_zero, Int.mul_one]
      exact ⟨h1, trivial⟩
/-! Euclid -/
abbrev cq_L (n : Nat) : Int64 := Int64.ofInt (n : Int)
theorem cq_L_in {n : Nat} (h : n < 2 ^ 63) : (cq_L n).toInt = n := cq_in (by omega) (by omega)
theorem cq_L_0 {n : Nat} (h : n < 2 ^ 63) : cq_L n = 0 ↔ n = 0 := by
  constructor
  · intro q
    have := congrArg Int64.toInt q
    rw [cq_L_in h, show (0 : Int64).toInt = 0 from rfl] at this
    omega
  · intro q; subst q; rfl
theorem cq_div {g : Nat} {q : Int} (h0 : 0 < g) (hg : g < 2 ^ 63) (h1 : -2 ^ 63 < (g : Int) * q) (h2 : (g : Int) * q < 2 ^ 63) : Int64.ofInt ((g : Int) * q) / cq_L g = Int64.ofInt q := by
  have hq : q.natAbs ≤ ((g : Int) * q).natAbs := by
    rw [Int.natAbs_mul]
    exact Nat.le_mul_of_pos_left _ (by omega)
  refine Int64.toInt_inj.mp ?_
  rw [Int64.toInt_div_of_ne_right _ _ (fun e => ?_), cq_in h1 h2, cq_L_in hg, cq_in (by omega) (by omega), Int.mul_tdiv_cancel_left q (by omega)]
  have := congrArg Int64.toInt e
  rw [cq_L_in hg, show (-1 : Int64).toInt = -1 from rfl] at this
  omega
theorem cq_mod {a b : Nat} (ha : a < 2 ^ 63) (hb : b < 2 ^ 63) (h0 : 0 < b) : cq_L a - cq_L a / cq_L b * cq_L b = cq_L (a % b) := by
  have e1 : cq_L a / cq_L b = cq_L (a / b) := by
    have hab : a / b < 2 ^ 63 := Nat.lt_of_le_of_lt (Nat.div_le_self _ _) ha
    refine Int64.toInt_inj.mp ?_
    rw [Int64.toInt_div_of_ne_right _ _ (fun q => ?_), cq_L_in ha, cq_L_in hb, cq_L_in hab, Int.tdiv_eq_ediv_of_nonneg (by omega)]
    · rfl
    · have := congrArg Int64.toInt q
      rw [cq_L_in hb, show (-1 : Int64).toInt = -1 from rfl] at this
      omega
  rw [e1]
  show Int64.ofInt (a : Int) - Int64.ofInt ((a / b : Nat) : Int) * Int64.ofInt (b : Int) = Int64.ofInt ((a % b : Nat) : Int)
  rw [← Int64.ofInt_mul, ← Int64.ofInt_sub]
  congr 1
  have := Nat.div_add_mod a b
  rw [Nat.mul_comm] at this
  rw [← Int.natCast_mul]
  omega
theorem cq_gr (a b : Nat) : Nat.gcd b (a % b) = Nat.gcd a b := by
  rw [Nat.gcd_comm a b, Nat.gcd_rec b a, Nat.gcd_comm]
theorem cq_half {b r : Nat} (h0 : 0 < r) (h : r < b) : 2 * (b % r) < b := by
  have h1 := Nat.mod_lt b h0
  by_cases c : r * 2 ≤ b
  · omega
  · rw [Nat.mod_eq_sub_mod (by omega), Nat.mod_eq_of_lt (by omega)]
    omega
theorem cq_gcL : ∀ (k a b : Nat), b < 2 ^ k → k ≤ 63 → a < 2 ^ 63 → ∀ m, 2 * k ≤ m → gcL m (cq_L a) (cq_L b) = cq_L (Nat.gcd a b) := by
  intro k
  induction k with
  | zero =>
    intro a b hb _ _ m _
    have : b = 0 := by simpa using hb
    subst this
    rw [Nat.gcd_zero_right]
    exact gcL_0 _ _
  | succ k ih =>
    intro a b hb hk ha m hm
    have hb63 : b < 2 ^ 63 := Nat.lt_of_lt_of_le hb (Nat.pow_le_pow_right (by decide) hk)
    by_cases h0 : b = 0
    · subst h0
      rw [Nat.gcd_zero_right]
      exact gcL_0 _ _
    · obtain ⟨m2, rfl⟩ : ∃ m2, m = m2 + 2 := ⟨m - 2, by omega⟩
      have hr := Nat.mod_lt a (show 0 < b by omega)
      rw [gcL, if_neg (fun q => h0 ((cq_L_0 hb63).mp q)), cq_mod ha hb63 (by omega), ← cq_gr a b]
      generalize a % b = r at hr
      by_cases hr0 : r = 0
      · subst hr0
        rw [Nat.gcd_zero_right]
        exact gcL_0 _ _
      · rw [gcL, if_neg (fun q => hr0 ((cq_L_0 (by omega)).mp q)), cq_mod hb63 (by omega) (by omega), ← cq_gr b r]
        have h2 := cq_half (show 0 < r by omega) hr
        have h3 : 2 ^ (k + 1) = 2 * 2 ^ k := by rw [Nat.pow_succ, Nat.mul_comm]
        exact ih r (b % r) (by omega) (by omega) (by omega) m2 (by omega)
theorem cq_EuN : ∀ (b a : Nat), a < 2 ^ 63 → b < 2 ^ 63 → ∃ n, EuN n (cq_L a) (cq_L b) (cq_L (Nat.gcd a b)) := by
  intro b
  induction b using Nat.strongRecOn with
  | ind b ih =>
    intro a ha hb
    by_cases h0 : b = 0
    · subst h0
      refine ⟨0, ?_⟩
      rw [Nat.gcd_zero_right]
      exact ⟨rfl, rfl⟩
    · obtain ⟨n, hn⟩ := ih (a % b) (Nat.mod_lt a (by omega)) b hb (Nat.lt_of_lt_of_le (Nat.mod_lt a (by omega)) (by omega))
      refine ⟨n + 1, fun q => h0 ((cq_L_0 hb).mp q), ?_⟩
      rw [cq_mod ha hb (by omega), ← cq_gr a b]
      exact hn
theorem cq_la {X : Int} (h1 : -2 ^ 63 < X) (h2 : X < 2 ^ 63) : la (Int64.ofInt X) = cq_L X.natAbs := by
  unfold la
  have e : (0 ≤ lg_cmp (Int64.ofInt X) 0) ↔ 0 ≤ X := by
    rw [lg_cmp_ge, Int64.le_iff_toInt_le, cq_in h1 h2]
    exact Iff.rfl
  by_cases c : 0 ≤ X
  · rw [if_pos (e.mpr c)]
    show Int64.ofInt X = Int64.ofInt _
    congr 1
    omega
  · rw [if_neg (fun q => c (e.mp q)), ← Int64.ofInt_neg]
    show Int64.ofInt _ = Int64.ofInt _
    congr 1
    omega
theorem cq_labs {X : Int} (h1 : -2 ^ 63 < X) (h2 : X < 2 ^ 63) : labs (Int64.ofInt X) = cq_L X.natAbs := by
  unfold labs
  have e : (0 < Int64.ofInt X) ↔ 0 < X := by
    rw [Int64.lt_iff_toInt_lt, cq_in h1 h2]
    exact Iff.rfl
  by_cases c : 0 < X
  · rw [if_pos (e.mpr c)]
    show Int64.ofInt X = Int64.ofInt _
    congr 1
    omega
  · rw [if_neg (fun q => c (e.mp q)), ← Int64.ofInt_neg]
    show Int64.ofInt _ = Int64.ofInt _
    congr 1
    omega
theorem cq_fr {X : Int} {Y : Nat} (hX1 : -2 ^ 63 < X) (hX2 : X < 2 ^ 63) (hY : Y < 2 ^ 63) (h0 : 0 < Y) : ∃ q : Int, X = (Nat.gcd X.natAbs Y : Nat) * q ∧ frU (Int64.ofInt X) (cq_L Y) = Int64.ofInt q ∧ ∃ r : Nat, Y = Nat.gcd X.natAbs Y * r ∧ frL (Int64.ofInt X) (cq_L Y) = cq_L r := by
  have hg : gcL 200 (labs (Int64.ofInt X)) (cq_L Y) = cq_L (Nat.gcd X.natAbs Y) := by
    rw [cq_labs hX1 hX2]
    exact cq_gcL 63 _ _ hY (Nat.le_refl _) (by omega) 200 (by decide)
  have g0 : 0 < Nat.gcd X.natAbs Y := Nat.gcd_pos_of_pos_right _ h0
  have g1 : Nat.gcd X.natAbs Y < 2 ^ 63 := Nat.lt_of_le_of_lt (Nat.gcd_le_right _ h0) hY
  obtain ⟨q, hq⟩ : ((Nat.gcd X.natAbs Y : Nat) : Int) ∣ X := Int.ofNat_dvd_left.mpr (Nat.gcd_dvd_left _ _)
  obtain ⟨r, hr⟩ : Nat.gcd X.natAbs Y ∣ Y := Nat.gcd_dvd_right _ _
  generalize Nat.gcd X.natAbs Y = g at *
  refine ⟨q, hq, ?_, r, hr, ?_⟩
  · unfold frU
    rw [hg]
    by_cases c : 1 < cq_L g
    · rw [if_pos c, hq]
      exact cq_div g0 g1 (by rw [← hq]; exact hX1) (by rw [← hq]; exact hX2)
    · rw [if_neg c]
      have : g = 1 := by
        rw [Int64.lt_iff_toInt_lt, cq_L_in g1, show (1 : Int64).toInt = 1 from rfl] at c
        omega
      subst this
      rw [hq]
      simp
  · unfold frL
    rw [hg]
    have hY2 : (Y : Int) = (g : Int) * (r : Int) := by rw [hr, Int.natCast_mul]
    by_cases c : 1 < cq_L g
    · rw [if_pos c]
      show Int64.ofInt (Y : Int) / _ = Int64.ofInt (r : Int)
      rw [hY2]
      exact cq_div g0 g1 (by rw [← hY2]; omega) (by rw [← hY2]; omega)
    · rw [if_neg c]
      have : g = 1 := by
        rw [Int64.lt_iff_toInt_lt, cq_L_in g1, show (1 : Int64).toInt = 1 from rfl] at c
        omega
      subst this
      rw [Nat.one_mul] at hr
      rw [hr]
theorem cq_low {X : Int} {Y M : Nat} (hM : 0 < M) (hX1 : -2 ^ 63 < X * M) (hX2 : X * M < 2 ^ 63) (hY : Y * M < 2 ^ 63) (h0 : 0 < Y) : ∃ g : Int64, gcL 200 (cq_L (Y * M)) (la (Int64.ofInt (X * M))) = g ∧ (∃ n, EuN n (cq_L (Y * M)) (la (Int64.ofInt (X * M))) g) ∧ g ≠ 0 ∧ Int64.ofInt (X * M) / g = frU (Int64.ofInt X) (cq_L Y) ∧ cq_L (Y * M) / g = frL (Int64.ofInt X) (cq_L Y) := by
  have hXn : (X * M).natAbs = X.natAbs * M := by rw [Int.natAbs_mul]; rfl
  have hx1 : X.natAbs ≤ X.natAbs * M := Nat.le_mul_of_pos_right _ hM
  have hy1 : Y ≤ Y * M := Nat.le_mul_of_pos_right _ hM
  obtain ⟨q, q1, q2, r, r1, r2⟩ := cq_fr (X := X) (Y := Y) (by omega) (by omega) (by omega) h0
  rw [q2, r2, cq_la hX1 hX2, hXn]
  have hY0 : 0 < Y * M := Nat.mul_pos h0 hM
  have e1 : Nat.gcd (Y * M) (X.natAbs * M) = Nat.gcd X.natAbs Y * M := by rw [Nat.gcd_mul_right, Nat.gcd_comm]
  have hG := cq_gcL 63 (Y * M) (X.natAbs * M) (by omega) (Nat.le_refl _) hY 200 (by decide)
  have hE := cq_EuN (X.natAbs * M) (Y * M) hY (by omega)
  have g0 : 0 < Nat.gcd (Y * M) (X.natAbs * M) := Nat.gcd_pos_of_pos_left _ hY0
  have g1 : Nat.gcd (Y * M) (X.natAbs * M) < 2 ^ 63 := Nat.lt_of_le_of_lt (Nat.gcd_le_left _ hY0) hY
  rw [e1] at hG hE g0 g1
  generalize Nat.gcd X.natAbs Y = d at *
  refine ⟨cq_L (d * M), hG, hE, fun q => by rw [cq_L_0 g1] at q; omega, ?_, ?_⟩
  · have : X * (M : Int) = ((d * M : Nat) : Int) * q := by rw [q1, Int.natCast_mul, Int.mul_right_comm]
    rw [this] at hX1 hX2 ⊢
    exact cq_div g0 g1 hX1 hX2
  · have : ((Y * M : Nat) : Int) = ((d * M : Nat) : Int) * (r : Int) := by rw [r1, Nat.mul_right_comm, Int.natCast_mul]
    show Int64.ofInt ((Y * M : Nat) : Int) / _ = Int64.ofInt (r : Int)
    rw [this]
    exact cq_div g0 g1 (by rw [← this]; omega) (by rw [← this]; omega)
/-! both sides of a chance -/
theorem cq_sum {a : Nat} (ha : a < 256) (f : Nat → Int32) : sumB (nI a) f = Int32.ofInt (cq_s (cq_u a (fun p => (f p).toInt)) 8) := by
  have key : ∀ n, n ≤ 8 → itr (fun p s => if bt (nI a) p then s + f p else s) n 0 0 = Int32.ofInt (cq_s (cq_u a (fun p => (f p).toInt)) n) := by
    intro n
    induction n with
    | zero => intro _; rfl
    | succ n ih =>
      intro hn
      rw [itr_lt, ih (by omega), Nat.zero_add, cq_s, mk_bt a ha n (by omega), Int32.ofInt_add]
      by_cases c : a.testBit n = true
      · rw [if_pos c, show cq_u a (fun p => (f p).toInt) n = (f n).toInt from if_pos c, Int32.ofInt_toInt]
      · rw [if_neg c, show cq_u a (fun p => (f p).toInt) n = 0 from if_neg c]
        exact (Int32.add_zero _).symm
  exact key 8 (Nat.le_refl _)
theorem cq_t64 {n : Nat} (h : n < 2 ^ 31) : (nI n).toInt64 = Int64.ofInt (n : Int) := by
  rw [cq_nI]
  exact cq_3264 (by omega) (by omega)
theorem cq_r64 {τ : Nat} (h : τ ≤ 10) : ((10 : Int32) - nI τ).toInt64 = Int64.ofInt (10 - (τ : Int)) := by
  rw [show (10 : Int32) = Int32.ofInt 10 from rfl, cq_nI, ← Int32.ofInt_sub]
  exact cq_3264 (by omega) (by omega)
theorem cq_pow {x : Int32} {z : Int} (h : x.toInt64 = Int64.ofInt z) : ∀ k, powL x k = Int64.ofInt (z ^ k) := by
  intro k
  induction k with
  | zero => rw [Int.pow_zero]; rfl
  | succ k ih =>
    unfold powL at ih ⊢
    rw [itr_lt, ih, Int.pow_succ, Int64.ofInt_mul, h]
def cq_P (W τ j : Nat) : Int := cq_p (fun p => cq_g W τ p (j.testBit p)) 8
def cq_D (a b κ : Nat) (u : Nat → Int) (j : Nat) : Int := cq_s (fun p => cq_d a b κ u p (j.testBit p)) 8
def cq_M (a b τ κ w : Nat) (u : Nat → Int) (j : Nat) : Int := if w = 1 then cq_P (a ||| b) τ j * cq_D a b κ u j else if Int32.ofInt (cq_D a b κ u j) ≤ 0 then 0 else cq_P (a ||| b) τ j
theorem cq_A8 (W τ : Nat) : cq_A (cq_g W τ) 8 = cq_s (cq_P W τ) 256 := by
  unfold cq_A
  rw [show (2 : Nat) ^ 8 = 256 from rfl]
  exact cq_s_cg (fun j _ => rfl)
theorem cq_B8 (a b τ κ : Nat) (u : Nat → Int) : cq_s (cq_M a b τ κ 1 u) 256 = cq_B (cq_g (a ||| b) τ) (cq_d a b κ u) 8 := by
  unfold cq_B
  rw [show (2 : Nat) ^ 8 = 256 from rfl]
  exact cq_s_cg (fun j _ => by unfold cq_M; rw [if_pos rfl]; rfl)
theorem cq_ci {a b τ κ j : Nat} (ha : a < 256) (hb : b < 256) (hτ : τ ≤ 10) (wt : Nat → Int32) (hj : j < 256) (hs : j &&& (a ||| b) = j) : ciR (nI a) (nI b) (nI τ) (nI κ) wt j = (Int64.ofInt (cq_P (a ||| b) τ j), Int32.ofInt (cq_D a b κ (fun p => (wt p).toInt) j)) := by
  have key : ∀ n, n ≤ 8 → itr (ciS (nI a) (nI b) (nI τ) (nI κ) wt j) n 0 (1, 0) = (Int64.ofInt (cq_p (fun p => cq_g (a ||| b) τ p (j.testBit p)) n), Int32.ofInt (cq_s (fun p => cq_d a b κ (fun p => (wt p).toInt) p (j.testBit p)) n)) := by
    intro n
    induction n with
    | zero => intro _; rfl
    | succ n ih =>
      intro hn
      have hn8 : n < 8 := by omega
      rw [itr_lt, ih (by omega), Nat.zero_add, cq_p, cq_s, Int64.ofInt_mul, Int32.ofInt_add]
      generalize Int64.ofInt (cq_p (fun p => cq_g (a ||| b) τ p (j.testBit p)) n) = P
      generalize Int32.ofInt (cq_s (fun p => cq_d a b κ (fun p => (wt p).toInt) p (j.testBit p)) n) = D
      have bw : bt (nI a ||| nI b) n = (a ||| b).testBit n := by rw [nI_or, mk_bt _ (or_lt ha hb) n hn8]
      have hw : (a ||| b).testBit n = (a.testBit n || b.testBit n) := Nat.testBit_or a b n
      refine Prod.ext ?_ ?_
      · show P * (if bt (nI a ||| nI b) n = false then 1 else if bt (nI j) n = true then (nI τ).toInt64 else (10 - nI τ).toInt64) = P * Int64.ofInt (cq_g (a ||| b) τ n (j.testBit n))
        rw [bw, mk_bt j hj n hn8]
        congr 1
        unfold cq_g
        by_cases c : (a ||| b).testBit n = true
        · rw [if_neg (by rw [c]; decide), if_pos c]
          by_cases e : j.testBit n = true
          · rw [if_pos e, if_pos e]
            exact cq_t64 (by omega)
          · rw [if_neg e, if_neg e]
            exact cq_r64 hτ
        · have c' : (a ||| b).testBit n = false := by simpa using c
          rw [if_pos c', if_neg c, cq_sub hs c']
          rfl
      · show D + (if bt (nI a ||| nI b) n = false then 0 else if bt (nI a) n = true then wt n + (if bt (nI j) n = true then nI κ else 0) else -(wt n + (if bt (nI j) n = true then nI κ else 0))) = D + Int32.ofInt (cq_d a b κ (fun p => (wt p).toInt) n (j.testBit n))
        rw [bw, mk_bt j hj n hn8, mk_bt a ha n hn8]
        congr 1
        have hk : ∀ e : Bool, wt n + (if e = true then nI κ else 0) = Int32.ofInt ((wt n).toInt + (if e = true then (κ : Int) else 0)) := by
          intro e
          rw [Int32.ofInt_add, Int32.ofInt_toInt]
          cases e
          · rfl
          · rw [if_pos rfl, if_pos rfl, cq_nI]
        unfold cq_d
        by_cases ca : a.testBit n = true
        · rw [if_neg (by rw [hw, ca]; simp), if_pos ca, if_pos ca]
          exact hk _
        · by_cases cb : b.testBit n = true
          · rw [if_neg (by rw [hw, cb]; simp), if_neg ca, if_neg ca, if_pos cb, Int32.ofInt_neg]
            exact congrArg (fun z => -z) (hk _)
          · rw [if_pos (by rw [hw]; simp [ca, cb]), if_neg ca, if_neg cb]
            rfl
  exact key 8 (Nat.le_refl _)
theorem cq_in8 {W j : Nat} (hW : W < 256) (hj : j < 256) : (nI j &&& (nI W ^^^ -1) = 0) ↔ j &&& W = j := by
  constructor
  · intro h
    exact (sub_inT hW hj (decide_eq_true h)).2
  · intro h
    exact of_decide_eq_true (inT_sub hW ⟨hj, h⟩)
theorem cq_co {a b τ κ w : Nat} (ha : a < 256) (hb : b < 256) (hτ : τ ≤ 10) (hw : w ≤ 1) (wt : Nat → Int32) (hD : ∀ j, -2 ^ 31 ≤ cq_D a b κ (fun p => (wt p).toInt) j ∧ cq_D a b κ (fun p => (wt p).toInt) j < 2 ^ 31) : coR (nI a) (nI b) (nI τ) (nI κ) (nI w) wt = (Int64.ofInt (cq_s (cq_M a b τ κ w (fun p => (wt p).toInt)) 256), Int64.ofInt (cq_s (cq_P (a ||| b) τ) 256)) := by
  have hW := or_lt ha hb
  have key : ∀ n, n ≤ 256 → itr (coS (nI a) (nI b) (nI τ) (nI κ) (nI w) wt) n 0 (0, 0) = (Int64.ofInt (cq_s (cq_M a b τ κ w (fun p => (wt p).toInt)) n), Int64.ofInt (cq_s (cq_P (a ||| b) τ) n)) := by
    intro n
    induction n with
    | zero => intro _; rfl
    | succ n ih =>
      intro hn
      have hn8 : n < 256 := by omega
      rw [itr_lt, ih (by omega), Nat.zero_add, cq_s, cq_s, Int64.ofInt_add, Int64.ofInt_add]
      generalize Int64.ofInt (cq_s (cq_M a b τ κ w (fun p => (wt p).toInt)) n) = Z1
      generalize Int64.ofInt (cq_s (cq_P (a ||| b) τ) n) = Z2
      unfold coS
      rw [nI_or]
      by_cases hs : n &&& (a ||| b) = n
      · rw [if_pos ((cq_in8 hW hn8).mpr hs), cq_ci ha hb hτ wt hn8 hs]
        refine Prod.ext ?_ rfl
        show Z1 + _ = Z1 + _
        congr 1
        show (if nI w = 1 then Int64.ofInt (cq_P (a ||| b) τ n) * (Int32.ofInt (cq_D a b κ (fun p => (wt p).toInt) n)).toInt64 else if Int32.ofInt (cq_D a b κ (fun p => (wt p).toInt) n) ≤ 0 then 0 else Int64.ofInt (cq_P (a ||| b) τ n)) = _
        unfold cq_M
        have hw1 : (nI w = 1) ↔ w = 1 := nI_eq (b := 1) (by omega) (by decide)
        by_cases c : w = 1
        · rw [if_pos (hw1.mpr c), if_pos c, Int64.ofInt_mul, cq_3264 (hD n).1 (hD n).2]
        · rw [if_neg (fun q => c (hw1.mp q)), if_neg c]
          by_cases e : Int32.ofInt (cq_D a b κ (fun p => (wt p).toInt) n) ≤ 0
          · rw [if_pos e, if_pos e]; rfl
          · rw [if_neg e, if_neg e]
      · rw [if_neg (fun q => hs ((cq_in8 hW hn8).mp q))]
        have h0 : cq_P (a ||| b) τ n = 0 := cq_g_0 τ hW hn8 hs
        have h1 : cq_M a b τ κ w (fun p => (wt p).toInt) n = 0 := by
          unfold cq_M
          rw [h0, Int.zero_mul]
          split
          · rfl
          · split <;> rfl
        rw [h0, h1]
        exact Prod.ext (Int64.add_zero _).symm (Int64.add_zero _).symm
  exact key 256 (Nat.le_refl _)
theorem cq_hv {a b τ κ : Nat} (ha : a < 256) (hb : b < 256) (hab : a &&& b = 0) (hτ : τ ≤ 10) (u : Nat → Int) {ah : Int32} (hah : ah = Int32.ofInt (cq_s (cq_u a u) 8 - cq_s (cq_u b u) 8)) : hvR a b (nI τ) (nI κ) ah = Int64.ofInt (cq_s (cq_M a b τ κ 0 u) 256) := by
  have hW := or_lt ha hb
  let F : Nat → Int64 → Int64 := fun s v => if ah + nI κ * (bcI (nI s &&& nI a) - bcI (nI s &&& nI b)) ≤ 0 then v else v + powL (nI τ) (pc s) * powL (10 - nI τ) (pc (a ||| b) - pc s)
  have e0 : hvR a b (nI τ) (nI κ) ah = itr (fun j v => F (sbs (a ||| b) j) v) (2 ^ pc (a ||| b)) 0 0 := rfl
  rw [e0, itr_sub F hW]
  have key : ∀ n, n ≤ 256 → itr (fun s v => if (s &&& (a ||| b) == s) = true then F s v else v) n 0 0 = Int64.ofInt (cq_s (cq_M a b τ κ 0 u) n) := by
    intro n
    induction n with
    | zero => intro _; rfl
    | succ n ih =>
      intro hn
      have hn8 : n < 256 := by omega
      rw [itr_lt, ih (by omega), Nat.zero_add, cq_s, Int64.ofInt_add]
      generalize Int64.ofInt (cq_s (cq_M a b τ κ 0 u) n) = Z1
      by_cases hs : n &&& (a ||| b) = n
      · rw [if_pos (by rw [hs]; exact beq_self_eq_true n)]
        have eD : ah + nI κ * (bcI (nI n &&& nI a) - bcI (nI n &&& nI b)) = Int32.ofInt (cq_D a b κ u n) := by
          unfold cq_D
          rw [cq_d_sum hab, hah, nI_and, nI_and, (mk_bc _ (Nat.and_lt_two_pow (n := 8) _ ha)).1, (mk_bc _ (Nat.and_lt_two_pow (n := 8) _ hb)).1, cq_pc, cq_pc, cq_nI, cq_nI, cq_nI, Int32.ofInt_add, Int32.ofInt_mul, Int32.ofInt_sub, Int32.ofInt_sub]
        have eP : powL (nI τ) (pc n) * powL (10 - nI τ) (pc (a ||| b) - pc n) = Int64.ofInt (cq_P (a ||| b) τ n) := by
          unfold cq_P
          rw [(cq_g_pow hs hτ 8).2, cq_pow (cq_t64 (by omega)), cq_pow (cq_r64 hτ), cq_pc, cq_pc, Int64.ofInt_mul, show ((10 - τ : Nat) : Int) = 10 - (τ : Int) by omega]
        show (if ah + nI κ * (bcI (nI n &&& nI a) - bcI (nI n &&& nI b)) ≤ 0 then Z1 else Z1 + powL (nI τ) (pc n) * powL (10 - nI τ) (pc (a ||| b) - pc n)) = Z1 + Int64.ofInt (cq_M a b τ κ 0 u n)
        rw [eD, eP]
        unfold cq_M
        rw [if_neg (show ¬ (0 : Nat) = 1 by decide)]
        by_cases e : Int32.ofInt (cq_D a b κ u n) ≤ 0
        · rw [if_pos e, if_pos e]; exact (Int64.add_zero _).symm
        · rw [if_neg e, if_neg e]
      · rw [if_neg (fun q => hs (by simpa using q))]
        have h0 : cq_P (a ||| b) τ n = 0 := cq_g_0 τ hW hn8 hs
        have h1 : cq_M a b τ κ 0 u n = 0 := by
          unfold cq_M
          rw [h0, if_neg (show ¬ (0 : Nat) = 1 by decide)]
          split <;> rfl
        rw [h1]
        exact (Int64.add_zero _).symm
  exact key 256 (Nat.le_refl _)
theorem cq_put (A B : Int64) (μ : MemT) : sw_jn (putF A B μ 16 0) (putF A B μ 16 1) = frU A B ∧ sw_jn (putF A B μ 16 2) (putF A B μ 16 3) = frL A B := ⟨sw_jn_hl _, sw_jn_hl _⟩
set_option maxRecDepth 100000 in
theorem cq_pc0 : ∀ s, s < 256 → pc s = 0 → s = 0 := by decide +kernel
theorem cq_10 (n : Nat) : ((10 : Int) ^ n) = ((10 ^ n : Nat) : Int) := by rw [Int.natCast_pow]; rfl
/-- the whole of a chance: what the reference has is what the class puts, told in lowest terms -/
theorem cq_all {t k c : Nat} {μ : MemT} (h : Rel t k c μ) {a b τ κ w : Nat} (hA : inT t a) (hB : inT t b) (hab : a &&& b = 0) (ha0 : a ≠ 0) (hτ : τ ≤ 10) (hκ : κ ≤ 50) (hw : w ≤ 1) : ∃ A B : Int64, chM (nI a) (nI b) (nI τ) (nI κ) (nI w) μ = putF A B μ ∧ (∃ n, EuN n (coR (nI a) (nI b) (nI τ) (nI κ) (nI w) (μ 60)).2 (la (coR (nI a) (nI b) (nI τ) (nI κ) (nI w) (μ 60)).1) (coG (nI a) (nI b) (nI τ) (nI κ) (nI w) (μ 60))) ∧ coG (nI a) (nI b) (nI τ) (nI κ) (nI w) (μ 60) ≠ 0 ∧ (coR (nI a) (nI b) (nI τ) (nI κ) (nI w) (μ 60)).1 / coG (nI a) (nI b) (nI τ) (nI κ) (nI w) (μ 60) = frU A B ∧ (coR (nI a) (nI b) (nI τ) (nI κ) (nI w) (μ 60)).2 / coG (nI a) (nI b) (nI τ) (nI κ) (nI w) (μ 60) = frL A B := by
  have ht := tr_ht (rl_tw h)
  have ha := hA.1
  have hb := hB.1
  have hW := or_lt ha hb
  have hwt : ∀ p, p < 8 → bt (nI t) p = true → μ 20 p = μ 60 p ∧ inR (μ 20 p) 1 400 = true := tr_wt (rl_tw h)
  generalize hu : (fun p => (μ 60 p).toInt) = u
  have hub : ∀ p, p < 8 → bt (nI t) p = true → 1 ≤ u p ∧ u p ≤ 400 := fun p hp hb => by
    have := hwt p hp hb
    rw [this.1] at this
    rw [← hu]
    exact of_decide_eq_true this.2
  have hua : ∀ s, inT t s → ∀ p, p < 8 → -(400 : Nat) ≤ cq_u s u p ∧ cq_u s u p ≤ (400 : Nat) := fun s hs p hp => by
    unfold cq_u
    split
    · rename_i e
      have := hub p hp (inT_bt ht hs hp e)
      omega
    · omega
  have hdb : ∀ j, -(450 : Nat) * 8 ≤ cq_D a b κ u j ∧ cq_D a b κ u j ≤ (450 : Nat) * 8 := fun j => by
    have := cq_s_bd (f := fun p => cq_d a b κ u p (j.testBit p)) (K := 450) (n := 8) (fun p hp => by
      show _ ≤ cq_d a b κ u p (j.testBit p) ∧ cq_d a b κ u p (j.testBit p) ≤ _
      unfold cq_d
      split
      · rename_i e
        have := hub p hp (inT_bt ht hA hp e)
        split <;> omega
      · split
        · rename_i e
          have := hub p hp (inT_bt ht hB hp e)
          split <;> omega
        · omega)
    unfold cq_D
    omega
  have hco := cq_co (κ := κ) ha hb hτ hw (μ 60) (fun j => by
    rw [hu]
    have := hdb j
    omega)
  rw [hu] at hco
  have hAE := cq_AE a b κ τ u 8
  have hpcW : pc (a ||| b) ≤ 8 := (mk_bc _ hW).2
  have hAA : cq_s (cq_P (a ||| b) τ) 256 = ((10 ^ pc (a ||| b) : Nat) : Int) := by
    rw [← cq_10, cq_pc, ← hAE.1, cq_A8]
  rw [hAA] at hco
  have hah : aheS (nI a) (nI b) 18 μ = Int32.ofInt (cq_s (cq_u a u) 8 - cq_s (cq_u b u) 8) := by
    have e7 : μ 18 7 = nI t := tr_aps (rl_tw h)
    have hz : ∀ s, inT t s → sumB (nI s &&& μ 18 7) (μ 20) = Int32.ofInt (cq_s (cq_u s u) 8) := fun s hs => by
      rw [e7, nI_and, hs.2, cq_sum hs.1]
      refine congrArg Int32.ofInt (cq_s_cg (fun p hp => ?_))
      unfold cq_u
      split
      · rename_i e
        show (μ 20 p).toInt = u p
        rw [(hwt p hp (inT_bt ht hs hp e)).1, ← hu]
      · rfl
    unfold aheS
    rw [hz a hA, hz b hB, Int32.ofInt_sub]
  unfold coG
  rw [hco]
  rcases (show w = 0 ∨ w = 1 by omega) with rfl | rfl
  · -- which is heavier
    have hb0 : 0 ≤ cq_s (cq_M a b τ κ 0 u) 256 ∧ cq_s (cq_M a b τ κ 0 u) 256 ≤ ((10 ^ pc (a ||| b) : Nat) : Int) := by
      rw [← hAA]
      refine cq_s_le (fun j _ => ?_)
      have hp : 0 ≤ cq_P (a ||| b) τ j := cq_p_nn (fun p _ => by
        show 0 ≤ cq_g (a ||| b) τ p (j.testBit p)
        unfold cq_g
        split
        · split <;> omega
        · split <;> omega)
      unfold cq_M
      rw [if_neg (show ¬ (0 : Nat) = 1 by decide)]
      split <;> omega
    have h8 : 10 ^ pc (a ||| b) ≤ 10 ^ 8 := Nat.pow_le_pow_right (by decide) hpcW
    have hpos : 0 < 10 ^ pc (a ||| b) := Nat.pow_pos (by decide)
    have hlow := cq_low (X := cq_s (cq_M a b τ κ 0 u) 256) (Y := 10 ^ pc (a ||| b)) (M := 1) (by decide) (by omega) (by omega) (by omega) hpos
    rw [Nat.mul_one, show cq_s (cq_M a b τ κ 0 u) 256 * ((1 : Nat) : Int) = cq_s (cq_M a b τ κ 0 u) 256 from Int.mul_one _] at hlow
    obtain ⟨g, g1, g2, g3, g4, g5⟩ := hlow
    refine ⟨Int64.ofInt (cq_s (cq_M a b τ κ 0 u) 256), cq_L (10 ^ pc (a ||| b)), ?_, ?_⟩
    · unfold chM
      rw [if_pos (by decide), show cl (nI a) = a from cl_n (by omega), show cl (nI b) = b from cl_n (by omega), heavM, cq_hv ha hb hab hτ u hah, cq_pow (show (10 : Int32).toInt64 = Int64.ofInt 10 from rfl), cq_10]
    · show (∃ n, EuN n (cq_L (10 ^ pc (a ||| b))) (la (Int64.ofInt (cq_s (cq_M a b τ κ 0 u) 256))) (gcL 200 (cq_L (10 ^ pc (a ||| b))) (la (Int64.ofInt (cq_s (cq_M a b τ κ 0 u) 256))))) ∧ gcL 200 (cq_L (10 ^ pc (a ||| b))) (la (Int64.ofInt (cq_s (cq_M a b τ κ 0 u) 256))) ≠ 0 ∧ Int64.ofInt (cq_s (cq_M a b τ κ 0 u) 256) / gcL 200 (cq_L (10 ^ pc (a ||| b))) (la (Int64.ofInt (cq_s (cq_M a b τ κ 0 u) 256))) = _ ∧ cq_L (10 ^ pc (a ||| b)) / gcL 200 (cq_L (10 ^ pc (a ||| b))) (la (Int64.ofInt (cq_s (cq_M a b τ κ 0 u) 256))) = _
      rw [g1]
      exact ⟨g2, g3, g4, g5⟩
  · -- the mean
    have hB1 : cq_s (cq_M a b τ κ 1 u) 256 = cq_B (cq_g (a ||| b) τ) (cq_d a b κ u) 8 := cq_B8 a b τ κ u
    obtain ⟨m, hm⟩ : ∃ m, pc (a ||| b) = m + 1 := by
      refine ⟨pc (a ||| b) - 1, ?_⟩
      have : pc (a ||| b) ≠ 0 := fun q => by
        have h1 := cq_pc0 _ hW q
        exact ha0 (Nat.le_zero.mp (h1 ▸ Nat.left_le_or))
      omega
    have hE := cq_e_sum hab κ τ u 8
    generalize hEE : cq_s (cq_e a b κ τ u) 8 = E at hE hAE
    have hS : cq_s (cq_M a b τ κ 1 u) 256 = E * ((10 ^ m : Nat) : Int) := by
      have h2 := hAE.2
      rw [← cq_pc, hm, Int.pow_succ, cq_10, Int.mul_right_comm, ← hB1, Int.mul_comm _ E] at h2
      omega
    have ba := cq_s_bd (f := cq_u a u) (K := 400) (n := 8) (hua a hA)
    have bb := cq_s_bd (f := cq_u b u) (K := 400) (n := 8) (hua b hB)
    have na : cq_n a 8 ≤ 8 := by rw [← cq_pc]; exact (mk_bc _ ha).2
    have nb : cq_n b 8 ≤ 8 := by rw [← cq_pc]; exact (mk_bc _ hb).2
    have hτκ : (τ : Int) * κ ≤ 500 ∧ 0 ≤ (τ : Int) * κ := by
      have : τ * κ ≤ 10 * 50 := Nat.mul_le_mul hτ hκ
      rw [← Int.natCast_mul]
      omega
    have hEb : E.natAbs ≤ 68000 := by
      have hz : ((τ : Int) * κ * ((cq_n a 8 : Int) - cq_n b 8)).natAbs ≤ 500 * 8 := by
        rw [Int.natAbs_mul]
        exact Nat.mul_le_mul (by omega) (by omega)
      generalize (τ : Int) * κ * ((cq_n a 8 : Int) - cq_n b 8) = w at hz hE
      omega
    have h7 : 10 ^ m ≤ 10 ^ 7 := Nat.pow_le_pow_right (by decide) (by omega)
    have hpos : 0 < 10 ^ m := Nat.pow_pos (by decide)
    have hEM : (E * ((10 ^ m : Nat) : Int)).natAbs ≤ 68000 * 10 ^ 7 := by
      rw [Int.natAbs_mul]
      exact Nat.mul_le_mul hEb h7
    have hlow := cq_low (X := E) (Y := 10) (M := 10 ^ m) hpos (by omega) (by omega) (by omega) (by decide)
    rw [show 10 * 10 ^ m = 10 ^ (m + 1) by rw [Nat.pow_succ, Nat.mul_comm], ← hS, ← hm] at hlow
    obtain ⟨g, g1, g2, g3, g4, g5⟩ := hlow
    refine ⟨Int64.ofInt E, cq_L 10, ?_, ?_⟩
    · unfold chM
      rw [if_neg (by decide), meanM, hah, cq_t64 (show τ < 2 ^ 31 by omega), cq_t64 (show κ < 2 ^ 31 by omega), (mk_bc _ ha).1, (mk_bc _ hb).1, cq_pc, cq_pc, cq_nI, cq_nI, ← Int32.ofInt_sub, cq_3264 (by omega) (by omega), cq_3264 (by omega) (by omega), show (10 : Int64) = Int64.ofInt 10 from rfl, ← Int64.ofInt_mul, ← Int64.ofInt_mul, ← Int64.ofInt_mul, ← Int64.ofInt_add, ← hE]
      rfl
    · show (∃ n, EuN n (cq_L (10 ^ pc (a ||| b))) (la (Int64.ofInt (cq_s (cq_M a b τ κ 1 u) 256))) (gcL 200 (cq_L (10 ^ pc (a ||| b))) (la (Int64.ofInt (cq_s (cq_M a b τ κ 1 u) 256))))) ∧ gcL 200 (cq_L (10 ^ pc (a ||| b))) (la (Int64.ofInt (cq_s (cq_M a b τ κ 1 u) 256))) ≠ 0 ∧ Int64.ofInt (cq_s (cq_M a b τ κ 1 u) 256) / gcL 200 (cq_L (10 ^ pc (a ||| b))) (la (Int64.ofInt (cq_s (cq_M a b τ κ 1 u) 256))) = _ ∧ cq_L (10 ^ pc (a ||| b)) / gcL 200 (cq_L (10 ^ pc (a ||| b))) (la (Int64.ofInt (cq_s (cq_M a b τ κ 1 u) 256))) = _
      rw [g1]
      exact ⟨g2, g3, g4, g5⟩
theorem rl_putF {t k c : Nat} {μ : MemT} (h : Rel t k c μ) (A B : Int64) : Rel t k c (putF A B μ) := rl_cong h rfl rfl rfl rfl rfl rfl (fun r h1 h2 => mset_ne _ _ (by omega)) (fun r h1 h2 p _ => by rw [putF, mset_ne _ _ (by omega)]) (fun f _ => rfl) (rl_z7 h) (rl_z8 h) (rl_z9 h)
theorem rl_chance {t k c : Nat} {μ : MemT} (h : Rel t k c μ) (x y z q w v : Int32) : ChOk x y z q w v (xChance x y z q w v μ).2 ∧ mChance x y z q w v (xChance x y z q w v μ).2 = (xChance x y z q w v μ).1 ∧ Rel t k c (xChance x y z q w v μ).2 := by
  have ht := tr_ht (rl_tw h)
  have e7 : μ 18 7 = nI t := tr_aps (rl_tw h)
  have e8 : μ 58 0 = nI t := (show mI μ 0 = nI t from tr_bps (rl_tw h))
  by_cases h1 : mbw x y (μ 18 7) = false
  · have h1' : arS x y (μ 58 0) = false := by rw [e8, ← mbw_ar ht, ← e7]; exact h1
    have ex : xChance x y z q w v μ = (-1000000000000000001, μ) := by rw [xChance, if_pos h1]
    rw [ex]
    refine ⟨fun g => ?_, ?_, h⟩
    · rw [h1'] at g; cases g
    · rw [mChance, if_pos h1']
  · have h1' : ¬ arS x y (μ 58 0) = false := by rw [e8, ← mbw_ar ht, ← e7]; exact h1
    by_cases h2 : (inR z 0 10 && (inR q 1 50 && (inR w 0 1 && inR v 0 1))) = false
    · have ex : xChance x y z q w v μ = (-1000000000000000002, μ) := by rw [xChance, if_neg h1, if_pos h2]
      rw [ex]
      refine ⟨fun g g1 g2 g3 g4 => ?_, ?_, h⟩
      · rw [g1, g2, g3, g4] at h2; cases h2
      · rw [mChance, if_neg h1', if_pos h2]
    · have ex : xChance x y z q w v μ = (if v = 0 then sw_jn (chM x y z q w μ 16 0) (chM x y z q w μ 16 1) else sw_jn (chM x y z q w μ 16 2) (chM x y z q w μ 16 3), chM x y z q w μ) := by rw [xChance, if_neg h1, if_neg h2]
      rw [ex]
      have h3 : mbw x y (nI t) = true := by rw [← e7]; simpa using h1
      unfold mbw at h3
      simp only [Bool.and_eq_true, Bool.not_eq_true', decide_eq_false_iff_not, decide_eq_true_eq] at h3
      obtain ⟨hx, hy, hx0, hy0, hxy⟩ := h3
      obtain ⟨a, ha, rfl, -⟩ := subI_ex ht hx
      obtain ⟨b, hb, rfl, -⟩ := subI_ex ht hy
      rw [Bool.not_eq_false, Bool.and_eq_true, Bool.and_eq_true, Bool.and_eq_true] at h2
      obtain ⟨z1, q1, w1, v1⟩ := h2
      obtain ⟨τ, hτ, rfl⟩ := inR_ex (n := 10) z1
      obtain ⟨κ, hκ, rfl⟩ : ∃ p : Nat, p ≤ 50 ∧ q = nI p := by
        have g : 1 ≤ q.toInt ∧ q.toInt ≤ 50 := of_decide_eq_true q1
        exact inR_ex (n := 50) (inR_t (by omega) g.2)
      obtain ⟨ω, hω, rfl⟩ := inR_ex (n := 1) w1
      have hab : a &&& b = 0 := by
        rw [nI_and] at hxy
        exact (nI_eq (b := 0) (Nat.lt_of_le_of_lt Nat.and_le_left (by omega)) (by decide)).mp hxy
      have ha0 : a ≠ 0 := fun g => hx0 (by rw [g]; rfl)
      obtain ⟨A, B, c1, c2, c3, c4, c5⟩ := cq_all h (sub_inT ht ha hx) (sub_inT ht hb hy) hab ha0 hτ hκ hω
      rw [c1]
      have e60 : putF A B μ 60 = μ 60 := rfl
      have e58 : putF A B μ 58 0 = μ 58 0 := rfl
      refine ⟨?_, ?_, rl_putF h A B⟩
      · show ChOk (nI a) (nI b) (nI τ) (nI κ) (nI ω) v (putF A B μ)
        intro _ _ _ _ _
        rw [e60]
        obtain ⟨n, hn⟩ := c2
        exact ⟨n, hn, c3⟩
      · show mChance (nI a) (nI b) (nI τ) (nI κ) (nI ω) v (putF A B μ) = (if v = 0 then sw_jn (putF A B μ 16 0) (putF A B μ 16 1) else sw_jn (putF A B μ 16 2) (putF A B μ 16 3))
        rw [mChance, e58, e60, if_neg h1', if_neg (by rw [z1, q1, w1, v1]; decide), c4, c5, (cq_put A B μ).1, (cq_put A B μ).2]
