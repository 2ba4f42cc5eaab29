/-! seats: the reference's number of a seat -/
abbrev N3T : Type := Nat × Nat × Nat
def stN (p : Nat) (w : N3T) : N3T := (w.1 / 3, (if w.1 % 3 = 1 then w.2.1 ||| 2 ^ p else w.2.1), (if w.1 % 3 = 2 then w.2.2 ||| 2 ^ p else w.2.2))
def seN (j : Nat) : N3T := itr stN 8 0 (j, 0, 0)
def n3I (w : N3T) : S3T := (nI w.1, nI w.2.1, nI w.2.2)
theorem st_n {p : Nat} (hp : p < 8) (w : N3T) (hw : w.1 < 6561) : stS p (n3I w) = n3I (stN p w) := by
  obtain ⟨x, f, g⟩ := w
  have hx : x < 6561 := hw
  have e1 : nI x / 3 = nI (x / 3) := nI_div (b := 3) (by omega) (by decide) (by decide)
  have e2 : nI x - nI x / 3 * 3 = nI (x % 3) := nI_mod (b := 3) (by omega) (by decide) (by decide)
  have hm : x % 3 < 3 := Nat.mod_lt _ (by decide)
  have o1 : (nI (x % 3) = 1) ↔ x % 3 = 1 := nI_eq (b := 1) (by omega) (by decide)
  have o2 : (nI (x % 3) = 2) ↔ x % 3 = 2 := nI_eq (b := 2) (by omega) (by decide)
  show (nI x / 3, nI f ||| (if nI x - nI x / 3 * 3 = 1 then 1 <<< (nI p &&& 31) else 0), nI g ||| (if nI x - nI x / 3 * 3 = 2 then 1 <<< (nI p &&& 31) else 0)) = (nI (x / 3), nI (if x % 3 = 1 then f ||| 2 ^ p else f), nI (if x % 3 = 2 then g ||| 2 ^ p else g))
  rw [e2, e1]
  have q1 : nI f ||| (if nI (x % 3) = 1 then 1 <<< (nI p &&& 31) else 0) = nI (if x % 3 = 1 then f ||| 2 ^ p else f) := by
    by_cases c : x % 3 = 1
    · rw [if_pos c, if_pos (o1.mpr c), mk_shl p hp, nI_or]
    · rw [if_neg c, if_neg (fun q => c (o1.mp q)), or_0]
  have q2 : nI g ||| (if nI (x % 3) = 2 then 1 <<< (nI p &&& 31) else 0) = nI (if x % 3 = 2 then g ||| 2 ^ p else g) := by
    by_cases c : x % 3 = 2
    · rw [if_pos c, if_pos (o2.mpr c), mk_shl p hp, nI_or]
    · rw [if_neg c, if_neg (fun q => c (o2.mp q)), or_0]
  rw [q1, q2]
theorem se_n {j : Nat} (hj : j < 6561) : seR (nI j) = n3I (seN j) := by
  unfold seR seN
  have := itr_rel (R := fun (a : S3T) (b : N3T) => a = n3I b ∧ b.1 < 6561) (f := stS) (g := stN) (N := 8) (fun p a b hp hR => by
    obtain ⟨h1, h2⟩ := hR
    refine ⟨by rw [h1]; exact st_n hp b h2, ?_⟩
    show b.1 / 3 < 6561
    omega) 8 0 (nI j, 0, 0) (j, 0, 0) (by decide) ⟨rfl, hj⟩
  exact this.1
def encN (a b : Nat) : Nat := smN (fun p => 3 ^ p * ((if a.testBit p then 1 else 0) + (if b.testBit p then 2 else 0))) 8 0
set_option maxRecDepth 100000 in
theorem se_ok : ∀ j, j < 6561 → (seN j).2.1 < 256 ∧ (seN j).2.2 < 256 ∧ (seN j).2.1 &&& (seN j).2.2 = 0 := by decide +kernel
set_option maxRecDepth 100000 in
theorem enc_ok : ∀ a, a < 256 → ∀ b, b < 256 → a &&& b = 0 → encN a b < 6561 ∧ (seN (encN a b)).2.1 = a ∧ (seN (encN a b)).2.2 = b := by decide +kernel
