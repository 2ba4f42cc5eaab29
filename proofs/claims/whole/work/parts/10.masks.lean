/-! sets of persons as numbers under 256 -/
theorem nI_bv (n : Nat) : (nI n).toBitVec = BitVec.ofNat 32 n := rfl
theorem nI_or (a b : Nat) : nI a ||| nI b = nI (a ||| b) := by
  apply Int32.toBitVec_inj.mp
  rw [Int32.toBitVec_or, nI_bv, nI_bv, nI_bv, BitVec.ofNat_or]
theorem nI_and (a b : Nat) : nI a &&& nI b = nI (a &&& b) := by
  apply Int32.toBitVec_inj.mp
  rw [Int32.toBitVec_and, nI_bv, nI_bv, nI_bv, BitVec.ofNat_and]
theorem nI_xor (a b : Nat) : nI a ^^^ nI b = nI (a ^^^ b) := by
  apply Int32.toBitVec_inj.mp
  rw [Int32.toBitVec_xor, nI_bv, nI_bv, nI_bv, BitVec.ofNat_xor]
theorem nI_sub {a b : Nat} (h : b ≤ a) : nI a - nI b = nI (a - b) := (Int32.ofNat_sub a b h).symm
theorem nI_mul (a b : Nat) : nI a * nI b = nI (a * b) := (Int32.ofNat_mul a b).symm
def pc (s : Nat) : Nat := itr (fun p n => if s.testBit p then n + 1 else n) 8 0 0
def nxN (s w : Nat) : Nat := ((s + 256 - w) % 256) &&& w
def sbs (w : Nat) : Nat → Nat
  | 0 => 0
  | j + 1 => nxN (sbs w j) w
def offN (t a : Nat) : Nat := t &&& (255 - a)
set_option maxRecDepth 100000 in
theorem mk_bt : ∀ s, s < 256 → ∀ p, p < 8 → bt (nI s) p = s.testBit p := by decide +kernel
set_option maxRecDepth 100000 in
theorem mk_bc : ∀ s, s < 256 → bcI (nI s) = nI (pc s) ∧ pc s ≤ 8 := by decide +kernel
set_option maxRecDepth 100000 in
theorem mk_sh : ∀ s, s < 256 → (1 : Int32) <<< (bcI (nI s &&& 255) &&& 31) = nI (2 ^ pc s) := by decide +kernel
set_option maxRecDepth 100000 in
theorem mk_shl : ∀ p, p < 8 → (1 : Int32) <<< (nI p &&& 31) = nI (2 ^ p) := by decide +kernel
set_option maxRecDepth 100000 in
theorem mk_nxN : ∀ s, s < 256 → ∀ w, w < 256 → (s + 4294967296 - w) &&& w = nxN s w ∧ nxN s w < 256 := by decide +kernel
set_option maxRecDepth 100000 in
theorem mk_offN : ∀ t, t < 256 → ∀ a, a < 256 → t &&& (a ^^^ 4294967295) = offN t a ∧ offN t a < 256 := by decide +kernel
theorem nI_wrap (s : Nat) : nI (s + 4294967296) = nI s := by
  apply Int32.toBitVec_inj.mp
  rw [nI_bv, nI_bv]
  apply BitVec.eq_of_toNat_eq
  simp
theorem mk_nx : ∀ s, s < 256 → ∀ w, w < 256 → nxtI (nI s) (nI w) = nI (nxN s w) ∧ nxN s w < 256 := by
  intro s hs w hw
  obtain ⟨h1, h2⟩ := mk_nxN s hs w hw
  refine ⟨?_, h2⟩
  rw [nxtI, ← nI_wrap s, nI_sub (by omega), nI_and, h1]
theorem mk_off : ∀ t, t < 256 → ∀ a, a < 256 → nI t &&& (nI a ^^^ -1) = nI (offN t a) ∧ offN t a < 256 := by
  intro t ht a ha
  obtain ⟨h1, h2⟩ := mk_offN t ht a ha
  refine ⟨?_, h2⟩
  rw [show (-1 : Int32) = nI 4294967295 by decide, nI_xor, nI_and, h1]
theorem sbs_lt {w : Nat} (hw : w < 256) : ∀ j, sbs w j < 256
  | 0 => by show 0 < 256; decide
  | j + 1 => (mk_nxN _ (sbs_lt hw j) w hw).2
