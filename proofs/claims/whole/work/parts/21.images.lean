/-! images -/
theorem TRel_cong {t k : Nat} {a a2 b b2 : TiT} {A A2 B B2 : TrT} (ha : ∀ i, i < 5 → a2 i = a i) (hA : ∀ r, r < 7 → ∀ p, p < 8 → A2 r p = A r p) (hb : ∀ i, i < 5 → b2 i = b i) (hB : ∀ r, r < 7 → ∀ p, p < 8 → B2 r p = B r p) (h : TRel t k a A b B) : TRel t k a2 A2 b2 B2 := by
  obtain ⟨q_ht, q_hk, q_aps, q_bps, q_cd, q_lm, q_lmr, q_dy, q_asg, q_bsg, q_sw, q_wt, q_dr, q_sp, q_si, q_sd⟩ := h
  refine ⟨q_ht, q_hk, ?_, ?_, ?_, ?_, ?_, ?_, ?_, ?_, ?_, ?_, ?_, ?_, ?_, ?_⟩
  · rw [ha 0 (by decide)]; exact q_aps
  · rw [hb 0 (by decide)]; exact q_bps
  · rw [ha 1 (by decide), hb 1 (by decide)]; exact q_cd
  · rw [ha 2 (by decide), hb 2 (by decide)]; exact q_lm
  · rw [ha 2 (by decide)]; exact q_lmr
  · rw [ha 3 (by decide), hb 3 (by decide)]; exact q_dy
  · rw [ha 4 (by decide)]; exact q_asg
  · rw [hb 4 (by decide)]; exact q_bsg
  · intro p hp hb2; rw [hA 0 (by decide) p hp, hB 0 (by decide) p hp]; exact q_sw p hp hb2
  · intro p hp hb2; rw [hA 1 (by decide) p hp, hB 1 (by decide) p hp]; exact q_wt p hp hb2
  · intro p hp hb2; rw [hA 2 (by decide) p hp, hB 2 (by decide) p hp]; exact q_dr p hp hb2
  · intro p hp
    rw [hA 3 (by decide) p hp, hB 3 (by decide) p hp]
    refine ⟨(q_sp p hp).1, ?_⟩
    rcases (q_sp p hp).2 with g | ⟨s, g1, g2, g3, g4, g5, g6⟩
    · exact Or.inl (by rw [hA 3 (by decide) p hp]; exact g)
    · exact Or.inr ⟨s, g1, g2, by rw [hA 3 (by decide) p hp]; exact g3, by rw [hA 3 (by decide) s g1]; exact g4, g5, g6⟩
  · intro j hj
    rw [hA 4 (by decide) j hj, hB 4 (by decide) j hj, hA 5 (by decide) j hj, hB 5 (by decide) j hj, hA 6 (by decide) j hj, hB 6 (by decide) j hj]
    exact q_si j hj
  · intro j hj
    rw [hA 4 (by decide) j (by omega), hA 5 (by decide) j (by omega)]
    exact q_sd j hj
theorem mset_of {μ : MemT} {k : Nat} {r : Nat → Int32} (h : μ k = r) : mset μ k r = μ := by rw [← h, mset_same]
def imF (i : Nat) : Nat := if i = 4 then 11 else i
def imV (b : Nat) (m : MemT) (q : Nat) : Int32 := if q < b + 5 then m 58 (imF (q - b)) else m (59 + (q - b - 5) % 7) ((q - b - 5) / 7)
def imWr (i : Nat) (v : Int32) (m : MemT) : MemT := mset (mset m 77 (upd (m 77) i v)) 58 (upd (m 58) 39 (nI (i + 1)))
theorem psF_w {f i : Nat} {m : MemT} (hw : m 58 40 ≠ 0) (hf : f ≠ 39) : psF f i m = imWr i (m 58 f) m := by
  have e : psV i (m 58 f) m = m 58 f := if_neg hw
  unfold psF psM imWr
  rw [e]
  rw [mset_self, mset_mset]
  congr 1
  funext q
  by_cases h1 : q = f
  · subst h1; simp [upd, hf]
  · simp [upd, h1]
theorem psR_w {r j i : Nat} {m : MemT} (hw : m 58 40 ≠ 0) (h77 : r ≠ 77) (h58 : r ≠ 58) : psR r j i m = imWr i (m r j) m := by
  have e : psV i (m r j) m = m r j := if_neg hw
  have e2 : psM i (m r j) m r = m r := by simp [psM, mset, h77, h58]
  unfold psR
  rw [e2, e, upd_id]
  rw [mset_of e2]
  unfold psM imWr
  rw [e]
def imW2 (b n : Nat) (m0 m : MemT) : Prop := m 77 = (fun q => if b ≤ q ∧ q < n then imV b m0 q else m0 77 q) ∧ (∀ f, f ≠ 39 → m 58 f = m0 58 f) ∧ ∀ r, r ≠ 77 → r ≠ 58 → m r = m0 r
theorem imW2_at {b n : Nat} {m0 m : MemT} (h : imW2 b n m0 m) (q : Nat) : m 77 q = if b ≤ q ∧ q < n then imV b m0 q else m0 77 q := congrFun h.1 q
theorem imW2_step {b n : Nat} {m0 m : MemT} {v : Int32} (h : imW2 b n m0 m) (hb : b ≤ n) (hv : v = imV b m0 n) : imW2 b (n + 1) m0 (imWr n v m) := by
  refine ⟨?_, ?_, ?_⟩
  · show upd (m 77) n v = _
    rw [h.1]
    funext q
    by_cases hq : q = n
    · subst hq; simp [upd, hb, hv]
    · simp only [upd, if_neg hq]
      by_cases h2 : b ≤ q ∧ q < n
      · rw [if_pos h2, if_pos ⟨h2.1, by omega⟩]
      · rw [if_neg h2, if_neg (fun c => h2 ⟨c.1, by omega⟩)]
  · intro f hf
    show upd (m 58) 39 _ f = _
    rw [upd, if_neg hf]
    exact h.2.1 f hf
  · intro r h1 h2
    show mset (mset m 77 _) 58 _ r = _
    simp only [mset, if_neg h1, if_neg h2]
    exact h.2.2 r h1 h2
theorem imW2_F {b i : Nat} {m0 m : MemT} (f : Nat) (h : imW2 b (b + i) m0 m) (hw : m0 58 40 ≠ 0) (hi : i < 5) (hf : f = imF i) : imW2 b (b + i + 1) m0 (psF f (b + i) m) := by
  have hf39 : f ≠ 39 := by rw [hf, imF]; split <;> omega
  rw [psF_w (by rw [h.2.1 40 (by decide)]; exact hw) hf39]
  refine imW2_step h (by omega) ?_
  rw [h.2.1 f hf39, imV, if_pos (by omega), show b + i - b = i by omega, hf]
theorem imW2_R {b j q : Nat} {m0 m : MemT} (h : imW2 b (b + 5 + 7 * j + q) m0 m) (hw : m0 58 40 ≠ 0) (hq : q < 7) : imW2 b (b + 5 + 7 * j + q + 1) m0 (psR (59 + q) j (b + 5 + 7 * j + q) m) := by
  rw [psR_w (by rw [h.2.1 40 (by decide)]; exact hw) (by omega) (by omega)]
  refine imW2_step h (by omega) ?_
  rw [h.2.2 (59 + q) (by omega) (by omega), imV, if_neg (by omega), show b + 5 + 7 * j + q - b - 5 = 7 * j + q by omega, show (7 * j + q) % 7 = q by omega, show (7 * j + q) / 7 = j by omega]
theorem imW2_J {b j : Nat} {m0 m : MemT} (h : imW2 b (b + 5 + 7 * j) m0 m) (hw : m0 58 40 ≠ 0) : imW2 b (b + 5 + 7 * (j + 1)) m0 (psJ b j m) :=
  imW2_R (q := 6) (imW2_R (q := 5) (imW2_R (q := 4) (imW2_R (q := 3) (imW2_R (q := 2) (imW2_R (q := 1) (imW2_R (q := 0) h hw (by decide)) hw (by decide)) hw (by decide)) hw (by decide)) hw (by decide)) hw (by decide)) hw (by decide)
theorem imW2_H {b : Nat} {m0 : MemT} (hw : m0 58 40 ≠ 0) : imW2 b (b + 5) m0 (psH b m0) := by
  have h0 : imW2 b (b + 0) m0 m0 := ⟨by funext q; rw [if_neg (by omega)], fun _ _ => rfl, fun _ _ _ => rfl⟩
  exact imW2_F (i := 4) 11 (imW2_F (i := 3) 3 (imW2_F (i := 2) 2 (imW2_F (i := 1) 1 (imW2_F (i := 0) 0 h0 hw (by decide) rfl) hw (by decide) rfl) hw (by decide) rfl) hw (by decide) rfl) hw (by decide) rfl
theorem imW2_A {b : Nat} {m0 : MemT} (hw : m0 58 40 ≠ 0) : imW2 b (b + 61) m0 (psA b m0) := by
  have key : ∀ (n j : Nat) (m : MemT), j + n = 8 → imW2 b (b + 5 + 7 * j) m0 m → imW2 b (b + 61) m0 (itr (psJ b) n j m) := by
    intro n
    induction n with
    | zero => intro j m hj h; have : j = 8 := by omega
              subst this; exact h
    | succ n ih => intro j m hj h; rw [itr_S]; exact ih (j + 1) _ (by omega) (imW2_J h hw)
  exact key 8 0 _ rfl (imW2_H hw)
theorem imW2_k {b : Nat} {m0 m : MemT} (h : imW2 b (b + 61) m0 m) : (∀ i, i < 5 → kI b (m 77) i = mI m0 i) ∧ ∀ r, r < 7 → ∀ p, p < 8 → kR b (m 77) r p = mR m0 r p := by
  refine ⟨?_, ?_⟩
  · intro i hi
    show m 77 (b + i) = _
    rw [imW2_at h, if_pos ⟨by omega, by omega⟩, imV, if_pos (by omega), show b + i - b = i by omega]
    rfl
  · intro r hr p hp
    show m 77 (b + 5 + 7 * p + r) = _
    rw [imW2_at h, if_pos ⟨by omega, by omega⟩, imV, if_neg (by omega), show b + 5 + 7 * p + r - b - 5 = 7 * p + r by omega, show (7 * p + r) % 7 = r by omega, show (7 * p + r) / 7 = p by omega]
    rfl
theorem imW2_o {b d : Nat} {m0 m : MemT} (h : imW2 b (b + 61) m0 m) (hd : d + 61 ≤ b ∨ b + 61 ≤ d) : (∀ i, i < 5 → kI d (m 77) i = kI d (m0 77) i) ∧ ∀ r, r < 7 → ∀ p, p < 8 → kR d (m 77) r p = kR d (m0 77) r p := by
  refine ⟨?_, ?_⟩
  · intro i hi
    show m 77 (d + i) = m0 77 (d + i)
    rw [imW2_at h, if_neg (by omega)]
  · intro r hr p hp
    show m 77 (d + 5 + 7 * p + r) = m0 77 (d + 5 + 7 * p + r)
    rw [imW2_at h, if_neg (by omega)]

