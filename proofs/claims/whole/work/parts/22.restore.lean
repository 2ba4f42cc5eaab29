/-! images, restored; frames of the relation -/
theorem im_P {b : Nat} {c : Int32} {m P : MemT} (hP : psA b (imW c 1 m) = P) : (∀ r, r ≠ 77 → r ≠ 58 → P r = m r) ∧ (∀ f, f ≠ 39 → f ≠ 40 → P 58 f = m 58 f) ∧ ((∀ i, i < 5 → kI b (P 77) i = mI m i) ∧ ∀ r, r < 7 → ∀ p, p < 8 → kR b (P 77) r p = mR m r p) ∧ ∀ d, (d + 61 ≤ b ∨ b + 61 ≤ d) → (∀ i, i < 5 → kI d (P 77) i = kI d (m 77) i) ∧ ∀ r, r < 7 → ∀ p, p < 8 → kR d (P 77) r p = kR d (m 77) r p := by
  have hA : imW2 b (b + 61) (imW c 1 m) P := by
    rw [← hP]
    refine imW2_A ?_
    show (1 : Int32) ≠ 0
    decide
  have e77 : imW c 1 m 77 = m 77 := rfl
  refine ⟨fun r h1 h2 => ?_, fun f h1 h2 => ?_, ⟨fun i hi => ?_, fun r hr p hp => ?_⟩, fun d hd => ?_⟩
  · rw [hA.2.2 r h1 h2]
    simp [imW, mset, h2]
  · rw [hA.2.1 f h1]
    simp [imW, mset, upd, h1, h2]
  · rw [(imW2_k hA).1 i hi]
    show (upd (upd (m 58) 39 _) 40 _) (if i = 4 then 11 else i) = m 58 (if i = 4 then 11 else i)
    rw [upd_ne _ _ (by split <;> omega), upd_ne _ _ (by split <;> omega)]
  · rw [(imW2_k hA).2 r hr p hp]
    show mset m 58 _ (59 + r) p = m (59 + r) p
    rw [mset_ne _ _ (by omega)]
  · have ho := imW2_o hA hd
    rw [e77] at ho
    exact ho
theorem ir_cong {e : Nat} {μ M : MemT} (h : IRel e μ) (h2 : M 2 e = μ 2 e) (h78 : M 78 e = μ 78 e) (hx : ∀ r, imB e ≤ r → r < imB e + 8 → ∀ f, M r f = μ r f) (k1 : ∀ f, f < 5 → kI (80 * e) (M 77) f = kI (80 * e) (μ 77) f) (k2 : ∀ r, r < 7 → ∀ p, p < 8 → kR (80 * e) (M 77) r p = kR (80 * e) (μ 77) r p) : IRel e M := by
  refine ⟨by rw [h2, h78]; exact ir_fl h, fun hn => ?_⟩
  obtain ⟨t, k, ht⟩ := ir_tw h (by rw [← h2]; exact hn)
  refine ⟨t, k, TRel_cong (fun f _ => ?_) (fun r hr p _ => ?_) k1 k2 ht⟩
  · show M (imB e) (7 + f) = μ (imB e) (7 + f)
    rw [hx _ (by omega) (by omega)]
  · show M (imB e + 1 + r) p = μ (imB e + 1 + r) p
    rw [hx _ (by omega) (by omega)]
theorem ir_own {t k i : Nat} {μ M : MemT} (h : TRel t k (xI 18 μ) (xR 18 μ) (mI μ) (mR μ)) (h2 : M 2 i = M 78 i) (hx : ∀ f, f < 5 → xI (imB i) M f = xI 18 μ f) (hr : ∀ r, r < 7 → ∀ p, p < 8 → xR (imB i) M r p = xR 18 μ r p) (ki : ∀ f, f < 5 → kI (80 * i) (M 77) f = mI μ f) (kr : ∀ r, r < 7 → ∀ p, p < 8 → kR (80 * i) (M 77) r p = mR μ r p) : IRel i M := ⟨h2, fun _ => ⟨t, k, TRel_cong hx hr ki kr h⟩⟩
theorem pr_cong {c : Nat} {μ M : MemT} (h : PRel c μ) (h3 : M 3 1 = μ 3 1) (h13 : M 58 13 = μ 58 13) (h4 : M 4 = μ 4) (h66 : M 66 = μ 66) : PRel c M := ⟨pr_hc h, h3.trans (pr_ac h), h13.trans (pr_bc h), fun j hj => by rw [h4, h66]; exact pr_si h j hj⟩
theorem tr_cong {t k : Nat} {μ M : MemT} (h : TRel t k (xI 18 μ) (xR 18 μ) (mI μ) (mR μ)) (hx : ∀ r, 18 ≤ r → r < 26 → ∀ f, M r f = μ r f) (h59 : ∀ r, 59 ≤ r → r < 66 → ∀ p, p < 8 → M r p = μ r p) (h58 : ∀ f, (f ≤ 3 ∨ f = 11) → M 58 f = μ 58 f) : TRel t k (xI 18 M) (xR 18 M) (mI M) (mR M) := by
  refine TRel_cong (fun f _ => ?_) (fun r hr p _ => ?_) (fun f hf => ?_) (fun r hr p hp => ?_) h
  · exact hx 18 (by decide) (by decide) _
  · exact hx (18 + 1 + r) (by omega) (by omega) _
  · exact h58 (if f = 4 then 11 else f) (by split <;> omega)
  · exact h59 (59 + r) (by omega) (by omega) p hp
theorem rl_cong {t k c : Nat} {μ M : MemT} (h : Rel t k c μ) (h2 : M 2 = μ 2) (h78 : M 78 = μ 78) (h77 : M 77 = μ 77) (h3 : M 3 1 = μ 3 1) (h4 : M 4 = μ 4) (h66 : M 66 = μ 66) (hx : ∀ r, 18 ≤ r → r < 42 → M r = μ r) (h59 : ∀ r, 59 ≤ r → r < 66 → ∀ p, p < 8 → M r p = μ r p) (h58 : ∀ f, (f ≤ 3 ∨ f = 11 ∨ f = 13) → M 58 f = μ 58 f) (z7 : M 7 0 = 0) (z8 : M 8 0 = 0) (z9 : M 9 0 = 0) : Rel t k c M := by
  have hI : ∀ e, e < 2 → IRel e μ → IRel e M := fun e he hi => by
    have hb : 26 ≤ imB e ∧ imB e ≤ 34 := by unfold imB; split <;> omega
    refine ir_cong hi (by rw [h2]) (by rw [h78]) (fun r h1 h2 f => by rw [hx r (by omega) (by omega)]) (by rw [h77]; exact fun _ _ => rfl) (by rw [h77]; exact fun _ _ _ _ => rfl)
  exact ⟨tr_cong (rl_tw h) (fun r h1 h2 f => by rw [hx r h1 (by omega)]) h59 (fun f hf => h58 f (by omega)), pr_cong (rl_pd h) h3 (h58 13 (by decide)) h4 h66, hI 0 (by decide) (rl_i0 h), hI 1 (by decide) (rl_i1 h), z7, z8, z9⟩
/-- what is not of the class's part of the memory -/
theorem cp_ne {b c r : Nat} {μ : MemT} (h : r < b ∨ b + 8 ≤ r) : twCopy b c μ r = μ r := by
  simp [twCopy, mset, show r ≠ b by omega, show r ≠ b + 1 by omega, show r ≠ b + 2 by omega, show r ≠ b + 3 by omega, show r ≠ b + 4 by omega, show r ≠ b + 5 by omega, show r ≠ b + 6 by omega, show r ≠ b + 7 by omega]
theorem cp_I {b c : Nat} {μ : MemT} : ∀ f, f < 5 → xI b (twCopy b c μ) f = xI c μ f := by
  intro f hf
  unfold xI
  rw [show twCopy b c μ b = upd (upd (upd (upd (upd (μ b) 7 (μ c 7)) 8 (μ c 8)) 9 (μ c 9)) 10 (μ c 10)) 11 (μ c 11) from mset_self _ _ _]
  rcases (show f = 0 ∨ f = 1 ∨ f = 2 ∨ f = 3 ∨ f = 4 by omega) with rfl | rfl | rfl | rfl | rfl <;> rfl
theorem cp_R {b c : Nat} {μ : MemT} : ∀ r, r < 7 → ∀ p, p < 8 → xR b (twCopy b c μ) r p = xR c μ r p := by
  intro r hr p hp
  unfold xR
  have e : ∀ r, r < 7 → twCopy b c μ (b + 1 + r) = va_cpy (μ (c + 1 + r)) (μ (b + 1 + r)) 0 0 8 := by
    intro r hr
    rcases (show r = 0 ∨ r = 1 ∨ r = 2 ∨ r = 3 ∨ r = 4 ∨ r = 5 ∨ r = 6 by omega) with rfl | rfl | rfl | rfl | rfl | rfl | rfl <;> simp [twCopy, mset, Nat.add_assoc]
  rw [e r hr]
  simp [va_cpy, hp]
theorem rl_image {t k c : Nat} {μ : MemT} (h : Rel t k c μ) (x : Int32) : (mImage x (xImage x μ).2).1 = (xImage x μ).1 ∧ Rel t k c (mImage x (xImage x μ).2).2 := by
  by_cases hr : inR x 0 1 = true
  · obtain ⟨i, hi, rfl⟩ := inR_ex (n := 1) hr
    have e1 : xImage (nI i) μ = (1, mset (twCopy (imB i) 18 μ) 2 (upd (μ 2) i 1)) := by rw [xImage, if_pos hr, cl_8 (by omega)]
    rw [e1]
    generalize hm : mset (twCopy (imB i) 18 μ) 2 (upd (μ 2) i 1) = m
    rw [mImage, if_neg (by rw [hr]; decide), cl_8 (by omega)]
    refine ⟨rfl, ?_⟩
    show Rel t k c (mset (psA (80 * i) (imW (80 * nI i) 1 m)) 78 (upd (psA (80 * i) (imW (80 * nI i) 1 m) 78) i 1))
    generalize hP : psA (80 * i) (imW (80 * nI i) 1 m) = P
    obtain ⟨g, g58, ⟨gI, gR⟩, gO⟩ := im_P hP
    clear hP
    have hb : imB i = 26 ∧ i = 0 ∨ imB i = 34 ∧ i = 1 := by
      rcases (show i = 0 ∨ i = 1 by omega) with rfl | rfl
      · exact Or.inl ⟨rfl, rfl⟩
      · exact Or.inr ⟨rfl, rfl⟩
    have vm : ∀ r, r ≠ 2 → (r < imB i ∨ imB i + 8 ≤ r) → m r = μ r := fun r h1 h2 => by
      rw [← hm, mset_ne _ _ h1, cp_ne h2]
    have m2 : m 2 = upd (μ 2) i 1 := by rw [← hm, mset_self]
    generalize hM : mset P 78 (upd (P 78) i 1) = M
    have M78 : M 78 = upd (μ 78) i 1 := by rw [← hM, mset_self, g 78 (by decide) (by decide), vm 78 (by decide) (by omega)]
    have Mne : ∀ r, r ≠ 78 → M r = P r := fun r h1 => by rw [← hM, mset_ne _ _ h1]
    have Mv : ∀ r, r ≠ 78 → r ≠ 77 → r ≠ 58 → M r = m r := fun r h1 h2 h3 => by rw [Mne r h1, g r h2 h3]
    have Mx : ∀ r, r ≠ 78 → r ≠ 77 → r ≠ 58 → r ≠ 2 → (r < imB i ∨ imB i + 8 ≤ r) → M r = μ r := fun r h1 h2 h3 h4 h5 => by rw [Mv r h1 h2 h3, vm r h4 h5]
    have M58 : ∀ f, f ≠ 39 → f ≠ 40 → M 58 f = μ 58 f := fun f h1 h2 => by rw [Mne 58 (by decide), g58 f h1 h2, vm 58 (by decide) (by omega)]
    have M77 : M 77 = P 77 := Mne 77 (by decide)
    have own : IRel i M := by
      refine ir_own (rl_tw h) (by rw [Mv 2 (by decide) (by decide) (by decide), m2, M78]; simp [upd]) (fun f hf => ?_) (fun r hr p hp => ?_) (fun f hf => ?_) (fun r hr p hp => ?_)
      · rw [← cp_I (b := imB i) (c := 18) f hf]
        unfold xI
        rw [Mv _ (by omega) (by omega) (by omega), ← hm, mset_ne _ _ (by omega)]
      · rw [← cp_R (b := imB i) (c := 18) r hr p hp]
        unfold xR
        rw [Mv _ (by omega) (by omega) (by omega), ← hm, mset_ne _ _ (by omega)]
      · rw [M77, gI f hf]
        unfold mI
        rw [vm 58 (by decide) (by omega)]
      · rw [M77, gR r hr p hp]
        unfold mR
        rw [vm _ (by omega) (by omega)]
    have oth : ∀ e, e < 2 → e ≠ i → IRel e μ → IRel e M := by
      intro e he hne hi2
      have hbe : imB e = 26 ∧ e = 0 ∨ imB e = 34 ∧ e = 1 := by
        rcases (show e = 0 ∨ e = 1 by omega) with rfl | rfl
        · exact Or.inl ⟨rfl, rfl⟩
        · exact Or.inr ⟨rfl, rfl⟩
      have go := gO (80 * e) (by omega)
      refine ir_cong hi2 (by rw [Mv 2 (by decide) (by decide) (by decide), m2, upd_ne _ _ hne]) (by rw [M78, upd_ne _ _ hne]) (fun r h1 h2 f => by rw [Mx r (by omega) (by omega) (by omega) (by omega) (by omega)]) ?_ ?_
      · rw [M77]
        intro f hf
        rw [go.1 f hf, vm 77 (by decide) (by omega)]
      · rw [M77]
        intro r hr p hp
        rw [go.2 r hr p hp, vm 77 (by decide) (by omega)]
    have both : ∀ e, e < 2 → IRel e μ → IRel e M := fun e he hi2 => by
      by_cases hei : e = i
      · rw [hei]; exact own
      · exact oth e he hei hi2
    refine ⟨tr_cong (rl_tw h) (fun r h1 h2 f => by rw [Mx r (by omega) (by omega) (by omega) (by omega) (by omega)]) (fun r h1 h2 p _ => by rw [Mx r (by omega) (by omega) (by omega) (by omega) (by omega)]) (fun f hf => M58 f (by omega) (by omega)), pr_cong (rl_pd h) (by rw [Mx 3 (by omega) (by omega) (by omega) (by omega) (by omega)]) (M58 13 (by decide) (by decide)) (Mx 4 (by omega) (by omega) (by omega) (by omega) (by omega)) (Mx 66 (by omega) (by omega) (by omega) (by omega) (by omega)), both 0 (by decide) (rl_i0 h), both 1 (by decide) (rl_i1 h), ?_, ?_, ?_⟩
    · rw [Mx 7 (by omega) (by omega) (by omega) (by omega) (by omega)]; exact rl_z7 h
    · rw [Mx 8 (by omega) (by omega) (by omega) (by omega) (by omega)]; exact rl_z8 h
    · rw [Mx 9 (by omega) (by omega) (by omega) (by omega) (by omega)]; exact rl_z9 h
  · rw [xImage, if_neg hr]
    refine ⟨?_, ?_⟩ <;> rw [mImage, if_pos (by simpa using hr)]
    exact h
/-! restore: passAll when it reads -/
theorem psF_r {f i : Nat} {m : MemT} (hw : m 58 40 = 0) : psF f i m = mset m 58 (upd (upd (m 58) 39 (nI (i + 1))) f (m 77 i)) := by
  have e : ∀ x, psV i x m = m 77 i := fun x => if_pos hw
  unfold psF psM
  rw [e, upd_id, mset_self, mset_mset, mset_same]
theorem psR_r {r j i : Nat} {m : MemT} (hw : m 58 40 = 0) (h58 : r ≠ 58) : psR r j i m = mset (mset m 58 (upd (m 58) 39 (nI (i + 1)))) r (upd (m r) j (m 77 i)) := by
  have e : ∀ x, psV i x m = m 77 i := fun x => if_pos hw
  unfold psR psM
  rw [e, upd_id, show mset m 77 (m 77) = m from mset_same _ _, mset_ne _ _ h58]
def imR2 (b n : Nat) (m0 m : MemT) : Prop := (∀ r, r ≠ 58 → (r < 59 ∨ 66 ≤ r) → m r = m0 r) ∧ (∀ f, f ≠ 39 → 4 ≤ f → f ≠ 11 → m 58 f = m0 58 f) ∧ (∀ i, i < 5 → b + i < n → m 58 (imF i) = m0 77 (b + i)) ∧ (∀ r, r < 7 → ∀ p, b + 5 + 7 * p + r < n → m (59 + r) p = m0 77 (b + 5 + 7 * p + r))
theorem imF_inj {i j : Nat} (hi : i < 5) (hj : j < 5) (h : imF i = imF j) : i = j := by
  unfold imF at h
  split at h <;> split at h <;> omega
theorem imR2_F {b i : Nat} {m0 m : MemT} (f : Nat) (h : imR2 b (b + i) m0 m) (hw : m0 58 40 = 0) (hi : i < 5) (hf : f = imF i) : imR2 b (b + i + 1) m0 (psF f (b + i) m) := by
  have hf39 : f ≠ 39 := by rw [hf, imF]; split <;> omega
  have hf11 : f = 11 ∨ f < 4 := by rw [hf, imF]; split <;> omega
  rw [psF_r (by rw [h.2.1 40 (by decide) (by decide) (by decide)]; exact hw)]
  refine ⟨fun r h1 h2 => ?_, fun g h1 h2 h3 => ?_, fun q hq hn => ?_, fun r hr p hn => ?_⟩
  · rw [mset_ne _ _ h1]; exact h.1 r h1 h2
  · rw [mset_self, upd_ne _ _ (by omega), upd_ne _ _ h1]; exact h.2.1 g h1 h2 h3
  · rw [mset_self]
    by_cases hqi : q = i
    · subst hqi
      rw [hf, upd_self, h.1 77 (by decide) (by decide)]
    · have hne : imF q ≠ f := fun e => hqi (imF_inj hq hi (e.trans hf))
      have h39 : imF q ≠ 39 := by unfold imF; split <;> omega
      rw [upd_ne _ _ hne, upd_ne _ _ h39]
      exact h.2.2.1 q hq (by omega)
  · omega
theorem imR2_R {b j q : Nat} {m0 m : MemT} (h : imR2 b (b + 5 + 7 * j + q) m0 m) (hw : m0 58 40 = 0) (hq : q < 7) : imR2 b (b + 5 + 7 * j + q + 1) m0 (psR (59 + q) j (b + 5 + 7 * j + q) m) := by
  rw [psR_r (by rw [h.2.1 40 (by decide) (by decide) (by decide)]; exact hw) (by omega)]
  refine ⟨fun r h1 h2 => ?_, fun g h1 h2 h3 => ?_, fun i hi hn => ?_, fun r hr p hn => ?_⟩
  · rw [mset_ne _ _ (by omega), mset_ne _ _ h1]; exact h.1 r h1 h2
  · rw [mset_ne _ _ (by omega), mset_self, upd_ne _ _ h1]; exact h.2.1 g h1 h2 h3
  · have h39 : imF i ≠ 39 := by unfold imF; split <;> omega
    rw [mset_ne _ _ (by omega), mset_self, upd_ne _ _ h39]
    exact h.2.2.1 i hi (by omega)
  · by_cases hrq : r = q
    · subst hrq
      rw [mset_self]
      by_cases hpj : p = j
      · subst hpj
        rw [upd_self, h.1 77 (by decide) (by decide)]
      · rw [upd_ne _ _ hpj]
        exact h.2.2.2 r hr p (by omega)
    · rw [mset_ne _ _ (by omega), mset_ne _ _ (by omega)]
      exact h.2.2.2 r hr p (by omega)
theorem imR2_J {b j : Nat} {m0 m : MemT} (h : imR2 b (b + 5 + 7 * j) m0 m) (hw : m0 58 40 = 0) : imR2 b (b + 5 + 7 * (j + 1)) m0 (psJ b j m) :=
  imR2_R (q := 6) (imR2_R (q := 5) (imR2_R (q := 4) (imR2_R (q := 3) (imR2_R (q := 2) (imR2_R (q := 1) (imR2_R (q := 0) h hw (by decide)) hw (by decide)) hw (by decide)) hw (by decide)) hw (by decide)) hw (by decide)) hw (by decide)
theorem imR2_H {b : Nat} {m0 : MemT} (hw : m0 58 40 = 0) : imR2 b (b + 5) m0 (psH b m0) := by
  have h0 : imR2 b (b + 0) m0 m0 := ⟨fun _ _ _ => rfl, fun _ _ _ _ => rfl, fun _ _ _ => by omega, fun _ _ _ _ => by omega⟩
  exact imR2_F (i := 4) 11 (imR2_F (i := 3) 3 (imR2_F (i := 2) 2 (imR2_F (i := 1) 1 (imR2_F (i := 0) 0 h0 hw (by decide) rfl) hw (by decide) rfl) hw (by decide) rfl) hw (by decide) rfl) hw (by decide) rfl
theorem imR2_A {b : Nat} {m0 : MemT} (hw : m0 58 40 = 0) : imR2 b (b + 61) m0 (psA b m0) := by
  have key : ∀ (n j : Nat) (m : MemT), j + n = 8 → imR2 b (b + 5 + 7 * j) m0 m → imR2 b (b + 61) m0 (itr (psJ b) n j m) := by
    intro n
    induction n with
    | zero => intro j m hj h; have : j = 8 := by omega
              subst this; exact h
    | succ n ih => intro j m hj h; rw [itr_S]; exact ih (j + 1) _ (by omega) (imR2_J h hw)
  exact key 8 0 _ rfl (imR2_H hw)
theorem im_Q {b : Nat} {c : Int32} {m P : MemT} (hP : psA b (imW c 0 m) = P) : (∀ r, r ≠ 58 → (r < 59 ∨ 66 ≤ r) → P r = m r) ∧ P 58 13 = m 58 13 ∧ (∀ i, i < 5 → mI P i = kI b (m 77) i) ∧ ∀ r, r < 7 → ∀ p, p < 8 → mR P r p = kR b (m 77) r p := by
  have hA : imR2 b (b + 61) (imW c 0 m) P := by
    rw [← hP]
    exact imR2_A rfl
  have e77 : imW c 0 m 77 = m 77 := rfl
  obtain ⟨a1, a2, a3, a4⟩ := hA
  rw [e77] at a3 a4
  refine ⟨fun r h1 h2 => ?_, ?_, fun i hi => ?_, fun r hr p hp => ?_⟩
  · rw [a1 r h1 h2, imW, mset_ne _ _ h1]
  · rw [a2 13 (by decide) (by decide) (by decide)]; rfl
  · exact a3 i hi (by omega)
  · exact a4 r hr p (by omega)
theorem rl_restore {t k c : Nat} {μ : MemT} (h : Rel t k c μ) (x : Int32) : (mRestore x (xRestore x μ).2).1 = (xRestore x μ).1 ∧ ∃ t2 k2, Rel t2 k2 c (mRestore x (xRestore x μ).2).2 := by
  by_cases hr : inR x 0 1 = true
  · obtain ⟨i, hi, rfl⟩ := inR_ex (n := 1) hr
    have hb : imB i = 26 ∧ i = 0 ∨ imB i = 34 ∧ i = 1 := by
      rcases (show i = 0 ∨ i = 1 by omega) with rfl | rfl
      · exact Or.inl ⟨rfl, rfl⟩
      · exact Or.inr ⟨rfl, rfl⟩
    have hI : IRel i μ := by
      rcases (show i = 0 ∨ i = 1 by omega) with rfl | rfl
      · exact rl_i0 h
      · exact rl_i1 h
    by_cases h0 : μ 2 i = 0
    · have e1 : xRestore (nI i) μ = (-3, μ) := by rw [xRestore, if_pos hr, cl_8 (by omega), if_pos h0]
      have e2 : mRestore (nI i) μ = (-3, μ) := by rw [mRestore, if_neg (by rw [hr]; decide), cl_8 (by omega), if_pos (by rw [← ir_fl hI]; exact h0)]
      rw [e1, e2]
      exact ⟨rfl, t, k, h⟩
    · have e1 : xRestore (nI i) μ = (1, twCopy 18 (imB i) μ) := by rw [xRestore, if_pos hr, cl_8 (by omega), if_neg h0]
      rw [e1]
      obtain ⟨t2, k2, ht⟩ := ir_tw hI h0
      generalize hm : twCopy 18 (imB i) μ = m
      have vm : ∀ r, (r < 18 ∨ 26 ≤ r) → m r = μ r := fun r h2 => by rw [← hm, cp_ne h2]
      show (mRestore (nI i) m).1 = 1 ∧ ∃ t2 k2, Rel t2 k2 c (mRestore (nI i) m).2
      rw [mRestore, if_neg (by rw [hr]; decide), cl_8 (by omega), if_neg (by rw [vm 78 (by omega), ← ir_fl hI]; exact h0)]
      refine ⟨rfl, t2, k2, ?_⟩
      show Rel t2 k2 c (psA (80 * i) (imW (80 * nI i) 0 m))
      generalize hP : psA (80 * i) (imW (80 * nI i) 0 m) = P
      obtain ⟨g, g13, gI, gR⟩ := im_Q hP
      clear hP
      have Px : ∀ r, r ≠ 58 → (r < 59 ∨ 66 ≤ r) → (r < 18 ∨ 26 ≤ r) → P r = μ r := fun r h1 h2 h3 => by rw [g r h1 h2, vm r h3]
      have both : ∀ e, e < 2 → IRel e μ → IRel e P := fun e he hi2 => by
        have hbe : imB e = 26 ∧ e = 0 ∨ imB e = 34 ∧ e = 1 := by
          rcases (show e = 0 ∨ e = 1 by omega) with rfl | rfl
          · exact Or.inl ⟨rfl, rfl⟩
          · exact Or.inr ⟨rfl, rfl⟩
        refine ir_cong hi2 (by rw [Px 2 (by omega) (by omega) (by omega)]) (by rw [Px 78 (by omega) (by omega) (by omega)]) (fun r h1 h2 f => by rw [Px r (by omega) (by omega) (by omega)]) ?_ ?_ <;> rw [Px 77 (by omega) (by omega) (by omega)] <;> intros <;> rfl
      refine ⟨TRel_cong (fun f hf => ?_) (fun r hr p hp => ?_) (fun f hf => ?_) (fun r hr p hp => ?_) ht, pr_cong (rl_pd h) (by rw [Px 3 (by omega) (by omega) (by omega)]) (by rw [g13, vm 58 (by omega)]) (Px 4 (by omega) (by omega) (by omega)) (Px 66 (by omega) (by omega) (by omega)), both 0 (by decide) (rl_i0 h), both 1 (by decide) (rl_i1 h), ?_, ?_, ?_⟩
      · rw [← cp_I (b := 18) (c := imB i) f hf, hm]
        unfold xI
        rw [g 18 (by omega) (by omega)]
      · rw [← cp_R (b := 18) (c := imB i) r hr p hp, hm]
        unfold xR
        rw [g _ (by omega) (by omega)]
      · rw [gI f hf, vm 77 (by omega)]
      · rw [gR r hr p hp, vm 77 (by omega)]
      · rw [Px 7 (by omega) (by omega) (by omega)]; exact rl_z7 h
      · rw [Px 8 (by omega) (by omega) (by omega)]; exact rl_z8 h
      · rw [Px 9 (by omega) (by omega) (by omega)]; exact rl_z9 h
  · rw [xRestore, if_neg hr]
    refine ⟨?_, t, k, ?_⟩ <;> rw [mRestore, if_pos (by simpa using hr)]
    exact h

