/-! the relation of the class's cells and the reference's: a town as five ints (0 persons, 1 colds, 2 limit, 3 day, 4 sights) and seven rows (0 sworn, 1 weight, 2 drift, 3 spouse, 4-6 sights) -/
abbrev TiT : Type := Nat → Int32
abbrev TrT : Type := Nat → Nat → Int32
def xI (b : Nat) (μ : MemT) : TiT := fun i => μ b (7 + i)
def xR (b : Nat) (μ : MemT) : TrT := fun r => μ (b + 1 + r)
def mI (μ : MemT) : TiT := fun i => μ 58 (if i = 4 then 11 else i)
def mR (μ : MemT) : TrT := fun r => μ (59 + r)
def kI (b : Nat) (w : Nat → Int32) : TiT := fun i => w (b + i)
def kR (b : Nat) (w : Nat → Int32) : TrT := fun r p => w (b + 5 + 7 * p + r)
def spOk (t : Nat) (sp : Nat → Int32) (p : Nat) : Prop := sp p = -6 ∨ ∃ q, q < 8 ∧ q ≠ p ∧ sp p = nI q ∧ sp q = nI p ∧ bt (nI t) p = true ∧ bt (nI t) q = true
def TRel (t : Nat) (k : Nat) (a : TiT) (A : TrT) (b : TiT) (B : TrT) : Prop :=
  (t < 256) ∧
  (k ≤ 8) ∧
  (a 0 = nI t) ∧
  (b 0 = nI t) ∧
  (a 1 = b 1) ∧
  (a 2 = b 2) ∧
  (inR (a 2) 0 99 = true) ∧
  (a 3 = b 3) ∧
  (a 4 = nI k) ∧
  (b 4 = nI k) ∧
  (∀ p, p < 8 → bt (nI t) p = true → A 0 p = B 0 p ∧ inR (A 0 p) 1 200 = true) ∧
  (∀ p, p < 8 → bt (nI t) p = true → A 1 p = B 1 p ∧ inR (A 1 p) 1 400 = true) ∧
  (∀ p, p < 8 → bt (nI t) p = true → A 2 p = B 2 p ∧ inR (A 2 p) (-9) 9 = true) ∧
  (∀ p, p < 8 → A 3 p = B 3 p ∧ spOk t (A 3) p) ∧
  (∀ j, j < 8 → A 4 j = B 4 j ∧ A 5 j = B 5 j ∧ A 6 j = B 6 j) ∧
  (∀ j, j < k → A 4 j &&& A 5 j = 0)
theorem tr_ht {t : Nat} {k : Nat} {a : TiT} {A : TrT} {b : TiT} {B : TrT} (h : TRel t k a A b B) : t < 256 := h.1
theorem tr_hk {t : Nat} {k : Nat} {a : TiT} {A : TrT} {b : TiT} {B : TrT} (h : TRel t k a A b B) : k ≤ 8 := h.2.1
theorem tr_aps {t : Nat} {k : Nat} {a : TiT} {A : TrT} {b : TiT} {B : TrT} (h : TRel t k a A b B) : a 0 = nI t := h.2.2.1
theorem tr_bps {t : Nat} {k : Nat} {a : TiT} {A : TrT} {b : TiT} {B : TrT} (h : TRel t k a A b B) : b 0 = nI t := h.2.2.2.1
theorem tr_cd {t : Nat} {k : Nat} {a : TiT} {A : TrT} {b : TiT} {B : TrT} (h : TRel t k a A b B) : a 1 = b 1 := h.2.2.2.2.1
theorem tr_lm {t : Nat} {k : Nat} {a : TiT} {A : TrT} {b : TiT} {B : TrT} (h : TRel t k a A b B) : a 2 = b 2 := h.2.2.2.2.2.1
theorem tr_lmr {t : Nat} {k : Nat} {a : TiT} {A : TrT} {b : TiT} {B : TrT} (h : TRel t k a A b B) : inR (a 2) 0 99 = true := h.2.2.2.2.2.2.1
theorem tr_dy {t : Nat} {k : Nat} {a : TiT} {A : TrT} {b : TiT} {B : TrT} (h : TRel t k a A b B) : a 3 = b 3 := h.2.2.2.2.2.2.2.1
theorem tr_asg {t : Nat} {k : Nat} {a : TiT} {A : TrT} {b : TiT} {B : TrT} (h : TRel t k a A b B) : a 4 = nI k := h.2.2.2.2.2.2.2.2.1
theorem tr_bsg {t : Nat} {k : Nat} {a : TiT} {A : TrT} {b : TiT} {B : TrT} (h : TRel t k a A b B) : b 4 = nI k := h.2.2.2.2.2.2.2.2.2.1
theorem tr_sw {t : Nat} {k : Nat} {a : TiT} {A : TrT} {b : TiT} {B : TrT} (h : TRel t k a A b B) : ∀ p, p < 8 → bt (nI t) p = true → A 0 p = B 0 p ∧ inR (A 0 p) 1 200 = true := h.2.2.2.2.2.2.2.2.2.2.1
theorem tr_wt {t : Nat} {k : Nat} {a : TiT} {A : TrT} {b : TiT} {B : TrT} (h : TRel t k a A b B) : ∀ p, p < 8 → bt (nI t) p = true → A 1 p = B 1 p ∧ inR (A 1 p) 1 400 = true := h.2.2.2.2.2.2.2.2.2.2.2.1
theorem tr_dr {t : Nat} {k : Nat} {a : TiT} {A : TrT} {b : TiT} {B : TrT} (h : TRel t k a A b B) : ∀ p, p < 8 → bt (nI t) p = true → A 2 p = B 2 p ∧ inR (A 2 p) (-9) 9 = true := h.2.2.2.2.2.2.2.2.2.2.2.2.1
theorem tr_sp {t : Nat} {k : Nat} {a : TiT} {A : TrT} {b : TiT} {B : TrT} (h : TRel t k a A b B) : ∀ p, p < 8 → A 3 p = B 3 p ∧ spOk t (A 3) p := h.2.2.2.2.2.2.2.2.2.2.2.2.2.1
theorem tr_si {t : Nat} {k : Nat} {a : TiT} {A : TrT} {b : TiT} {B : TrT} (h : TRel t k a A b B) : ∀ j, j < 8 → A 4 j = B 4 j ∧ A 5 j = B 5 j ∧ A 6 j = B 6 j := h.2.2.2.2.2.2.2.2.2.2.2.2.2.2.1
theorem tr_sd {t : Nat} {k : Nat} {a : TiT} {A : TrT} {b : TiT} {B : TrT} (h : TRel t k a A b B) : ∀ j, j < k → A 4 j &&& A 5 j = 0 := h.2.2.2.2.2.2.2.2.2.2.2.2.2.2.2
def PRel (c : Nat) (μ : MemT) : Prop :=
  (c ≤ 60) ∧
  (μ 3 1 = nI c) ∧
  (μ 58 13 = nI c) ∧
  (∀ j, j < c → μ 4 j = μ 66 j ∧ inR (μ 4 j) 33 126 = true)
theorem pr_hc {c : Nat} {μ : MemT} (h : PRel c μ) : c ≤ 60 := h.1
theorem pr_ac {c : Nat} {μ : MemT} (h : PRel c μ) : μ 3 1 = nI c := h.2.1
theorem pr_bc {c : Nat} {μ : MemT} (h : PRel c μ) : μ 58 13 = nI c := h.2.2.1
theorem pr_si {c : Nat} {μ : MemT} (h : PRel c μ) : ∀ j, j < c → μ 4 j = μ 66 j ∧ inR (μ 4 j) 33 126 = true := h.2.2.2
def IRel (i : Nat) (μ : MemT) : Prop :=
  (μ 2 i = μ 78 i) ∧
  (μ 2 i ≠ 0 → ∃ t k, TRel t k (xI (imB i) μ) (xR (imB i) μ) (kI (80 * i) (μ 77)) (kR (80 * i) (μ 77)))
theorem ir_fl {i : Nat} {μ : MemT} (h : IRel i μ) : μ 2 i = μ 78 i := h.1
theorem ir_tw {i : Nat} {μ : MemT} (h : IRel i μ) : μ 2 i ≠ 0 → ∃ t k, TRel t k (xI (imB i) μ) (xR (imB i) μ) (kI (80 * i) (μ 77)) (kR (80 * i) (μ 77)) := h.2
def Rel (t : Nat) (k : Nat) (c : Nat) (μ : MemT) : Prop :=
  (TRel t k (xI 18 μ) (xR 18 μ) (mI μ) (mR μ)) ∧
  (PRel c μ) ∧
  (IRel 0 μ) ∧
  (IRel 1 μ) ∧
  (μ 7 0 = 0) ∧
  (μ 8 0 = 0) ∧
  (μ 9 0 = 0)
theorem rl_tw {t : Nat} {k : Nat} {c : Nat} {μ : MemT} (h : Rel t k c μ) : TRel t k (xI 18 μ) (xR 18 μ) (mI μ) (mR μ) := h.1
theorem rl_pd {t : Nat} {k : Nat} {c : Nat} {μ : MemT} (h : Rel t k c μ) : PRel c μ := h.2.1
theorem rl_i0 {t : Nat} {k : Nat} {c : Nat} {μ : MemT} (h : Rel t k c μ) : IRel 0 μ := h.2.2.1
theorem rl_i1 {t : Nat} {k : Nat} {c : Nat} {μ : MemT} (h : Rel t k c μ) : IRel 1 μ := h.2.2.2.1
theorem rl_z7 {t : Nat} {k : Nat} {c : Nat} {μ : MemT} (h : Rel t k c μ) : μ 7 0 = 0 := h.2.2.2.2.1
theorem rl_z8 {t : Nat} {k : Nat} {c : Nat} {μ : MemT} (h : Rel t k c μ) : μ 8 0 = 0 := h.2.2.2.2.2.1
theorem rl_z9 {t : Nat} {k : Nat} {c : Nat} {μ : MemT} (h : Rel t k c μ) : μ 9 0 = 0 := h.2.2.2.2.2.2
theorem rl_say {t k c : Nat} {μ : MemT} (h : Rel t k c μ) (x : Int32) : (mSay c x (xSay c x μ).2).1 = (xSay c x μ).1 ∧ ∃ c2, Rel t k c2 (mSay c x (xSay c x μ).2).2 := by
  by_cases hr : inR x 33 126 = true
  · by_cases hc : c < 60
    · have e1 : xSay c x μ = (nI (c + 1), padAdd c x μ) := by rw [xSay, if_pos hr, if_pos hc]
      rw [e1]
      have e2 : ∀ m, mSay c x m = (nI (c + 1), mset (mset m 66 (upd (m 66) c x)) 58 (upd (m 58) 13 (nI (c + 1)))) := fun m => by
        rw [mSay, if_pos hr, if_neg (by omega)]
      rw [e2]
      obtain ⟨⟨q_ht, q_hk, q_aps, q_bps, q_cd, q_lm, q_lmr, q_dy, q_asg, q_bsg, q_sw, q_wt, q_dr, q_sp, q_si, q_sd⟩, ⟨s_hc, s_ac, s_bc, s_si⟩, u_i0, u_i1, u_z7, u_z8, u_z9⟩ := h
      refine ⟨rfl, c + 1, ⟨⟨q_ht, q_hk, q_aps, q_bps, q_cd, q_lm, q_lmr, q_dy, q_asg, q_bsg, q_sw, q_wt, q_dr, q_sp, q_si, q_sd⟩, ⟨by omega, rfl, rfl, ?_⟩, u_i0, u_i1, u_z7, u_z8, u_z9⟩⟩
      intro j hj
      show (upd (μ 4) c x) j = (upd (μ 66) c x) j ∧ inR ((upd (μ 4) c x) j) 33 126 = true
      by_cases hjc : j = c
      · subst hjc; simp [upd, hr]
      · simp only [upd, hjc, if_false]
        exact s_si j (by omega)
    · have : c = 60 := by have := pr_hc (rl_pd h); omega
      subst this
      rw [xSay, if_pos hr, if_neg (by decide)]
      refine ⟨?_, 60, ?_⟩ <;> rw [mSay, if_pos hr, if_pos rfl]
      exact h
  · rw [xSay, if_neg hr]
    refine ⟨?_, c, ?_⟩ <;> rw [mSay, if_neg hr]
    exact h
theorem rl_wipe {t k c : Nat} {μ : MemT} (h : Rel t k c μ) : (mWipe (xWipe μ).2).1 = (xWipe μ).1 ∧ Rel t k 0 (mWipe (xWipe μ).2).2 := by
  obtain ⟨⟨q_ht, q_hk, q_aps, q_bps, q_cd, q_lm, q_lmr, q_dy, q_asg, q_bsg, q_sw, q_wt, q_dr, q_sp, q_si, q_sd⟩, ⟨s_hc, s_ac, s_bc, s_si⟩, u_i0, u_i1, u_z7, u_z8, u_z9⟩ := h
  refine ⟨s_bc.trans s_ac.symm, ⟨⟨q_ht, q_hk, q_aps, q_bps, q_cd, q_lm, q_lmr, q_dy, q_asg, q_bsg, q_sw, q_wt, q_dr, q_sp, q_si, q_sd⟩, ⟨by decide, rfl, rfl, fun j hj => absurd hj (by omega)⟩, u_i0, u_i1, u_z7, u_z8, u_z9⟩⟩
theorem rl_forget {t k c : Nat} {μ : MemT} (h : Rel t k c μ) : (mForget (xForget μ).2).1 = (xForget μ).1 ∧ Rel t 0 c (mForget (xForget μ).2).2 := by
  obtain ⟨⟨q_ht, q_hk, q_aps, q_bps, q_cd, q_lm, q_lmr, q_dy, q_asg, q_bsg, q_sw, q_wt, q_dr, q_sp, q_si, q_sd⟩, ⟨s_hc, s_ac, s_bc, s_si⟩, u_i0, u_i1, u_z7, u_z8, u_z9⟩ := h
  refine ⟨q_bsg.trans q_asg.symm, ⟨⟨q_ht, by decide, q_aps, q_bps, q_cd, q_lm, q_lmr, q_dy, rfl, rfl, q_sw, q_wt, q_dr, q_sp, q_si, fun j hj => absurd hj (Nat.not_lt_zero j)⟩, ⟨s_hc, s_ac, s_bc, s_si⟩, u_i0, u_i1, u_z7, u_z8, u_z9⟩⟩
theorem rl_limit {t k c : Nat} {μ : MemT} (h : Rel t k c μ) (x : Int32) : (mLimit x (xLimit x μ).2).1 = (xLimit x μ).1 ∧ Rel t k c (mLimit x (xLimit x μ).2).2 := by
  by_cases hr : inR x 0 99 = true
  · rw [xLimit, if_pos hr]
    refine ⟨?_, ?_⟩ <;> rw [mLimit, if_pos hr]
    · exact (tr_lm (rl_tw h)).symm
    · obtain ⟨⟨q_ht, q_hk, q_aps, q_bps, q_cd, q_lm, q_lmr, q_dy, q_asg, q_bsg, q_sw, q_wt, q_dr, q_sp, q_si, q_sd⟩, ⟨s_hc, s_ac, s_bc, s_si⟩, u_i0, u_i1, u_z7, u_z8, u_z9⟩ := h
      exact ⟨⟨q_ht, q_hk, q_aps, q_bps, q_cd, rfl, hr, q_dy, q_asg, q_bsg, q_sw, q_wt, q_dr, q_sp, q_si, q_sd⟩, ⟨s_hc, s_ac, s_bc, s_si⟩, u_i0, u_i1, u_z7, u_z8, u_z9⟩
  · rw [xLimit, if_neg hr]
    refine ⟨?_, ?_⟩ <;> rw [mLimit, if_neg hr]
    exact h
theorem rl_weighs {t k c : Nat} {μ : MemT} (h : Rel t k c μ) (x : Int32) : mWeighs x μ = xWeighs x μ := by
  obtain ⟨⟨q_ht, q_hk, q_aps, q_bps, q_cd, q_lm, q_lmr, q_dy, q_asg, q_bsg, q_sw, q_wt, q_dr, q_sp, q_si, q_sd⟩, ⟨s_hc, s_ac, s_bc, s_si⟩, u_i0, u_i1, u_z7, u_z8, u_z9⟩ := h
  have e1 : μ 58 0 = nI t := q_bps
  have e2 : μ 18 7 = nI t := q_aps
  have e3 : μ 18 8 = μ 58 1 := q_cd
  rw [mWeighs, xWeighs, e1, e2, e3]
  by_cases hp : isP (nI t) x = true
  · obtain ⟨p, hp8, rfl, hpb⟩ := isP_ex hp
    have e4 : μ 20 p = μ 60 p := (q_wt p hp8 hpb).1
    rw [if_pos hp, if_pos hp, cl_8 hp8, e4]
  · rw [if_neg hp, if_neg hp]
theorem rl_off {t k c : Nat} {μ : MemT} (h : Rel t k c μ) (x : Int32) : mOff x μ = xOff x μ := by
  obtain ⟨⟨q_ht, q_hk, q_aps, q_bps, q_cd, q_lm, q_lmr, q_dy, q_asg, q_bsg, q_sw, q_wt, q_dr, q_sp, q_si, q_sd⟩, ⟨s_hc, s_ac, s_bc, s_si⟩, u_i0, u_i1, u_z7, u_z8, u_z9⟩ := h
  have e1 : μ 58 0 = nI t := q_bps
  have e2 : μ 18 7 = nI t := q_aps
  have e3 : μ 18 8 = μ 58 1 := q_cd
  rw [mOff, xOff, e1, e2, e3]
  by_cases hp : isP (nI t) x = true
  · obtain ⟨p, hp8, rfl, hpb⟩ := isP_ex hp
    have e4 : μ 20 p = μ 60 p := (q_wt p hp8 hpb).1
    have e5 : μ 19 p = μ 59 p := (q_sw p hp8 hpb).1
    rw [if_pos hp, if_pos hp, cl_8 hp8, e4, e5]
  · rw [if_neg hp, if_neg hp]
theorem bt_or {t p q : Nat} (ht : t < 256) (hp : p < 8) (hq : q < 8) : bt (nI (t ||| 2 ^ p)) q = (bt (nI t) q || decide (p = q)) := by
  rw [mk_bt _ (or2_lt ht hp) q hq, mk_bt t ht q hq, Nat.testBit_or, Nat.testBit_two_pow]
set_option maxRecDepth 100000 in
theorem off_tb : ∀ t, t < 256 → ∀ p, p < 8 → ∀ q, q < 8 → (offN t (2 ^ p)).testBit q = (t.testBit q && !decide (p = q)) := by decide +kernel
theorem bt_off {t p q : Nat} (ht : t < 256) (hp : p < 8) (hq : q < 8) : bt (nI (offN t (2 ^ p))) q = (bt (nI t) q && !decide (p = q)) := by
  have h256 : 2 ^ p < 256 := Nat.pow_lt_pow_right (n := 8) (by decide) hp
  rw [mk_bt _ (mk_off t ht _ h256).2 q hq, mk_bt t ht q hq]
  exact off_tb t ht p hp q hq
theorem nI_n6 : ∀ q, q < 8 → nI q ≠ -6 := by decide
theorem nI_n0 : ∀ q, q < 8 → ¬ nI q < 0 := by decide
theorem on_nI {s : Nat} (h : s < 256) : onI (nI s) = bcI (nI s) := by rw [onI, cl_n (by omega), (mk_bc s h).1]
theorem up_rw {t t2 p : Nat} {a b : Nat → Int32} {x : Int32} {lo hi : Int} (hx : inR x lo hi = true) (hab : ∀ q, q < 8 → bt (nI t) q = true → a q = b q ∧ inR (a q) lo hi = true) (hbt : ∀ q, q < 8 → bt (nI t2) q = true → q ≠ p → bt (nI t) q = true) : ∀ q, q < 8 → bt (nI t2) q = true → upd a p x q = upd b p x q ∧ inR (upd a p x q) lo hi = true := by
  intro q hq hb
  by_cases h : q = p
  · subst h; simp [upd, hx]
  · simp only [upd, if_neg h]
    exact hab q hq (hbt q hq hb h)
theorem spOk_up {t t2 : Nat} {sp : Nat → Int32} {p : Nat} (h : spOk t sp p) (hbt : ∀ q, q < 8 → bt (nI t) q = true → bt (nI t2) q = true) (hp : p < 8) : spOk t2 sp p := by
  rcases h with h | ⟨q, h1, h2, h3, h4, h5, h6⟩
  · exact Or.inl h
  · exact Or.inr ⟨q, h1, h2, h3, h4, hbt p hp h5, hbt q h1 h6⟩
theorem isP_n6 (t : Nat) : isP (nI t) (-6) = false := by
  unfold isP
  rw [show inR (-6) 0 7 = false by decide, Bool.false_and]
theorem pt_eq {t p : Nat} {a b : Nat → Int32} (hp : p < 8) (hs : ∀ r, r < 8 → a r = b r ∧ spOk t a r) : ∀ r, r < 8 → ptW (nI t) p a r = ptM p b r ∧ ∀ t2, (∀ q, q < 8 → bt (nI t) q = true → q ≠ p → bt (nI t2) q = true) → spOk t2 (ptW (nI t) p a) r := by
  intro r hr
  have hab : a p = b p := (hs p hp).1
  rcases (hs p hp).2 with h6 | ⟨q, hq, hqp, h3, h4, h5, h6⟩
  · have e1 : ptW (nI t) p a = upd a p (-6) := by rw [ptW, h6, isP_n6]; rfl
    have e2 : ptM p b = upd b p (-6) := by rw [ptM, ← hab, h6, if_pos (by decide)]
    rw [e1, e2]
    refine ⟨?_, ?_⟩
    · by_cases h : r = p
      · simp [upd, h]
      · simp only [upd, if_neg h]; exact (hs r hr).1
    · intro t2 hb
      by_cases h : r = p
      · exact Or.inl (by simp [upd, h])
      · rcases (hs r hr).2 with g | ⟨s, g1, g2, g3, g4, g5, g6⟩
        · exact Or.inl (by simp only [upd, if_neg h]; exact g)
        · have hsp : s ≠ p := fun e => nI_n6 r hr (by rw [← g4, e, h6])
          exact Or.inr ⟨s, g1, g2, by simp only [upd, if_neg h]; exact g3, by simp only [upd, if_neg hsp]; exact g4, hb r hr g5 h, hb s g1 g6 hsp⟩
  · have hP : isP (nI t) (nI q) = true := by rw [isP_n hq]; exact h6
    have e1 : ptW (nI t) p a = upd (upd a p (-6)) q (-6) := by
      rw [ptW, h3, if_pos hP, show (nI q).toNatClampNeg = q from nI_clamp (by omega)]
    have e2 : ptM p b = upd (upd b q (-6)) p (-6) := by
      rw [ptM, ← hab, h3, if_neg (nI_n0 q hq), cl_8 hq]
    rw [e1, e2]
    refine ⟨?_, ?_⟩
    · by_cases h : r = p
      · subst h; simp [upd]
      · by_cases h' : r = q
        · subst h'; simp [upd]
        · simp only [upd, if_neg h, if_neg h']; exact (hs r hr).1
    · intro t2 hb
      by_cases h : r = p
      · exact Or.inl (by subst h; simp [upd])
      · by_cases h' : r = q
        · exact Or.inl (by subst h'; simp [upd])
        · rcases (hs r hr).2 with g | ⟨s, g1, g2, g3, g4, g5, g6⟩
          · exact Or.inl (by simp only [upd, if_neg h, if_neg h']; exact g)
          · have hsp : s ≠ p := fun e => by
              rw [e, h3] at g4
              exact h' ((nI_eq (by omega) (by omega)).mp g4).symm
            have hsq : s ≠ q := fun e => by
              rw [e, h4] at g4
              exact h ((nI_eq (by omega) (by omega)).mp g4).symm
            exact Or.inr ⟨s, g1, g2, by simp only [upd, if_neg h, if_neg h']; exact g3, by simp only [upd, if_neg hsp, if_neg hsq]; exact g4, hb r hr g5 h, hb s g1 g6 hsp⟩

theorem rl_person {t k c : Nat} {μ : MemT} (h : Rel t k c μ) (x s w d : Int32) : (mPerson x s w d (xPerson x s w d μ).2).1 = (xPerson x s w d μ).1 ∧ ∃ t2, Rel t2 k c (mPerson x s w d (xPerson x s w d μ).2).2 := by
  by_cases h1 : inR x 0 7 = false
  · rw [xPerson, if_pos h1]
    refine ⟨?_, t, ?_⟩ <;> rw [mPerson, if_pos h1]
    exact h
  · by_cases h2 : (inR s 1 200 && (inR w 1 400 && inR d (-9) 9)) = false
    · rw [xPerson, if_neg h1, if_pos h2]
      refine ⟨?_, t, ?_⟩ <;> rw [mPerson, if_neg h1, if_pos h2]
      exact h
    · obtain ⟨⟨q_ht, q_hk, q_aps, q_bps, q_cd, q_lm, q_lmr, q_dy, q_asg, q_bsg, q_sw, q_wt, q_dr, q_sp, q_si, q_sd⟩, ⟨s_hc, s_ac, s_bc, s_si⟩, u_i0, u_i1, u_z7, u_z8, u_z9⟩ := h
      rw [xPerson, if_neg h1, if_neg h2]
      rw [mPerson, if_neg h1, if_neg h2]
      obtain ⟨p, hp7, rfl⟩ := inR_ex (n := 7) (by simpa using h1)
      have hp8 : p < 8 := by omega
      rw [Bool.not_eq_false, Bool.and_eq_true, Bool.and_eq_true] at h2
      rw [cl_8 hp8]
      have g1 : μ 18 7 ||| 1 <<< (nI p &&& 31) = nI (t ||| 2 ^ p) := (congrArg (fun q => q ||| 1 <<< (nI p &&& 31)) q_aps).trans (or2_I hp8)
      have g2 : μ 58 0 ||| 1 <<< (nI p &&& 31) = nI (t ||| 2 ^ p) := (congrArg (fun q => q ||| 1 <<< (nI p &&& 31)) q_bps).trans (or2_I hp8)
      have hb : ∀ q, q < 8 → bt (nI (t ||| 2 ^ p)) q = true → q ≠ p → bt (nI t) q = true := fun q hq hb hn => by
        rw [bt_or q_ht hp8 hq] at hb
        simpa [Ne.symm hn] using hb
      have hu : ∀ q, q < 8 → bt (nI t) q = true → bt (nI (t ||| 2 ^ p)) q = true := fun q hq hb => by rw [bt_or q_ht hp8 hq, hb]; rfl
      refine ⟨?_, t ||| 2 ^ p, ⟨⟨or2_lt q_ht hp8, q_hk, g1, g2, congrArg (fun q => q &&& (1 <<< (nI p &&& 31) ^^^ -1)) q_cd, q_lm, q_lmr, q_dy, q_asg, q_bsg, up_rw h2.1 q_sw hb, up_rw h2.2.1 q_wt hb, up_rw h2.2.2 q_dr hb, fun q hq => ⟨(q_sp q hq).1, spOk_up (q_sp q hq).2 hu hq⟩, q_si, q_sd⟩, ⟨s_hc, s_ac, s_bc, s_si⟩, u_i0, u_i1, u_z7, u_z8, u_z9⟩⟩
      show onI (μ 58 0 ||| 1 <<< (nI p &&& 31)) = bcI (μ 18 7 ||| 1 <<< (nI p &&& 31))
      rw [g1, g2, on_nI (or2_lt q_ht hp8)]
theorem rl_leave {t k c : Nat} {μ : MemT} (h : Rel t k c μ) (x : Int32) : (mLeave x (xLeave x μ).2).1 = (xLeave x μ).1 ∧ ∃ t2, Rel t2 k c (mLeave x (xLeave x μ).2).2 := by
  have h0 := h
  obtain ⟨⟨q_ht, q_hk, q_aps, q_bps, q_cd, q_lm, q_lmr, q_dy, q_asg, q_bsg, q_sw, q_wt, q_dr, q_sp, q_si, q_sd⟩, ⟨s_hc, s_ac, s_bc, s_si⟩, u_i0, u_i1, u_z7, u_z8, u_z9⟩ := h0
  have e1 : μ 58 0 = nI t := q_bps
  have e2 : μ 18 7 = nI t := q_aps
  by_cases hp : isP (nI t) x = true
  · obtain ⟨p, hp8, rfl, hpb⟩ := isP_ex hp
    have f1 : xLeave (nI p) μ = (bcI (twOut 18 p μ 18 7), twOut 18 p μ) := by rw [xLeave, e2, if_pos hp, cl_8 hp8]
    rw [f1]
    have f2 : ∀ m : MemT, m 58 0 = nI t → mLeave (nI p) m = (onI (m 58 0 &&& (1 <<< (nI p &&& 31) ^^^ -1)), mset (mPart p m) 58 (upd (upd (m 58) 0 (m 58 0 &&& (1 <<< (nI p &&& 31) ^^^ -1))) 1 (m 58 1 &&& (1 <<< (nI p &&& 31) ^^^ -1)))) := fun m hm => by
      rw [mLeave, if_pos (by rw [hm]; exact hp), cl_8 hp8]
    rw [f2 _ (show twOut 18 p μ 58 0 = nI t from e1)]
    have g1 : μ 18 7 &&& (1 <<< (nI p &&& 31) ^^^ -1) = nI (offN t (2 ^ p)) := (congrArg (fun q => q &&& (1 <<< (nI p &&& 31) ^^^ -1)) q_aps).trans (of2_I q_ht hp8).1
    have g2 : μ 58 0 &&& (1 <<< (nI p &&& 31) ^^^ -1) = nI (offN t (2 ^ p)) := (congrArg (fun q => q &&& (1 <<< (nI p &&& 31) ^^^ -1)) q_bps).trans (of2_I q_ht hp8).1
    have ht2 := (of2_I q_ht hp8).2
    have hb : ∀ q, q < 8 → bt (nI (offN t (2 ^ p))) q = true → bt (nI t) q = true := fun q hq hb => by
      rw [bt_off q_ht hp8 hq, Bool.and_eq_true] at hb
      exact hb.1
    have hu : ∀ q, q < 8 → bt (nI t) q = true → q ≠ p → bt (nI (offN t (2 ^ p))) q = true := fun q hq hb hn => by
      rw [bt_off q_ht hp8 hq, hb]
      simpa using Ne.symm hn
    have hpt := pt_eq (a := μ 22) (b := μ 62) hp8 q_sp
    refine ⟨?_, offN t (2 ^ p), ⟨⟨ht2, q_hk, g1, g2, congrArg (fun q => q &&& (1 <<< (nI p &&& 31) ^^^ -1)) q_cd, q_lm, q_lmr, q_dy, q_asg, q_bsg, fun q hq hq2 => q_sw q hq (hb q hq hq2), fun q hq hq2 => q_wt q hq (hb q hq hq2), fun q hq hq2 => q_dr q hq (hb q hq hq2), ?_, q_si, q_sd⟩, ⟨s_hc, s_ac, s_bc, s_si⟩, u_i0, u_i1, u_z7, u_z8, u_z9⟩⟩
    · show onI (μ 58 0 &&& (1 <<< (nI p &&& 31) ^^^ -1)) = bcI (μ 18 7 &&& (1 <<< (nI p &&& 31) ^^^ -1))
      rw [g1, g2, on_nI ht2]
    · intro r hr
      show ptW (μ 18 7) p (μ 22) r = ptM p (μ 62) r ∧ spOk _ (ptW (μ 18 7) p (μ 22)) r
      rw [e2]
      exact ⟨(hpt r hr).1, (hpt r hr).2 _ hu⟩
  · have f1 : xLeave x μ = (-1, μ) := by rw [xLeave, e2, if_neg hp]
    have f2 : mLeave x μ = (-1, μ) := by rw [mLeave, e1, if_neg hp]
    rw [f1, f2]
    exact ⟨rfl, t, h⟩
theorem or_and0 (x y n : Int32) : (x ||| y) &&& n = 0 ↔ x &&& n = 0 ∧ y &&& n = 0 := by
  constructor
  · intro h
    have h2 := congrArg Int32.toBitVec h
    rw [Int32.toBitVec_and, Int32.toBitVec_or] at h2
    have key : ∀ i, ((x.toBitVec ||| y.toBitVec) &&& n.toBitVec).getLsbD i = false := fun i => by rw [h2]; simp
    constructor <;> (apply Int32.toBitVec_inj.mp; rw [Int32.toBitVec_and]; apply BitVec.eq_of_getLsbD_eq; intro i hi; have := key i; simp only [BitVec.getLsbD_and, BitVec.getLsbD_or] at this ⊢; rw [show (Int32.toBitVec 0).getLsbD i = false by simp]; revert this; cases x.toBitVec.getLsbD i <;> cases y.toBitVec.getLsbD i <;> cases n.toBitVec.getLsbD i <;> simp)
  · intro ⟨h1, h2⟩
    apply Int32.toBitVec_inj.mp
    have e1 := congrArg Int32.toBitVec h1
    have e2 := congrArg Int32.toBitVec h2
    rw [Int32.toBitVec_and] at e1 e2
    rw [Int32.toBitVec_and, Int32.toBitVec_or]
    apply BitVec.eq_of_getLsbD_eq
    intro i hi
    have k1 := congrArg (fun q => q.getLsbD i) e1
    have k2 := congrArg (fun q => q.getLsbD i) e2
    simp only [BitVec.getLsbD_and, BitVec.getLsbD_or] at k1 k2 ⊢
    rw [show (Int32.toBitVec 0).getLsbD i = false by simp] at k1 k2 ⊢
    revert k1 k2
    cases x.toBitVec.getLsbD i <;> cases y.toBitVec.getLsbD i <;> cases n.toBitVec.getLsbD i <;> simp
theorem subI_or (x y t : Int32) : subI (x ||| y) t = (subI x t && subI y t) := by
  unfold subI
  rw [Bool.eq_iff_iff]
  simp only [decide_eq_true_eq, Bool.and_eq_true]
  exact or_and0 x y _
theorem subI_in {x : Int32} {t : Nat} (ht : t < 256) (h : subI x (nI t) = true) : inR x 1 255 = !decide (x = 0) := by
  obtain ⟨s, hs, rfl, -⟩ := subI_ex ht h
  have e : (nI s).toInt = s := nI_toInt (by omega)
  by_cases h0 : s = 0
  · subst h0; decide
  · have h1 : nI s ≠ 0 := fun q => h0 ((nI_eq (a := s) (b := 0) (by omega) (by decide)).mp q)
    rw [inR_t (by rw [e]; omega) (by rw [e]; omega)]
    simp [h1]
theorem mbw_ar {x y : Int32} {t : Nat} (ht : t < 256) : mbw x y (nI t) = arS x y (nI t) := by
  unfold mbw arS
  rw [subI_or]
  cases hx : subI x (nI t)
  · simp
  · cases hy : subI y (nI t)
    · simp
    · rw [subI_in ht hx, subI_in ht hy]
      simp
theorem w9 {w : Int32} {t : Nat} (h : ¬ w < 10) (h2 : inR w 10 89 = false) : isP (nI t) (w / 10 - 1) = false := by
  cases hp : isP (nI t) (w / 10 - 1)
  · rfl
  · exfalso
    obtain ⟨p, hp8, hpe, -⟩ := isP_ex hp
    have e1 : w / 10 = nI (p + 1) := by rw [← nI_1, ← hpe, Int32.sub_add_cancel]
    have e2 := congrArg Int32.toInt e1
    rw [nI_toInt (by omega), Int32.toInt_div_of_ne_right _ _ (by decide), show (10 : Int32).toInt = 10 from rfl] at e2
    have h3 : ¬ w.toInt < 10 := fun q => h (lt_toInt.mpr q)
    have h4 : ¬ (10 ≤ w.toInt ∧ w.toInt ≤ 89) := of_decide_eq_false h2
    have h5 : 90 ≤ w.toInt := by omega
    rw [Int.tdiv_eq_ediv_of_nonneg (by omega)] at e2
    omega

theorem rl_tell {t k c : Nat} {μ : MemT} (h : Rel t k c μ) (x w : Int32) : mTell x w μ = xTell x w μ := by
  obtain ⟨⟨q_ht, q_hk, q_aps, q_bps, q_cd, q_lm, q_lmr, q_dy, q_asg, q_bsg, q_sw, q_wt, q_dr, q_sp, q_si, q_sd⟩, ⟨s_hc, s_ac, s_bc, s_si⟩, u_i0, u_i1, u_z7, u_z8, u_z9⟩ := h
  have e1 : μ 58 0 = nI t := q_bps
  have e2 : μ 18 7 = nI t := q_aps
  rw [mTell, xTell, e1, e2]
  by_cases hp : isP (nI t) x = false
  · rw [if_pos hp, if_pos hp]
  · rw [if_neg hp, if_neg hp]
    obtain ⟨p, hp8, rfl, hpb⟩ := isP_ex (by simpa using hp)
    have f1 : μ 19 p = μ 59 p := (q_sw p hp8 hpb).1
    have f2 : μ 20 p = μ 60 p := (q_wt p hp8 hpb).1
    have f3 : μ 21 p = μ 61 p := (q_dr p hp8 hpb).1
    have f4 : μ 22 p = μ 62 p := (q_sp p hp8).1
    rw [cl_8 hp8, f1, f2, f3, f4]
theorem rl_told {t k c : Nat} {μ : MemT} (h : Rel t k c μ) (w : Int32) : mTold w μ = xTold w μ := by
  have h0 := h
  obtain ⟨⟨q_ht, q_hk, q_aps, q_bps, q_cd, q_lm, q_lmr, q_dy, q_asg, q_bsg, q_sw, q_wt, q_dr, q_sp, q_si, q_sd⟩, ⟨s_hc, s_ac, s_bc, s_si⟩, u_i0, u_i1, u_z7, u_z8, u_z9⟩ := h0
  have e0 : μ 3 1 = μ 58 13 := s_ac.trans s_bc.symm
  have e1 : μ 18 7 = μ 58 0 := q_aps.trans q_bps.symm
  have e2 : μ 18 8 = μ 58 1 := q_cd
  have e3 : μ 18 9 = μ 58 2 := q_lm
  have e4 : μ 18 10 = μ 58 3 := q_dy
  have e5 : μ 18 11 = μ 58 11 := q_asg.trans q_bsg.symm
  rw [mTold, xTold, e0, e1, e2, e3, e4, e5]
  by_cases hr : inR w 10 89 = true
  · have hr2 : 10 ≤ w.toInt ∧ w.toInt ≤ 89 := of_decide_eq_true hr
    have hn : ∀ z : Int32, z.toInt < 10 → w ≠ z := fun z hz q => by rw [q] at hr2; omega
    have hl : ¬ w < 10 := fun q => by have := lt_toInt.mp q; rw [show (10 : Int32).toInt = 10 from rfl] at this; omega
    rw [if_pos hr, if_neg (hn 0 (by decide)), if_neg (hn 1 (by decide)), if_neg (hn 2 (by decide)), if_neg (hn 3 (by decide)), if_neg (hn 4 (by decide)), if_neg (hn 5 (by decide)), if_neg hl]
    exact rl_tell h _ _
  · rw [if_neg hr]
    repeat' (first | (split; rfl) | skip)
    rename_i hl
    rw [xTell, show μ 18 7 = nI t from q_aps, if_pos (w9 hl (by simpa using hr))]
theorem rl_seen {t k c : Nat} {μ : MemT} (h : Rel t k c μ) (x y z : Int32) : (mSeen k x y z (xSeen k x y z μ).2).1 = (xSeen k x y z μ).1 ∧ ∃ k2, Rel t k2 c (mSeen k x y z (xSeen k x y z μ).2).2 := by
  have h0 := h
  obtain ⟨⟨q_ht, q_hk, q_aps, q_bps, q_cd, q_lm, q_lmr, q_dy, q_asg, q_bsg, q_sw, q_wt, q_dr, q_sp, q_si, q_sd⟩, ⟨s_hc, s_ac, s_bc, s_si⟩, u_i0, u_i1, u_z7, u_z8, u_z9⟩ := h0
  have e1 : μ 58 0 = nI t := q_bps
  have e2 : μ 18 7 = nI t := q_aps
  have key : ∀ m : MemT, m 58 0 = nI t → arS x y (m 58 0) = mbw x y (μ 18 7) := fun m hm => by rw [hm, e2, mbw_ar q_ht]
  by_cases h1 : mbw x y (μ 18 7) = false
  · rw [xSeen, if_pos h1]
    refine ⟨?_, k, ?_⟩ <;> rw [mSeen, if_pos (by rw [key _ e1]; exact h1)]
    exact h
  · by_cases h2 : inR z 0 2 = false
    · rw [xSeen, if_neg h1, if_pos h2]
      refine ⟨?_, k, ?_⟩ <;> rw [mSeen, if_neg (by rw [key _ e1]; exact h1), if_pos h2]
      exact h
    · by_cases h3 : k < 8
      · rw [xSeen, if_neg h1, if_neg h2, if_pos h3]
        rw [mSeen, if_neg (by rw [key _ (show twSee 18 k x y z μ 58 0 = nI t from e1)]; exact h1), if_neg h2, if_neg (by omega)]
        refine ⟨rfl, k + 1, ⟨⟨q_ht, h3, q_aps, q_bps, q_cd, q_lm, q_lmr, q_dy, rfl, rfl, q_sw, q_wt, q_dr, q_sp, ?_, ?_⟩, ⟨s_hc, s_ac, s_bc, s_si⟩, u_i0, u_i1, u_z7, u_z8, u_z9⟩⟩
        · intro j hj
          show upd (μ 23) k x j = upd (μ 63) k x j ∧ upd (μ 24) k y j = upd (μ 64) k y j ∧ upd (μ 25) k z j = upd (μ 65) k z j
          by_cases hjk : j = k
          · subst hjk; simp [upd]
          · simp only [upd, if_neg hjk]; exact q_si j hj
        · intro j hj
          show upd (μ 23) k x j &&& upd (μ 24) k y j = 0
          by_cases hjk : j = k
          · subst hjk
            simp only [upd, if_true]
            have h1' := h1
            rw [Bool.not_eq_false, mbw] at h1'
            simp only [Bool.and_eq_true, decide_eq_true_eq] at h1'
            exact h1'.2.2.2.2
          · simp only [upd, if_neg hjk]; exact q_sd j (by omega)
      · have : k = 8 := by omega
        rw [xSeen, if_neg h1, if_neg h2, if_neg h3]
        refine ⟨?_, k, ?_⟩ <;> rw [mSeen, if_neg (by rw [key _ e1]; exact h1), if_neg h2, if_pos this]
        exact h
