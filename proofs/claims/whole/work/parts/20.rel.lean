/-! the relation of the class's cells and the reference's: a town as five ints (0 persons, 1 colds, 2 limit, 3 day, 4 sights) and seven rows (0 sworn, 1 weight, 2 drift, 3 spouse, 4-6 sights) -/
abbrev TiT : Type := Nat → Int32
abbrev TrT : Type := Nat → Nat → Int32
def xI (b : Nat) (μ : MemT) : TiT := fun i => μ b (7 + i)
def xR (b : Nat) (μ : MemT) : TrT := fun r => μ (b + 1 + r)
def mI (μ : MemT) : TiT := fun i => μ 58 (if i = 4 then 11 else i)
def mR (μ : MemT) : TrT := fun r => μ (59 + r)
def kI (b : Nat) (w : Nat → Int32) : TiT := fun i => w (b + i)
def kR (b : Nat) (w : Nat → Int32) : TrT := fun r p => w (b + 5 + 7 * p + r)
def spOk (t : Nat) (sp : Nat → Int32) (p : Nat) : Prop := sp p = -6 ∨ ∃ q, q < 8 ∧ q ≠ p ∧ sp p = nI q ∧ sp q = nI p ∧ bt (nI t) p = true ∧ bt (nI t) q = true
def TRel (t : Nat) (k : Nat) (a : TiT) (A : TrT) (b : TiT) (B : TrT) : Prop :=
  (t < 256) ∧
  (k ≤ 8) ∧
  (a 0 = nI t) ∧
  (b 0 = nI t) ∧
  (a 1 = b 1) ∧
  (a 2 = b 2) ∧
  (inR (a 2) 0 99 = true) ∧
  (a 3 = b 3) ∧
  (a 4 = nI k) ∧
  (b 4 = nI k) ∧
  (∀ p, p < 8 → bt (nI t) p = true → A 0 p = B 0 p ∧ inR (A 0 p) 1 200 = true) ∧
  (∀ p, p < 8 → bt (nI t) p = true → A 1 p = B 1 p ∧ inR (A 1 p) 1 400 = true) ∧
  (∀ p, p < 8 → bt (nI t) p = true → A 2 p = B 2 p ∧ inR (A 2 p) (-9) 9 = true) ∧
  (∀ p, p < 8 → A 3 p = B 3 p ∧ spOk t (A 3) p) ∧
  (∀ j, j < 8 → A 4 j = B 4 j ∧ A 5 j = B 5 j ∧ A 6 j = B 6 j)
theorem tr_ht {t : Nat} {k : Nat} {a : TiT} {A : TrT} {b : TiT} {B : TrT} (h : TRel t k a A b B) : t < 256 := h.1
theorem tr_hk {t : Nat} {k : Nat} {a : TiT} {A : TrT} {b : TiT} {B : TrT} (h : TRel t k a A b B) : k ≤ 8 := h.2.1
theorem tr_aps {t : Nat} {k : Nat} {a : TiT} {A : TrT} {b : TiT} {B : TrT} (h : TRel t k a A b B) : a 0 = nI t := h.2.2.1
theorem tr_bps {t : Nat} {k : Nat} {a : TiT} {A : TrT} {b : TiT} {B : TrT} (h : TRel t k a A b B) : b 0 = nI t := h.2.2.2.1
theorem tr_cd {t : Nat} {k : Nat} {a : TiT} {A : TrT} {b : TiT} {B : TrT} (h : TRel t k a A b B) : a 1 = b 1 := h.2.2.2.2.1
theorem tr_lm {t : Nat} {k : Nat} {a : TiT} {A : TrT} {b : TiT} {B : TrT} (h : TRel t k a A b B) : a 2 = b 2 := h.2.2.2.2.2.1
theorem tr_lmr {t : Nat} {k : Nat} {a : TiT} {A : TrT} {b : TiT} {B : TrT} (h : TRel t k a A b B) : inR (a 2) 0 99 = true := h.2.2.2.2.2.2.1
theorem tr_dy {t : Nat} {k : Nat} {a : TiT} {A : TrT} {b : TiT} {B : TrT} (h : TRel t k a A b B) : a 3 = b 3 := h.2.2.2.2.2.2.2.1
theorem tr_asg {t : Nat} {k : Nat} {a : TiT} {A : TrT} {b : TiT} {B : TrT} (h : TRel t k a A b B) : a 4 = nI k := h.2.2.2.2.2.2.2.2.1
theorem tr_bsg {t : Nat} {k : Nat} {a : TiT} {A : TrT} {b : TiT} {B : TrT} (h : TRel t k a A b B) : b 4 = nI k := h.2.2.2.2.2.2.2.2.2.1
theorem tr_sw {t : Nat} {k : Nat} {a : TiT} {A : TrT} {b : TiT} {B : TrT} (h : TRel t k a A b B) : ∀ p, p < 8 → bt (nI t) p = true → A 0 p = B 0 p ∧ inR (A 0 p) 1 200 = true := h.2.2.2.2.2.2.2.2.2.2.1
theorem tr_wt {t : Nat} {k : Nat} {a : TiT} {A : TrT} {b : TiT} {B : TrT} (h : TRel t k a A b B) : ∀ p, p < 8 → bt (nI t) p = true → A 1 p = B 1 p ∧ inR (A 1 p) 1 400 = true := h.2.2.2.2.2.2.2.2.2.2.2.1
theorem tr_dr {t : Nat} {k : Nat} {a : TiT} {A : TrT} {b : TiT} {B : TrT} (h : TRel t k a A b B) : ∀ p, p < 8 → bt (nI t) p = true → A 2 p = B 2 p ∧ inR (A 2 p) (-9) 9 = true := h.2.2.2.2.2.2.2.2.2.2.2.2.1
theorem tr_sp {t : Nat} {k : Nat} {a : TiT} {A : TrT} {b : TiT} {B : TrT} (h : TRel t k a A b B) : ∀ p, p < 8 → A 3 p = B 3 p ∧ spOk t (A 3) p := h.2.2.2.2.2.2.2.2.2.2.2.2.2.1
theorem tr_si {t : Nat} {k : Nat} {a : TiT} {A : TrT} {b : TiT} {B : TrT} (h : TRel t k a A b B) : ∀ j, j < 8 → A 4 j = B 4 j ∧ A 5 j = B 5 j ∧ A 6 j = B 6 j := h.2.2.2.2.2.2.2.2.2.2.2.2.2.2
def PRel (c : Nat) (μ : MemT) : Prop :=
  (c ≤ 60) ∧
  (μ 3 1 = nI c) ∧
  (μ 58 13 = nI c) ∧
  (∀ j, j < c → μ 4 j = μ 66 j ∧ inR (μ 4 j) 33 126 = true)
theorem pr_hc {c : Nat} {μ : MemT} (h : PRel c μ) : c ≤ 60 := h.1
theorem pr_ac {c : Nat} {μ : MemT} (h : PRel c μ) : μ 3 1 = nI c := h.2.1
theorem pr_bc {c : Nat} {μ : MemT} (h : PRel c μ) : μ 58 13 = nI c := h.2.2.1
theorem pr_si {c : Nat} {μ : MemT} (h : PRel c μ) : ∀ j, j < c → μ 4 j = μ 66 j ∧ inR (μ 4 j) 33 126 = true := h.2.2.2
def IRel (i : Nat) (μ : MemT) : Prop :=
  (μ 2 i = μ 78 i) ∧
  (μ 2 i ≠ 0 → ∃ t k, TRel t k (xI (imB i) μ) (xR (imB i) μ) (kI (80 * i) (μ 77)) (kR (80 * i) (μ 77)))
theorem ir_fl {i : Nat} {μ : MemT} (h : IRel i μ) : μ 2 i = μ 78 i := h.1
theorem ir_tw {i : Nat} {μ : MemT} (h : IRel i μ) : μ 2 i ≠ 0 → ∃ t k, TRel t k (xI (imB i) μ) (xR (imB i) μ) (kI (80 * i) (μ 77)) (kR (80 * i) (μ 77)) := h.2
def Rel (t : Nat) (k : Nat) (c : Nat) (μ : MemT) : Prop :=
  (TRel t k (xI 18 μ) (xR 18 μ) (mI μ) (mR μ)) ∧
  (PRel c μ) ∧
  (IRel 0 μ) ∧
  (IRel 1 μ) ∧
  (μ 7 0 = 0) ∧
  (μ 8 0 = 0) ∧
  (μ 9 0 = 0)
theorem rl_tw {t : Nat} {k : Nat} {c : Nat} {μ : MemT} (h : Rel t k c μ) : TRel t k (xI 18 μ) (xR 18 μ) (mI μ) (mR μ) := h.1
theorem rl_pd {t : Nat} {k : Nat} {c : Nat} {μ : MemT} (h : Rel t k c μ) : PRel c μ := h.2.1
theorem rl_i0 {t : Nat} {k : Nat} {c : Nat} {μ : MemT} (h : Rel t k c μ) : IRel 0 μ := h.2.2.1
theorem rl_i1 {t : Nat} {k : Nat} {c : Nat} {μ : MemT} (h : Rel t k c μ) : IRel 1 μ := h.2.2.2.1
theorem rl_z7 {t : Nat} {k : Nat} {c : Nat} {μ : MemT} (h : Rel t k c μ) : μ 7 0 = 0 := h.2.2.2.2.1
theorem rl_z8 {t : Nat} {k : Nat} {c : Nat} {μ : MemT} (h : Rel t k c μ) : μ 8 0 = 0 := h.2.2.2.2.2.1
theorem rl_z9 {t : Nat} {k : Nat} {c : Nat} {μ : MemT} (h : Rel t k c μ) : μ 9 0 = 0 := h.2.2.2.2.2.2
theorem rl_say {t k c : Nat} {μ : MemT} (h : Rel t k c μ) (x : Int32) : (mSay c x (xSay c x μ).2).1 = (xSay c x μ).1 ∧ ∃ c2, Rel t k c2 (mSay c x (xSay c x μ).2).2 := by
  by_cases hr : inR x 33 126 = true
  · by_cases hc : c < 60
    · have e1 : xSay c x μ = (nI (c + 1), padAdd c x μ) := by rw [xSay, if_pos hr, if_pos hc]
      rw [e1]
      have e2 : ∀ m, mSay c x m = (nI (c + 1), mset (mset m 66 (upd (m 66) c x)) 58 (upd (m 58) 13 (nI (c + 1)))) := fun m => by
        rw [mSay, if_pos hr, if_neg (by omega)]
      rw [e2]
      obtain ⟨⟨q_ht, q_hk, q_aps, q_bps, q_cd, q_lm, q_lmr, q_dy, q_asg, q_bsg, q_sw, q_wt, q_dr, q_sp, q_si⟩, ⟨s_hc, s_ac, s_bc, s_si⟩, u_i0, u_i1, u_z7, u_z8, u_z9⟩ := h
      refine ⟨rfl, c + 1, ⟨⟨q_ht, q_hk, q_aps, q_bps, q_cd, q_lm, q_lmr, q_dy, q_asg, q_bsg, q_sw, q_wt, q_dr, q_sp, q_si⟩, ⟨by omega, rfl, rfl, ?_⟩, u_i0, u_i1, u_z7, u_z8, u_z9⟩⟩
      intro j hj
      show (upd (μ 4) c x) j = (upd (μ 66) c x) j ∧ inR ((upd (μ 4) c x) j) 33 126 = true
      by_cases hjc : j = c
      · subst hjc; simp [upd, hr]
      · simp only [upd, hjc, if_false]
        exact s_si j (by omega)
    · have : c = 60 := by have := pr_hc (rl_pd h); omega
      subst this
      rw [xSay, if_pos hr, if_neg (by decide)]
      refine ⟨?_, 60, ?_⟩ <;> rw [mSay, if_pos hr, if_pos rfl]
      exact h
  · rw [xSay, if_neg hr]
    refine ⟨?_, c, ?_⟩ <;> rw [mSay, if_neg hr]
    exact h
theorem rl_wipe {t k c : Nat} {μ : MemT} (h : Rel t k c μ) : (mWipe (xWipe μ).2).1 = (xWipe μ).1 ∧ Rel t k 0 (mWipe (xWipe μ).2).2 := by
  obtain ⟨⟨q_ht, q_hk, q_aps, q_bps, q_cd, q_lm, q_lmr, q_dy, q_asg, q_bsg, q_sw, q_wt, q_dr, q_sp, q_si⟩, ⟨s_hc, s_ac, s_bc, s_si⟩, u_i0, u_i1, u_z7, u_z8, u_z9⟩ := h
  refine ⟨s_bc.trans s_ac.symm, ⟨⟨q_ht, q_hk, q_aps, q_bps, q_cd, q_lm, q_lmr, q_dy, q_asg, q_bsg, q_sw, q_wt, q_dr, q_sp, q_si⟩, ⟨by decide, rfl, rfl, fun j hj => absurd hj (by omega)⟩, u_i0, u_i1, u_z7, u_z8, u_z9⟩⟩
theorem rl_forget {t k c : Nat} {μ : MemT} (h : Rel t k c μ) : (mForget (xForget μ).2).1 = (xForget μ).1 ∧ Rel t 0 c (mForget (xForget μ).2).2 := by
  obtain ⟨⟨q_ht, q_hk, q_aps, q_bps, q_cd, q_lm, q_lmr, q_dy, q_asg, q_bsg, q_sw, q_wt, q_dr, q_sp, q_si⟩, ⟨s_hc, s_ac, s_bc, s_si⟩, u_i0, u_i1, u_z7, u_z8, u_z9⟩ := h
  refine ⟨q_bsg.trans q_asg.symm, ⟨⟨q_ht, by decide, q_aps, q_bps, q_cd, q_lm, q_lmr, q_dy, rfl, rfl, q_sw, q_wt, q_dr, q_sp, q_si⟩, ⟨s_hc, s_ac, s_bc, s_si⟩, u_i0, u_i1, u_z7, u_z8, u_z9⟩⟩
theorem rl_limit {t k c : Nat} {μ : MemT} (h : Rel t k c μ) (x : Int32) : (mLimit x (xLimit x μ).2).1 = (xLimit x μ).1 ∧ Rel t k c (mLimit x (xLimit x μ).2).2 := by
  by_cases hr : inR x 0 99 = true
  · rw [xLimit, if_pos hr]
    refine ⟨?_, ?_⟩ <;> rw [mLimit, if_pos hr]
    · exact (tr_lm (rl_tw h)).symm
    · obtain ⟨⟨q_ht, q_hk, q_aps, q_bps, q_cd, q_lm, q_lmr, q_dy, q_asg, q_bsg, q_sw, q_wt, q_dr, q_sp, q_si⟩, ⟨s_hc, s_ac, s_bc, s_si⟩, u_i0, u_i1, u_z7, u_z8, u_z9⟩ := h
      exact ⟨⟨q_ht, q_hk, q_aps, q_bps, q_cd, rfl, hr, q_dy, q_asg, q_bsg, q_sw, q_wt, q_dr, q_sp, q_si⟩, ⟨s_hc, s_ac, s_bc, s_si⟩, u_i0, u_i1, u_z7, u_z8, u_z9⟩
  · rw [xLimit, if_neg hr]
    refine ⟨?_, ?_⟩ <;> rw [mLimit, if_neg hr]
    exact h
theorem rl_weighs {t k c : Nat} {μ : MemT} (h : Rel t k c μ) (x : Int32) : mWeighs x μ = xWeighs x μ := by
  obtain ⟨⟨q_ht, q_hk, q_aps, q_bps, q_cd, q_lm, q_lmr, q_dy, q_asg, q_bsg, q_sw, q_wt, q_dr, q_sp, q_si⟩, ⟨s_hc, s_ac, s_bc, s_si⟩, u_i0, u_i1, u_z7, u_z8, u_z9⟩ := h
  have e1 : μ 58 0 = nI t := q_bps
  have e2 : μ 18 7 = nI t := q_aps
  have e3 : μ 18 8 = μ 58 1 := q_cd
  rw [mWeighs, xWeighs, e1, e2, e3]
  by_cases hp : isP (nI t) x = true
  · obtain ⟨p, hp8, rfl, hpb⟩ := isP_ex hp
    have e4 : μ 20 p = μ 60 p := (q_wt p hp8 hpb).1
    rw [if_pos hp, if_pos hp, cl_8 hp8, e4]
  · rw [if_neg hp, if_neg hp]
theorem rl_off {t k c : Nat} {μ : MemT} (h : Rel t k c μ) (x : Int32) : mOff x μ = xOff x μ := by
  obtain ⟨⟨q_ht, q_hk, q_aps, q_bps, q_cd, q_lm, q_lmr, q_dy, q_asg, q_bsg, q_sw, q_wt, q_dr, q_sp, q_si⟩, ⟨s_hc, s_ac, s_bc, s_si⟩, u_i0, u_i1, u_z7, u_z8, u_z9⟩ := h
  have e1 : μ 58 0 = nI t := q_bps
  have e2 : μ 18 7 = nI t := q_aps
  have e3 : μ 18 8 = μ 58 1 := q_cd
  rw [mOff, xOff, e1, e2, e3]
  by_cases hp : isP (nI t) x = true
  · obtain ⟨p, hp8, rfl, hpb⟩ := isP_ex hp
    have e4 : μ 20 p = μ 60 p := (q_wt p hp8 hpb).1
    have e5 : μ 19 p = μ 59 p := (q_sw p hp8 hpb).1
    rw [if_pos hp, if_pos hp, cl_8 hp8, e4, e5]
  · rw [if_neg hp, if_neg hp]
