/-! airs: the worlds both find -/
theorem itr_rel {α β : Type} {R : α → β → Prop} {f : Nat → α → α} {g : Nat → β → β} {N : Nat} (h : ∀ j a b, j < N → R a b → R (f j a) (g j b)) : ∀ (n j : Nat) (a : α) (b : β), j + n ≤ N → R a b → R (itr f n j a) (itr g n j b) := by
  intro n
  induction n with
  | zero => intro j a b _ hr; exact hr
  | succ n ih => intro j a b hj hr; rw [itr_S, itr_S]; exact ih (j + 1) _ _ (by omega) (h j a b (by omega) hr)
theorem itr_id {α : Type} {f : Nat → α → α} (h : ∀ j a, f j a = a) : ∀ (n j : Nat) (a : α), itr f n j a = a := by
  intro n
  induction n with
  | zero => intro j a; rfl
  | succ n ih => intro j a; rw [itr_S, h, ih]
theorem itr_all {c d : Nat → Bool} {N : Nat} (h : ∀ p, p < N → c p = !d p) : ∀ (n j : Nat) (v : Bool), j + n ≤ N → itr (fun p b => b && c p) n j v = (v && (fnd d n j).isNone) := by
  intro n
  induction n with
  | zero => intro j v _; rw [itr_0, fnd_0]; simp
  | succ n ih =>
    intro j v hj
    rw [itr_S, ih (j + 1) _ (by omega), h j (by omega)]
    cases hb : d j
    · rw [fnd_f _ hb]; simp
    · rw [fnd_t _ hb]; simp
theorem itr_relL {α β : Type} {R : α → β → Prop} {f : Nat → α → α} {g : Nat → β → β} {L N : Nat} (h : ∀ j a b, L ≤ j → j < N → R a b → R (f j a) (g j b)) : ∀ (n j : Nat) (a : α) (b : β), L ≤ j → j + n ≤ N → R a b → R (itr f n j a) (itr g n j b) := by
  intro n
  induction n with
  | zero => intro j a b _ _ hr; exact hr
  | succ n ih => intro j a b hl hj hr; rw [itr_S, itr_S]; exact ih (j + 1) _ _ (by omega) (by omega) (h j a b hl (by omega) hr)
theorem i_arc (a b c : Int32) : a + b + c = a + c + b := by rw [Int32.add_assoc, Int32.add_comm b, ← Int32.add_assoc]
def okX (x : Int32) : Prop := x = -6 ∨ ∃ p, p < 8 ∧ x = nI p
def We (w z : WsT) : Prop := w.2.2 = z.2.2 ∧ ∀ j, j < w.2.2 → w.1 j = z.1 j ∧ w.2.1 j = z.2.1 j ∧ okX (w.1 j) ∧ inR (w.2.1 j) (-9) 9 = true
theorem we_add {w z : WsT} {b : Bool} {x d : Int32} (h : We w z) (hx : okX x) (hd : inR d (-9) 9 = true) : We (wAdd b x d w) (wAdd b x d z) := by
  unfold wAdd
  rw [← h.1]
  by_cases c : w.2.2 < 145 ∧ b = true
  · rw [if_pos c, if_pos c]
    refine ⟨rfl, fun j hj => ?_⟩
    show upd w.1 w.2.2 x j = upd z.1 w.2.2 x j ∧ upd w.2.1 w.2.2 d j = upd z.2.1 w.2.2 d j ∧ okX (upd w.1 w.2.2 x j) ∧ inR (upd w.2.1 w.2.2 d j) (-9) 9 = true
    by_cases e : j = w.2.2
    · subst e
      rw [upd_self, upd_self, upd_self, upd_self]
      exact ⟨rfl, rfl, hx, hd⟩
    · rw [upd_ne _ _ e, upd_ne _ _ e, upd_ne _ _ e, upd_ne _ _ e]
      have hj2 : j < w.2.2 + 1 := hj
      exact h.2 j (by omega)
  · rw [if_neg c, if_neg c]; exact h
theorem sum_shift (x : Int32) (f : Nat → Int32) (e : Int32) : ∀ (n j : Nat) (a : Int32), itr (fun p s => if bt x p then s + f p else s) n j (a + e) = itr (fun p s => if bt x p then s + f p else s) n j a + e := by
  intro n
  induction n with
  | zero => intro j a; rfl
  | succ n ih =>
    intro j a
    rw [itr_S, itr_S]
    by_cases c : bt x j = true
    · rw [if_pos c, if_pos c, i_arc, ih]
    · rw [if_neg c, if_neg c, ih]
theorem ay_no (t : Int32) (sw : Nat → Int32) (s d : Int32) : ayI t sw s (-6) d = sumB (s &&& t) sw := by
  unfold ayI sumB
  refine itr_cong 8 0 0 (fun p a _ hp => ?_)
  rw [if_neg (nI_n6 p (by omega)), Int32.add_zero]
  by_cases c : bt (s &&& t) p = true
  · rw [if_pos c, if_pos c]
  · rw [if_neg c, if_neg c, Int32.add_zero]
theorem ay_p (t : Int32) (sw : Nat → Int32) (s d : Int32) {p0 : Nat} (h0 : p0 < 8) : ayI t sw s (nI p0) d = sumB (s &&& t) sw + (if bt (s &&& t) p0 then d else 0) := by
  unfold ayI sumB
  have key : ∀ (n j : Nat) (a : Int32), j + n = 8 → itr (fun p a => a + (if bt (s &&& t) p then sw p + (if nI p = nI p0 then d else 0) else 0)) n j a = itr (fun p a => if bt (s &&& t) p then a + sw p else a) n j a + (if j ≤ p0 ∧ bt (s &&& t) p0 = true then d else 0) := by
    intro n
    induction n with
    | zero => intro j a hj; rw [if_neg (by omega), Int32.add_zero]; rfl
    | succ n ih =>
      intro j a hj
      rw [itr_S, itr_S, ih (j + 1) _ (by omega)]
      by_cases e : j = p0
      · subst e
        rw [if_neg (show ¬ (j + 1 ≤ j ∧ bt (s &&& t) j = true) by omega), Int32.add_zero, if_pos rfl]
        by_cases c : bt (s &&& t) j = true
        · rw [if_pos c, if_pos c, if_pos ⟨Nat.le_refl _, c⟩, ← Int32.add_assoc, sum_shift]
        · rw [if_neg c, if_neg c, if_neg (fun q => c q.2), Int32.add_zero, Int32.add_zero]
      · have hne : ¬ nI j = nI p0 := fun q => e ((nI_eq (by omega) (by omega)).mp q)
        rw [if_neg hne, Int32.add_zero]
        have hc : (if j + 1 ≤ p0 ∧ bt (s &&& t) p0 = true then d else 0) = (if j ≤ p0 ∧ bt (s &&& t) p0 = true then d else 0) := by
          by_cases c : j + 1 ≤ p0 ∧ bt (s &&& t) p0 = true
          · rw [if_pos c, if_pos ⟨by omega, c.2⟩]
          · rw [if_neg c, if_neg (fun q => c ⟨by omega, q.2⟩)]
        rw [hc]
        by_cases c : bt (s &&& t) j = true
        · rw [if_pos c, if_pos c]
        · rw [if_neg c, if_neg c, Int32.add_zero]
  rw [key 8 0 0 rfl]
  congr 1
  by_cases c : bt (s &&& t) p0 = true
  · rw [if_pos c, if_pos ⟨Nat.zero_le _, c⟩]
  · rw [if_neg c, if_neg (fun q => c q.2)]
theorem ha_bal (D : Int32) : (if ¬ 0 ≤ D then (0 : Int32) else if D = 0 then 1 else 2) = balI D 0 := by
  unfold balI
  by_cases c : D < 0
  · rw [if_pos c, if_pos]
    intro q
    have h1 := lt_toInt.mp c
    have h2 := le_toInt.mp q
    omega
  · rw [if_neg c, if_neg]
    intro q
    apply q
    refine le_toInt.mpr ?_
    have : ¬ D.toInt < (0 : Int32).toInt := fun z => c (lt_toInt.mpr z)
    omega
theorem isP_m6 (x : Int32) : isP x (-6) = false := by
  unfold isP
  rw [show inR (-6) 0 7 = false by decide, Bool.false_and]
theorem alg1 (a b d : Int32) : a + d - (b + 0) = a - b + d := by
  rw [Int32.add_zero, Int32.sub_eq_add_neg, Int32.sub_eq_add_neg, i_arc]
theorem alg2 (a b d : Int32) : a + 0 - (b + d) = a - b - d := by
  rw [Int32.add_zero, Int32.sub_eq_add_neg, Int32.sub_eq_add_neg, Int32.sub_eq_add_neg, Int32.neg_add, Int32.sub_eq_add_neg, Int32.add_assoc]
theorem alg3 (a b : Int32) : a + 0 - (b + 0) = a - b := by rw [Int32.add_zero, Int32.add_zero]
theorem led_eq {t : Nat} {sw swc sf ss l : Nat → Int32} {x d a b : Int32} {j : Nat} (ht : t < 256) (hx : (x = -6 ∧ d = 0) ∨ ∃ p, p < 8 ∧ x = nI p ∧ bt (nI t) p = true) (hl : l j = sumB (sf j &&& nI t) swc - sumB (ss j &&& nI t) swc) (ha : a = sf j) (hb : b = ss j) (hdis : sf j &&& ss j = 0) (hsw : ∀ p, p < 8 → bt (nI t) p = true → swc p = sw p) : haI (nI t) sw a b x d = balI (ledR sf ss l x d j) 0 := by
  subst ha hb
  have hs : ∀ z : Int32, sumB (z &&& nI t) swc = sumB (z &&& nI t) sw := fun z => sumB_cong (fun p hp hb => hsw p hp (by
    rw [bt_and hp, Bool.and_eq_true] at hb
    exact hb.2))
  rw [hs, hs] at hl
  unfold haI
  rw [ha_bal]
  congr 1
  unfold ledR
  rcases hx with ⟨rfl, rfl⟩ | ⟨p, hp, rfl, hpb⟩
  · rw [isP_m6, isP_m6, ay_no, ay_no, hl]
    rfl
  · rw [isP_n hp, isP_n hp, ay_p _ _ _ _ hp, ay_p _ _ _ _ hp, bt_and hp, bt_and hp, hpb, Bool.and_true, Bool.and_true, hl]
    by_cases c1 : bt (sf j) p = true
    · have c2 : ¬ bt (ss j) p = true := fun q => bt_dis hdis hp ⟨c1, q⟩
      rw [if_pos c1, if_neg c2, if_pos c1]
      exact alg1 _ _ _
    · rw [if_neg c1, if_neg c1]
      by_cases c2 : bt (ss j) p = true
      · rw [if_pos c2, if_pos c2]; exact alg2 _ _ _
      · rw [if_neg c2, if_neg c2]; exact alg3 _ _
theorem dI_in {j : Nat} (h : j < 19) : inR (dI j) (-9) 9 = true := by
  have := dI_toInt (j := j) (by omega)
  exact inR_t (by omega) (by omega)
theorem ws_eq {t k c : Nat} {μ : MemT} (h : Rel t k c μ) {M : MemT} (hM : ∀ r, 58 ≤ r → M r = μ r) : We (wsX k μ) (mWs k M) := by
  have hz := h
  obtain ⟨⟨q_ht, q_hk, q_aps, q_bps, q_cd, q_lm, q_lmr, q_dy, q_asg, q_bsg, q_sw, q_wt, q_dr, q_sp, q_si, q_sd⟩, ⟨s_hc, s_ac, s_bc, s_si⟩, u_i0, u_i1, u_z7, u_z8, u_z9⟩ := hz
  have e1 : M 58 0 = nI t := by rw [hM 58 (by decide)]; exact q_bps
  have e2 : μ 18 7 = nI t := q_aps
  have hsw : ∀ p, p < 8 → bt (nI t) p = true → μ 19 p = μ 59 p ∧ inR (μ 19 p) 1 200 = true := q_sw
  generalize hL : ldR (μ 18 7) (μ 19) (μ 23) (μ 24) k 0 (μ 14) = l
  have hl : ∀ j, j < k → l j = sumB (μ 23 j &&& nI t) (μ 19) - sumB (μ 24 j &&& nI t) (μ 19) := fun j hj => by
    rw [← hL, e2]
    unfold ldR
    rw [itr_ptw (g := fun j _ => sumB (μ 23 j &&& nI t) (μ 19) - sumB (μ 24 j &&& nI t) (μ 19)) (fun _ _ => rfl), if_pos (by omega)]
  have seen : ∀ x d, ((x = -6 ∧ d = 0) ∨ ∃ p, p < 8 ∧ x = nI p ∧ bt (nI t) p = true) → seenB k (μ 23) (μ 24) (μ 25) l x d = isW k M x d := fun x d hx => by
    unfold seenB isW
    have := itr_all (c := fun j => decide (haI (M 58 0) (M 59) (M 63 j) (M 64 j) x d = M 65 j)) (d := unsB (μ 23) (μ 24) (μ 25) l x d) (N := k) (fun j hj => by
      have s1 : μ 23 j = μ 63 j ∧ μ 24 j = μ 64 j ∧ μ 25 j = μ 65 j := q_si j (by omega)
      have s2 : μ 23 j &&& μ 24 j = 0 := q_sd j hj
      rw [unsB, Bool.not_not, e1, hM 59 (by decide), hM 63 (by decide), hM 64 (by decide), hM 65 (by decide)]
      rw [led_eq (swc := μ 19) (sf := μ 23) (ss := μ 24) (l := l) (j := j) q_ht hx (hl j hj) s1.1.symm s1.2.1.symm s2 (fun p hp hb => (hsw p hp hb).1), s1.2.2]) k 0 true (by omega)
    rw [Bool.true_and] at this
    exact this.symm
  have h0 : We (wAdd (seenB k (μ 23) (μ 24) (μ 25) l (-6) 0) (-6) 0 (μ 12, μ 13, 0)) (wAdd (isW k M (-6) 0) (-6) 0 (M 75, M 76, 0)) := by
    rw [seen (-6) 0 (Or.inl ⟨rfl, rfl⟩)]
    exact we_add ⟨rfl, fun j hj => absurd hj (Nat.not_lt_zero j)⟩ (Or.inl rfl) (by decide)
  unfold wsX wAll mWs
  rw [hL]
  refine itr_rel (R := We) (N := 8) (fun p w z hp hw => ?_) 8 0 _ _ (by decide) h0
  rw [e2]
  unfold mwP
  by_cases hb : bt (nI t) p = true
  · rw [if_pos hb]
    unfold wOf
    refine itr_rel (R := We) (N := 19) (fun j w z hj hw => ?_) 19 0 _ _ (by decide) hw
    unfold mwS
    rw [e1, isP_n hp, hb, ← seen (nI p) (dI j) (Or.inr ⟨p, hp, rfl, hb⟩), hM 59 (by decide), ← (hsw p hp hb).1]
    have hc : ¬ μ 19 p + dI j < 1 ↔ ¬ μ 19 p + dI j ≤ 0 := by
      rw [lt_toInt, le_toInt, show (1 : Int32).toInt = 1 from rfl, ti_0]; omega
    by_cases hn : ¬ dI j = 0 ∧ ¬ μ 19 p + dI j < 1
    · rw [if_pos hn]
      cases hs : seenB k (μ 23) (μ 24) (μ 25) l (nI p) (dI j)
      · rw [if_neg (fun q => by have := q.2.2.2; cases this)]
        have : wAdd false (nI p) (dI j) w = w := by unfold wAdd; rw [if_neg (fun q => by have := q.2; cases this)]
        rw [this]; exact hw
      · rw [if_pos ⟨rfl, hn.1, hc.mp hn.2, rfl⟩]
        exact we_add hw (Or.inr ⟨p, hp, rfl⟩) (dI_in hj)
    · rw [if_neg hn, if_neg (fun q => hn ⟨q.2.1, hc.mpr q.2.2.1⟩)]
      exact hw
  · rw [if_neg hb]
    rw [itr_id]
    · exact hw
    · intro j a
      unfold mwS
      rw [e1, isP_n hp]
      exact if_neg (fun q => hb q.1)
theorem find_ne {r : Nat} (h : r < 11 ∨ 15 ≤ r) (k : Nat) (μ : MemT) : findM k μ r = μ r := by
  rw [findM, wPut_ne _ _ (by omega) (by omega) (by omega), leadM, mset_ne _ _ (by omega)]
theorem mfind_ne {r : Nat} (h1 : r ≠ 58) (h2 : r ≠ 75) (h3 : r ≠ 76) (k : Nat) (μ : MemT) : mFind k μ r = μ r := mPut_ne _ _ h1 h2 h3
theorem rl_fit {t k c : Nat} {μ : MemT} (h : Rel t k c μ) {m : MemT} (g : ∀ r, (r < 11 ∨ 16 ≤ r) → m r = μ r) : Rel t k c m := rl_cong h (g 2 (by decide)) (g 78 (by decide)) (g 77 (by decide)) (by rw [g 3 (by decide)]) (g 4 (by decide)) (g 66 (by decide)) (fun r h1 h2 => g r (by omega)) (fun r h1 h2 p _ => by rw [g r (by omega)]) (fun f hf => by rw [g 58 (by decide)]) (by rw [g 7 (by decide)]; exact rl_z7 h) (by rw [g 8 (by decide)]; exact rl_z8 h) (by rw [g 9 (by decide)]; exact rl_z9 h)
theorem rl_mfind {t k c : Nat} {μ : MemT} (h : Rel t k c μ) : Rel t k c (mFind k μ) := by
  have g : ∀ r, r ≠ 58 → r ≠ 75 → r ≠ 76 → mFind k μ r = μ r := fun r h1 h2 h3 => mfind_ne h1 h2 h3 k μ
  exact rl_cong h (g 2 (by decide) (by decide) (by decide)) (g 78 (by decide) (by decide) (by decide)) (g 77 (by decide) (by decide) (by decide)) (by rw [g 3 (by decide) (by decide) (by decide)]) (g 4 (by decide) (by decide) (by decide)) (g 66 (by decide) (by decide) (by decide)) (fun r h1 h2 => g r (by omega) (by omega) (by omega)) (fun r h1 h2 p _ => by rw [g r (by omega) (by omega) (by omega)]) (fun f hf => mPut_f _ _ (by omega)) (by rw [g 7 (by decide) (by decide) (by decide)]; exact rl_z7 h) (by rw [g 8 (by decide) (by decide) (by decide)]; exact rl_z8 h) (by rw [g 9 (by decide) (by decide) (by decide)]; exact rl_z9 h)
theorem fnd_lt {c : Nat → Bool} {i : Nat} : ∀ (n j : Nat), fnd c n j = some i → j ≤ i ∧ i < j + n := by
  intro n
  induction n with
  | zero => intro j h; cases h
  | succ n ih =>
    intro j h
    rw [fnd] at h
    split at h
    · cases h; omega
    · have := ih (j + 1) h; omega
theorem okX_neg {x : Int32} (h : okX x) : x < 0 ↔ x = -6 := by
  rcases h with rfl | ⟨p, hp, rfl⟩
  · decide
  · exact ⟨fun q => absurd q (nI_n0 p hp), fun q => absurd q (nI_n6 p hp)⟩
theorem rl_airs {t k c : Nat} {μ : MemT} (h : Rel t k c μ) (w : Int32) : (mAirs k w (xAirs k w μ).2).1 = (xAirs k w μ).1 ∧ Rel t k c (mAirs k w (xAirs k w μ).2).2 := by
  by_cases hr : inR w 0 1 = true
  · have nf : ¬ inR w 0 1 = false := by rw [hr]; decide
    rw [xAirs, if_pos hr]
    show (mAirs k w (findM k μ)).1 = (if w = 0 then nI (wsX k μ).2.2 else suB (wsX k μ).2.2 (wsX k μ).1) ∧ Rel t k c (mAirs k w (findM k μ)).2
    obtain ⟨w1, w2⟩ := ws_eq h (M := findM k μ) (fun r hr => find_ne (by omega) k μ)
    rw [mAirs, if_neg nf]
    refine ⟨?_, rl_mfind (rl_fit h (fun r hr => find_ne (by omega) k μ))⟩
    show (if w = 0 then nI (mWs k (findM k μ)).2.2 else itr (aiI (mWs k (findM k μ)).1) (mWs k (findM k μ)).2.2 0 0) = _
    rw [← w1]
    congr 1
    unfold suB
    refine itr_cong _ 0 0 (fun j s _ hj => ?_)
    obtain ⟨v1, v2, v3, v4⟩ := w2 j (by omega)
    rw [aiI, ← v1]
    by_cases e : (wsX k μ).1 j = -6
    · rw [if_pos e, if_pos ((okX_neg v3).mpr e)]; exact or_0 s
    · rw [if_neg e, if_neg (fun q => e ((okX_neg v3).mp q))]
  · have nf : inR w 0 1 = false := by simpa using hr
    rw [xAirs, if_neg hr]
    show (mAirs k w μ).1 = -2 ∧ Rel t k c (mAirs k w μ).2
    rw [mAirs, if_pos nf]
    exact ⟨rfl, h⟩
theorem rl_air {t k c : Nat} {μ : MemT} (h : Rel t k c μ) (x : Int32) : (mAir k x (xAir k x μ).2).1 = (xAir k x μ).1 ∧ Rel t k c (mAir k x (xAir k x μ).2).2 := by
  have e1 : μ 58 0 = nI t := show mI μ 0 = nI t from tr_bps (rl_tw h)
  have e2 : μ 18 7 = nI t := tr_aps (rl_tw h)
  by_cases hp : isP (nI t) x = true
  · rw [xAir, e2, if_pos hp]
    show (mAir k x (findM k μ)).1 = lmB (wsX k μ).2.2 (wsX k μ).1 (wsX k μ).2.1 x ∧ Rel t k c (mAir k x (findM k μ)).2
    obtain ⟨w1, w2⟩ := ws_eq h (M := findM k μ) (fun r hr => find_ne (by omega) k μ)
    rw [mAir, find_ne (by decide), e1, if_neg (by rw [hp]; decide)]
    refine ⟨?_, rl_mfind (rl_fit h (fun r hr => find_ne (by omega) k μ))⟩
    show mAirV x (mWs k (findM k μ)) = _
    unfold mAirV lmB
    rw [← w1]
    have : fnd (fun j => decide ((mWs k (findM k μ)).1 j = x)) (wsX k μ).2.2 0 = fnd (fun j => decide ((wsX k μ).1 j = x)) (wsX k μ).2.2 0 := fnd_cong _ 0 (fun j _ hj => by rw [(w2 j (by omega)).1])
    rw [this]
    cases hf : fnd (fun j => decide ((wsX k μ).1 j = x)) (wsX k μ).2.2 0 with
    | none => rfl
    | some j =>
      show (mWs k (findM k μ)).2.1 j + 100 = (wsX k μ).2.1 j + 100
      rw [(w2 j (by have := fnd_lt _ 0 hf; omega)).2.1]
  · have nf : isP (nI t) x = false := by simpa using hp
    rw [xAir, e2, if_neg hp]
    show (mAir k x μ).1 = -1 ∧ Rel t k c (mAir k x μ).2
    rw [mAir, e1, if_pos nf]
    exact ⟨rfl, h⟩
/-! cross: how many stay -/
def cN (c p q : Nat) (sw wr mr : Nat → Int32) (i : Nat) : Nat := smN (fun j => if balN (wSp sw wr mr p j) (wSp sw wr mr q j) = i then 1 else 0) c 0
theorem cN_sum (p q : Nat) (sw wr mr : Nat → Int32) : ∀ (n j : Nat), smN (fun j => if balN (wSp sw wr mr p j) (wSp sw wr mr q j) = 0 then 1 else 0) n j + smN (fun j => if balN (wSp sw wr mr p j) (wSp sw wr mr q j) = 1 then 1 else 0) n j + smN (fun j => if balN (wSp sw wr mr p j) (wSp sw wr mr q j) = 2 then 1 else 0) n j = n := by
  intro n
  induction n with
  | zero => intro j; rfl
  | succ n ih =>
    intro j
    simp only [smN]
    have := ih (j + 1)
    have hb := balN_lt (wSp sw wr mr p j) (wSp sw wr mr q j)
    rcases (show balN (wSp sw wr mr p j) (wSp sw wr mr q j) = 0 ∨ balN (wSp sw wr mr p j) (wSp sw wr mr q j) = 1 ∨ balN (wSp sw wr mr p j) (wSp sw wr mr q j) = 2 by omega) with e | e | e <;> simp only [e] <;> simp <;> omega
theorem tl_at (p q : Nat) (sw wr mr : Nat → Int32) (i : Nat) : ∀ (n j : Nat) (l : Nat → Int32) (a : Nat), l i = nI a → itr (tlS sw wr mr p q) n j l i = nI (a + smN (fun j => if balN (wSp sw wr mr p j) (wSp sw wr mr q j) = i then 1 else 0) n j) := by
  intro n
  induction n with
  | zero => intro j l a h; exact h
  | succ n ih =>
    intro j l a h
    rw [itr_S, smN]
    by_cases e : balN (wSp sw wr mr p j) (wSp sw wr mr q j) = i
    · have : tlS sw wr mr p q j l i = nI (a + 1) := by
        rw [tlS, e, upd_self, h]; exact nI_1 a
      rw [ih (j + 1) _ (a + 1) this, if_pos e, Nat.add_assoc]
    · have : tlS sw wr mr p q j l i = nI a := by
        rw [tlS, upd_ne _ _ (fun z => e z.symm), h]
      rw [ih (j + 1) _ a this, if_neg e, Nat.zero_add]
theorem mx2_n {a b : Nat} (ha : a < 2 ^ 31) (hb : b < 2 ^ 31) : mx2 (nI a) (nI b) = nI (max a b) := by
  unfold mx2
  by_cases c : a < b
  · rw [if_pos ((nJ_lt ha hb).mpr c), Nat.max_eq_right (by omega)]
  · rw [if_neg (fun q => c ((nJ_lt ha hb).mp q)), Nat.max_eq_left (by omega)]
theorem mxI_n {a b : Nat} (ha : a < 2 ^ 31) (hb : b < 2 ^ 31) : mxI (nI a) (nI b) = nI (max a b) := by
  unfold mxI
  by_cases c : a ≤ b
  · rw [if_pos ((nJ_le ha hb).mpr c), Nat.max_eq_right c]
  · rw [if_neg (fun q => c ((nJ_le ha hb).mp q)), Nat.max_eq_left (by omega)]
theorem ay_one {t : Nat} (ht : t < 256) (sw : Nat → Int32) {p : Nat} (hp : p < 8) (hb : bt (nI t) p = true) (x d : Int32) : ayI (nI t) sw (1 <<< (nI p &&& 31)) x d = sw p + (if nI p = x then d else 0) := by
  unfold ayI
  have hbit : ∀ r, r < 8 → bt ((1 : Int32) <<< (nI p &&& 31) &&& nI t) r = decide (p = r) := fun r hr => by
    rw [bt_and hr, mk_shl p hp, mk_bt _ (Nat.pow_lt_pow_right (n := 8) (by decide) hp) r hr, Nat.testBit_two_pow]
    by_cases e : p = r
    · subst e; simp [hb]
    · simp [e]
  have key : ∀ (n j : Nat) (a : Int32), j + n = 8 → itr (fun r a => a + (if bt ((1 : Int32) <<< (nI p &&& 31) &&& nI t) r then sw r + (if nI r = x then d else 0) else 0)) n j a = a + (if j ≤ p then sw p + (if nI p = x then d else 0) else 0) := by
    intro n
    induction n with
    | zero => intro j a hj; rw [if_neg (by omega), Int32.add_zero]; rfl
    | succ n ih =>
      intro j a hj
      rw [itr_S, ih (j + 1) _ (by omega), hbit j (by omega)]
      by_cases e : p = j
      · subst e
        rw [if_pos (show decide (p = p) = true by simp), if_neg (show ¬ p + 1 ≤ p by omega), if_pos (Nat.le_refl p), Int32.add_zero]
      · rw [if_neg (by simp [e]), Int32.add_zero]
        by_cases c : j ≤ p
        · rw [if_pos c, if_pos (by omega)]
        · rw [if_neg c, if_neg (by omega)]
  rw [key 8 0 0 rfl, if_pos (Nat.zero_le _), Int32.zero_add]
theorem sp_rng {sw wr mr : Nat → Int32} {p j : Nat} (h1 : inR (sw p) 1 200 = true) (h2 : inR (mr j) (-9) 9 = true) : -10 ≤ (wSp sw wr mr p j).toInt ∧ (wSp sw wr mr p j).toInt ≤ 300 := by
  have a := inR_of h1
  have b := inR_of h2
  unfold wSp
  by_cases c : wr j = nI p
  · rw [if_pos c, Int32.toInt_add, Int.bmod_eq_of_le (by omega) (by omega)]; omega
  · rw [if_neg c, Int32.add_zero]; omega
theorem ha_sp {t : Nat} (ht : t < 256) {sw wr mr : Nat → Int32} {p q j : Nat} (hp : p < 8) (hq : q < 8) (hpb : bt (nI t) p = true) (hqb : bt (nI t) q = true) (h1 : inR (sw p) 1 200 = true) (h2 : inR (sw q) 1 200 = true) (h3 : inR (mr j) (-9) 9 = true) : haI (nI t) sw (1 <<< (nI p &&& 31)) (1 <<< (nI q &&& 31)) (wr j) (mr j) = nI (balN (wSp sw wr mr p j) (wSp sw wr mr q j)) := by
  unfold haI
  rw [ay_one ht sw hp hpb, ay_one ht sw hq hqb]
  have e1 : sw p + (if nI p = wr j then mr j else 0) = wSp sw wr mr p j := by
    unfold wSp
    congr 1
    by_cases c : wr j = nI p
    · rw [if_pos c, if_pos c.symm]
    · rw [if_neg c, if_neg (fun z => c z.symm)]
  have e2 : sw q + (if nI q = wr j then mr j else 0) = wSp sw wr mr q j := by
    unfold wSp
    congr 1
    by_cases c : wr j = nI q
    · rw [if_pos c, if_pos c.symm]
    · rw [if_neg c, if_neg (fun z => c z.symm)]
  rw [e1, e2, ← balI_n]
  have r1 := sp_rng (wr := wr) h1 h3
  have r2 := sp_rng (wr := wr) h2 h3
  generalize wSp sw wr mr p j = A at r1 ⊢
  generalize wSp sw wr mr q j = B at r2 ⊢
  have hD : (A - B).toInt = A.toInt - B.toInt := by
    rw [Int32.toInt_sub]; exact Int.bmod_eq_of_le (by omega) (by omega)
  unfold balI
  by_cases c : A < B
  · have := lt_toInt.mp c
    rw [if_pos c, if_pos]
    intro z
    have := le_toInt.mp z
    rw [hD, ti_0] at this
    omega
  · have hn : ¬ A.toInt < B.toInt := fun z => c (lt_toInt.mpr z)
    rw [if_neg c, if_neg (fun z => z (le_toInt.mpr (by rw [hD, ti_0]; omega)))]
    by_cases e : A = B
    · subst e; rw [if_pos (Int32.sub_self A), if_pos rfl]
    · rw [if_neg e, if_neg]
      intro z
      apply e
      have := congrArg Int32.toInt z
      rw [hD, ti_0] at this
      exact Int32.toInt_inj.mp (by omega)
theorem ml_eq {t c : Nat} (ht : t < 256) {sw wr mr : Nat → Int32} {p q : Nat} {m : MemT} (hp : p < 8) (hq : q < 8) (hpb : bt (nI t) p = true) (hqb : bt (nI t) q = true) (h0 : m 58 0 = nI t) (s1 : m 59 p = sw p) (s2 : m 59 q = sw q) (h1 : inR (sw p) 1 200 = true) (h2 : inR (sw q) 1 200 = true) (h3 : ∀ j, j < c → m 75 j = wr j ∧ m 76 j = mr j ∧ inR (mr j) (-9) 9 = true) : mlR c (nI p) (nI q) m = (nI (cN c p q sw wr mr 0), nI (cN c p q sw wr mr 1)) := by
  unfold mlR cN
  have hh : ∀ j, j < c → haI (m 58 0) (m 59) (1 <<< (nI p &&& 31)) (1 <<< (nI q &&& 31)) (m 75 j) (m 76 j) = nI (balN (wSp sw wr mr p j) (wSp sw wr mr q j)) := fun j hj => by
    obtain ⟨g1, g2, g3⟩ := h3 j hj
    have hb := ha_sp (wr := m 75) (mr := m 76) (sw := m 59) (j := j) ht hp hq hpb hqb (by rw [s1]; exact h1) (by rw [s2]; exact h2) (by rw [g2]; exact g3)
    rw [h0, hb]
    unfold wSp
    rw [s1, s2, g1, g2]
  have key : ∀ (n j a b : Nat), j + n = c → itr (mlS (nI p) (nI q) m) n j (nI a, nI b) = (nI (a + smN (fun j => if balN (wSp sw wr mr p j) (wSp sw wr mr q j) = 0 then 1 else 0) n j), nI (b + smN (fun j => if balN (wSp sw wr mr p j) (wSp sw wr mr q j) = 1 then 1 else 0) n j)) := by
    intro n
    induction n with
    | zero => intro j a b _; rfl
    | succ n ih =>
      intro j a b hj
      have hb := balN_lt (wSp sw wr mr p j) (wSp sw wr mr q j)
      have e : mlS (nI p) (nI q) m j (nI a, nI b) = (nI (a + if balN (wSp sw wr mr p j) (wSp sw wr mr q j) = 0 then 1 else 0), nI (b + if balN (wSp sw wr mr p j) (wSp sw wr mr q j) = 1 then 1 else 0)) := by
        unfold mlS
        rw [hh j (by omega)]
        rcases (show balN (wSp sw wr mr p j) (wSp sw wr mr q j) = 0 ∨ balN (wSp sw wr mr p j) (wSp sw wr mr q j) = 1 ∨ balN (wSp sw wr mr p j) (wSp sw wr mr q j) = 2 by omega) with e | e | e <;> rw [e]
        · show (nI a + 1, nI b + 0) = _
          rw [Int32.add_zero, nI_1]; rfl
        · show (nI a + 0, nI b + 1) = _
          rw [Int32.add_zero, nI_1]; rfl
        · show (nI a + 0, nI b + 0) = _
          rw [Int32.add_zero, Int32.add_zero]; rfl
      rw [itr_S, e, ih (j + 1) _ _ (by omega)]
      simp only [smN, Nat.add_assoc]
  have := key c 0 0 0 (by omega)
  rw [Nat.zero_add, Nat.zero_add] at this
  exact this
def CrR (μ0 : MemT) (m : MemT) (w : Int32 × Int32) : Prop := (∀ r, r ≠ 11 → r ≠ 15 → m r = μ0 r) ∧ m 11 5 = w.1 ∧ ((w.1 = -6 ∧ m 11 6 = -6) ∨ (0 ≤ w.1 ∧ m 11 6 = w.2))
theorem mostL {t c : Nat} (ht : t < 256) (hc : c ≤ 145) {μ0 m mf : MemT} {p q : Nat} (hp : p < 8) (hq : q < 8) (hpb : bt (nI t) p = true) (hqb : bt (nI t) q = true) (h0 : mf 58 0 = nI t) (s1 : mf 59 p = m 19 p) (s2 : mf 59 q = m 19 q) (h1 : inR (m 19 p) 1 200 = true) (h2 : inR (m 19 q) 1 200 = true) (h3 : ∀ j, j < c → mf 75 j = m 12 j ∧ mf 76 j = m 13 j ∧ inR (m 13 j) (-9) 9 = true) : mx3 (tryL c p q m) = mLeft c (nI p) (nI q) mf := by
  have hs : cN c p q (m 19) (m 12) (m 13) 0 + cN c p q (m 19) (m 12) (m 13) 1 + cN c p q (m 19) (m 12) (m 13) 2 = c := cN_sum p q (m 19) (m 12) (m 13) c 0
  unfold mLeft mx3
  rw [ml_eq (wr := m 12) (mr := m 13) ht hp hq hpb hqb h0 s1 s2 h1 h2 h3]
  have hl : ∀ i, i < 3 → tryL c p q m i = nI (cN c p q (m 19) (m 12) (m 13) i) := fun i hi => by
    unfold tryL tlB cN
    rw [tl_at p q (m 19) (m 12) (m 13) i c 0 (filF 3 0 (m 15)) 0 (filF_in 0 _ hi), Nat.zero_add]
  rw [hl 0 (by decide), hl 1 (by decide), hl 2 (by decide)]
  generalize cN c p q (m 19) (m 12) (m 13) 0 = a at hs ⊢
  generalize cN c p q (m 19) (m 12) (m 13) 1 = b at hs ⊢
  generalize cN c p q (m 19) (m 12) (m 13) 2 = d at hs ⊢
  show mx2 (nI a) (mx2 (nI b) (nI d)) = mxI (nI c - nI a - nI b) (mxI (nI a) (nI b))
  rw [nI_sub (by omega), nI_sub (by omega), mx2_n (by omega) (by omega), mx2_n (by omega) (by omega), mxI_n (by omega) (by omega), mxI_n (by omega) (by omega)]
  congr 1
  omega
theorem ten_nn : ∀ p, p < 8 → ∀ q, q < 8 → (0 : Int32) ≤ 10 * nI p + nI q ∧ 10 * nI p + nI q ≠ -6 := by decide
theorem rl_cross {t k c : Nat} {μ : MemT} (h : Rel t k c μ) (w : Int32) : (mCross k w (xCross k w μ).2).1 = (xCross k w μ).1 ∧ Rel t k c (mCross k w (xCross k w μ).2).2 := by
  by_cases hr : inR w 0 1 = true
  · have nf : ¬ inR w 0 1 = false := by rw [hr]; decide
    rw [xCross, if_pos hr]
    generalize hC : (wsX k μ).2.2 = n
    generalize hX : cpM n (findM k μ) = X
    show (mCross k w X).1 = (if w = 0 then X 11 5 else X 11 6) ∧ Rel t k c (mCross k w X).2
    have ht := tr_ht (rl_tw h)
    have f7 : findM k μ 18 7 = nI t := by rw [find_ne (by decide)]; exact tr_aps (rl_tw h)
    have hsw : ∀ p, p < 8 → bt (nI t) p = true → μ 19 p = μ 59 p ∧ inR (μ 19 p) 1 200 = true := tr_sw (rl_tw h)
    have tS : ∀ p q m, ∀ r, r ≠ 11 → r ≠ 15 → cpS n p (nI t) q m r = m r := fun p q m r h1 h2 => by
      unfold cpS
      split
      · exact tryM_ne n p q m h1 h2
      · rfl
    have tO : ∀ (a j p : Nat) (m : MemT), ∀ r, r ≠ 11 → r ≠ 15 → itr (cpS n p (nI t)) a j m r = m r := by
      intro a
      induction a with
      | zero => intro j p m r _ _; rfl
      | succ a ih => intro j p m r h1 h2; rw [itr_S, ih _ _ _ r h1 h2, tS p j m r h1 h2]
    have tA : ∀ (a j : Nat) (m : MemT), ∀ r, r ≠ 11 → r ≠ 15 → itr (cpO n (nI t)) a j m r = m r := by
      intro a
      induction a with
      | zero => intro j m r _ _; rfl
      | succ a ih => intro j m r h1 h2; rw [itr_S, ih _ _ r h1 h2, cpO, tO _ _ _ _ r h1 h2]
    have X_ne : ∀ r, r ≠ 11 → r ≠ 15 → X r = findM k μ r := fun r h1 h2 => by
      rw [← hX, cpM, f7]
      split
      · exact mset_ne _ _ h1
      · rw [tA _ _ _ r h1 h2, mset_ne _ _ h1]
    have gX : ∀ r, (r < 11 ∨ 16 ≤ r) → X r = μ r := fun r hr => by rw [X_ne r (by omega) (by omega), find_ne (by omega)]
    have hRX : Rel t k c X := rl_fit h gX
    obtain ⟨w1, w2⟩ := ws_eq h (M := X) (fun r hr => gX r (by omega))
    rw [hC] at w1 w2
    have hn : n ≤ 145 := by rw [← hC]; exact wsX_le k μ
    rw [mCross, if_neg nf]
    refine ⟨?_, rl_mfind hRX⟩
    rw [← w1]
    have hS : CrR (findM k μ) X (crR n (mFind k X)) := by
      by_cases hn0 : n = 0
      · subst hn0
        have e36 : mFind k X 58 36 ≤ 0 := by rw [mFind_36, ← w1]; decide
        have e : crR 0 (mFind k X) = (-6, 0) := by
          unfold crR
          refine itr_id (fun p a => ?_) 8 0 _
          unfold crP
          refine itr_id (fun q b => ?_) _ _ _
          unfold crS
          rw [if_neg (fun z => z.1 e36)]
        rw [e]
        have eX : X 11 = upd (upd (findM k μ 11) 5 (-6)) 6 (-6) := by rw [← hX, cpM, if_pos rfl, mset_self]
        refine ⟨X_ne, ?_, Or.inl ⟨rfl, ?_⟩⟩
        · rw [eX]; rfl
        · rw [eX]; rfl
      · have e36 : ¬ mFind k X 58 36 ≤ 0 := by
          rw [mFind_36, ← w1, le_toInt, nI_toInt (by omega), ti_0]; omega
        have m0 : mFind k X 58 0 = nI t := by
          rw [mFind, mPut_f _ _ (by decide), gX 58 (by decide)]
          exact (show mI μ 0 = nI t from tr_bps (rl_tw h))
        have f12 : findM k μ 12 = (wsX k μ).1 := find_12 k μ
        have f13 : findM k μ 13 = (wsX k μ).2.1 := find_13 k μ
        have hX2 : X = itr (cpO n (nI t)) 8 0 (mset (findM k μ) 11 (upd (upd (findM k μ 11) 5 (-6)) 6 (-6))) := by rw [← hX, cpM, if_neg hn0, f7]
        suffices hh : CrR (findM k μ) (itr (cpO n (nI t)) 8 0 (mset (findM k μ) 11 (upd (upd (findM k μ 11) 5 (-6)) 6 (-6)))) (crR n (mFind k X)) by
          rw [← hX2] at hh
          exact hh
        clear hX2
        unfold crR
        refine itr_rel (R := CrR (findM k μ)) (N := 8) (fun p m z hp hR => ?_) 8 0 _ _ (by decide) ⟨fun r h1 _ => mset_ne _ _ h1, rfl, Or.inl ⟨rfl, rfl⟩⟩
        unfold cpO crP
        refine itr_relL (R := CrR (findM k μ)) (L := p + 1) (N := 8) (fun q m z hlq hq hR => ?_) _ _ _ _ (Nat.le_refl _) (by omega) hR
        unfold cpS crS
        rw [m0, isP_n hp, isP_n hq]
        by_cases hpq : (bt (nI t) p && bt (nI t) q) = true
        · have hpq2 := hpq
          rw [Bool.and_eq_true] at hpq2
          obtain ⟨hR1, hR2, hR3⟩ := hR
          have hne : ¬ nI p = nI q := fun z => by have := (nI_eq (by omega) (by omega)).mp z; omega
          have r19 : ∀ r, bt (nI t) r = true → r < 8 → mFind k X 59 r = m 19 r ∧ inR (m 19 r) 1 200 = true := fun r hb hr8 => by
            rw [mfind_ne (by decide) (by decide) (by decide), gX 59 (by decide), hR1 19 (by decide) (by decide), find_ne (by decide)]
            exact ⟨(hsw r hr8 hb).1.symm, (hsw r hr8 hb).2⟩
          have L := mostL (m := m) (mf := mFind k X) (μ0 := μ) ht hn hp hq hpq2.1 hpq2.2 m0 (r19 p hpq2.1 hp).1 (r19 q hpq2.2 hq).1 (r19 p hpq2.1 hp).2 (r19 q hpq2.2 hq).2 (fun j hj => by
            obtain ⟨v1, v2, v3, v4⟩ := w2 j hj
            rw [mFind_75, mFind_76, hR1 12 (by decide) (by decide), hR1 13 (by decide) (by decide), f12, f13]
            exact ⟨v1.symm, v2.symm, v4⟩)
          have hcond : (m 11 5 = -6 ∨ ¬ m 11 6 ≤ mx3 (tryL n p q m)) ↔ (z.1 < 0 ∨ ¬ z.2 ≤ mLeft n (nI p) (nI q) (mFind k X)) := by
            rw [L, hR2]
            rcases hR3 with ⟨g, -⟩ | ⟨g1, g2⟩
            · rw [g]; exact ⟨fun _ => Or.inl (by decide), fun _ => Or.inl rfl⟩
            · rw [g2]
              have a1 : ¬ z.1 = -6 := fun y => by rw [y] at g1; revert g1; decide
              have a2 : ¬ z.1 < 0 := fun y => by have b1 := le_toInt.mp g1; have b2 := lt_toInt.mp y; omega
              exact ⟨fun y => y.elim (fun e => absurd e a1) Or.inr, fun y => y.elim (fun e => absurd e a2) Or.inr⟩
          rw [if_pos hpq]
          have two : (bt (nI t) p && bt (nI t) q && !decide (nI p = nI q)) = true := by rw [hpq, decide_eq_false hne]; rfl
          by_cases hc : (z.1 < 0 ∨ ¬ z.2 ≤ mLeft n (nI p) (nI q) (mFind k X))
          · rw [if_pos ⟨e36, two, hc⟩]
            refine ⟨fun r h1 h2 => by rw [tryM_ne n p q m h1 h2]; exact hR1 r h1 h2, ?_, Or.inr ⟨(ten_nn p hp q hq).1, ?_⟩⟩
            · show (if m 11 5 = -6 ∨ ¬ m 11 6 ≤ mx3 (tryL n p q m) then upd (upd (m 11) 5 (10 * nI p + nI q)) 6 (mx3 (tryL n p q m)) else m 11) 5 = 10 * nI p + nI q
              rw [if_pos (hcond.mpr hc)]; rfl
            · show (if m 11 5 = -6 ∨ ¬ m 11 6 ≤ mx3 (tryL n p q m) then upd (upd (m 11) 5 (10 * nI p + nI q)) 6 (mx3 (tryL n p q m)) else m 11) 6 = mLeft n (nI p) (nI q) (mFind k X)
              rw [if_pos (hcond.mpr hc)]; exact L
          · rw [if_neg (fun y => hc y.2.2)]
            have e11 : tryM n p q m 11 = m 11 := by
              show (if m 11 5 = -6 ∨ ¬ m 11 6 ≤ mx3 (tryL n p q m) then upd (upd (m 11) 5 (10 * nI p + nI q)) 6 (mx3 (tryL n p q m)) else m 11) = m 11
              rw [if_neg (fun y => hc (hcond.mp y))]
            exact ⟨fun r h1 h2 => by rw [tryM_ne n p q m h1 h2]; exact hR1 r h1 h2, by rw [e11]; exact hR2, by rw [e11]; exact hR3⟩
        · rw [if_neg hpq, if_neg]
          · exact hR
          · intro z
            apply hpq
            have := z.2.1
            rw [Bool.and_eq_true] at this
            exact this.1
    obtain ⟨s1, s2, s3⟩ := hS
    show (if (crR n (mFind k X)).1 < 0 ∨ w = 0 then (crR n (mFind k X)).1 else (crR n (mFind k X)).2) = (if w = 0 then X 11 5 else X 11 6)
    by_cases hw : w = 0
    · rw [if_pos (Or.inr hw), if_pos hw, s2]
    · skip
      rcases s3 with ⟨g, g6⟩ | ⟨g1, g2⟩
      · rw [g, if_pos (Or.inl (by decide)), if_neg hw, g6]
      · rw [if_neg hw, if_neg, g2]
        intro z
        rcases z with z | z
        · have a1 := le_toInt.mp g1
          have a2 := lt_toInt.mp z
          omega
        · exact hw z
  · have nf : inR w 0 1 = false := by simpa using hr
    rw [xCross, if_neg hr]
    show (mCross k w μ).1 = -2 ∧ Rel t k c (mCross k w μ).2
    rw [mCross, if_pos nf]
    exact ⟨rfl, h⟩

