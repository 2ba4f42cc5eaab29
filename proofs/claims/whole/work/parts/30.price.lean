/-! the pans: rows by subsets -/
theorem itr_lt {α : Type} (f : Nat → α → α) : ∀ (n j : Nat) (a : α), itr f (n + 1) j a = f (j + n) (itr f n j a) := by
  intro n
  induction n with
  | zero => intro j a; rfl
  | succ n ih => intro j a; rw [itr_S, ih, itr_S, show j + 1 + n = j + (n + 1) by omega]
theorem itr_inv {α : Type} {I : Nat → α → Prop} {f : Nat → α → α} {N : Nat} (h : ∀ j a, j < N → I j a → I (j + 1) (f j a)) : ∀ (n j : Nat) (a : α), j + n = N → I j a → I N (itr f n j a) := by
  intro n
  induction n with
  | zero => intro j a hj hi; have : j = N := by omega
            subst this; exact hi
  | succ n ih => intro j a hj hi; rw [itr_S]; exact ih (j + 1) _ (by omega) (h j a (by omega) hi)
def frG (op : Int32 → Int32 → Int32) (v r : Nat → Int32) : Nat → Int32 := itr (fun p r => itr (fun q r => upd r (2 ^ p + q) (op (r q) (v p))) (2 ^ p) 0 r) 8 0 r
def spG (op : Int32 → Int32 → Int32) (v : Nat → Int32) (a : Int32) (n s : Nat) : Int32 := itr (fun p a => if s.testBit p then op a (v p) else a) n 0 a
theorem fr_in (op : Int32 → Int32 → Int32) (x : Int32) (P : Nat) : ∀ (n j : Nat) (r : Nat → Int32) (i : Nat), j + n ≤ P → itr (fun q r => upd r (P + q) (op (r q) x)) n j r i = if P + j ≤ i ∧ i < P + j + n then op (r (i - P)) x else r i := by
  intro n
  induction n with
  | zero => intro j r i _; rw [itr_0, if_neg (by omega)]
  | succ n ih =>
    intro j r i hj
    rw [itr_S, ih (j + 1) _ _ (by omega)]
    by_cases c : P + (j + 1) ≤ i ∧ i < P + (j + 1) + n
    · rw [if_pos c, if_pos (by omega), upd_ne _ _ (by omega)]
    · rw [if_neg c]
      by_cases e : i = P + j
      · subst e
        rw [if_pos (by omega), upd_self, show P + j - P = j by omega]
      · rw [if_neg (by omega), upd_ne _ _ e]
set_option maxRecDepth 100000 in
theorem tb_hi : ∀ p, p < 8 → ∀ q, q < 256 → q < 2 ^ p → (2 ^ p + q).testBit p = true ∧ q.testBit p = false ∧ ∀ r, r < p → (2 ^ p + q).testBit r = q.testBit r := by decide +kernel
theorem sp_cg {op : Int32 → Int32 → Int32} {v : Nat → Int32} {a : Int32} {n s s2 : Nat} (h : ∀ r, r < n → s.testBit r = s2.testBit r) : spG op v a n s = spG op v a n s2 := by
  unfold spG
  exact itr_cong n 0 a (fun p x _ hp => by rw [h p (by omega)])
theorem fr_at (op : Int32 → Int32 → Int32) (v r : Nat → Int32) : ∀ s, s < 256 → frG op v r s = spG op v (r 0) 8 s := by
  have key := itr_inv (I := fun p (x : Nat → Int32) => ∀ s, s < 2 ^ p → x s = spG op v (r 0) p s) (f := fun p r => itr (fun q r => upd r (2 ^ p + q) (op (r q) (v p))) (2 ^ p) 0 r) (N := 8) (fun p x hp hI s hs => by
    have hle : 2 ^ p ≤ 128 := Nat.pow_le_pow_right (n := 2) (by decide) (show p ≤ 7 by omega)
    have h2 : 2 ^ (p + 1) = 2 ^ p + 2 ^ p := by rw [Nat.pow_succ]; omega
    show itr (fun q r => upd r (2 ^ p + q) (op (r q) (v p))) (2 ^ p) 0 x s = _
    rw [fr_in op (v p) (2 ^ p) (2 ^ p) 0 x s (by omega)]
    unfold spG
    rw [itr_lt]
    by_cases c : s < 2 ^ p
    · rw [if_neg (by omega), Nat.zero_add, (tb_hi p hp s (by omega) c).2.1, if_neg (by decide)]
      exact hI s c
    · obtain ⟨q, rfl⟩ : ∃ q, s = 2 ^ p + q := ⟨s - 2 ^ p, by omega⟩
      have hq : q < 2 ^ p := by omega
      obtain ⟨t1, t2, t3⟩ := tb_hi p hp q (by omega) hq
      rw [if_pos (by omega), Nat.zero_add, t1, if_pos rfl, show 2 ^ p + q - 2 ^ p = q by omega, hI q hq]
      congr 1
      exact sp_cg (fun r hr => (t3 r hr).symm)) 8 0 r rfl (fun s hs => by
    have : s = 0 := by have : (2 : Nat) ^ 0 = 1 := rfl
                       omega
    subst this; rfl)
  exact key
theorem frA_at (v r : Nat → Int32) {s : Nat} (hs : s < 256) : frA v r s = spG (· + ·) v (r 0) 8 s := fr_at (· + ·) v r s hs
theorem frO_at (v r : Nat → Int32) {s : Nat} (hs : s < 256) : frO v r s = spG (· ||| ·) v (r 0) 8 s := fr_at (· ||| ·) v r s hs
theorem sp_0 (op : Int32 → Int32 → Int32) (v : Nat → Int32) (a : Int32) (n : Nat) : spG op v a n 0 = a := by
  unfold spG
  exact itr_id (fun p x => by rw [Nat.zero_testBit, if_neg (by decide)]) n 0 a
/-- s lies within t -/
def inT (t s : Nat) : Prop := s < 256 ∧ s &&& t = s
theorem inT_bt {t s p : Nat} (ht : t < 256) (h : inT t s) (hp : p < 8) (hb : s.testBit p = true) : bt (nI t) p = true := by
  rw [mk_bt t ht p hp]
  have := h.2
  rw [← this, Nat.testBit_and, Bool.and_eq_true] at hb
  exact hb.2
theorem inT_sub {t s : Nat} (ht : t < 256) (h : inT t s) : subI (nI s) (nI t) = true := by
  unfold subI
  refine decide_eq_true ?_
  have hb : ∀ p, p < 32 → s.testBit p = true → t.testBit p = true := fun p _ hb => by
    have := h.2
    rw [← this, Nat.testBit_and, Bool.and_eq_true] at hb
    exact hb.2
  have e : (-1 : Int32) = nI 4294967295 := by decide
  rw [e, nI_xor, nI_and]
  have : s &&& (t ^^^ 4294967295) = 0 := by
    refine Nat.eq_of_testBit_eq (fun i => ?_)
    rw [Nat.testBit_and, Nat.testBit_xor, Nat.zero_testBit]
    cases hs : s.testBit i
    · rfl
    · have hi : i < 32 := by
        rcases Nat.lt_or_ge i 32 with q | q
        · exact q
        · have : s < 2 ^ i := Nat.lt_of_lt_of_le h.1 (Nat.le_trans (by decide : 256 ≤ 2 ^ 32) (Nat.pow_le_pow_right (by decide) q))
          rw [Nat.testBit_lt_two_pow this] at hs
          cases hs
      have h1 : (4294967295 : Nat).testBit i = true := by
        have : ∀ i, i < 32 → (4294967295 : Nat).testBit i = true := by decide +kernel
        exact this i hi
      rw [hb i hi hs, h1]; rfl
  rw [this]; rfl
theorem sub_inT {t s : Nat} (ht : t < 256) (hs : s < 256) (h : subI (nI s) (nI t) = true) : inT t s := by
  obtain ⟨s2, h2, e, h3⟩ := subI_ex ht h
  have : s = s2 := (nI_eq (by omega) (by omega)).mp e
  subst this
  exact ⟨hs, h3⟩
theorem fill_7 {t k c : Nat} {μ : MemT} (h : Rel t k c μ) {s : Nat} (hs : inT t s) : fillM μ 7 s = wcB (nI s) (μ 58 1) (μ 60) := by
  have ht := tr_ht (rl_tw h)
  have e2 : μ 18 7 = nI t := tr_aps (rl_tw h)
  have e3 : μ 18 8 = μ 58 1 := tr_cd (rl_tw h)
  show frA (vP 18 μ) (μ 7) s = _
  rw [frA_at _ _ hs.1, rl_z7 h]
  unfold spG wcB
  refine itr_cong 8 0 0 (fun p a _ hp => ?_)
  rw [mk_bt s hs.1 p (by omega)]
  by_cases c : s.testBit p = true
  · have hb := inT_bt ht hs (show p < 8 by omega) c
    rw [if_pos c, if_pos c, vP, e2, if_pos hb, e3]
    have : μ 20 p = μ 60 p := (tr_wt (rl_tw h) p (by omega) hb).1
    show a + wc (μ 58 1) (nI p) (μ 20 p) = _
    rw [this]
  · rw [if_neg c, if_neg c]
theorem fill_8 {t k c : Nat} {μ : MemT} (h : Rel t k c μ) {s : Nat} (hs : inT t s) : fillM μ 8 s = sumB (nI s) (μ 59) := by
  have ht := tr_ht (rl_tw h)
  have e2 : μ 18 7 = nI t := tr_aps (rl_tw h)
  show frA (vS 18 μ) (μ 8) s = _
  rw [frA_at _ _ hs.1, rl_z8 h]
  unfold spG sumB
  refine itr_cong 8 0 0 (fun p a _ hp => ?_)
  rw [mk_bt s hs.1 p (by omega)]
  by_cases c : s.testBit p = true
  · have hb := inT_bt ht hs (show p < 8 by omega) c
    rw [if_pos c, if_pos c, vS, e2, if_pos hb]
    have : μ 19 p = μ 59 p := (tr_sw (rl_tw h) p (by omega) hb).1
    show a + μ 19 p = _
    rw [this]
  · rw [if_neg c, if_neg c]
theorem sub_or0 (X : Int32) : subI 0 X = true := by
  unfold subI
  refine decide_eq_true ?_
  apply Int32.toBitVec_inj.mp
  rw [Int32.toBitVec_and]
  simp
theorem fill_9 {t k c : Nat} {μ : MemT} (h : Rel t k c μ) {s : Nat} (hs : inT t s) : subI (fillM μ 9 s) (nI s) = togM (nI s) (μ 62) := by
  have ht := tr_ht (rl_tw h)
  have e2 : μ 18 7 = nI t := tr_aps (rl_tw h)
  show subI (frO (vQ 18 μ) (μ 9) s) (nI s) = _
  rw [frO_at _ _ hs.1, rl_z9 h]
  unfold spG togM
  have key : ∀ (n j : Nat) (a : Int32) (b : Bool), j + n = 8 → subI a (nI s) = b → subI (itr (fun p a => if s.testBit p then a ||| vQ 18 μ p else a) n j a) (nI s) = itr (fun p b => b && tbm (nI s) (μ 62) p) n j b := by
    intro n
    induction n with
    | zero => intro j a b _ h; exact h
    | succ n ih =>
      intro j a b hj hab
      rw [itr_S, itr_S]
      refine ih (j + 1) _ _ (by omega) ?_
      unfold tbm
      rw [mk_bt s hs.1 j (by omega)]
      by_cases c : s.testBit j = true
      · have hb := inT_bt ht hs (show j < 8 by omega) c
        have hsp : μ 22 j = μ 62 j ∧ spOk t (μ 22) j := tr_sp (rl_tw h) j (by omega)
        rw [if_pos c, subI_or, hab, c, vQ, e2, if_pos hb]
        show (b && subI (ptn j (μ 22)) (nI s)) = _
        unfold ptn
        rw [← hsp.1]
        rcases hsp.2 with g | ⟨q, g1, g2, g3, g4, g5, g6⟩
        · rw [g, if_pos rfl, sub_or0, show decide ((-6 : Int32) < 0) = true by decide]; rfl
        · rw [g3, if_neg (nI_n6 q g1), mk_shl q g1, sub_bit s hs.1 q g1, show decide (nI q < 0) = false from decide_eq_false (nI_n0 q g1)]
          show (b && bt (nI s) q) = (b && (!true || (false || bt (nI s) q)))
          simp
      · have c0 : s.testBit j = false := by simpa using c
        rw [if_neg c, hab, c0]
        simp
  exact key 8 0 0 true rfl (sub_or0 _)
/-! the walk over the subsets of a set, by size as bits -/
def walkL (w : Nat) : Nat → Nat → List Nat
  | 0, _ => []
  | n + 1, s => s :: walkL w n (nxN s w)
def upL : Nat → Nat → List Nat
  | 0, _ => []
  | n + 1, s => s :: upL n (s + 1)
def fldL {α : Type} (F : Nat → α → α) : List Nat → α → α
  | [], a => a
  | s :: l, a => fldL F l (F s a)
theorem itr_walk {α : Type} (F : Nat → α → α) (w : Nat) : ∀ (n j : Nat) (a : α), itr (fun j a => F (sbs w j) a) n j a = fldL F (walkL w n (sbs w j)) a := by
  intro n
  induction n with
  | zero => intro j a; rfl
  | succ n ih => intro j a; rw [itr_S, ih]; rfl
theorem itr_upL {α : Type} (F : Nat → α → α) (c : Nat → Bool) : ∀ (n j : Nat) (a : α), itr (fun s a => if c s = true then F s a else a) n j a = fldL F ((upL n j).filter c) a := by
  intro n
  induction n with
  | zero => intro j a; rfl
  | succ n ih =>
    intro j a
    rw [itr_S, ih, upL]
    cases h : c j
    · rw [List.filter_cons_of_neg (by rw [h]; decide), if_neg (by decide)]
    · rw [List.filter_cons_of_pos h, if_pos rfl]; rfl
set_option maxRecDepth 100000 in
theorem walk_up : ∀ t, t < 256 → walkL t (2 ^ pc t) 0 = (upL 256 0).filter (fun s => s &&& t == s) := by decide +kernel
theorem itr_sub {α : Type} (F : Nat → α → α) {t : Nat} (ht : t < 256) (a : α) : itr (fun j a => F (sbs t j) a) (2 ^ pc t) 0 a = itr (fun s a => if (s &&& t == s) = true then F s a else a) 256 0 a := by
  rw [itr_walk, itr_upL, ← walk_up t ht]
  rfl
theorem inT_b {t s : Nat} (hs : s < 256) : (s &&& t == s) = true ↔ inT t s := by
  rw [beq_iff_eq]
  exact ⟨fun q => ⟨hs, q⟩, fun q => q.2⟩
theorem off_and {t a b : Nat} (ht : t < 256) (ha : inT t a) (hb : b < 256) : inT (offN t a) b ↔ inT t b ∧ a &&& b = 0 := by
  have e : ∀ i, (offN t a).testBit i = (t.testBit i && (decide (i < 8) && !a.testBit i)) := fun i => by
    unfold offN
    rw [Nat.testBit_and, show 255 - a = 2 ^ 8 - (a + 1) by have := ha.1; omega, Nat.testBit_two_pow_sub_succ ha.1]
  have hbig : ∀ i, 8 ≤ i → b.testBit i = false := fun i hi => Nat.testBit_lt_two_pow (Nat.lt_of_lt_of_le hb (Nat.pow_le_pow_right (n := 2) (by decide) hi))
  constructor
  · intro ⟨_, h2⟩
    have hk : ∀ i, b.testBit i = true → t.testBit i = true ∧ a.testBit i = false := fun i hi => by
      have := congrArg (fun q => q.testBit i) h2
      simp only [Nat.testBit_and, e, hi, Bool.true_and] at this
      simp only [Bool.and_eq_true, Bool.not_eq_true'] at this
      exact ⟨this.1, this.2.2⟩
    refine ⟨⟨hb, Nat.eq_of_testBit_eq (fun i => ?_)⟩, Nat.eq_of_testBit_eq (fun i => ?_)⟩
    · rw [Nat.testBit_and]
      cases hi : b.testBit i
      · rfl
      · rw [(hk i hi).1]; rfl
    · rw [Nat.testBit_and, Nat.zero_testBit]
      cases hi : b.testBit i
      · simp
      · rw [(hk i hi).2]; rfl
  · intro ⟨h1, h2⟩
    refine ⟨hb, Nat.eq_of_testBit_eq (fun i => ?_)⟩
    rw [Nat.testBit_and, e]
    cases hi : b.testBit i
    · rfl
    · have a1 : t.testBit i = true := by
        have := h1.2
        rw [← this, Nat.testBit_and, Bool.and_eq_true] at hi
        exact hi.2
      have a2 : a.testBit i = false := by
        have := congrArg (fun q => q.testBit i) h2
        simp only [Nat.testBit_and, hi, Bool.and_true, Nat.zero_testBit] at this
        exact this
      have a3 : i < 8 := by
        rcases Nat.lt_or_ge i 8 with q | q
        · exact q
        · rw [hbig i q] at hi; cases hi
      rw [a1, a2]
      simp [a3]
/-! price -/
theorem pr_set {t s a : Nat} (ht : t < 256) (hs : inT t s) (ha : a < 256) : (nI a &&& (nI s ||| (nI t ^^^ -1)) = 0) ↔ inT (offN t s) a := by
  rw [off_and ht hs ha]
  have h1 : nI a &&& (nI s ||| (nI t ^^^ -1)) = 0 ↔ (nI a &&& nI s = 0 ∧ nI a &&& (nI t ^^^ -1) = 0) := by
    have e : nI a &&& (nI s ||| (nI t ^^^ -1)) = (nI s ||| (nI t ^^^ -1)) &&& nI a := Int32.and_comm _ _
    rw [e, or_and0, Int32.and_comm (nI s), Int32.and_comm (nI t ^^^ -1)]
  rw [h1, nI_and]
  have hx : s &&& a < 256 := Nat.lt_of_le_of_lt Nat.and_le_left hs.1
  constructor
  · intro ⟨g1, g2⟩
    refine ⟨sub_inT ht ha (decide_eq_true g2), ?_⟩
    rw [Nat.and_comm]
    exact (nI_eq (b := 0) (Nat.lt_of_le_of_lt Nat.and_le_left (by omega)) (by decide)).mp g1
  · intro ⟨g1, g2⟩
    rw [Nat.and_comm] at g2
    rw [g2]
    exact ⟨rfl, of_decide_eq_true (inT_sub ht g1)⟩
def PrR (wc : Int32 × (Nat → Int32)) (wm : Int32 × Int32) : Prop := wc.1 = wm.1 ∧ wc.2 9 = wm.2 ∧ ((wm.2 = -6 ∧ wc.2 8 = -6) ∨ (0 ≤ wm.2 ∧ wc.2 8 = wm.1))
theorem pr_run {t k c : Nat} {μ : MemT} (h : Rel t k c μ) {g : Int32} {s : Nat} (hs : inT t s) {M : MemT} (hM : ∀ r, 58 ≤ r → M r = μ r) : PrR (sdR s g (offN t s) μ) (prR g (nI s) M) := by
  have ht := tr_ht (rl_tw h)
  have e1 : M 58 0 = nI t := by rw [hM 58 (by decide)]; exact (show mI μ 0 = nI t from tr_bps (rl_tw h))
  have ho : offN t s < 256 := (mk_off t ht s hs.1).2
  have eC : sdR s g (offN t s) μ = itr (fun a w => if (a &&& offN t s == a) = true then (fun a (w : Int32 × (Nat → Int32)) => if fillM μ 8 a - fillM μ 8 s ≤ w.1 then w else if subI (fillM μ 9 a) (nI a) = false then w else if g + fillM μ 7 s < fillM μ 7 a then w else (fillM μ 8 a - fillM μ 8 s, upd (upd w.2 8 (fillM μ 8 a - fillM μ 8 s)) 9 (nI a))) a w else w) 256 0 (0, upd (upd (μ 6) 8 (-6)) 9 (-6)) := by
    rw [← itr_sub _ ho]
    rfl
  rw [eC]
  unfold prR
  refine itr_rel (R := PrR) (N := 256) (fun a w z ha hR => ?_) 256 0 _ _ (by decide) ⟨rfl, rfl, Or.inl ⟨rfl, rfl⟩⟩
  unfold prS
  rw [e1, hM 58 (by decide), hM 59 (by decide), hM 60 (by decide), hM 62 (by decide)]
  obtain ⟨h1, h2, h3⟩ := hR
  by_cases c : inT (offN t s) a
  · have ca := (off_and ht hs ha).mp c
    rw [if_pos ((inT_b ha).mpr c)]
    rw [show decide (nI a &&& (nI s ||| (nI t ^^^ -1)) = 0) = true from decide_eq_true ((pr_set ht hs ha).mpr c), Bool.true_and]
    show PrR (if fillM μ 8 a - fillM μ 8 s ≤ w.1 then w else if subI (fillM μ 9 a) (nI a) = false then w else if g + fillM μ 7 s < fillM μ 7 a then w else (fillM μ 8 a - fillM μ 8 s, upd (upd w.2 8 (fillM μ 8 a - fillM μ 8 s)) 9 (nI a))) _
    rw [fill_8 h ca.1, fill_8 h hs, fill_9 h ca.1, fill_7 h ca.1, fill_7 h hs, h1]
    by_cases c1 : sumB (nI a) (μ 59) - sumB (nI s) (μ 59) ≤ z.1
    · rw [if_pos c1, if_neg (fun q => q.2.2 c1)]; exact ⟨h1, h2, h3⟩
    · rw [if_neg c1]
      by_cases c2 : togM (nI a) (μ 62) = false
      · rw [if_pos c2, if_neg (fun q => by rw [c2] at q; exact absurd q.1 (by decide))]; exact ⟨h1, h2, h3⟩
      · rw [if_neg c2]
        by_cases c3 : g + wcB (nI s) (μ 58 1) (μ 60) < wcB (nI a) (μ 58 1) (μ 60)
        · rw [if_pos c3, if_neg (fun q => q.2.1 c3)]; exact ⟨h1, h2, h3⟩
        · rw [if_neg c3, if_pos ⟨by simpa using c2, c3, c1⟩]
          exact ⟨rfl, rfl, Or.inr ⟨nI_nn (by omega), rfl⟩⟩
  · rw [if_neg (fun q => c ((inT_b ha).mp q))]
    rw [show decide (nI a &&& (nI s ||| (nI t ^^^ -1)) = 0) = false from decide_eq_false (fun q => c ((pr_set ht hs ha).mp q)), Bool.false_and]
    rw [if_neg (fun q => by exact absurd q.1 (by decide))]
    exact ⟨h1, h2, h3⟩
theorem fill_z {t k c : Nat} {μ : MemT} (h : Rel t k c μ) : fillM μ 7 0 = 0 ∧ fillM μ 8 0 = 0 ∧ fillM μ 9 0 = 0 := by
  have e7 : fillM μ 7 = frA (vP 18 μ) (μ 7) := rfl
  have e8 : fillM μ 8 = frA (vS 18 μ) (μ 8) := rfl
  have e9 : fillM μ 9 = frO (vQ 18 μ) (μ 9) := rfl
  refine ⟨?_, ?_, ?_⟩
  · rw [e7, frA_at _ _ (by decide), sp_0]; exact rl_z7 h
  · rw [e8, frA_at _ _ (by decide), sp_0]; exact rl_z8 h
  · rw [e9, frO_at _ _ (by decide), sp_0]; exact rl_z9 h
theorem rl_pans {t k c : Nat} {μ : MemT} (h : Rel t k c μ) {m : MemT} (g : ∀ r, (r < 6 ∨ 11 ≤ r) → m r = μ r) (z : m 7 0 = 0 ∧ m 8 0 = 0 ∧ m 9 0 = 0) : Rel t k c m := rl_cong h (g 2 (by decide)) (g 78 (by decide)) (g 77 (by decide)) (by rw [g 3 (by decide)]) (g 4 (by decide)) (g 66 (by decide)) (fun r h1 h2 => g r (by omega)) (fun r h1 h2 p _ => by rw [g r (by omega)]) (fun f hf => by rw [g 58 (by decide)]) z.1 z.2.1 z.2.2
theorem fill_ne {r : Nat} (h : r < 7 ∨ 10 ≤ r) (μ : MemT) : fillM μ r = μ r := by
  rw [fillM, mset_ne _ _ (by omega), mset_ne _ _ (by omega), mset_ne _ _ (by omega)]
theorem rl_price {t k c : Nat} {μ : MemT} (h : Rel t k c μ) (g x w : Int32) : mPrice g x w (xPrice t g x w μ).2 = (xPrice t g x w μ).1 ∧ Rel t k c (xPrice t g x w μ).2 := by
  have ht := tr_ht (rl_tw h)
  have e1 : μ 58 0 = nI t := show mI μ 0 = nI t from tr_bps (rl_tw h)
  have e2 : μ 18 7 = nI t := tr_aps (rl_tw h)
  by_cases hx : subI x (nI t) = true
  · have hx0 : ¬ subI x (nI t) = false := by rw [hx]; decide
    obtain ⟨s, hs, rfl, hst⟩ := subI_ex ht hx
    have hT : inT t s := ⟨hs, hst⟩
    have hin : inR (nI s) 0 255 = true := inR_t (by rw [nI_toInt (by omega)]; omega) (by rw [nI_toInt (by omega)]; omega)
    have hm0 : ∀ m : MemT, m 58 0 = nI t → ¬ (inR (nI s) 0 255 && subI (nI s) (m 58 0)) = false := fun m hm => by rw [hm, hin, hx]; decide
    by_cases hg : (inR g 1 999 && inR w 0 1) = true
    · have hg0 : ¬ (inR g 1 999 && inR w 0 1) = false := by rw [hg]; decide
      have hs22 : ∀ r, r < 8 → μ 22 r = μ 62 r ∧ spOk t (μ 22) r := tr_sp (rl_tw h)
      by_cases htg : togC (nI s) (μ 22) = false
      · have eX : xPrice t g (nI s) w μ = (-3, μ) := by rw [xPrice, e2, if_neg hx0, if_neg hg0, if_pos htg]
        rw [eX]
        refine ⟨?_, h⟩
        show mPrice g (nI s) w μ = -3
        rw [mPrice, if_neg (hm0 μ e1), if_neg hg0, if_pos (by rw [← tog_eq hs22]; exact htg)]
      · have eX : xPrice t g (nI s) w μ = (if w = 0 then sdM t s g μ 6 8 else sdM t s g μ 6 9, sdM t s g μ) := by rw [xPrice, e2, if_neg hx0, if_neg hg0, if_neg htg, cl_n (by omega)]
        rw [eX]
        have gM : ∀ r, (r < 6 ∨ 10 ≤ r) → sdM t s g μ r = μ r := fun r hr => by rw [sdM, mset_ne _ _ (by omega), fill_ne (by omega)]
        show mPrice g (nI s) w (sdM t s g μ) = (if w = 0 then sdM t s g μ 6 8 else sdM t s g μ 6 9) ∧ Rel t k c (sdM t s g μ)
        refine ⟨?_, rl_pans h (fun r hr => gM r (by omega)) (by rw [sdM, mset_ne _ _ (by decide), mset_ne _ _ (by decide), mset_ne _ _ (by decide)]; exact fill_z h)⟩
        show mPrice g (nI s) w (sdM t s g μ) = (if w = 0 then (sdR s g (offN t s) μ).2 8 else (sdR s g (offN t s) μ).2 9)
        obtain ⟨p1, p2, p3⟩ := pr_run h (g := g) hT (M := sdM t s g μ) (fun r hr => gM r (by omega))
        rw [mPrice, if_neg (hm0 _ (by rw [gM 58 (by decide)]; exact e1)), if_neg hg0, if_neg (by rw [gM 62 (by decide), ← tog_eq hs22]; exact htg)]
        rw [Bool.and_eq_true] at hg
        obtain ⟨q, hq, rfl⟩ := inR_ex (n := 1) hg.2
        rcases (show q = 0 ∨ q = 1 by omega) with rfl | rfl
        · rw [if_pos (show nI 0 = 0 from rfl)]
          rcases p3 with ⟨a1, a2⟩ | ⟨a1, a2⟩
          · rw [if_pos (Or.inl (by rw [a1]; decide)), a1, a2]
          · rw [if_neg, a2]
            intro y
            rcases y with y | y
            · have b1 := le_toInt.mp a1
              have b2 := lt_toInt.mp y
              omega
            · revert y; decide
        · rw [if_neg (show ¬ nI 1 = 0 by decide), if_pos (show _ ∨ nI 1 = 1 from Or.inr rfl), p2]
    · have hg0 : (inR g 1 999 && inR w 0 1) = false := by simpa using hg
      have eX : xPrice t g (nI s) w μ = (-2, μ) := by rw [xPrice, e2, if_neg hx0, if_pos hg0]
      rw [eX]
      refine ⟨?_, h⟩
      show mPrice g (nI s) w μ = -2
      rw [mPrice, if_neg (hm0 μ e1), if_pos hg0]
  · have hx0 : subI x (nI t) = false := by simpa using hx
    have eX : xPrice t g x w μ = (-1, μ) := by rw [xPrice, e2, if_pos hx0]
    rw [eX]
    refine ⟨?_, h⟩
    show mPrice g x w μ = -1
    rw [mPrice, e1, hx0, Bool.and_false, if_pos rfl]

