/-! what is sought among seats -/
def Vx (B : Bool) (μ : MemT) (s : Nat) : Int32 := if B then sumB (nI s) (μ 59) else wcB (nI s) (μ 58 1) (μ 60)
def Vn (B : Bool) (μ : MemT) (s : Nat) : Nat := cl (Vx B μ s)
theorem Vn_eq {t k c : Nat} {μ : MemT} (h : Rel t k c μ) (B : Bool) {s : Nat} (hs : inT t s) : Vx B μ s = nI (Vn B μ s) ∧ Vn B μ s ≤ 3200 := by
  have ht := tr_ht (rl_tw h)
  have key : ∃ u, u ≤ 3200 ∧ Vx B μ s = nI u := by
    unfold Vx
    cases B with
    | true =>
      obtain ⟨u, hu, e⟩ := sumB_n (x := nI s) (f := μ 59) (K := 200) (by decide) (fun p hp hb => by
        have hb2 := sub_bt ht (inT_sub ht hs) hp hb
        have g : μ 19 p = μ 59 p ∧ inR (μ 19 p) 1 200 = true := tr_sw (rl_tw h) p hp hb2
        rw [← g.1]
        exact inR_w g.2 (by decide) (by decide))
      exact ⟨u, by omega, by rw [if_pos rfl]; exact e⟩
    | false =>
      obtain ⟨u, hu, e⟩ := sumB_n (x := nI s) (f := fun p => wc (μ 58 1) (nI p) (μ 60 p)) (K := 400) (by decide) (fun p hp hb => by
        have hb2 := sub_bt ht (inT_sub ht hs) hp hb
        have g : μ 20 p = μ 60 p ∧ inR (μ 20 p) 1 400 = true := tr_wt (rl_tw h) p hp hb2
        rw [g.1] at g
        obtain ⟨v, v1, v2, v3⟩ := wc_n (c := μ 58 1) (x := nI p) g.2
        show inR (wc (μ 58 1) (nI p) (μ 60 p)) 0 400 = true
        rw [v3]
        exact inR_t (by rw [nI_toInt (by omega)]; omega) (by rw [nI_toInt (by omega)]; omega))
      exact ⟨u, by omega, by rw [if_neg (by decide)]; exact e⟩
  obtain ⟨u, hu, e⟩ := key
  unfold Vn
  rw [e, cl_n (by omega)]
  exact ⟨rfl, hu⟩
def okP (t : Nat) (sp : Nat → Int32) (a b : Nat) : Prop := inT t a ∧ inT t b ∧ a &&& b = 0 ∧ togM (nI a) sp = true ∧ togM (nI b) sp = true
def dst (V : Nat → Nat) (z a b : Nat) : Nat := ((V a : Int) - V b - z).natAbs
def keyN (a b : Nat) : Nat := pc (a ||| b) * 65536 + a * 256 + b
def SpN (V : Nat → Nat) (z : Nat) (S : Nat → Nat → Prop) (n : Nat) : Prop := n ≤ z ∧ (∀ a b, S a b → n ≤ dst V z a b) ∧ (n = z ∨ ∃ a b, S a b ∧ n = dst V z a b)
def SpD (V : Nat → Nat) (S : Nat → Nat → Prop) (d : Nat → Int32) : Prop := ∀ v, 1 ≤ v → v < 3201 → (d v = 0 ↔ ¬ ∃ a b, S a b ∧ V a = V b + v)
def SpB (cls : Bool) (V : Nat → Nat) (z : Nat) (S : Nat → Nat → Prop) (c f g : Int32) : Prop := (c = -6 ∧ (cls = true → f = -6 ∧ g = -6) ∧ ∀ a b, S a b → V a ≠ V b + z) ∨ ∃ a b, S a b ∧ V a = V b + z ∧ c = nI (pc (a ||| b)) ∧ f = nI a ∧ g = nI b ∧ ∀ a2 b2, S a2 b2 → V a2 = V b2 + z → keyN a b ≤ keyN a2 b2
def pls (S : Nat → Nat → Prop) (a0 b0 : Nat) : Nat → Nat → Prop := fun a b => S a b ∨ (a = a0 ∧ b = b0)
theorem spN_add {V : Nat → Nat} {z : Nat} {S : Nat → Nat → Prop} {n a0 b0 : Nat} (h : SpN V z S n) : SpN V z (pls S a0 b0) (if dst V z a0 b0 < n then dst V z a0 b0 else n) := by
  obtain ⟨h1, h2, h3⟩ := h
  by_cases c : dst V z a0 b0 < n
  · rw [if_pos c]
    refine ⟨by omega, fun a b hS => ?_, Or.inr ⟨a0, b0, Or.inr ⟨rfl, rfl⟩, rfl⟩⟩
    rcases hS with hS | ⟨rfl, rfl⟩
    · have := h2 a b hS; omega
    · exact Nat.le_refl _
  · rw [if_neg c]
    refine ⟨h1, fun a b hS => ?_, ?_⟩
    · rcases hS with hS | ⟨rfl, rfl⟩
      · exact h2 a b hS
      · omega
    · rcases h3 with e | ⟨a, b, hS, e⟩
      · exact Or.inl e
      · exact Or.inr ⟨a, b, Or.inl hS, e⟩
theorem spN_skip {V : Nat → Nat} {z : Nat} {S : Nat → Nat → Prop} {n a0 b0 : Nat} (h : SpN V z S n) (hv : V a0 ≤ V b0) : SpN V z (pls S a0 b0) n := by
  obtain ⟨h1, h2, h3⟩ := h
  refine ⟨h1, fun a b hS => ?_, ?_⟩
  · rcases hS with hS | ⟨rfl, rfl⟩
    · exact h2 a b hS
    · unfold dst; omega
  · rcases h3 with e | ⟨a, b, hS, e⟩
    · exact Or.inl e
    · exact Or.inr ⟨a, b, Or.inl hS, e⟩
theorem spD_add {V : Nat → Nat} {S : Nat → Nat → Prop} {d : Nat → Int32} {a0 b0 : Nat} (h : SpD V S d) (hv : V b0 < V a0) : SpD V (pls S a0 b0) (upd d (V a0 - V b0) 1) := by
  intro v h1 h2
  by_cases e : v = V a0 - V b0
  · subst e
    rw [upd_self]
    exact ⟨fun q => absurd q (by decide), fun q => absurd ⟨a0, b0, Or.inr ⟨rfl, rfl⟩, by omega⟩ q⟩
  · rw [upd_ne _ _ e, h v h1 h2]
    constructor
    · intro hn ⟨a, b, hS, hab⟩
      rcases hS with hS | ⟨rfl, rfl⟩
      · exact hn ⟨a, b, hS, hab⟩
      · omega
    · intro hn ⟨a, b, hS, hab⟩
      exact hn ⟨a, b, Or.inl hS, hab⟩
theorem spD_skip {V : Nat → Nat} {S : Nat → Nat → Prop} {d : Nat → Int32} {a0 b0 : Nat} (h : SpD V S d) (hv : V a0 ≤ V b0) : SpD V (pls S a0 b0) d := by
  intro v h1 h2
  rw [h v h1 h2]
  constructor
  · intro hn ⟨a, b, hS, hab⟩
    rcases hS with hS | ⟨rfl, rfl⟩
    · exact hn ⟨a, b, hS, hab⟩
    · omega
  · intro hn ⟨a, b, hS, hab⟩
    exact hn ⟨a, b, Or.inl hS, hab⟩
theorem spB_skip {cls : Bool} {V : Nat → Nat} {z : Nat} {S : Nat → Nat → Prop} {c f g : Int32} {a0 b0 : Nat} (h : SpB cls V z S c f g) (hv : V a0 ≠ V b0 + z) : SpB cls V z (pls S a0 b0) c f g := by
  rcases h with ⟨h1, h2, h3⟩ | ⟨a, b, h1, h2, h3, h4, h5, h6⟩
  · refine Or.inl ⟨h1, h2, fun a b hS => ?_⟩
    rcases hS with hS | ⟨rfl, rfl⟩
    · exact h3 a b hS
    · exact hv
  · refine Or.inr ⟨a, b, Or.inl h1, h2, h3, h4, h5, fun a2 b2 hS e => ?_⟩
    rcases hS with hS | ⟨rfl, rfl⟩
    · exact h6 a2 b2 hS e
    · exact absurd e hv
theorem spB_new {cls : Bool} {V : Nat → Nat} {z : Nat} {S : Nat → Nat → Prop} {c f g : Int32} {a0 b0 : Nat} (h : SpB cls V z S c f g) (hv : V a0 = V b0 + z) (hk : ∀ a b, S a b → V a = V b + z → c = nI (pc (a ||| b)) → f = nI a → g = nI b → keyN a0 b0 ≤ keyN a b) : SpB cls V z (pls S a0 b0) (nI (pc (a0 ||| b0))) (nI a0) (nI b0) := by
  refine Or.inr ⟨a0, b0, Or.inr ⟨rfl, rfl⟩, hv, rfl, rfl, rfl, fun a2 b2 hS e => ?_⟩
  rcases hS with hS | ⟨rfl, rfl⟩
  · rcases h with ⟨h1, h2, h3⟩ | ⟨a, b, h1, h2, h3, h4, h5, h6⟩
    · exact absurd e (h3 a2 b2 hS)
    · exact Nat.le_trans (hk a b h1 h2 h3 h4 h5) (h6 a2 b2 hS e)
  · exact Nat.le_refl _
theorem spB_old {cls : Bool} {V : Nat → Nat} {z : Nat} {S : Nat → Nat → Prop} {c f g : Int32} {a0 b0 : Nat} (h : SpB cls V z S c f g) (hc : c ≠ -6) (hk : ∀ a b, S a b → V a = V b + z → c = nI (pc (a ||| b)) → f = nI a → g = nI b → keyN a b ≤ keyN a0 b0) : SpB cls V z (pls S a0 b0) c f g := by
  rcases h with ⟨h1, h2, h3⟩ | ⟨a, b, h1, h2, h3, h4, h5, h6⟩
  · exact absurd h1 hc
  · refine Or.inr ⟨a, b, Or.inl h1, h2, h3, h4, h5, fun a2 b2 hS e => ?_⟩
    rcases hS with hS | ⟨rfl, rfl⟩
    · exact h6 a2 b2 hS e
    · exact hk a b h1 h2 h3 h4 h5
theorem spN_uni {V : Nat → Nat} {z : Nat} {S : Nat → Nat → Prop} {n m : Nat} (h : SpN V z S n) (g : SpN V z S m) : n = m := by
  obtain ⟨h1, h2, h3⟩ := h
  obtain ⟨g1, g2, g3⟩ := g
  have k1 : n ≤ m := by
    rcases g3 with e | ⟨a, b, hS, e⟩
    · omega
    · have := h2 a b hS; omega
  have k2 : m ≤ n := by
    rcases h3 with e | ⟨a, b, hS, e⟩
    · omega
    · have := g2 a b hS; omega
  omega
theorem key_inj {a b a2 b2 : Nat} (ha : a < 256) (hb : b < 256) (ha2 : a2 < 256) (hb2 : b2 < 256) (h : keyN a b = keyN a2 b2) : a = a2 ∧ b = b2 := by
  unfold keyN at h
  omega
theorem spB_uni {V : Nat → Nat} {z : Nat} {S : Nat → Nat → Prop} {c f g c2 f2 g2 : Int32} (hS : ∀ a b, S a b → a < 256 ∧ b < 256) (h : SpB true V z S c f g) (k : SpB false V z S c2 f2 g2) : (c2 = -6 ∧ c = -6 ∧ f = -6 ∧ g = -6) ∨ (0 ≤ c2 ∧ c = c2 ∧ f = f2 ∧ g = g2) := by
  rcases h with ⟨h1, h2, h3⟩ | ⟨a, b, h1, h2, h3, h4, h5, h6⟩
  · rcases k with ⟨k1, k2, k3⟩ | ⟨a', b', k1, k2, k3, k4, k5, k6⟩
    · exact Or.inl ⟨k1, h1, (h2 rfl).1, (h2 rfl).2⟩
    · exact absurd k2 (h3 a' b' k1)
  · rcases k with ⟨k1, k2, k3⟩ | ⟨a', b', k1, k2, k3, k4, k5, k6⟩
    · exact absurd h2 (k3 a b h1)
    · right
      have e1 := h6 a' b' k1 k2
      have e2 := k6 a b h1 h2
      obtain ⟨x1, x2⟩ := hS a b h1
      obtain ⟨y1, y2⟩ := hS a' b' k1
      obtain ⟨rfl, rfl⟩ := key_inj x1 x2 y1 y2 (by omega)
      exact ⟨by rw [k3]; exact nI_nn (pc8 (or_lt x1 x2)), h3.trans k3.symm, h4.trans k4.symm, h5.trans k5.symm⟩
theorem abI_n {X : Int32} {d : Int} (h : X.toInt = d) (hd : d.natAbs < 2 ^ 31) : abI X = nI d.natAbs := by
  unfold abI
  by_cases c : 0 ≤ X
  · have := le_toInt.mp c
    rw [ti_0] at this
    rw [if_pos c]
    exact Int32.toInt_inj.mp (by rw [nI_toInt hd, h]; omega)
  · have : ¬ (0 : Int32).toInt ≤ X.toInt := fun q => c (le_toInt.mpr q)
    rw [ti_0] at this
    rw [if_neg c]
    refine Int32.toInt_inj.mp ?_
    rw [nI_toInt hd, Int32.toInt_sub, ti_0, h, Int.bmod_eq_of_le (by omega) (by omega)]
    omega
theorem dst_I {V : Nat → Nat} {z a b : Nat} (hz : z < 1000) (ha : V a ≤ 3200) (hb : V b ≤ 3200) : abI (nI (V a) - nI (V b) - nI z) = nI (dst V z a b) ∧ dst V z a b < 10000 := by
  have e : (nI (V a) - nI (V b) - nI z).toInt = (V a : Int) - V b - z := by
    rw [Int32.toInt_sub, sub_nI (by omega) (by omega), nI_toInt (by omega)]
    exact Int.bmod_eq_of_le (by omega) (by omega)
  have hd : dst V z a b < 10000 := by unfold dst; omega
  exact ⟨abI_n e (by unfold dst at hd; omega), hd⟩
theorem dif_eq {V : Nat → Nat} {z a b : Nat} (hz : z < 1000) (ha : V a ≤ 3200) (hb : V b ≤ 3200) : (nI (V a) - nI (V b) = nI z) ↔ V a = V b + z := by
  constructor
  · intro q
    have := congrArg Int32.toInt q
    rw [sub_nI (by omega) (by omega), nI_toInt (by omega)] at this
    omega
  · intro q
    refine Int32.toInt_inj.mp ?_
    rw [sub_nI (by omega) (by omega), nI_toInt (by omega)]
    omega
theorem dif_le {V : Nat → Nat} {a b : Nat} (ha : V a ≤ 3200) (hb : V b ≤ 3200) : (nI (V a) - nI (V b) ≤ 0) ↔ V a ≤ V b := by
  rw [le_toInt, sub_nI (by omega) (by omega), ti_0]
  omega
theorem nr_n {n m : Nat} {x v : Int32} (h : abI (x - v) = nI m) (hn : n < 2 ^ 31) (hm : m < 2 ^ 31) : nrI (nI n) x v = nI (if m < n then m else n) := by
  unfold nrI
  rw [h]
  by_cases c : m < n
  · rw [if_pos ((nJ_lt hm hn).mpr c), if_pos c]
  · rw [if_neg (fun q => c ((nJ_lt hm hn).mp q)), if_neg c]
/-! the class's walk -/
def SpC (V : Nat → Nat) (z : Nat) (S : Nat → Nat → Prop) (w : RdT) : Prop := (∃ n, w.1 7 = nI n ∧ SpN V z S n) ∧ SpD V S w.2 ∧ SpB true V z S (w.1 4) (w.1 5) (w.1 6)
theorem spC_skip {V : Nat → Nat} {z : Nat} {S : Nat → Nat → Prop} {w : RdT} {a0 b0 : Nat} (h : SpC V z S w) (hv : V a0 ≤ V b0) (hz : 1 ≤ z) : SpC V z (pls S a0 b0) w := by
  obtain ⟨⟨n, h1, h2⟩, h3, h4⟩ := h
  exact ⟨⟨n, h1, spN_skip h2 hv⟩, spD_skip h3 hv, spB_skip h4 (by omega)⟩
theorem spC_add {V : Nat → Nat} {z : Nat} {S : Nat → Nat → Prop} {w : RdT} {a0 b0 : Nat} (h : SpC V z S w) (hz : z < 1000) (ha : V a0 ≤ 3200) (hb : V b0 ≤ 3200) (hv : V b0 < V a0) (a8 : a0 < 256) (b8 : b0 < 256) (hS : ∀ a b, S a b → a < 256 ∧ b < 256 ∧ a * 256 + b < a0 * 256 + b0) : SpC V z (pls S a0 b0) (ntR (nI a0) (nI b0) (nI (V a0) - nI (V b0)) (nI z) w.1, ntD (nI (V a0) - nI (V b0)) w.2) := by
  obtain ⟨⟨n, h1, h2⟩, h3, h4⟩ := h
  obtain ⟨d1, d2⟩ := dst_I (V := V) (a := a0) (b := b0) hz ha hb
  have hn : n < 1000 := Nat.lt_of_le_of_lt h2.1 hz
  have e7 : nrI (w.1 7) (nI (V a0) - nI (V b0)) (nI z) = nI (if dst V z a0 b0 < n then dst V z a0 b0 else n) := by
    rw [h1]; exact nr_n d1 (by omega) (by omega)
  have pcl : ∀ x y, x < 256 → y < 256 → pc (x ||| y) ≤ 8 := fun x y hx hy => (mk_bc _ (or_lt hx hy)).2
  have hor : bcI (nI a0 ||| nI b0) = nI (pc (a0 ||| b0)) := by rw [nI_or, (mk_bc _ (or_lt a8 b8)).1]
  refine ⟨⟨_, ?_, spN_add (a0 := a0) (b0 := b0) h2⟩, ?_, ?_⟩
  · show ntR (nI a0) (nI b0) (nI (V a0) - nI (V b0)) (nI z) w.1 7 = _
    rw [← e7]
    unfold ntR kfR
    split
    · split
      · rw [upd_ne _ _ (by decide), upd_ne _ _ (by decide), upd_ne _ _ (by decide), upd_self]
      · rw [upd_self]
    · rw [upd_self]
  · show SpD V _ (ntD (nI (V a0) - nI (V b0)) w.2)
    have e : nI (V a0) - nI (V b0) = nI (V a0 - V b0) := nI_sub (by omega)
    unfold ntD
    rw [e, if_neg (by rw [show (3200 : Int32) = nI 3200 from rfl, nJ_lt (by decide) (by omega)]; omega), show (nI (V a0 - V b0)).toNatClampNeg = V a0 - V b0 from nI_clamp (by omega)]
    exact spD_add h3 hv
  · show SpB true V z _ (ntR (nI a0) (nI b0) (nI (V a0) - nI (V b0)) (nI z) w.1 4) (ntR (nI a0) (nI b0) (nI (V a0) - nI (V b0)) (nI z) w.1 5) (ntR (nI a0) (nI b0) (nI (V a0) - nI (V b0)) (nI z) w.1 6)
    unfold ntR
    by_cases c : nI (V a0) - nI (V b0) = nI z
    · have cz := (dif_eq hz ha hb).mp c
      rw [if_pos c]
      unfold kfR
      rw [upd_ne (w.1) _ (show (4 : Nat) ≠ 7 by decide), hor]
      by_cases c2 : w.1 4 = -6 ∨ ¬ w.1 4 ≤ nI (pc (a0 ||| b0))
      · rw [if_pos c2]
        refine spB_new h4 cz (fun a b hSab hab q4 q5 q6 => ?_)
        obtain ⟨x1, x2, x3⟩ := hS a b hSab
        have p1 := pcl a b x1 x2
        have p0 := pcl a0 b0 a8 b8
        rcases c2 with c2 | c2
        · rw [q4] at c2
          have := nI_nn (show pc (a ||| b) < 2 ^ 31 by omega)
          rw [c2] at this
          exact absurd this (by decide)
        · rw [q4, nJ_le (by omega) (by omega)] at c2
          unfold keyN
          omega
      · rw [if_neg c2]
        have n4 : w.1 4 ≠ -6 := fun q => c2 (Or.inl q)
        have l4 : w.1 4 ≤ nI (pc (a0 ||| b0)) := Classical.byContradiction (fun q => c2 (Or.inr q))
        rw [upd_ne _ _ (show (4 : Nat) ≠ 7 by decide), upd_ne _ _ (show (5 : Nat) ≠ 7 by decide), upd_ne _ _ (show (6 : Nat) ≠ 7 by decide)]
        refine spB_old h4 n4 (fun a b hSab hab q4 q5 q6 => ?_)
        obtain ⟨x1, x2, x3⟩ := hS a b hSab
        have p1 := pcl a b x1 x2
        have p0 := pcl a0 b0 a8 b8
        rw [q4, nJ_le (by omega) (by omega)] at l4
        unfold keyN
        omega
    · rw [if_neg c, upd_ne _ _ (show (4 : Nat) ≠ 7 by decide), upd_ne _ _ (show (5 : Nat) ≠ 7 by decide), upd_ne _ _ (show (6 : Nat) ≠ 7 by decide)]
      exact spB_skip h4 (fun q => c ((dif_eq hz ha hb).mpr q))
theorem set_eq {S T : Nat → Nat → Prop} (h : ∀ a b, S a b ↔ T a b) : S = T := funext (fun a => funext (fun b => propext (h a b)))
theorem sa_run {t k c : Nat} {μ : MemT} (h : Rel t k c μ) {B : Bool} {z : Nat} (hz : z < 1000) (hz1 : 1 ≤ z) : SpC (Vn B μ) z (okP t (μ 62)) (saR B (nI z) t μ) := by
  have ht := tr_ht (rl_tw h)
  generalize hf : (if B then 8 else 7) = f
  have hfv : ∀ s, inT t s → fillM μ f s = nI (Vn B μ s) ∧ Vn B μ s ≤ 3200 := fun s hs => by
    obtain ⟨v1, v2⟩ := Vn_eq h B hs
    refine ⟨?_, v2⟩
    rw [← v1, ← hf]
    unfold Vx
    cases B with
    | true => rw [if_pos rfl, if_pos rfl]; exact fill_8 h hs
    | false => rw [if_neg (by decide), if_neg (by decide)]; exact fill_7 h hs
  have eC : saR B (nI z) t μ = itr (fun a w => if (a &&& t == a) = true then (fun a w => if subI (fillM μ 9 a) (nI a) then ssR f a (nI z) (offN t a) (fillM μ) w else w) a w else w) 256 0 (sa0 (nI z) μ) := by
    rw [← itr_sub _ ht, ← hf]
    rfl
  have h0 : SpC (Vn B μ) z (fun x y => okP t (μ 62) x y ∧ x < 0) (sa0 (nI z) μ) := by
    refine ⟨⟨z, rfl, Nat.le_refl _, fun a b hS => absurd hS.2 (Nat.not_lt_zero _), Or.inl rfl⟩, fun v v1 v2 => ?_, Or.inl ⟨rfl, fun _ => ⟨rfl, rfl⟩, fun a b hS => absurd hS.2 (Nat.not_lt_zero _)⟩⟩
    refine ⟨fun _ ⟨a, b, hS, _⟩ => absurd hS.2 (Nat.not_lt_zero _), fun _ => ?_⟩
    simp only [sa0]
    exact filF_in 0 (μ 10) v2
  rw [eC]
  have hfin : (okP t (μ 62)) = (fun x y => okP t (μ 62) x y ∧ x < 256) := set_eq (fun a b => ⟨fun q => ⟨q, q.1.1⟩, fun q => q.1⟩)
  rw [hfin]
  refine itr_inv (I := fun a w => SpC (Vn B μ) z (fun x y => okP t (μ 62) x y ∧ x < a) w) (N := 256) (fun a w ha hI => ?_) 256 0 _ rfl h0
  by_cases cT : inT t a
  · rw [if_pos ((inT_b ha).mpr cT)]
    show SpC (Vn B μ) z _ (if subI (fillM μ 9 a) (nI a) then ssR f a (nI z) (offN t a) (fillM μ) w else w)
    rw [fill_9 h cT]
    by_cases cM : togM (nI a) (μ 62) = true
    · rw [if_pos cM]
      have ho : offN t a < 256 := (mk_off t ht a ha).2
      have eS : ssR f a (nI z) (offN t a) (fillM μ) w = itr (fun b w => if (b &&& offN t a == b) = true then (fun b (w : RdT) => if fillM μ f a - fillM μ f b ≤ 0 then w else if subI (fillM μ 9 b) (nI b) then (ntR (nI a) (nI b) (fillM μ f a - fillM μ f b) (nI z) w.1, ntD (fillM μ f a - fillM μ f b) w.2) else w) b w else w) 256 0 w := by
        rw [← itr_sub _ ho]
        rfl
      rw [eS]
      have e2 : (fun x y => okP t (μ 62) x y ∧ x < a + 1) = (fun x y => okP t (μ 62) x y ∧ (x < a ∨ (x = a ∧ y < 256))) := set_eq (fun x y => ⟨fun q => ⟨q.1, by have := q.1.2.1.1; omega⟩, fun q => ⟨q.1, by omega⟩⟩)
      have e0 : (fun x y => okP t (μ 62) x y ∧ x < a) = (fun x y => okP t (μ 62) x y ∧ (x < a ∨ (x = a ∧ y < 0))) := set_eq (fun x y => ⟨fun q => ⟨q.1, Or.inl q.2⟩, fun q => ⟨q.1, by omega⟩⟩)
      rw [e2]
      rw [e0] at hI
      refine itr_inv (I := fun b w => SpC (Vn B μ) z (fun x y => okP t (μ 62) x y ∧ (x < a ∨ (x = a ∧ y < b))) w) (N := 256) (fun b w hb hI => ?_) 256 0 _ rfl hI
      have same : ¬ okP t (μ 62) a b → SpC (Vn B μ) z (fun x y => okP t (μ 62) x y ∧ (x < a ∨ (x = a ∧ y < b + 1))) w := fun hno => by
        have : (fun x y => okP t (μ 62) x y ∧ (x < a ∨ (x = a ∧ y < b + 1))) = (fun x y => okP t (μ 62) x y ∧ (x < a ∨ (x = a ∧ y < b))) := set_eq (fun x y => ⟨fun q => ⟨q.1, by
          rcases q.2 with q2 | ⟨q2, q3⟩
          · exact Or.inl q2
          · by_cases e : y = b
            · subst e; rw [q2] at q; exact absurd q.1 hno
            · exact Or.inr ⟨q2, by omega⟩⟩, fun q => ⟨q.1, by omega⟩⟩)
        rw [this]; exact hI
      have more : okP t (μ 62) a b → (fun x y => okP t (μ 62) x y ∧ (x < a ∨ (x = a ∧ y < b + 1))) = pls (fun x y => okP t (μ 62) x y ∧ (x < a ∨ (x = a ∧ y < b))) a b := fun hyes => set_eq (fun x y => ⟨fun q => by
          by_cases e : x = a ∧ y = b
          · exact Or.inr e
          · exact Or.inl ⟨q.1, by omega⟩, fun q => by
          rcases q with q | ⟨rfl, rfl⟩
          · exact ⟨q.1, by omega⟩
          · exact ⟨hyes, by omega⟩⟩)
      by_cases cO : inT (offN t a) b
      · have cB := (off_and ht cT hb).mp cO
        rw [if_pos ((inT_b hb).mpr cO)]
        show SpC (Vn B μ) z _ (if fillM μ f a - fillM μ f b ≤ 0 then w else if subI (fillM μ 9 b) (nI b) then (ntR (nI a) (nI b) (fillM μ f a - fillM μ f b) (nI z) w.1, ntD (fillM μ f a - fillM μ f b) w.2) else w)
        obtain ⟨fa1, fa2⟩ := hfv a cT
        obtain ⟨fb1, fb2⟩ := hfv b cB.1
        rw [fa1, fb1, fill_9 h cB.1]
        by_cases cMb : togM (nI b) (μ 62) = true
        · have hyes : okP t (μ 62) a b := ⟨cT, cB.1, cB.2, cM, cMb⟩
          rw [more hyes]
          by_cases cD : nI (Vn B μ a) - nI (Vn B μ b) ≤ 0
          · rw [if_pos cD]
            exact spC_skip hI ((dif_le fa2 fb2).mp cD) hz1
          · rw [if_neg cD, if_pos cMb]
            refine spC_add hI hz fa2 fb2 (by have q1 : ¬ Vn B μ a ≤ Vn B μ b := fun q => cD ((dif_le fa2 fb2).mpr q); omega) ha hb (fun x y q => ⟨q.1.1.1, q.1.2.1.1, ?_⟩)
            have h1 := q.1.2.1.1
            have h2 := q.2
            omega
        · rw [if_neg cMb]
          have hno : ¬ okP t (μ 62) a b := fun q => cMb q.2.2.2.2
          have := same hno
          split <;> exact this
      · rw [if_neg (fun q => cO ((inT_b hb).mp q))]
        exact same (fun q => cO ((off_and ht cT hb).mpr ⟨q.2.1, q.2.2.1⟩))
    · rw [if_neg cM]
      have : (fun x y => okP t (μ 62) x y ∧ x < a + 1) = (fun x y => okP t (μ 62) x y ∧ x < a) := set_eq (fun x y => ⟨fun q => ⟨q.1, by
        by_cases e : x = a
        · subst e; exact absurd q.1.2.2.2.1 cM
        · omega⟩, fun q => ⟨q.1, by omega⟩⟩)
      rw [this]; exact hI
  · rw [if_neg (fun q => cT ((inT_b ha).mp q))]
    have : (fun x y => okP t (μ 62) x y ∧ x < a + 1) = (fun x y => okP t (μ 62) x y ∧ x < a) := set_eq (fun x y => ⟨fun q => ⟨q.1, by
      by_cases e : x = a
      · subst e; exact absurd q.1.1 cT
      · omega⟩, fun q => ⟨q.1, by omega⟩⟩)
    rw [this]; exact hI
/-! the reference's count of seats -/
def seen6 (j a b : Nat) : Prop := ∃ i, i < j ∧ (seN i).2.1 = a ∧ (seN i).2.2 = b
theorem sea_ok {t k c : Nat} {μ : MemT} (h : Rel t k c μ) {j : Nat} (hj : j < 6561) : seaB (nI j) (nI t) (μ 62) = true ↔ okP t (μ 62) (seN j).2.1 (seN j).2.2 := by
  have ht := tr_ht (rl_tw h)
  obtain ⟨s1, s2, s3⟩ := se_ok j hj
  unfold seaB
  rw [se_n hj]
  show (subI (nI (seN j).2.1 ||| nI (seN j).2.2) (nI t) && (togM (nI (seN j).2.1) (μ 62) && togM (nI (seN j).2.2) (μ 62))) = true ↔ _
  rw [subI_or]
  simp only [Bool.and_eq_true]
  constructor
  · intro ⟨⟨g1, g2⟩, g3, g4⟩
    exact ⟨sub_inT ht s1 g1, sub_inT ht s2 g2, s3, g3, g4⟩
  · intro ⟨g1, g2, _, g3, g4⟩
    exact ⟨⟨inT_sub ht g1, inT_sub ht g2⟩, g3, g4⟩
theorem all6 {t : Nat} {sp : Nat → Int32} : (fun a b => okP t sp a b ∧ seen6 6561 a b) = okP t sp := set_eq (fun a b => ⟨fun q => q.1, fun q => ⟨q, by
  obtain ⟨e1, e2, e3⟩ := enc_ok a q.1.1 b q.2.1.1 q.2.2.1
  exact ⟨encN a b, e1, e2, e3⟩⟩⟩)
theorem one6 {t j : Nat} {sp : Nat → Int32} (h : okP t sp (seN j).2.1 (seN j).2.2) : (fun a b => okP t sp a b ∧ seen6 (j + 1) a b) = pls (fun a b => okP t sp a b ∧ seen6 j a b) (seN j).2.1 (seN j).2.2 := set_eq (fun a b => ⟨fun q => by
  obtain ⟨q1, i, q2, q3, q4⟩ := q
  by_cases e : i = j
  · subst e; exact Or.inr ⟨q3.symm, q4.symm⟩
  · exact Or.inl ⟨q1, i, by omega, q3, q4⟩, fun q => by
  rcases q with ⟨q1, i, q2, q3⟩ | ⟨rfl, rfl⟩
  · exact ⟨q1, i, by omega, q3⟩
  · exact ⟨h, j, by omega, rfl, rfl⟩⟩)
theorem no6 {t j : Nat} {sp : Nat → Int32} (h : ¬ okP t sp (seN j).2.1 (seN j).2.2) : (fun a b => okP t sp a b ∧ seen6 (j + 1) a b) = (fun a b => okP t sp a b ∧ seen6 j a b) := set_eq (fun a b => ⟨fun q => by
  obtain ⟨q1, i, q2, q3, q4⟩ := q
  by_cases e : i = j
  · subst e; rw [q3, q4] at h; exact absurd q1 h
  · exact ⟨q1, i, by omega, q3, q4⟩, fun q => by
  obtain ⟨q1, i, q2, q3⟩ := q
  exact ⟨q1, i, by omega, q3⟩⟩)
theorem seD_n {t k c : Nat} {μ : MemT} (h : Rel t k c μ) {B : Bool} {j : Nat} (hj : j < 6561) (hk : okP t (μ 62) (seN j).2.1 (seN j).2.2) : seD B (nI j) μ = nI (Vn B μ (seN j).2.1) - nI (Vn B μ (seN j).2.2) ∧ Vn B μ (seN j).2.1 ≤ 3200 ∧ Vn B μ (seN j).2.2 ≤ 3200 := by
  obtain ⟨v1, v2⟩ := Vn_eq h B hk.1
  obtain ⟨u1, u2⟩ := Vn_eq h B hk.2.1
  refine ⟨?_, v2, u2⟩
  rw [← v1, ← u1]
  unfold seD dfB Vx
  rw [se_n hj]
  cases B with
  | true => rfl
  | false => rfl
theorem on_pc {a b : Nat} (ha : a < 256) (hb : b < 256) : onI (nI a ||| nI b) = nI (pc (a ||| b)) := by
  rw [nI_or, on_nI (or_lt ha hb), (mk_bc _ (or_lt ha hb)).1]
theorem mk_run {t k c : Nat} {μ : MemT} (h : Rel t k c μ) {B : Bool} {z : Nat} (hz : z < 1000) : SpB false (Vn B μ) z (okP t (μ 62)) (mkR B (nI z) μ).1 (mkR B (nI z) μ).2.1 (mkR B (nI z) μ).2.2 := by
  have e1 : μ 58 0 = nI t := show mI μ 0 = nI t from tr_bps (rl_tw h)
  rw [← all6]
  unfold mkR
  refine itr_inv (I := fun j (w : S3T) => SpB false (Vn B μ) z (fun a b => okP t (μ 62) a b ∧ seen6 j a b) w.1 w.2.1 w.2.2) (N := 6561) (fun j w hj hI => ?_) 6561 0 _ rfl (Or.inl ⟨rfl, fun q => (by cases q), fun a b hS => by obtain ⟨_, i, hi, _⟩ := hS; omega⟩)
  unfold mkS
  rw [e1]
  obtain ⟨s1, s2, s3⟩ := se_ok j hj
  by_cases hs : seaB (nI j) (nI t) (μ 62) = true
  · have hk := (sea_ok h hj).mp hs
    obtain ⟨d1, d2, d3⟩ := seD_n h (B := B) hj hk
    rw [hs, Bool.true_and, one6 hk, d1]
    have er : (seR (nI j)).2.1 = nI (seN j).2.1 ∧ (seR (nI j)).2.2 = nI (seN j).2.2 := by rw [se_n hj]; exact ⟨rfl, rfl⟩
    rw [er.1, er.2, on_pc s1 s2]
    generalize hA : (seN j).2.1 = A at *
    generalize hC : (seN j).2.2 = C at *
    have p0 : pc (A ||| C) ≤ 8 := (mk_bc _ (or_lt s1 s2)).2
    by_cases hv : nI (Vn B μ A) - nI (Vn B μ C) = nI z
    · have hv2 := (dif_eq hz d2 d3).mp hv
      rw [if_pos (decide_eq_true hv)]
      by_cases hc : w.1 < 0 ∨ nI (pc (A ||| C)) < w.1 ∨ (nI (pc (A ||| C)) = w.1 ∧ (nI A < w.2.1 ∨ (nI A = w.2.1 ∧ nI C < w.2.2)))
      · rw [if_pos hc]
        refine spB_new hI hv2 (fun a b hSab hab q4 q5 q6 => ?_)
        have a8 := hSab.1.1.1
        have b8 := hSab.1.2.1.1
        have p1 : pc (a ||| b) ≤ 8 := (mk_bc _ (or_lt a8 b8)).2
        rw [q4, q5, q6, nJ_lt (by omega) (by omega), nJ_lt (by omega) (by omega), nJ_lt (by omega) (by omega), nI_eq (by omega) (by omega), nI_eq (by omega) (by omega)] at hc
        rcases hc with hc | hc
        · exact absurd hc (nI_nl (by omega))
        · unfold keyN; omega
      · rw [if_neg hc]
        have n4 : w.1 ≠ -6 := fun q => hc (Or.inl (by rw [q]; decide))
        refine spB_old hI n4 (fun a b hSab hab q4 q5 q6 => ?_)
        have a8 := hSab.1.1.1
        have b8 := hSab.1.2.1.1
        have p1 : pc (a ||| b) ≤ 8 := (mk_bc _ (or_lt a8 b8)).2
        have hc2 := fun q => hc (Or.inr q)
        rw [q4, q5, q6, nJ_lt (by omega) (by omega), nJ_lt (by omega) (by omega), nJ_lt (by omega) (by omega), nI_eq (by omega) (by omega), nI_eq (by omega) (by omega)] at hc2
        unfold keyN
        by_cases x1 : pc (A ||| C) < pc (a ||| b)
        · exact absurd (Or.inl x1) hc2
        · by_cases x2 : pc (A ||| C) = pc (a ||| b)
          · by_cases x3 : A < a
            · exact absurd (Or.inr ⟨x2, Or.inl x3⟩) hc2
            · by_cases x4 : A = a
              · by_cases x5 : C < b
                · exact absurd (Or.inr ⟨x2, Or.inr ⟨x4, x5⟩⟩) hc2
                · omega
              · omega
          · omega
    · rw [if_neg (by simpa using hv)]
      exact spB_skip hI (fun q => hv ((dif_eq hz d2 d3).mpr q))
  · have hs0 : seaB (nI j) (nI t) (μ 62) = false := by simpa using hs
    rw [hs0, Bool.false_and, if_neg (by decide), no6 (fun q => hs ((sea_ok h hj).mpr q))]
    exact hI
theorem nr_run {t k c : Nat} {μ : MemT} (h : Rel t k c μ) {B : Bool} {z : Nat} (hz : z < 1000) : ∃ n, itr (nrS B (nI z) μ) 6561 0 (nI z) = nI n ∧ SpN (Vn B μ) z (okP t (μ 62)) n := by
  have e1 : μ 58 0 = nI t := show mI μ 0 = nI t from tr_bps (rl_tw h)
  rw [← all6]
  refine itr_inv (I := fun j (w : Int32) => ∃ n, w = nI n ∧ SpN (Vn B μ) z (fun a b => okP t (μ 62) a b ∧ seen6 j a b) n) (N := 6561) (fun j w hj hI => ?_) 6561 0 _ rfl ⟨z, rfl, Nat.le_refl _, fun a b hS => by obtain ⟨_, i, hi, _⟩ := hS; omega, Or.inl rfl⟩
  obtain ⟨n, rfl, hN⟩ := hI
  unfold nrS
  rw [e1]
  by_cases hs : seaB (nI j) (nI t) (μ 62) = true
  · have hk := (sea_ok h hj).mp hs
    obtain ⟨d1, d2, d3⟩ := seD_n h (B := B) hj hk
    rw [if_pos hs, one6 hk, d1]
    obtain ⟨x1, x2⟩ := dst_I (V := Vn B μ) (a := (seN j).2.1) (b := (seN j).2.2) hz d2 d3
    have hn : n < 1000 := Nat.lt_of_le_of_lt hN.1 hz
    refine ⟨_, ?_, spN_add (a0 := (seN j).2.1) (b0 := (seN j).2.2) hN⟩
    exact nr_n (n := n) x1 (by omega) (by omega)
  · rw [if_neg hs, no6 (fun q => hs ((sea_ok h hj).mpr q))]
    exact ⟨n, rfl, hN⟩
theorem gp_run {t k c : Nat} {μ : MemT} (h : Rel t k c μ) {B : Bool} : SpD (Vn B μ) (okP t (μ 62)) (gpR B μ) := by
  have e1 : μ 58 0 = nI t := show mI μ 0 = nI t from tr_bps (rl_tw h)
  rw [← all6]
  unfold gpR
  refine itr_inv (I := fun j (w : Nat → Int32) => SpD (Vn B μ) (fun a b => okP t (μ 62) a b ∧ seen6 j a b) w) (N := 6561) (fun j w hj hI => ?_) 6561 0 _ rfl (fun v v1 v2 => ⟨fun _ ⟨a, b, hS, _⟩ => by obtain ⟨_, i, hi, _⟩ := hS; omega, fun _ => filF_in 0 _ v2⟩)
  unfold gpS
  rw [e1]
  by_cases hs : seaB (nI j) (nI t) (μ 62) = true
  · have hk := (sea_ok h hj).mp hs
    obtain ⟨d1, d2, d3⟩ := seD_n h (B := B) hj hk
    rw [if_pos hs, one6 hk, d1]
    by_cases hd : nI (Vn B μ (seN j).2.1) - nI (Vn B μ (seN j).2.2) ≤ 0
    · rw [if_pos hd]
      exact spD_skip hI ((dif_le d2 d3).mp hd)
    · have hlt : Vn B μ (seN j).2.2 < Vn B μ (seN j).2.1 := by
        have : ¬ Vn B μ (seN j).2.1 ≤ Vn B μ (seN j).2.2 := fun q => hd ((dif_le d2 d3).mpr q)
        omega
      rw [if_neg hd, nI_sub (by omega), cl_n (by omega)]
      exact spD_add hI hlt
  · rw [if_neg hs, no6 (fun q => hs ((sea_ok h hj).mpr q))]
    exact hI
theorem gapB_ok {t k c : Nat} {μ : MemT} (h : Rel t k c μ) (B : Bool) : GapB B μ := by
  have ht := tr_ht (rl_tw h)
  have e1 : μ 58 0 = nI t := show mI μ 0 = nI t from tr_bps (rl_tw h)
  intro x hx hpos
  rw [e1] at hx
  unfold seaB at hx
  rw [Bool.and_eq_true, subI_or, Bool.and_eq_true] at hx
  obtain ⟨⟨g1, g2⟩, -⟩ := hx
  obtain ⟨a, ha, ea, ea2⟩ := subI_ex ht g1
  obtain ⟨b, hb, eb, eb2⟩ := subI_ex ht g2
  obtain ⟨v1, v2⟩ := Vn_eq h B (s := a) ⟨ha, ea2⟩
  obtain ⟨u1, u2⟩ := Vn_eq h B (s := b) ⟨hb, eb2⟩
  have eD : seD B x μ = nI (Vn B μ a) - nI (Vn B μ b) := by
    rw [← v1, ← u1]
    unfold seD dfB Vx
    rw [ea, eb]
    cases B <;> rfl
  rw [eD] at hpos ⊢
  have hlt : Vn B μ b < Vn B μ a := by
    have := lt_toInt.mp hpos
    rw [sub_nI (by omega) (by omega), ti_0] at this
    omega
  rw [nI_sub (by omega), cl_n (by omega)]
  omega
/-! make, near, gap -/
theorem sa_ne {r : Nat} (h : r < 6 ∨ 11 ≤ r) (B : Bool) (z : Int32) (t : Nat) (μ : MemT) : saM B z t μ r = μ r := by
  rw [saM, putRd_ne _ _ (by omega) (by omega), fill_ne (by omega)]
theorem rl_sa {t k c : Nat} {μ : MemT} (h : Rel t k c μ) (B : Bool) (z : Int32) : Rel t k c (saM B z t μ) := rl_pans h (fun r hr => sa_ne hr B z t μ) (by rw [saM, putRd_ne _ _ (by decide) (by decide), putRd_ne _ _ (by decide) (by decide), putRd_ne _ _ (by decide) (by decide)]; exact fill_z h)
theorem rl_seF {t k c : Nat} {μ : MemT} (h : Rel t k c μ) (f g : Int32) : Rel t k c (seF f g μ) := by
  have g1 : ∀ r, r ≠ 58 → seF f g μ r = μ r := fun r hr => seF_ne f g μ hr
  exact rl_cong h (g1 2 (by decide)) (g1 78 (by decide)) (g1 77 (by decide)) (by rw [g1 3 (by decide)]) (g1 4 (by decide)) (g1 66 (by decide)) (fun r h1 h2 => g1 r (by omega)) (fun r h1 h2 p _ => by rw [g1 r (by omega)]) (fun i hi => seF_f f g μ (by omega) (by omega)) (by rw [g1 7 (by decide)]; exact rl_z7 h) (by rw [g1 8 (by decide)]; exact rl_z8 h) (by rw [g1 9 (by decide)]; exact rl_z9 h)
theorem rl_74 {t k c : Nat} {μ : MemT} (h : Rel t k c μ) (x : Nat → Int32) : Rel t k c (mset μ 74 x) := by
  have g1 : ∀ r, r ≠ 74 → mset μ 74 x r = μ r := fun r hr => mset_ne _ _ hr
  exact rl_cong h (g1 2 (by decide)) (g1 78 (by decide)) (g1 77 (by decide)) (by rw [g1 3 (by decide)]) (g1 4 (by decide)) (g1 66 (by decide)) (fun r h1 h2 => g1 r (by omega)) (fun r h1 h2 p _ => by rw [g1 r (by omega)]) (fun i hi => by rw [g1 58 (by decide)]) (by rw [g1 7 (by decide)]; exact rl_z7 h) (by rw [g1 8 (by decide)]; exact rl_z8 h) (by rw [g1 9 (by decide)]; exact rl_z9 h)
theorem Vn_M {B : Bool} {μ M : MemT} (hM : ∀ r, 58 ≤ r → M r = μ r) : Vn B M = Vn B μ := by
  funext s
  unfold Vn Vx
  rw [hM 58 (by decide), hM 59 (by decide), hM 60 (by decide)]
theorem rl_make {t k c : Nat} {μ : MemT} (h : Rel t k c μ) (x w : Int32) (B : Bool) : mMake x B w (xMake t x B w μ).2 = (xMake t x B w μ).1 ∧ Rel t k c (xMake t x B w μ).2 := by
  by_cases hr : (inR x 1 999 && inR w 0 2) = true
  · rw [xMake, if_pos hr]
    rw [Bool.and_eq_true] at hr
    obtain ⟨z, hz, rfl⟩ := inR1_ex (n := 999) hr.1
    have hz1 : 1 ≤ z := by have := inR_of hr.1; rw [nI_toInt (by omega)] at this; omega
    refine ⟨?_, rl_sa h B _⟩
    show mMake (nI z) B w (saM B (nI z) t μ) = (if w = 0 then (saR B (nI z) t μ).1 4 else if w = 1 then (saR B (nI z) t μ).1 5 else (saR B (nI z) t μ).1 6)
    obtain ⟨-, -, hB⟩ := sa_run h (B := B) (z := z) (by omega) hz1
    have hm := mk_run (rl_sa h B (nI z)) (B := B) (z := z) (by omega)
    rw [Vn_M (μ := μ) (fun r hr => sa_ne (by omega) B (nI z) t μ), sa_ne (by decide)] at hm
    rw [mMake, if_pos (by rw [hr.1, hr.2]; rfl)]
    rcases spB_uni (fun a b hS => ⟨hS.1.1, hS.2.1.1⟩) hB hm with ⟨u1, u2, u3, u4⟩ | ⟨u1, u2, u3, u4⟩
    · rw [u1, u2, u3, u4, if_pos (Or.inl (by decide))]
      split
      · rfl
      · split <;> rfl
    · rw [u2, u3, u4]
      have nn : ¬ (mkR B (nI z) (saM B (nI z) t μ)).1 < 0 := fun q => by
        have a1 := le_toInt.mp u1
        have a2 := lt_toInt.mp q
        omega
      by_cases hw : w = 0
      · rw [if_pos (Or.inr hw), if_pos hw]
      · rw [if_neg (fun q => q.elim nn hw), if_neg hw]
  · rw [xMake, if_neg hr]
    refine ⟨?_, h⟩
    show mMake x B w μ = -2
    rw [mMake, if_neg hr]
theorem rl_near {t k c : Nat} {μ : MemT} (h : Rel t k c μ) (x : Int32) (B : Bool) : mNear x B (xNear t x B μ).2 = (xNear t x B μ).1 ∧ Rel t k c (xNear t x B μ).2 := by
  by_cases hr : inR x 1 999 = true
  · rw [xNear, if_pos hr]
    obtain ⟨z, hz, rfl⟩ := inR1_ex (n := 999) hr
    have hz1 : 1 ≤ z := by have := inR_of hr; rw [nI_toInt (by omega)] at this; omega
    refine ⟨?_, rl_sa h B _⟩
    show mNear (nI z) B (saM B (nI z) t μ) = (saR B (nI z) t μ).1 7
    obtain ⟨⟨n, e1, hN⟩, -, -⟩ := sa_run h (B := B) (z := z) (by omega) hz1
    obtain ⟨m, e2, hm⟩ := nr_run (rl_sa h B (nI z)) (B := B) (z := z) (by omega)
    rw [Vn_M (μ := μ) (fun r hr => sa_ne (by omega) B (nI z) t μ), sa_ne (by decide)] at hm
    rw [mNear, if_pos hr, e1, e2, spN_uni hN hm]
  · rw [xNear, if_neg hr]
    refine ⟨?_, h⟩
    show mNear x B μ = -2
    rw [mNear, if_neg hr]
theorem rl_gap {t k c : Nat} {μ : MemT} (h : Rel t k c μ) (B : Bool) : mGap B (xGap t B μ).2 = (xGap t B μ).1 ∧ Rel t k c (xGap t B μ).2 := by
  rw [xGap]
  refine ⟨?_, rl_sa h B _⟩
  show luB (gpR B (saM B 1 t μ)) = luB (saR B 1 t μ).2
  obtain ⟨-, hD, -⟩ := sa_run h (B := B) (z := 1) (by decide) (by decide)
  have hG := gp_run (rl_sa h B 1) (B := B)
  rw [Vn_M (μ := μ) (fun r hr => sa_ne (by omega) B 1 t μ), sa_ne (by decide)] at hG
  unfold luB
  have : fnd (fun j => decide (gpR B (saM B 1 t μ) j = 0)) 3200 1 = fnd (fun j => decide ((saR B 1 t μ).2 j = 0)) 3200 1 := by
    refine fnd_cong 3200 1 (fun v v1 v2 => ?_)
    rw [decide_eq_decide, hG v v1 (by omega)]
    exact (hD v v1 (by omega)).symm
  rw [this]

/-! cells under construction: the cells come in a fixed order, one behind another -/
def pzO : List Nat := [0, 18, 19, 20, 21, 22, 23, 24, 25, 1, 26, 27, 28, 29, 30, 31, 32, 33, 34, 35, 36, 37, 38, 39, 40, 41, 2, 3, 4, 5, 42, 43, 44, 45, 46, 47, 48, 49, 6, 7, 8, 9, 10, 11, 12, 13, 14, 15, 16, 17, 50, 51, 52, 53, 54, 55, 56, 57, 58, 59, 60, 61, 62, 63, 64, 65, 66, 67, 68, 69, 70, 71, 72, 73, 74, 75, 76, 77, 78]
def pzP : List Nat := [0, 9, 26, 27, 28, 29, 38, 39, 40, 41, 42, 43, 44, 45, 46, 47, 48, 49, 1, 2, 3, 4, 5, 6, 7, 8, 10, 11, 12, 13, 14, 15, 16, 17, 18, 19, 20, 21, 22, 23, 24, 25, 30, 31, 32, 33, 34, 35, 36, 37, 50, 51, 52, 53, 54, 55, 56, 57, 58, 59, 60, 61, 62, 63, 64, 65, 66, 67, 68, 69, 70, 71, 72, 73, 74, 75, 76, 77, 78]
def oz (i : Nat) : Nat := pzO.getD i 0
def poz (k : Nat) : Nat := pzP.getD k 0
theorem poz_oz : ∀ i, i < 79 → poz (oz i) = i ∧ oz i < 79 := by decide
theorem oz_poz : ∀ k, k < 79 → oz (poz k) = k ∧ poz k < 79 := by decide
def zd_fv (ad : Nat → Nat) (r : Nat → Int32) (i : Nat) : Nat ⊕ Nat → Value
  | .inl j => if r i = 0 then .null else .ref (ad j)
  | .inr 0 => .int (r i)
  | .inr (_ + 1) => .long (sw_jn (r (2 * i)) (r (2 * i + 1)))
def zd_fs (ad : Nat → Nat) (r : Nat → Int32) : Nat → List (Nat ⊕ Nat) → List Value
  | _, [] => []
  | i, t :: ts => zd_fv ad r i t :: zd_fs ad r (i + 1) ts
theorem zd_fs_at (ad : Nat → Nat) (r : Nat → Int32) : ∀ (ts : List (Nat ⊕ Nat)) (i k : Nat), (zd_fs ad r i ts)[k]? = (ts[k]?).map (zd_fv ad r (i + k))
  | [], i, k => by simp [zd_fs]
  | t :: ts, i, 0 => by simp [zd_fs]
  | t :: ts, i, k + 1 => by
    simp only [zd_fs, List.getElem?_cons_succ]
    rw [zd_fs_at ad r ts (i + 1) k, Nat.add_right_comm, Nat.add_assoc]
theorem zd_fs_len (ad : Nat → Nat) (r : Nat → Int32) : ∀ (ts : List (Nat ⊕ Nat)) (i : Nat), (zd_fs ad r i ts).length = ts.length
  | [], i => rfl
  | t :: ts, i => by simp [zd_fs, zd_fs_len ad r ts (i + 1)]
def zd_e (ad : Nat → Nat) (ar : Nat → ClassId) (r : Nat → Int32) : KdT → va_E
  | .inl (ci, tm) => .inr (ci, zd_fs ad r 0 tm)
  | .inr (3, n) => .inl (ar 3, n, .inr (.inr (.inr (.inr (fun j => if r j = 0 then none else sw_img ad j)))))
  | .inr (q, n) => .inl (ar q, n, .inl r)
def zd_cell (ad : Nat → Nat) (ar : Nat → ClassId) (μ : MemT) (k : Nat) : va_E := match kdL[k]? with
  | some kd => zd_e ad ar (μ k) kd
  | none => .inl (ar 0, 0, .inl (μ k))
theorem zd_cell_of {ad : Nat → Nat} {ar : Nat → ClassId} {μ : MemT} {k : Nat} {kd : KdT} (h : kdL[k]? = some kd) : zd_cell ad ar μ k = zd_e ad ar (μ k) kd := by
  unfold zd_cell
  rw [h]
def zd_ws (ad : Nat → Nat) (ar : Nat → ClassId) (μ : MemT) (n : Nat) : va_W := (List.range n).map (fun i => (ad (oz i), zd_cell ad ar μ (oz i)))
theorem zd_ws_len (ad : Nat → Nat) (ar : Nat → ClassId) (μ : MemT) (n : Nat) : (zd_ws ad ar μ n).length = n := by simp [zd_ws]
theorem zd_ws_ix {ad : Nat → Nat} {ar : Nat → ClassId} {μ : MemT} {n i : Nat} (h : i < n) : (zd_ws ad ar μ n)[i]? = some (ad (oz i), zd_cell ad ar μ (oz i)) := by
  unfold zd_ws
  rw [List.getElem?_map, List.getElem?_range h]
  rfl
theorem kd_lt {k : Nat} {kd : KdT} (h : kdL[k]? = some kd) : k < 79 := by
  have := (List.getElem?_eq_some_iff.mp h).1
  rwa [kdL_len] at this
theorem zd_ws_at {ad : Nat → Nat} {ar : Nat → ClassId} {μ : MemT} {n k : Nat} {kd : KdT} (h : kdL[k]? = some kd) (hn : poz k < n) : (zd_ws ad ar μ n)[poz k]? = some (ad k, zd_e ad ar (μ k) kd) := by
  rw [zd_ws_ix hn, (oz_poz k (kd_lt h)).1, zd_cell_of h]
theorem zd_ws_set {ad : Nat → Nat} {ar : Nat → ClassId} {μ : MemT} {n k : Nat} {kd : KdT} (h : kdL[k]? = some kd) (hn : poz k < n) (h79 : n ≤ 79) (r : Nat → Int32) : (zd_ws ad ar μ n).set (poz k) (ad k, zd_e ad ar r kd) = zd_ws ad ar (mset μ k r) n := by
  apply List.ext_getElem?
  intro j
  by_cases hj : j = poz k
  · subst hj
    rw [List.getElem?_set_self (by rw [zd_ws_len]; exact hn), zd_ws_at h hn, mset_self]
  · rw [List.getElem?_set_ne (Ne.symm hj)]
    by_cases hj2 : j < n
    · rw [zd_ws_ix hj2, zd_ws_ix hj2]
      unfold zd_cell
      have hne : oz j ≠ k := fun q => hj (by rw [← q, (poz_oz j (by omega)).1])
      rw [mset_ne μ r hne]
    · rw [List.getElem?_eq_none (by rw [zd_ws_len]; omega), List.getElem?_eq_none (by rw [zd_ws_len]; omega)]
theorem zd_ws_app {ad : Nat → Nat} {ar : Nat → ClassId} {μ : MemT} {n k : Nat} {kd : KdT} (h : kdL[k]? = some kd) (hn : poz k = n) (r : Nat → Int32) : zd_ws ad ar μ n ++ [(ad k, zd_e ad ar r kd)] = zd_ws ad ar (mset μ k r) (n + 1) := by
  have hk := kd_lt h
  have hlt := (oz_poz k hk).2
  have ho : oz n = k := by rw [← hn]; exact (oz_poz k hk).1
  apply List.ext_getElem?
  intro j
  by_cases hj : j < n
  · rw [List.getElem?_append_left (by rw [zd_ws_len]; exact hj), zd_ws_ix hj, zd_ws_ix (by omega)]
    unfold zd_cell
    have hne : oz j ≠ k := fun q => by
      have := (poz_oz j (by omega)).1
      rw [q] at this
      omega
    rw [mset_ne μ r hne]
  · rw [List.getElem?_append_right (by rw [zd_ws_len]; omega), zd_ws_len]
    by_cases hj2 : j = n
    · subst hj2
      rw [Nat.sub_self, zd_ws_ix (by omega), ho, zd_cell_of h, mset_self]
      rfl
    · rw [List.getElem?_eq_none (by simp; omega), List.getElem?_eq_none (by rw [zd_ws_len]; omega)]
def zd_P (G : GT) (n : Nat) (μ : MemT) (H : Heap) : Prop := H.size = G.2.1 0 + n ∧ va_P G.1 vwCl (zd_ws G.2.1 G.2.2 μ n) H
def zd_A (G : GT) : Nat → Prop := fun q => G.2.1 0 ≤ q
def zd_ad (G : GT) : Prop := ∀ k, k < 79 → G.2.1 k = G.2.1 0 + poz k
theorem zd_sw_D {G : GT} (h : zd_ad G) : sw_D G.2.1 := by
  intro i j hi hj e
  rw [h i hi, h j hj] at e
  have : poz i = poz j := by omega
  rw [← (oz_poz i hi).1, ← (oz_poz j hj).1, this]
theorem zd_D {G : GT} {μ : MemT} {n : Nat} (h : zd_ad G) (hn : n ≤ 79) : va_D (zd_A G) (zd_ws G.2.1 G.2.2 μ n) := by
  have at' : ∀ (k : Nat) (q : Nat × va_E), (zd_ws G.2.1 G.2.2 μ n)[k]? = some q → k < n ∧ q.1 = G.2.1 0 + k := by
    intro k q hq
    have hk : k < n := by
      have := (List.getElem?_eq_some_iff.mp hq).1
      rwa [zd_ws_len] at this
    rw [zd_ws_ix hk] at hq
    cases hq
    refine ⟨hk, ?_⟩
    obtain ⟨a1, a2⟩ := poz_oz k (by omega)
    show G.2.1 (oz k) = _
    rw [h _ a2, a1]
  refine ⟨fun i j p q hi hj he => ?_, fun k q hk => ?_⟩
  · obtain ⟨a1, a2⟩ := at' i p hi
    obtain ⟨b1, b2⟩ := at' j q hj
    omega
  · obtain ⟨a1, a2⟩ := at' k q hk
    show G.2.1 0 ≤ q.1
    omega
theorem zd_fs_upd {ad : Nat → Nat} {r : Nat → Int32} {x : Int32} {tm : List (Nat ⊕ Nat)} {k : Nat} (hn : noLong tm = true) (hk : tm[k]? = some (.inr 0)) : (zd_fs ad r 0 tm).set k (.int x) = zd_fs ad (upd r k x) 0 tm := by
  have hlt : k < tm.length := (List.getElem?_eq_some_iff.mp hk).1
  apply List.ext_getElem?
  intro j
  by_cases hj : j = k
  · subst hj
    rw [List.getElem?_set_self (by rw [zd_fs_len]; exact hlt), zd_fs_at, hk]
    simp only [Option.map_some, zd_fv, Nat.zero_add, upd_self]
  · rw [List.getElem?_set_ne (Ne.symm hj), zd_fs_at, zd_fs_at]
    cases ht : tm[j]? with
    | none => rfl
    | some t =>
      have hm := List.all_eq_true.mp hn t (List.mem_of_getElem? ht)
      simp only [Option.map_some, Nat.zero_add]
      match t, hm with
      | .inl q, _ => simp only [zd_fv, upd_ne r _ hj]
      | .inr 0, _ => simp only [zd_fv, upd_ne r _ hj]
      | .inr (q + 1), h => cases h
theorem zd_fs_updr {ad : Nat → Nat} {r : Nat → Int32} {c : Nat} {tm : List (Nat ⊕ Nat)} {k : Nat} (hn : noLong tm = true) (hk : tm[k]? = some (.inl c)) : (zd_fs ad r 0 tm).set k (.ref (ad c)) = zd_fs ad (upd r k 1) 0 tm := by
  have hlt : k < tm.length := (List.getElem?_eq_some_iff.mp hk).1
  apply List.ext_getElem?
  intro j
  by_cases hj : j = k
  · subst hj
    rw [List.getElem?_set_self (by rw [zd_fs_len]; exact hlt), zd_fs_at, hk]
    simp only [Option.map_some, zd_fv, Nat.zero_add, upd_self]
    rfl
  · rw [List.getElem?_set_ne (Ne.symm hj), zd_fs_at, zd_fs_at]
    cases ht : tm[j]? with
    | none => rfl
    | some t =>
      have hm := List.all_eq_true.mp hn t (List.mem_of_getElem? ht)
      simp only [Option.map_some, Nat.zero_add]
      match t, hm with
      | .inl q, _ => simp only [zd_fv, upd_ne r _ hj]
      | .inr 0, _ => simp only [zd_fv, upd_ne r _ hj]
      | .inr (q + 1), h => cases h
/-! the judgement of constructors -/
abbrev KZ : Type := Program → Env → State → MethodId → Array Value → List Frame → Method → Code → (State → Prop) → Prop
def zd_F (G : GT) (cc : ByteArray) (nl : Nat) (own : String) (p : Program) (s : State) (m : MethodId) (args : Array Value) (c : Code) : Prop :=
  p.tables.exec = Jvm.exec ∧ c.code = cc ∧ c.maxLocals = nl ∧ s.vm.findClass own = some m.cls ∧ (∀ w ∈ wL, w.before args s = true) ∧ sw_K G s ∧ zd_ad G
def Zj (l : Launch) (G : GT) (R : Room) (κ : KZ) (cc : ByteArray) (nl : Nat) (own : String) (cs sl n : Nat) (μ : MemT) (pc : Nat) (lv : List (Option Value)) (st : List Value) : Prop :=
  ∀ (p : Program) (e : Env) (s : State) (m : MethodId) (args : Array Value) (below : List Frame) (meth : Method) (c : Code) (Q : State → Prop), κ p e s m args below meth c Q → zd_F G cc nl own p s m args c → ∀ (H : Heap) (locs : List Loc) (ls : Array Slot), zd_P G n μ H → va_S (zd_A G) s.heap H locs → sw_L ls nl lv → W p l e R s m args below meth c H locs cs sl Q (F0 m pc ls st)

theorem z_iconst {l : Launch} {G : GT} {R : Room} {κ : KZ} {cc : ByteArray} {nl : Nat} {own : String} {cs sl n : Nat} {μ : MemT} {pc : Nat} {lv : List (Option Value)} {st : List Value} {k : Int} {v : Int32} (d : decode cc pc = .ok (.iconst k, 1)) (hv : Int32.ofInt k = v) (h : Zj l G R κ cc nl own cs sl n μ (pc + 1) lv (.int v :: st)) : Zj l G R κ cc nl own cs sl n μ pc lv st := fun p e s m args below meth c Q hk F H locs ls hP hS hl => lv_iconst F.1 F.2.1 d hv (h p e s m args below meth c Q hk F H locs ls hP hS hl)
theorem z_bipush {l : Launch} {G : GT} {R : Room} {κ : KZ} {cc : ByteArray} {nl : Nat} {own : String} {cs sl n : Nat} {μ : MemT} {pc : Nat} {lv : List (Option Value)} {st : List Value} {k : Int} {v : Int32} (d : decode cc pc = .ok (.bipush k, 2)) (hv : (Int8.ofInt k).toInt32 = v) (h : Zj l G R κ cc nl own cs sl n μ (pc + 2) lv (.int v :: st)) : Zj l G R κ cc nl own cs sl n μ pc lv st := fun p e s m args below meth c Q hk F H locs ls hP hS hl => lv_bipush F.1 F.2.1 d hv (h p e s m args below meth c Q hk F H locs ls hP hS hl)
theorem z_sipush {l : Launch} {G : GT} {R : Room} {κ : KZ} {cc : ByteArray} {nl : Nat} {own : String} {cs sl n : Nat} {μ : MemT} {pc : Nat} {lv : List (Option Value)} {st : List Value} {k : Int} {v : Int32} (d : decode cc pc = .ok (.sipush k, 3)) (hv : (Int16.ofInt k).toInt32 = v) (h : Zj l G R κ cc nl own cs sl n μ (pc + 3) lv (.int v :: st)) : Zj l G R κ cc nl own cs sl n μ pc lv st := fun p e s m args below meth c Q hk F H locs ls hP hS hl => lv_sipush F.1 F.2.1 d hv (h p e s m args below meth c Q hk F H locs ls hP hS hl)
theorem z_iload_n {l : Launch} {G : GT} {R : Room} {κ : KZ} {cc : ByteArray} {nl : Nat} {own : String} {cs sl n : Nat} {μ : MemT} {pc : Nat} {lv : List (Option Value)} {st : List Value} {k : Fin 4} {i : Nat} {x : Int32} (d : decode cc pc = .ok (.iload_n k, 1)) (hi : (k : Nat) = i) (hx : lv[i]? = some (some (.int x))) (h : Zj l G R κ cc nl own cs sl n μ (pc + 1) lv (.int x :: st)) : Zj l G R κ cc nl own cs sl n μ pc lv st := fun p e s m args below meth c Q hk F H locs ls hP hS hl => lv_iload_n F.1 F.2.1 d hi (hl.2.2 _ _ hx) (h p e s m args below meth c Q hk F H locs ls hP hS hl)
theorem z_aload_n {l : Launch} {G : GT} {R : Room} {κ : KZ} {cc : ByteArray} {nl : Nat} {own : String} {cs sl n : Nat} {μ : MemT} {pc : Nat} {lv : List (Option Value)} {st : List Value} {k : Fin 4} {i : Nat} {x : Nat} (d : decode cc pc = .ok (.aload_n k, 1)) (hi : (k : Nat) = i) (hx : lv[i]? = some (some (.ref x))) (h : Zj l G R κ cc nl own cs sl n μ (pc + 1) lv (.ref x :: st)) : Zj l G R κ cc nl own cs sl n μ pc lv st := fun p e s m args below meth c Q hk F H locs ls hP hS hl => lv_aload_n F.1 F.2.1 d hi (hl.2.2 _ _ hx) (h p e s m args below meth c Q hk F H locs ls hP hS hl)
theorem z_istore_n {l : Launch} {G : GT} {R : Room} {κ : KZ} {cc : ByteArray} {nl : Nat} {own : String} {cs sl n : Nat} {μ : MemT} {pc : Nat} {lv : List (Option Value)} {st : List Value} {k : Fin 4} {i : Nat} {x : Int32} (d : decode cc pc = .ok (.istore_n k, 1)) (hi : (k : Nat) = i) (hok : okS lv i = true) (hn : i < nl) (h : Zj l G R κ cc nl own cs sl n μ (pc + 1) (lv.set i (some (.int x))) st) : Zj l G R κ cc nl own cs sl n μ pc lv (.int x :: st) := fun p e s m args below meth c Q hk F H locs ls hP hS hl => lv_istore_n F.1 F.2.1 d hi hl.has hn rfl (fun ls2 hl2 => h p e s m args below meth c Q hk F H locs ls2 hP hS (sw_L.st1 hok hl2))
theorem z_iinc {l : Launch} {G : GT} {R : Room} {κ : KZ} {cc : ByteArray} {nl : Nat} {own : String} {cs sl n : Nat} {μ : MemT} {pc : Nat} {lv : List (Option Value)} {st : List Value} {i : Nat} {k : Int} {x v : Int32} (d : decode cc pc = .ok (.iinc i k, 3)) (hx : lv[i]? = some (some (.int x))) (hv : x + Int32.ofInt k = v) (hok : okS lv i = true) (hn : i < nl) (h : Zj l G R κ cc nl own cs sl n μ (pc + 3) (lv.set i (some (.int v))) st) : Zj l G R κ cc nl own cs sl n μ pc lv st := fun p e s m args below meth c Q hk F H locs ls hP hS hl => (l_as_place hx).elim fun _ hp => lv_iinc F.1 F.2.1 d hl.has hp hv hn rfl (fun ls2 hl2 => h p e s m args below meth c Q hk F H locs ls2 hP hS (sw_L.st1 hok hl2))
theorem z_goto {l : Launch} {G : GT} {R : Room} {κ : KZ} {cc : ByteArray} {nl : Nat} {own : String} {cs sl n : Nat} {μ : MemT} {pc : Nat} {lv : List (Option Value)} {st : List Value} {off : Int} (tgt : Nat) (d : decode cc pc = .ok (.goto off, 3)) (ht : (pc : Int) + off = (tgt : Int)) (h : Zj l G R κ cc nl own cs sl n μ tgt lv st) : Zj l G R κ cc nl own cs sl n μ pc lv st := fun p e s m args below meth c Q hk F H locs ls hP hS hl => lv_goto F.1 F.2.1 d ht (h p e s m args below meth c Q hk F H locs ls hP hS hl)
theorem z_dup {l : Launch} {G : GT} {R : Room} {κ : KZ} {cc : ByteArray} {nl : Nat} {own : String} {cs sl n : Nat} {μ : MemT} {pc : Nat} {lv : List (Option Value)} {st : List Value} {v : Value} (d : decode cc pc = .ok (.dup, 1)) (hc : v.category = 1) (h : Zj l G R κ cc nl own cs sl n μ (pc + 1) lv (v :: v :: st)) : Zj l G R κ cc nl own cs sl n μ pc lv (v :: st) := fun p e s m args below meth c Q hk F H locs ls hP hS hl => lv_dup F.1 F.2.1 d hc (h p e s m args below meth c Q hk F H locs ls hP hS hl)
theorem z_icmp_ge {l : Launch} {G : GT} {R : Room} {κ : KZ} {cc : ByteArray} {nl : Nat} {own : String} {cs sl n : Nat} {μ : MemT} {pc : Nat} {lv : List (Option Value)} {st : List Value} {x y : Int32} {off : Int} (tgt : Nat) (d : decode cc pc = .ok (.if_icmp .ge off, 3)) (ht : (pc : Int) + off = (tgt : Int)) (kt : (y ≤ x) → Zj l G R κ cc nl own cs sl n μ tgt lv st) (kf : ¬ (y ≤ x) → Zj l G R κ cc nl own cs sl n μ (pc + 3) lv st) : Zj l G R κ cc nl own cs sl n μ pc lv (.int y :: .int x :: st) := fun p e s m args below meth c Q hk F H locs ls hP hS hl => lv_icmp_ge F.1 F.2.1 d ht (fun q => kt q p e s m args below meth c Q hk F H locs ls hP hS hl) (fun q => kf q p e s m args below meth c Q hk F H locs ls hP hS hl)
theorem z_eq {l : Launch} {G : GT} {R : Room} {κ : KZ} {cc : ByteArray} {nl : Nat} {own : String} {cs sl n : Nat} {μ : MemT} {pc : Nat} {lv : List (Option Value)} {st : List Value} {μ2 : MemT} {lv2 : List (Option Value)} {st2 : List Value} (h1 : μ = μ2) (h2 : lv = lv2) (h3 : st = st2) (h : Zj l G R κ cc nl own cs sl n μ2 pc lv2 st2) : Zj l G R κ cc nl own cs sl n μ pc lv st := by subst h1; subst h2; subst h3; exact h
theorem z_obj {l : Launch} {G : GT} {R : Room} {κ : KZ} {cc : ByteArray} {nl : Nat} {own : String} {cs sl n : Nat} {μ : MemT} {pc : Nat} {lv : List (Option Value)} {st : List Value} {idx x : Nat} (d : decode cc pc = .ok (.invokespecial idx, 3)) (hw : Cond.methodLink own idx objectInit ∈ wL) (hfr : 1 ≤ R.frames) (hlo : (st.map fun v => v.category).sum + 12 ≤ R.locals) (h : Zj l G R κ cc nl own cs sl n μ (pc + 3) lv st) : Zj l G R κ cc nl own cs sl n μ pc lv (.ref x :: st) := fun p e s m args below meth c Q hk F H locs ls hP hS hl => W.objInit F.1 F.2.1 F.2.2.2.1 (F.2.2.2.2.1 _ hw) (F.2.2.2.2.1 _ wm_im_objectInit) (F.2.2.2.2.1 _ wm_cd_objectInit) rfl (by rw [F.2.2.1]; exact hl.1) rfl d hfr (by show 2 * 0 + _ + 12 ≤ _; omega) (h p e s m args below meth c Q hk F H locs ls hP hS hl)
theorem z_getr {l : Launch} {G : GT} {R : Room} {κ : KZ} {cc : ByteArray} {nl : Nat} {own : String} {cs sl n : Nat} {μ : MemT} {pc : Nat} {lv : List (Option Value)} {st : List Value} {b ci index N c : Nat} {C ref : String} {T : u_T} {ty0 : Nat → FieldType} {tm : List (Nat ⊕ Nat)} (d : decode cc pc = .ok (.getfield index, 3)) (i : Nat) (cl : sw_cl ci C T N ty0) (hb : kdL[b]? = some (.inl (ci, tm))) (hpo : poz b < n) (hN : i < N) (hw : Cond.fieldLink own index ref (T i).2.1 (T i).2.2.1 ∈ wL) (hre : (T i).1 = ref) (ht : tm[i]? = some (.inl c)) (hset : μ b i = 1) (h : Zj l G R κ cc nl own cs sl n μ (pc + 3) lv (.ref (G.2.1 c) :: st)) : Zj l G R κ cc nl own cs sl n μ pc lv (.ref (G.2.1 b) :: st) := fun p e s m args below meth c0 Q hk F H locs ls hP hS hl => va_get (D := G.1) (ci := ci) (C := C) (T := T) (N := N) F.1 F.2.1 F.2.2.2.2.1 cl.2.1 F.2.2.2.1 F.2.2.2.2.2.1.1 hP.2 (poz b) (zd_ws_at hb hpo) cl.1 i hN (F.2.2.2.2.1 _ hw) (fun _ h9 => by rw [← hre]; exact h9) (v := .ref (G.2.1 c)) (by rw [zd_fs_at, ht]; simp only [Option.map_some, Nat.zero_add, zd_fv, hset]; rfl) d (h p e s m args below meth c0 Q hk F H locs ls hP hS hl)
theorem z_alen {l : Launch} {G : GT} {R : Room} {κ : KZ} {cc : ByteArray} {nl : Nat} {own : String} {cs sl n : Nat} {μ : MemT} {pc : Nat} {lv : List (Option Value)} {st : List Value} {b N : Nat} (hb : kdL[b]? = some (.inr (0, N))) (hpo : poz b < n) (d : decode cc pc = .ok (.arraylength, 1)) (h : Zj l G R κ cc nl own cs sl n μ (pc + 1) lv (.int (nI N) :: st)) : Zj l G R κ cc nl own cs sl n μ pc lv (.ref (G.2.1 b) :: st) := fun p e s m args below meth c Q hk F H locs ls hP hS hl => va_alen F.1 F.2.1 F.2.2.2.2.2.1.1 hP.2 (poz b) 0 (zd_ws_at hb hpo) rfl rfl d (h p e s m args below meth c Q hk F H locs ls hP hS hl)
theorem z_putr {l : Launch} {G : GT} {R : Room} {κ : KZ} {cc : ByteArray} {nl : Nat} {own : String} {cs sl n : Nat} {μ : MemT} {pc : Nat} {lv : List (Option Value)} {st : List Value} {b ci index N : Nat} {C ref : String} {T : u_T} {ty0 : Nat → FieldType} {tm : List (Nat ⊕ Nat)} (d : decode cc pc = .ok (.putfield index, 3)) (i : Nat) (cl : sw_cl ci C T N ty0) (hb : kdL[b]? = some (.inl (ci, tm))) (hpo : poz b < n) (h79 : n ≤ 79) (hN : i < N) (hw : Cond.fieldLink own index ref (T i).2.1 (T i).2.2.1 ∈ wL) (hre : (T i).1 = ref) {ty : FieldType} (hnl : noLong tm = true) {c : Nat} (ht : tm[i]? = some (.inl c)) (hfin : (T i).2.2.2 = true) (hdecl : (T i).1 = own) (hκ : ∀ p e s m args below meth c0 Q, κ p e s m args below meth c0 Q → meth.name = "<init>") (hd : parseFieldDescriptor (T i).2.2.1 = some ty) (hn2 : narrow ty (.ref (G.2.1 c)) = .ref (G.2.1 c)) (hfit : fits ty (.ref (G.2.1 c)) = true) (h : Zj l G R κ cc nl own cs sl n (mset μ b (upd (μ b) i 1)) (pc + 3) lv st) : Zj l G R κ cc nl own cs sl n μ pc lv (.ref (G.2.1 c) :: .ref (G.2.1 b) :: st) := by
  intro p e s m args below meth c0 Q hk F H locs ls hP hS hl
  have hts := F.2.2.2.2.1
  have hK := F.2.2.2.2.2.1.1
  have hD := zd_D (μ := μ) F.2.2.2.2.2.2 h79
  have hap := va_apart (own := own) hts cl.2.1 ty0 cl.2.2.1 cl.2.2.2 hK cl.1
  obtain ⟨r, h1, cell, q1, q2, q3, q4⟩ := hP.2 (poz b) _ (zd_ws_at hb hpo)
  have hr : r = (C, T, N) := Option.some.inj (h1.symm.trans cl.1)
  subst hr
  obtain ⟨hSk, hfc, kC, hkC, hkind⟩ := hK.1 ci _ cl.1
  obtain ⟨cf, kf, fi, f, hi, hsl⟩ := hSk i hN
  have hsame : s.fieldFound? ref (T i).2.1 (T i).2.2.1 = some (cf, kf, fi, f) := by rw [← hre]; exact hi
  have hlay := hts _ (cl.2.1 _ (u_in_lay hN))
  unfold u_lay at hlay
  rw [if_pos hfin] at hlay
  have hst := (u_facts hfc hkC (u_lays hts cl.2.1 hN) hi).1
  have hcf : m.cls = cf := by
    obtain ⟨_, _, c', _, _, _, -, -, hf', -, -, -, hown2, -⟩ := Cond.laysFinal_spec hlay
    have e1 : c' = cf := by have := hi.symm.trans hf'; simp at this; exact this.1.symm
    rw [hdecl] at hown2
    rw [← e1]; exact Option.some.inj (F.2.2.2.1.symm.trans hown2)
  have h6 := u_fits hfc hkC hkind (Or.inr hlay) hi hd hn2 hfit
  refine W.putFinK F.1 F.2.1 F.2.2.2.1 (hts _ hw) hsame hst hcf (hκ _ _ _ _ _ _ _ _ _ hk) (by rw [q2]; exact h6) q1 q3 (by rw [hsl]; exact k2_hasslot (q4 i hN)) rfl rfl d fun H' e1 e2 e3 => ?_
  rw [hsl] at e1
  refine h p e s m args below meth c0 Q hk F H' _ ls ⟨by rw [e2]; exact hP.1, ?_⟩ (hS.put e2 e3 (hD.2 _ _ (zd_ws_at hb hpo))) hl
  have hP2 := hP.2.set hD (zd_ws_at hb hpo) (e := .inr (ci, (zd_fs G.2.1 (μ b) 0 tm).set i (.ref (G.2.1 c)))) (H1 := H') ⟨_, cl.1, t_OB.to (V := updV (vp_V (zd_fs G.2.1 (μ b) 0 tm)) i (.ref (G.2.1 c))) ⟨_, e1, q2, q3, t_set q4 hap hN (.ref (G.2.1 c))⟩ (fun j _ => vp_updV_set (by rw [zd_fs_len]; exact (List.getElem?_eq_some_iff.mp ht).1) (.ref (G.2.1 c)) j)⟩ e3
  rw [zd_fs_updr hnl ht] at hP2
  rw [← zd_ws_set hb hpo h79]
  exact hP2
theorem z_putrN {l : Launch} {G : GT} {R : Room} {κ : KZ} {cc : ByteArray} {nl : Nat} {own : String} {cs sl n : Nat} {μ : MemT} {pc : Nat} {lv : List (Option Value)} {st : List Value} {b ci index N : Nat} {C ref : String} {T : u_T} {ty0 : Nat → FieldType} {tm : List (Nat ⊕ Nat)} (d : decode cc pc = .ok (.putfield index, 3)) (i : Nat) (cl : sw_cl ci C T N ty0) (hb : kdL[b]? = some (.inl (ci, tm))) (hpo : poz b < n) (h79 : n ≤ 79) (hN : i < N) (hw : Cond.fieldLink own index ref (T i).2.1 (T i).2.2.1 ∈ wL) (hre : (T i).1 = ref) {ty : FieldType} (hnl : noLong tm = true) {c : Nat} (ht : tm[i]? = some (.inl c)) (hfin : (T i).2.2.2 = false) (hd : parseFieldDescriptor (T i).2.2.1 = some ty) (hn2 : narrow ty (.ref (G.2.1 c)) = .ref (G.2.1 c)) (hfit : fits ty (.ref (G.2.1 c)) = true) (h : Zj l G R κ cc nl own cs sl n (mset μ b (upd (μ b) i 1)) (pc + 3) lv st) : Zj l G R κ cc nl own cs sl n μ pc lv (.ref (G.2.1 c) :: .ref (G.2.1 b) :: st) := by
  intro p e s m args below meth c0 Q hk F H locs ls hP hS hl
  have hts := F.2.2.2.2.1
  have hK := F.2.2.2.2.2.1.1
  have hD := zd_D (μ := μ) F.2.2.2.2.2.2 h79
  have hap := va_apart (own := own) hts cl.2.1 ty0 cl.2.2.1 cl.2.2.2 hK cl.1
  obtain ⟨r, h1, cell, q1, q2, q3, q4⟩ := hP.2 (poz b) _ (zd_ws_at hb hpo)
  have hr : r = (C, T, N) := Option.some.inj (h1.symm.trans cl.1)
  subst hr
  obtain ⟨hSk, hfc, kC, hkC, hkind⟩ := hK.1 ci _ cl.1
  obtain ⟨cf, kf, fi, f, hi, hsl⟩ := hSk i hN
  have hsame : s.fieldFound? ref (T i).2.1 (T i).2.2.1 = some (cf, kf, fi, f) := by rw [← hre]; exact hi
  have hlay := hts _ (cl.2.1 _ (u_in_lay hN))
  unfold u_lay at hlay
  rw [if_neg (by rw [hfin]; decide)] at hlay
  have hst := (u_facts hfc hkC (u_lays hts cl.2.1 hN) hi).1
  have h6 := u_store hfc hkC hkind hlay hi hd hn2 hfit
  refine W.putK F.1 F.2.1 (f := f) ⟨F.2.2.2.1, hts _ hw, ⟨_, _, _, hsame⟩, hst⟩ (by rw [q2]; exact h6) q1 q3 (by rw [hsl]; exact k2_hasslot (q4 i hN)) rfl rfl d fun H' e1 e2 e3 => ?_
  rw [hsl] at e1
  refine h p e s m args below meth c0 Q hk F H' _ ls ⟨by rw [e2]; exact hP.1, ?_⟩ (hS.put e2 e3 (hD.2 _ _ (zd_ws_at hb hpo))) hl
  have hP2 := hP.2.set hD (zd_ws_at hb hpo) (e := .inr (ci, (zd_fs G.2.1 (μ b) 0 tm).set i (.ref (G.2.1 c)))) (H1 := H') ⟨_, cl.1, t_OB.to (V := updV (vp_V (zd_fs G.2.1 (μ b) 0 tm)) i (.ref (G.2.1 c))) ⟨_, e1, q2, q3, t_set q4 hap hN (.ref (G.2.1 c))⟩ (fun j _ => vp_updV_set (by rw [zd_fs_len]; exact (List.getElem?_eq_some_iff.mp ht).1) (.ref (G.2.1 c)) j)⟩ e3
  rw [zd_fs_updr hnl ht] at hP2
  rw [← zd_ws_set hb hpo h79]
  exact hP2
theorem z_puti {l : Launch} {G : GT} {R : Room} {κ : KZ} {cc : ByteArray} {nl : Nat} {own : String} {cs sl n : Nat} {μ : MemT} {pc : Nat} {lv : List (Option Value)} {st : List Value} {b ci index N : Nat} {C ref : String} {T : u_T} {ty0 : Nat → FieldType} {tm : List (Nat ⊕ Nat)} (d : decode cc pc = .ok (.putfield index, 3)) (i : Nat) (cl : sw_cl ci C T N ty0) (hb : kdL[b]? = some (.inl (ci, tm))) (hpo : poz b < n) (h79 : n ≤ 79) (hN : i < N) (hw : Cond.fieldLink own index ref (T i).2.1 (T i).2.2.1 ∈ wL) (hre : (T i).1 = ref) {ty : FieldType} (hnl : noLong tm = true) {x : Int32} (ht : tm[i]? = some (.inr 0)) (hfin : (T i).2.2.2 = false) (hd : parseFieldDescriptor (T i).2.2.1 = some ty) (hn2 : narrow ty (.int x) = .int x) (hfit : fits ty (.int x) = true) (h : Zj l G R κ cc nl own cs sl n (mset μ b (upd (μ b) i x)) (pc + 3) lv st) : Zj l G R κ cc nl own cs sl n μ pc lv (.int x :: .ref (G.2.1 b) :: st) := by
  intro p e s m args below meth c Q hk F H locs ls hP hS hl
  have hts := F.2.2.2.2.1
  have hK := F.2.2.2.2.2.1.1
  have hD := zd_D (μ := μ) F.2.2.2.2.2.2 h79
  have hap := va_apart (own := own) hts cl.2.1 ty0 cl.2.2.1 cl.2.2.2 hK cl.1
  obtain ⟨r, h1, cell, q1, q2, q3, q4⟩ := hP.2 (poz b) _ (zd_ws_at hb hpo)
  have hr : r = (C, T, N) := Option.some.inj (h1.symm.trans cl.1)
  subst hr
  obtain ⟨hSk, hfc, kC, hkC, hkind⟩ := hK.1 ci _ cl.1
  obtain ⟨cf, kf, fi, f, hi, hsl⟩ := hSk i hN
  have hsame : s.fieldFound? ref (T i).2.1 (T i).2.2.1 = some (cf, kf, fi, f) := by rw [← hre]; exact hi
  have hlay := hts _ (cl.2.1 _ (u_in_lay hN))
  unfold u_lay at hlay
  rw [if_neg (by rw [hfin]; decide)] at hlay
  have hst := (u_facts hfc hkC (u_lays hts cl.2.1 hN) hi).1
  have h6 := u_store hfc hkC hkind hlay hi hd hn2 hfit
  refine W.putK F.1 F.2.1 (f := f) ⟨F.2.2.2.1, hts _ hw, ⟨_, _, _, hsame⟩, hst⟩ (by rw [q2]; exact h6) q1 q3 (by rw [hsl]; exact k2_hasslot (q4 i hN)) rfl rfl d fun H' e1 e2 e3 => ?_
  rw [hsl] at e1
  refine h p e s m args below meth c Q hk F H' _ ls ⟨by rw [e2]; exact hP.1, ?_⟩ (hS.put e2 e3 (hD.2 _ _ (zd_ws_at hb hpo))) hl
  have hP2 := hP.2.set hD (zd_ws_at hb hpo) (e := .inr (ci, (zd_fs G.2.1 (μ b) 0 tm).set i (.int x))) (H1 := H') ⟨_, cl.1, t_OB.to (V := updV (vp_V (zd_fs G.2.1 (μ b) 0 tm)) i (.int x)) ⟨_, e1, q2, q3, t_set q4 hap hN (.int x)⟩ (fun j _ => vp_updV_set (by rw [zd_fs_len]; exact (List.getElem?_eq_some_iff.mp ht).1) (.int x) j)⟩ e3
  rw [zd_fs_upd hnl ht] at hP2
  rw [← zd_ws_set hb hpo h79]
  exact hP2
theorem z_iast {l : Launch} {G : GT} {R : Room} {κ : KZ} {cc : ByteArray} {nl : Nat} {own : String} {cs sl n : Nat} {μ : MemT} {pc : Nat} {lv : List (Option Value)} {st : List Value} {b N : Nat} {x y : Int32} (d : decode cc pc = .ok (.iastore, 1)) (j : Nat) (hb : kdL[b]? = some (.inr (0, N))) (hpo : poz b < n) (h79 : n ≤ 79) (hj : x = nI j) (hlt : j < N) (hN : N < 2 ^ 31) (h : Zj l G R κ cc nl own cs sl n (mset μ b (upd (μ b) j y)) (pc + 1) lv st) : Zj l G R κ cc nl own cs sl n μ pc lv (.int y :: .int x :: .ref (G.2.1 b) :: st) := by
  intro p e s m args below meth c Q hk F H locs ls hP hS hl
  have hK := F.2.2.2.2.2.1.1
  have hD := zd_D (μ := μ) F.2.2.2.2.2.2 h79
  have hin : vp_in x N := by rw [hj]; exact vp_in_nI hlt hN
  have hcl : x.toNatClampNeg = j := by rw [hj]; exact nI_clamp (Nat.lt_trans hlt hN)
  refine W.iast F.1 F.2.1 (hP.2 (poz b) _ (zd_ws_at hb hpo)) ((hK.2 0 _ rfl).1 N (fun j => .int (μ b j))) (fun q => by cases q) (by show ¬ (x < 0 ∨ (arrV _ _ _).slots.size ≤ _); rw [arrV_size]; exact hin) rfl rfl d fun H1 e1 z oq => ?_
  refine h p e s m args below meth c Q hk F H1 _ ls ⟨by rw [z]; exact hP.1, ?_⟩ (hS.put z oq (hD.2 _ _ (zd_ws_at hb hpo))) hl
  have hP2 := hP.2.set hD (zd_ws_at hb hpo) (e := .inl (G.2.2 0, N, .inl (upd (μ b) j y))) (H1 := H1) (by
    show H1[G.2.1 b]? = some (vp_cell _ _)
    rw [e1]
    rw [vp_cell_i, vp_cell_i, arrV_store]
    congr 2
    funext q
    rw [hcl]
    by_cases hq : q = j
    · subst hq
      simp [updV, upd]
    · simp [updV, upd, hq]) oq
  rw [← zd_ws_set hb hpo h79]
  exact hP2
theorem zd_born {G : GT} {n : Nat} {μ : MemT} {H H1 : Heap} {k : Nat} {kd : KdT} {r : Nat → Int32} (hP : zd_P G n μ H) (hG : zd_ad G) (hb : kdL[k]? = some kd) (hpo : poz k = n) (z1 : H1.size = G.2.1 0 + n + 1) (o1 : ∀ q, q < G.2.1 0 + n → H1[q]? = H[q]?) (he : va_at G.1 vwCl (G.2.1 k, zd_e G.2.1 G.2.2 r kd) H1) : zd_P G (n + 1) (mset μ k r) H1 := by
  refine ⟨by rw [z1, Nat.add_assoc], ?_⟩
  rw [← zd_ws_app hb hpo]
  refine (hP.2.kept (fun j x hx => ?_)).app (fun j x hx => ?_)
  · refine o1 x.1 ?_
    have := (hP.2 j x hx).lt
    rw [← hP.1]
    exact this
  · have hz : j < 1 := (List.getElem?_eq_some_iff.mp hx).1
    rw [show j = 0 by omega] at hx
    cases hx
    exact he
theorem zd_new_at {G : GT} (hG : zd_ad G) {n k : Nat} {kd : KdT} (hb : kdL[k]? = some kd) (hpo : poz k = n) : G.2.1 k = G.2.1 0 + n := by rw [hG k (kd_lt hb), hpo]
theorem zd_S_new {G : GT} {n : Nat} {H0 H H1 : Heap} {locs : List Loc} (hS : va_S (zd_A G) H0 H locs) (hz : H.size = G.2.1 0 + n) (z1 : H1.size = G.2.1 0 + n + 1) (o1 : ∀ q, q < G.2.1 0 + n → H1[q]? = H[q]?) : va_S (zd_A G) H0 H1 locs :=
  ⟨Nat.le_trans hS.1 (by omega), fun x h1 h2 => (o1 x (by have := hS.1; omega)).trans (hS.2.1 x h1 h2), hS.2.2⟩
theorem z_newi {l : Launch} {G : GT} {R : Room} {κ : KZ} {cc : ByteArray} {nl : Nat} {own : String} {cs sl n : Nat} {μ : MemT} {pc : Nat} {lv : List (Option Value)} {st : List Value} {k N : Nat} {x : Int32} (d : decode cc pc = .ok (.newarray .int, 2)) (hb : kdL[k]? = some (.inr (0, N))) (hpo : poz k = n) (hx : x = nI N) (hN : N < 4000) (hc : cs + 1 ≤ R.cells) (hs : sl + N ≤ R.slots) (h : Zj l G R κ cc nl own (cs + 1) (sl + N) (n + 1) (mset μ k (fun _ => 0)) (pc + 2) lv (.ref (G.2.1 k) :: st)) : Zj l G R κ cc nl own cs sl n μ pc lv (.int x :: st) := by
  intro p e s m args below meth c Q hk F H locs ls hP hS hl
  have hcl : x.toNatClampNeg = N := by rw [hx]; exact nI_clamp (by omega)
  have hnn : ¬ x < 0 := by rw [hx]; exact nI_nl (by omega)
  have hbytes : N * componentBytes (newarray.typeOf .int) ≤ 536870912 := by
    show N * 4 ≤ 536870912
    omega
  refine va_newaK F.1 F.2.1 (F.2.2.2.2.1 _ wm_ac_int) rfl d rfl hnn hcl hbytes hc hs hP.1 fun H1 cA e1 z1 o1 hAr hNm => ?_
  have hca : cA = G.2.2 0 := by
    have hra : s.vm.findClass _ = some (G.2.2 0) := (F.2.2.2.2.2.1.1.2 0 _ rfl).2
    exact Option.some.inj (hNm.symm.trans hra)
  rw [← zd_new_at F.2.2.2.2.2.2 hb hpo] at e1 ⊢
  refine h p e s m args below meth c Q hk F H1 locs ls (zd_born hP F.2.2.2.2.2.2 hb hpo z1 o1 ?_) (zd_S_new hS hP.1 z1 o1) hl
  show H1[G.2.1 k]? = some (vp_cell (G.2.2 0) (N, .inl (fun _ => 0)))
  rw [e1, hca]
  rfl
theorem z_newb {l : Launch} {G : GT} {R : Room} {κ : KZ} {cc : ByteArray} {nl : Nat} {own : String} {cs sl n : Nat} {μ : MemT} {pc : Nat} {lv : List (Option Value)} {st : List Value} {k N : Nat} {x : Int32} (d : decode cc pc = .ok (.newarray .byte, 2)) (hb : kdL[k]? = some (.inr (1, N))) (hpo : poz k = n) (hx : x = nI N) (hN : N < 4000) (hc : cs + 1 ≤ R.cells) (hs : sl + N ≤ R.slots) (h : Zj l G R κ cc nl own (cs + 1) (sl + N) (n + 1) (mset μ k (fun _ => 0)) (pc + 2) lv (.ref (G.2.1 k) :: st)) : Zj l G R κ cc nl own cs sl n μ pc lv (.int x :: st) := by
  intro p e s m args below meth c Q hk F H locs ls hP hS hl
  have hcl : x.toNatClampNeg = N := by rw [hx]; exact nI_clamp (by omega)
  have hnn : ¬ x < 0 := by rw [hx]; exact nI_nl (by omega)
  have hbytes : N * componentBytes (newarray.typeOf .byte) ≤ 536870912 := by
    show N * 1 ≤ 536870912
    omega
  refine va_newaK F.1 F.2.1 (F.2.2.2.2.1 _ wm_ac_byte) rfl d rfl hnn hcl hbytes hc hs hP.1 fun H1 cA e1 z1 o1 hAr hNm => ?_
  have hca : cA = G.2.2 1 := by
    have hra : s.vm.findClass _ = some (G.2.2 1) := (F.2.2.2.2.2.1.1.2 1 _ rfl).2
    exact Option.some.inj (hNm.symm.trans hra)
  rw [← zd_new_at F.2.2.2.2.2.2 hb hpo] at e1 ⊢
  refine h p e s m args below meth c Q hk F H1 locs ls (zd_born hP F.2.2.2.2.2.2 hb hpo z1 o1 ?_) (zd_S_new hS hP.1 z1 o1) hl
  show H1[G.2.1 k]? = some (vp_cell (G.2.2 1) (N, .inl (fun _ => 0)))
  rw [e1, hca]
  rfl
theorem z_newz {l : Launch} {G : GT} {R : Room} {κ : KZ} {cc : ByteArray} {nl : Nat} {own : String} {cs sl n : Nat} {μ : MemT} {pc : Nat} {lv : List (Option Value)} {st : List Value} {k N : Nat} {x : Int32} (d : decode cc pc = .ok (.newarray .boolean, 2)) (hb : kdL[k]? = some (.inr (2, N))) (hpo : poz k = n) (hx : x = nI N) (hN : N < 4000) (hc : cs + 1 ≤ R.cells) (hs : sl + N ≤ R.slots) (h : Zj l G R κ cc nl own (cs + 1) (sl + N) (n + 1) (mset μ k (fun _ => 0)) (pc + 2) lv (.ref (G.2.1 k) :: st)) : Zj l G R κ cc nl own cs sl n μ pc lv (.int x :: st) := by
  intro p e s m args below meth c Q hk F H locs ls hP hS hl
  have hcl : x.toNatClampNeg = N := by rw [hx]; exact nI_clamp (by omega)
  have hnn : ¬ x < 0 := by rw [hx]; exact nI_nl (by omega)
  have hbytes : N * componentBytes (newarray.typeOf .boolean) ≤ 536870912 := by
    show N * 1 ≤ 536870912
    omega
  refine va_newaK F.1 F.2.1 (F.2.2.2.2.1 _ wm_ac_boolean) rfl d rfl hnn hcl hbytes hc hs hP.1 fun H1 cA e1 z1 o1 hAr hNm => ?_
  have hca : cA = G.2.2 2 := by
    have hra : s.vm.findClass _ = some (G.2.2 2) := (F.2.2.2.2.2.1.1.2 2 _ rfl).2
    exact Option.some.inj (hNm.symm.trans hra)
  rw [← zd_new_at F.2.2.2.2.2.2 hb hpo] at e1 ⊢
  refine h p e s m args below meth c Q hk F H1 locs ls (zd_born hP F.2.2.2.2.2.2 hb hpo z1 o1 ?_) (zd_S_new hS hP.1 z1 o1) hl
  show H1[G.2.1 k]? = some (vp_cell (G.2.2 2) (N, .inl (fun _ => 0)))
  rw [e1, hca]
  rfl
theorem z_new {l : Launch} {G : GT} {R : Room} {κ : KZ} {cc : ByteArray} {nl : Nat} {own : String} {cs sl n : Nat} {μ : MemT} {pc : Nat} {lv : List (Option Value)} {st : List Value} {k ci N index : Nat} {C : String} {T : u_T} {ty0 : Nat → FieldType} {tm : List (Nat ⊕ Nat)} (d : decode cc pc = .ok (.new index, 3)) (cl : sw_cl ci C T N ty0) (hb : kdL[k]? = some (.inl (ci, tm))) (hpo : poz k = n) (hw : Cond.classLink own index C ∈ wL) (hwi : Cond.instantiable C N ∈ wL) (hwn : Cond.initialized C ∈ wL) (hfs : ∀ j, j < N → defaultValue (ty0 j) = vp_V (zd_fs G.2.1 (fun _ => 0) 0 tm) j) (hc : cs + 1 ≤ R.cells) (hs : sl + N ≤ R.slots) (h : Zj l G R κ cc nl own (cs + 1) (sl + N) (n + 1) (mset μ k (fun _ => 0)) (pc + 3) lv (.ref (G.2.1 k) :: st)) : Zj l G R κ cc nl own cs sl n μ pc lv st := by
  intro p e s m args below meth c Q hk F H locs ls hP hS hl
  have hts := F.2.2.2.2.1
  have hKn := F.2.2.2.2.2.1.1.1 ci _ cl.1
  refine W.newcK F.1 F.2.1 F.2.2.2.1 (hts _ hw) (hts _ hwi) (hts _ hwn) rfl d hc hs hKn.2.1 hP.1 fun H1 kC hkC e1 z1 o1 => ?_
  rw [← zd_new_at F.2.2.2.2.2.2 hb hpo] at e1 ⊢
  refine h p e s m args below meth c Q hk F H1 locs ls (zd_born hP F.2.2.2.2.2.2 hb hpo z1 o1 ?_) (zd_S_new hS hP.1 z1 o1) hl
  exact ⟨_, cl.1, (u_born ty0 hts cl.2.1 hKn hkC e1 cl.2.2.1).to hfs⟩
/-! contracts of constructors: how many cells there are, and what they hold -/
def zd_Q (G : GT) (n2 : Nat) (μ2 : MemT) : Array Value → State → Outcome → State → Prop := fun _ st oc t => (oc = .returned none ∧ zd_P G n2 μ2 t.heap ∧ sw_K G t) ∧ va_F (zd_A G) st t
def zd_Pc (G : GT) (av : List Value) (n : Nat) (μ : MemT) : Array Value → State → Prop := va_Pc av (fun U => zd_P G n μ U.heap ∧ sw_K G U)
theorem zd_blind {G : GT} {av : List Value} {n : Nat} {μ : MemT} : FrameBlind (zd_Pc G av n μ) := fun a U g mk q => ⟨q.1, q.2.1, sw_K.same (s := U) (U := U.calling g mk a) rfl q.2.2⟩
def zd_Met (l : Launch) (G : GT) (y : MethodName) (bytes : ByteArray) (maxL : Nat) (rm : Room) (av : List Value) (mc ms n : Nat) (μ : MemT) (n2 : Nat) (μ2 : MemT) : Prop :=
  zd_ad G → Met l y (.code y bytes maxL none :: wL) rm (zd_Pc G av n μ) (zd_Q G n2 μ2) mc ms (zd_A G)
def zd_κ (G : GT) (nm : String) (mc ms n2 : Nat) (μ2 : MemT) : KZ := fun _ _ s _ args below meth _ Q => meth.sig.returnType = none ∧ meth.locks = false ∧ Q = MQ below (zd_Q G n2 μ2) args s mc ms (zd_A G) ∧ meth.name = nm
theorem zd_Met.ofZ {l : Launch} {G : GT} {y : MethodName} {bytes : ByteArray} {maxL : Nat} {rm : Room} {av : List Value} {mc ms n n2 : Nat} {μ μ2 : MemT} {lv0 : List (Option Value)} (hy : plainName y.cls = true) (hlen : (lg_sl av).length ≤ maxL) (hlv : l_ent av maxL = lv0) (h : Zj l G rm (zd_κ G y.name mc ms n2 μ2) bytes maxL y.cls 0 0 n μ 0 lv0 []) : zd_Met l G y bytes maxL rm av mc ms n μ n2 μ2 := by
  intro hG
  subst hlv
  refine Met.ofW (cc := bytes) (maxL := maxL) (ret := none) hy rfl ?_
  intro p e s m args below meth c s₁ B hml hv
  obtain ⟨rfl, hP, hK⟩ := hv
  have hts := atoms_spec (ws := Cond.code y bytes maxL none :: wL) B.pre
  rw [lg_entry_eq]
  exact h p e s m av.toArray below meth c _ ⟨B.returns, B.notSynchronized, rfl, (name_of_methodNamed B.named B.method).1⟩ ⟨B.exec, B.bytes, hml, findClass_of_methodNamed B.named, fun w hw => hts w (List.mem_cons_of_mem _ hw), hK, hG⟩ s.heap [] _ hP va_S.rf (sw_L_ent (lv_entry av hlen))
theorem z_ret {l : Launch} {G : GT} {R : Room} {cc : ByteArray} {nl : Nat} {own nm : String} {cs sl n : Nat} {μ : MemT} {pc : Nat} {lv : List (Option Value)} (d : decode cc pc = .ok (.return_, 1)) : Zj l G R (zd_κ G nm cs sl n μ) cc nl own cs sl n μ pc lv [] := by
  intro p e s m args below meth c Q hk F H locs ls hP hS hl
  obtain ⟨hr, hlk, rfl, -⟩ := hk
  exact W.vret (hexec := F.1) (hb := F.2.1) (hr := hr) (hq := fun t ht hW => ⟨⟨rfl, by rw [ht]; exact hP, F.2.2.2.2.2.1.warm hW⟩, hS.F ht⟩) (hf := hS.2.2) (hdg := d) (hlocks := hlk)
theorem zd_go {p : Program} {l : Launch} {e : Env} {R : Room} {s : State} {m : MethodId} {args : Array Value} {below : List Frame} {meth : Method} {c : Code} {H : Heap} {locs : List Loc} {cs sl mc ms : Nat} {Q : State → Prop} {pc : Nat} {ls : Array Slot} {st rest : List Value} {G : GT} {n2 : Nat} {μ2 : MemT} {a : Array Value}
    (hr : va_Run p l e R s m args below meth c H locs cs sl mc ms (F0 m pc ls st) rest (zd_Q G n2 μ2 a) (zd_A G)) (hS : va_S (zd_A G) s.heap H locs)
    (kk : ∀ (H1 : Heap) (locs1 : List Loc), zd_P G n2 μ2 H1 → va_S (zd_A G) s.heap H1 locs1 → W p l e R s m args below meth c H1 locs1 (cs + mc) (sl + ms) Q (F0 m (pc + 3) ls rest)) : W p l e R s m args below meth c H locs cs sl Q (F0 m pc ls st) := by
  intro T hT X
  obtain ⟨v, st₀, t, T', L, h0, X', hL, e1, e2, ⟨⟨hv, hP2, hK2⟩, hz, hk⟩, stp⟩ := hr T hT X
  cases hv
  rw [h0] at hz hk
  obtain ⟨t2, a1, b1⟩ := kk T'.heap (locs ++ L) (by rw [e1]; exact hP2)
    ⟨Nat.le_trans hS.1 (by rw [e1]; exact hz), fun q h1 h2 => by rw [e1, hk q (Nat.lt_of_lt_of_le h1 hS.1) h2]; exact hS.2.1 q h1 h2, fun q hq => by
      rcases List.mem_append.mp hq with h | h
      · exact hS.2.2 q h
      · exact hL q h⟩ T' rfl X'
  exact ⟨t2, stp t2 a1, b1⟩
theorem z_callI {l : Launch} {G : GT} {R : Room} {κ : KZ} {cc : ByteArray} {nl : Nat} {own : String} {cs sl n : Nat} {μ : MemT} {pc : Nat} {lv : List (Option Value)} {st : List Value} {y : MethodName} {bytes : ByteArray} {maxL index : Nat} {rm : Room} {n2 mc ms x : Nat} {μ2 : MemT} (hM : zd_Met l G y bytes maxL rm [.ref x] mc ms n μ n2 μ2) (hcd : Cond.code y bytes maxL none ∈ wL) (hini : Cond.initialized y.cls ∈ wL) (hw : Cond.methodLink own index y ∈ wL) (him : Cond.instanceMethod y ∈ wL) (hy1 : y.name = "<init>") (hd : y.cls ≠ "java/lang/invoke/MethodHandle" ∧ y.cls ≠ "java/lang/invoke/VarHandle" ∧ (parseMethodDescriptor y.desc).map (fun d => d.parameters.length) = some 0) (hR : rm.frames + 1 ≤ R.frames ∧ 8 + (maxL + 11) + rm.locals ≤ R.locals) (hrm : rm.cells = mc ∧ rm.slots = ms) (hroom : (st.map fun v => v.category).sum ≤ 8) (hc : cs + mc ≤ R.cells) (hs : sl + ms ≤ R.slots) (d : decode cc pc = .ok (.invokespecial index, 3)) (h : Zj l G R κ cc nl own (cs + mc) (sl + ms) n2 μ2 (pc + 3) lv st) : Zj l G R κ cc nl own cs sl n μ pc lv (.ref x :: st) := by
  intro p e s m args below meth c Q hk F H locs ls hP hS hl
  exact zd_go (va_runI (As := []) (rest := st) ⟨F.1, F.2.1, F.2.2.1, F.2.2.2.1, F.2.2.2.2.1⟩ (hM F.2.2.2.2.2.2) (cwI 0 F.2.2.2.2.1 (wL_callee hcd) rfl hrm.1 hrm.2 (F.2.2.2.2.1 _ hini) (F.2.2.2.2.1 _ hw) (F.2.2.2.2.1 _ him) hy1 hd hR) ⟨zd_blind, fun U hU hW => ⟨rfl, by rw [hU]; exact hP, F.2.2.2.2.2.1.warm hW⟩⟩ rfl rfl hl.1 rfl (lv_room hroom) d ⟨hc, hs⟩) hS (fun H1 locs1 hP1 hS1 => h p e s m args below meth c Q hk F H1 locs1 ls hP1 hS1 hl)
theorem z_callIN {l : Launch} {G : GT} {R : Room} {κ : KZ} {cc : ByteArray} {nl : Nat} {own : String} {cs sl n : Nat} {μ : MemT} {pc : Nat} {lv : List (Option Value)} {st : List Value} {y : MethodName} {bytes : ByteArray} {maxL index : Nat} {rm : Room} {n2 mc ms x : Nat} {μ2 : MemT} {host : String} (hM : zd_Met l G y bytes maxL rm [.ref x] mc ms n μ n2 μ2) (hcd : Cond.code y bytes maxL none ∈ wL) (hini : Cond.initialized y.cls ∈ wL) (hw : Cond.methodLinkNest own index y host ∈ wL_nest) (him : Cond.instanceMethod y ∈ wL) (hy1 : y.name = "<init>") (hd : y.cls ≠ "java/lang/invoke/MethodHandle" ∧ y.cls ≠ "java/lang/invoke/VarHandle" ∧ (parseMethodDescriptor y.desc).map (fun d => d.parameters.length) = some 0) (hR : rm.frames + 1 ≤ R.frames ∧ 8 + (maxL + 11) + rm.locals ≤ R.locals) (hrm : rm.cells = mc ∧ rm.slots = ms) (hroom : (st.map fun v => v.category).sum ≤ 8) (hc : cs + mc ≤ R.cells) (hs : sl + ms ≤ R.slots) (d : decode cc pc = .ok (.invokespecial index, 3)) (h : Zj l G R κ cc nl own (cs + mc) (sl + ms) n2 μ2 (pc + 3) lv st) : Zj l G R κ cc nl own cs sl n μ pc lv (.ref x :: st) := by
  intro p e s m args below meth c Q hk F H locs ls hP hS hl
  exact zd_go (va_runIN (As := []) (rest := st) ⟨F.1, F.2.1, F.2.2.1, F.2.2.2.1, F.2.2.2.2.1⟩ (hM F.2.2.2.2.2.2) ⟨va_cnB 0 F.2.2.2.2.1 (wL_callee hcd) rfl hrm.1 hrm.2 (F.2.2.2.2.2.1.2 _ hw) (F.2.2.2.2.1 _ hini) hd hR, hy1, F.2.2.2.2.1 _ him⟩ ⟨zd_blind, fun U hU hW => ⟨rfl, by rw [hU]; exact hP, F.2.2.2.2.2.1.warm hW⟩⟩ rfl rfl hl.1 rfl (lv_room hroom) d ⟨hc, hs⟩) hS (fun H1 locs1 hP1 hS1 => h p e s m args below meth c Q hk F H1 locs1 ls hP1 hS1 hl)
theorem z_callS {l : Launch} {G : GT} {R : Room} {κ : KZ} {cc : ByteArray} {nl : Nat} {own : String} {cs sl n : Nat} {μ : MemT} {pc : Nat} {lv : List (Option Value)} {st : List Value} {y : MethodName} {bytes : ByteArray} {maxL index : Nat} {rm : Room} {n2 mc ms : Nat} {μ2 : MemT} {np : Nat} {As : List Value} {st1 : List Value} (me : sw_meS y bytes maxL none np) (hM : zd_Met l G y bytes maxL rm As mc ms n μ n2 μ2) (hw : Cond.methodLink own index y ∈ wL) (hR : rm.frames + 1 ≤ R.frames ∧ 8 + (maxL + 11) + rm.locals ≤ R.locals) (hrm : rm.cells = mc ∧ rm.slots = ms) (hroom : (st.map fun v => v.category).sum ≤ 8) (hc : cs + mc ≤ R.cells) (hs : sl + ms ≤ R.slots) (hn : As.length = np) (hst : st1 = As.reverse ++ st) (d : decode cc pc = .ok (.invokestatic index, 3)) (h : Zj l G R κ cc nl own (cs + mc) (sl + ms) n2 μ2 (pc + 3) lv st) : Zj l G R κ cc nl own cs sl n μ pc lv st1 := by
  subst hst
  intro p e s m args below meth c Q hk F H locs ls hP hS hl
  exact zd_go (va_runS (rest := st) ⟨F.1, F.2.1, F.2.2.1, F.2.2.2.1, F.2.2.2.2.1⟩ (hM F.2.2.2.2.2.2) ⟨callB_of np F.2.2.2.2.1 (wL_callee me.2.2.1) rfl hrm.1 hrm.2 (F.2.2.2.2.1 _ me.2.1) (F.2.2.2.2.1 _ hw) me.2.2.2 hR, F.2.2.2.2.1 _ me.1⟩ ⟨zd_blind, fun U hU hW => ⟨rfl, by rw [hU]; exact hP, F.2.2.2.2.2.1.warm hW⟩⟩ rfl hn hl.1 rfl (lv_room hroom) d ⟨hc, hs⟩) hS (fun H1 locs1 hP1 hS1 => h p e s m args below meth c Q hk F H1 locs1 ls hP1 hS1 hl)
/-! constructors -/
def z0 : Nat → Int32 := fun _ => 0
theorem zm_arr {μ : MemT} {b k : Nat} {rb r : Nat → Int32} (h : k ≠ b) : mset (mset μ b rb) k r = mset (mset μ k r) b rb := mset_comm _ _ _ (Ne.symm h)
theorem zm_put {μ : MemT} {b i : Nat} {rb : Nat → Int32} {x : Int32} : mset (mset μ b rb) b (upd (mset μ b rb b) i x) = mset μ b (upd rb i x) := by rw [mset_self, mset_mset]
theorem z_mem {l : Launch} {G : GT} {R : Room} {κ : KZ} {cc : ByteArray} {nl : Nat} {own : String} {cs sl n : Nat} {μ : MemT} {pc : Nat} {lv : List (Option Value)} {st : List Value} {μ2 : MemT} (h1 : μ = μ2) (h : Zj l G R κ cc nl own cs sl n μ2 pc lv st) : Zj l G R κ cc nl own cs sl n μ pc lv st := by subst h1; exact h
theorem z_aast {l : Launch} {G : GT} {R : Room} {κ : KZ} {cc : ByteArray} {nl : Nat} {own : String} {cs sl n : Nat} {μ : MemT} {pc : Nat} {lv : List (Option Value)} {st : List Value} {c : Nat} {x : Int32} (d : decode cc pc = .ok (.aastore, 1)) (j : Nat) (hj : x = nI j) (hlt : j < 2) (hc : c = if j = 0 then 26 else 34) (hpo : poz 1 < n) (hpc : poz c < n) (h79 : n ≤ 79) (h : Zj l G R κ cc nl own cs sl n (mset μ 1 (upd (μ 1) j 1)) (pc + 1) lv st) : Zj l G R κ cc nl own cs sl n μ pc lv (.ref (G.2.1 c) :: .int x :: .ref (G.2.1 1) :: st) := by
  intro p e s m args below meth c0 Q hk F H locs ls hP hS hl
  have hK := F.2.2.2.2.2.1.1
  have hD := zd_D (μ := μ) F.2.2.2.2.2.2 h79
  have hin : vp_in x 2 := by rw [hj]; exact vp_in_nI hlt (by decide)
  have hcl : x.toNatClampNeg = j := by rw [hj]; exact nI_clamp (Nat.lt_trans hlt (by decide))
  have hlt2 : x.toNatClampNeg < 2 := by rw [hcl]; exact hlt
  have h0 : ¬ x < 0 := fun q => hin (Or.inl q)
  have hkc : kdL[c]? = some (.inl (4, twTm c)) := by rw [hc]; split <;> rfl
  obtain ⟨r', hr', cellV, g1, g2, g3, -⟩ := hP.2 (poz c) _ (zd_ws_at hkc hpc)
  have hcls := (hK.1 4 _ clX4.1).2
  obtain ⟨kA, comp, k1, k2, k3, -⟩ := (hK.2 3 _ rfl).2
  have hcomp : comp = G.1.1 4 := Option.some.inj (k3.symm.trans hcls.1)
  subst hcomp
  obtain ⟨kC, hkC, -⟩ := hcls.2
  refine W.aast F.1 F.2.1 (hP.2 (poz 1) _ (zd_ws_at kd_1 hpo)) (fun q h => by cases h) (fun h => by cases h) k1 k2 rfl hkC ⟨h0, by show _ < (arrV _ _ _).slots.size; rw [arrV_size]; exact hlt2⟩ g1 (fun q h => by rw [g3] at h; cases h) (by rw [g2]; exact hkC) (by rw [g2]; exact va_assign hcls) rfl rfl d fun H1 e1 z oq => ?_
  refine h p e s m args below meth c0 Q hk F H1 _ ls ⟨by rw [z]; exact hP.1, ?_⟩ (hS.put z oq (hD.2 _ _ (zd_ws_at kd_1 hpo))) hl
  have hP2 := hP.2.set hD (zd_ws_at kd_1 hpo) (e := zd_e G.2.1 G.2.2 (upd (μ 1) j 1) (.inr (3, 2))) (H1 := H1) (by
    show H1[G.2.1 1]? = some (vp_cell _ _)
    rw [e1]
    rw [vp_cell_q, vp_cell_q, arrV_store]
    congr 2
    funext q
    rw [hcl]
    by_cases hq : q = j
    · subst hq
      simp [updV, upd, va_rf, sw_img, hc]
    · simp [updV, upd, hq]) oq
  rw [← zd_ws_set kd_1 hpo h79]
  exact hP2
theorem z_anew {l : Launch} {G : GT} {R : Room} {κ : KZ} {cc : ByteArray} {nl : Nat} {own : String} {cs sl n : Nat} {μ : MemT} {pc : Nat} {lv : List (Option Value)} {st : List Value} (hAO : ∀ p e s m args below meth c Q, κ p e s m args below meth c Q → va_AO RX4 s) {index : Nat} (d : decode cc pc = .ok (.anewarray index, 3)) (hw : Cond.classLink own index RX4 ∈ wL) (hpo : poz 1 = n) (hc : cs + 1 ≤ R.cells) (hs : sl + 2 ≤ R.slots) (h : Zj l G R κ cc nl own (cs + 1) (sl + 2) (n + 1) (mset μ 1 (fun _ => 0)) (pc + 3) lv (.ref (G.2.1 1) :: st)) : Zj l G R κ cc nl own cs sl n μ pc lv (.int 2 :: st) := by
  intro p e s m args below meth c Q hk F H locs ls hP hS hl
  refine W.anew F.1 F.2.1 F.2.2.2.1 (F.2.2.2.2.1 _ hw) (va_AO.use (hAO p e s m args below meth c Q hk)) rfl d rfl (by decide) (by decide) hc hs fun cA kA comp f1 f2 f3 f4 => ?_
  rw [show (2 : Int32).toNatClampNeg = 2 from rfl]
  generalize hH1 : H.push ({ cls := cA, slots := Array.replicate 2 .null, vm := .none } : Cell) = H1
  have z1 : H1.size = G.2.1 0 + n + 1 := by rw [← hH1, Array.size_push, hP.1]
  have e1 : H1[H.size]? = some (arrV cA 2 (fun _ => .null)) := by rw [← hH1, Array.getElem?_push_size, ← arrV_new]
  have o1 : ∀ q : Nat, q < G.2.1 0 + n → H1[q]? = H[q]? := fun q hq => by rw [← hH1, Array.getElem?_push, if_neg (by rw [hP.1]; omega)]
  have hca : cA = G.2.2 3 := by
    obtain ⟨kA2, comp2, k1, k2, k3, k4⟩ := (F.2.2.2.2.2.1.1.2 3 _ rfl).2
    exact Option.some.inj (f1.symm.trans k4)
  rw [hP.1] at e1 ⊢
  rw [← zd_new_at F.2.2.2.2.2.2 kd_1 hpo] at e1 ⊢
  refine h p e s m args below meth c Q hk F H1 locs ls (zd_born hP F.2.2.2.2.2.2 kd_1 hpo z1 o1 ?_) (zd_S_new hS hP.1 z1 o1) hl
  show H1[G.2.1 1]? = some (vp_cell (G.2.2 3) (2, .inr (.inr (.inr (.inr (fun j => if z0 j = 0 then none else sw_img G.2.1 j))))))
  rw [e1, hca, vp_cell_q]
  rfl
theorem z_fill (l : Launch) (G : GT) {b n : Nat} {x : Int32} {μ : MemT} (hb : kdL[b]? = some (.inr (0, 8))) (hpo : poz b < n) (h79 : n ≤ 79) : zd_Met l G yJ7_fill_53178 cJ7_fill_53178 4 ({ frames := 0, cells := 0, slots := 0, locals := 0 }) [.ref (G.2.1 b), .int x] 0 0 n μ n (mset μ b (filF 8 x (μ b))) := by
  refine zd_Met.ofZ (by decide) (Nat.le_of_ble_eq_true rfl) rfl ?_
  refine z_iconst dJ7_fill_53178_0 icn_0 ?_
  refine z_istore_n dJ7_fill_53178_1 rfl rfl (by decide) ?_
  refine z_aload_n dJ7_fill_53178_2 rfl rfl ?_
  refine z_alen hb hpo dJ7_fill_53178_3 ?_
  refine z_istore_n dJ7_fill_53178_4 rfl rfl (by decide) ?_
  have key : ∀ (r j : Nat), j + r = 8 → Zj l G ({ frames := 0, cells := 0, slots := 0, locals := 0 }) (zd_κ G yJ7_fill_53178.name 0 0 n (mset μ b (filF 8 x (μ b)))) cJ7_fill_53178 4 yJ7_fill_53178.cls 0 0 n (mset μ b (itr (fun j f => upd f j x) j 0 (μ b))) 5 [some (.ref (G.2.1 b)), some (.int x), some (.int (nI j)), some (.int (nI 8))] [] := by
    intro r
    induction r with
    | zero =>
      intro j hj
      have : j = 8 := by omega
      subst this
      refine z_iload_n dJ7_fill_53178_5 rfl rfl ?_
      refine z_iload_n dJ7_fill_53178_6 rfl rfl ?_
      refine z_icmp_ge 20 dJ7_fill_53178_7 rfl (fun _ => ?_) (fun q => absurd (Int32.le_refl _) q)
      exact z_ret dJ7_fill_53178_20
    | succ r ih =>
      intro j hj
      refine z_iload_n dJ7_fill_53178_5 rfl rfl ?_
      refine z_iload_n dJ7_fill_53178_6 rfl rfl ?_
      refine z_icmp_ge 20 dJ7_fill_53178_7 rfl (fun q => absurd q (nI_ge (b := 8) (by omega) (by decide))) (fun _ => ?_)
      refine z_aload_n dJ7_fill_53178_10 rfl rfl ?_
      refine z_iload_n dJ7_fill_53178_11 rfl rfl ?_
      refine z_iload_n dJ7_fill_53178_12 rfl rfl ?_
      refine z_iast dJ7_fill_53178_13 j hb hpo h79 rfl (by omega) (by decide) ?_
      refine z_iinc dJ7_fill_53178_14 rfl (nI_i1 j) rfl (by decide) ?_
      refine z_goto 5 dJ7_fill_53178_17 rfl ?_
      refine z_mem ?_ (ih (j + 1) (by omega))
      rw [mset_mset, mset_self, itr_lt, Nat.zero_add]
  exact z_mem (by show μ = mset μ b (μ b); rw [mset_same]) (key 8 0 rfl)
theorem zf_0 (G : GT) : ∀ j, j < 9 → defaultValue (tyX7 j) = vp_V (zd_fs G.2.1 (fun _ => 0) 0 [.inl 18, .inl 1, .inl 2, .inl 3, .inl 5, .inl 6, .inl 11, .inl 16, .inl 17]) j := by
  intro j hj
  rcases (show j = 0 ∨ j = 1 ∨ j = 2 ∨ j = 3 ∨ j = 4 ∨ j = 5 ∨ j = 6 ∨ j = 7 ∨ j = 8 by omega) with rfl | rfl | rfl | rfl | rfl | rfl | rfl | rfl | rfl <;> rfl
theorem zf_18 (G : GT) : ∀ j, j < 12 → defaultValue (tyX4 j) = vp_V (zd_fs G.2.1 (fun _ => 0) 0 (twTm 18)) j := by
  intro j hj
  rcases (show j = 0 ∨ j = 1 ∨ j = 2 ∨ j = 3 ∨ j = 4 ∨ j = 5 ∨ j = 6 ∨ j = 7 ∨ j = 8 ∨ j = 9 ∨ j = 10 ∨ j = 11 by omega) with rfl | rfl | rfl | rfl | rfl | rfl | rfl | rfl | rfl | rfl | rfl | rfl <;> rfl
theorem zf_26 (G : GT) : ∀ j, j < 12 → defaultValue (tyX4 j) = vp_V (zd_fs G.2.1 (fun _ => 0) 0 (twTm 26)) j := by
  intro j hj
  rcases (show j = 0 ∨ j = 1 ∨ j = 2 ∨ j = 3 ∨ j = 4 ∨ j = 5 ∨ j = 6 ∨ j = 7 ∨ j = 8 ∨ j = 9 ∨ j = 10 ∨ j = 11 by omega) with rfl | rfl | rfl | rfl | rfl | rfl | rfl | rfl | rfl | rfl | rfl | rfl <;> rfl
theorem zf_34 (G : GT) : ∀ j, j < 12 → defaultValue (tyX4 j) = vp_V (zd_fs G.2.1 (fun _ => 0) 0 (twTm 34)) j := by
  intro j hj
  rcases (show j = 0 ∨ j = 1 ∨ j = 2 ∨ j = 3 ∨ j = 4 ∨ j = 5 ∨ j = 6 ∨ j = 7 ∨ j = 8 ∨ j = 9 ∨ j = 10 ∨ j = 11 by omega) with rfl | rfl | rfl | rfl | rfl | rfl | rfl | rfl | rfl | rfl | rfl | rfl <;> rfl
theorem zf_3 (G : GT) : ∀ j, j < 2 → defaultValue (tyX2 j) = vp_V (zd_fs G.2.1 (fun _ => 0) 0 [.inl 4, .inr 0]) j := by
  intro j hj
  rcases (show j = 0 ∨ j = 1 by omega) with rfl | rfl <;> rfl
theorem zf_5 (G : GT) : ∀ j, j < 13 → defaultValue (tyX1 j) = vp_V (zd_fs G.2.1 (fun _ => 0) 0 [.inl 42, .inr 0, .inr 0, .inr 0, .inr 0, .inr 0, .inr 0, .inr 0, .inr 0, .inr 0, .inr 0, .inr 0, .inr 0]) j := by
  intro j hj
  rcases (show j = 0 ∨ j = 1 ∨ j = 2 ∨ j = 3 ∨ j = 4 ∨ j = 5 ∨ j = 6 ∨ j = 7 ∨ j = 8 ∨ j = 9 ∨ j = 10 ∨ j = 11 ∨ j = 12 by omega) with rfl | rfl | rfl | rfl | rfl | rfl | rfl | rfl | rfl | rfl | rfl | rfl | rfl <;> rfl
theorem zf_42 (G : GT) : ∀ j, j < 12 → defaultValue (tyX4 j) = vp_V (zd_fs G.2.1 (fun _ => 0) 0 (twTm 42)) j := by
  intro j hj
  rcases (show j = 0 ∨ j = 1 ∨ j = 2 ∨ j = 3 ∨ j = 4 ∨ j = 5 ∨ j = 6 ∨ j = 7 ∨ j = 8 ∨ j = 9 ∨ j = 10 ∨ j = 11 by omega) with rfl | rfl | rfl | rfl | rfl | rfl | rfl | rfl | rfl | rfl | rfl | rfl <;> rfl
theorem zf_6 (G : GT) : ∀ j, j < 10 → defaultValue (tyX3 j) = vp_V (zd_fs G.2.1 (fun _ => 0) 0 [.inl 7, .inl 8, .inl 9, .inl 10, .inr 0, .inr 0, .inr 0, .inr 0, .inr 0, .inr 0]) j := by
  intro j hj
  rcases (show j = 0 ∨ j = 1 ∨ j = 2 ∨ j = 3 ∨ j = 4 ∨ j = 5 ∨ j = 6 ∨ j = 7 ∨ j = 8 ∨ j = 9 by omega) with rfl | rfl | rfl | rfl | rfl | rfl | rfl | rfl | rfl | rfl <;> rfl
theorem zf_11 (G : GT) : ∀ j, j < 7 → defaultValue (tyX5 j) = vp_V (zd_fs G.2.1 (fun _ => 0) 0 [.inl 12, .inl 13, .inl 14, .inl 15, .inr 0, .inr 0, .inr 0]) j := by
  intro j hj
  rcases (show j = 0 ∨ j = 1 ∨ j = 2 ∨ j = 3 ∨ j = 4 ∨ j = 5 ∨ j = 6 by omega) with rfl | rfl | rfl | rfl | rfl | rfl | rfl <;> rfl
theorem zf_16 (G : GT) : ∀ j, j < 2 → defaultValue (tyX0 j) = vp_V (zd_fs G.2.1 (fun _ => 0) 0 [.inr 1, .inr 1]) j := by
  intro j hj
  rcases (show j = 0 ∨ j = 1 by omega) with rfl | rfl <;> rfl
theorem zf_17 (G : GT) : ∀ j, j < 4 → defaultValue (tyX6 j) = vp_V (zd_fs G.2.1 (fun _ => 0) 0 [.inl 50, .inr 0, .inr 0, .inr 0]) j := by
  intro j hj
  rcases (show j = 0 ∨ j = 1 ∨ j = 2 ∨ j = 3 by omega) with rfl | rfl | rfl | rfl <;> rfl
theorem zf_50 (G : GT) : ∀ j, j < 12 → defaultValue (tyX4 j) = vp_V (zd_fs G.2.1 (fun _ => 0) 0 (twTm 50)) j := by
  intro j hj
  rcases (show j = 0 ∨ j = 1 ∨ j = 2 ∨ j = 3 ∨ j = 4 ∨ j = 5 ∨ j = 6 ∨ j = 7 ∨ j = 8 ∨ j = 9 ∨ j = 10 ∨ j = 11 by omega) with rfl | rfl | rfl | rfl | rfl | rfl | rfl | rfl | rfl | rfl | rfl | rfl <;> rfl
theorem zf_58 (G : GT) : ∀ j, j < 41 → defaultValue (tyX8 j) = vp_V (zd_fs G.2.1 (fun _ => 0) 0 [.inr 0, .inr 0, .inr 0, .inr 0, .inl 59, .inl 60, .inl 61, .inl 62, .inl 63, .inl 64, .inl 65, .inr 0, .inl 66, .inr 0, .inl 67, .inl 68, .inl 69, .inl 70, .inr 0, .inr 0, .inr 0, .inr 0, .inr 0, .inl 71, .inr 0, .inr 0, .inr 0, .inr 0, .inl 72, .inl 73, .inr 0, .inr 0, .inr 0, .inl 74, .inl 75, .inl 76, .inr 0, .inl 77, .inl 78, .inr 0, .inr 0]) j := by
  intro j hj
  rcases (show j = 0 ∨ j = 1 ∨ j = 2 ∨ j = 3 ∨ j = 4 ∨ j = 5 ∨ j = 6 ∨ j = 7 ∨ j = 8 ∨ j = 9 ∨ j = 10 ∨ j = 11 ∨ j = 12 ∨ j = 13 ∨ j = 14 ∨ j = 15 ∨ j = 16 ∨ j = 17 ∨ j = 18 ∨ j = 19 ∨ j = 20 ∨ j = 21 ∨ j = 22 ∨ j = 23 ∨ j = 24 ∨ j = 25 ∨ j = 26 ∨ j = 27 ∨ j = 28 ∨ j = 29 ∨ j = 30 ∨ j = 31 ∨ j = 32 ∨ j = 33 ∨ j = 34 ∨ j = 35 ∨ j = 36 ∨ j = 37 ∨ j = 38 ∨ j = 39 ∨ j = 40 by omega) with rfl | rfl | rfl | rfl | rfl | rfl | rfl | rfl | rfl | rfl | rfl | rfl | rfl | rfl | rfl | rfl | rfl | rfl | rfl | rfl | rfl | rfl | rfl | rfl | rfl | rfl | rfl | rfl | rfl | rfl | rfl | rfl | rfl | rfl | rfl | rfl | rfl | rfl | rfl | rfl | rfl <;> rfl
def rTn : Nat → Int32 := upd (upd (upd (upd (upd (upd (upd (upd z0 0 1) 1 1) 2 1) 3 1) 4 1) 5 1) 6 1) 9 5
def tn_18 (μ : MemT) : MemT := mset (mset (mset (mset (mset (mset (mset (mset μ 19 z0) 20 z0) 21 z0) 22 (filF 8 (-6) z0)) 23 z0) 24 z0) 25 z0) 18 rTn
theorem zX4_18 (l : Launch) (G : GT) (μ : MemT) : zd_Met l G yX4_init cX4_init 1 ({ frames := 1, cells := 7, slots := 56, locals := 23 }) [.ref (G.2.1 18)] 7 56 2 (mset μ 18 z0) 9 (tn_18 μ) := by
  refine zd_Met.ofZ (by decide) (Nat.le_of_ble_eq_true rfl) rfl ?_
  refine z_aload_n dX4_init_0 rfl rfl ?_
  refine z_obj dX4_init_1 wm_ml_X4_3 (by decide) (by decide) ?_
  refine z_aload_n dX4_init_4 rfl rfl ?_
  refine z_bipush (v := 8) dX4_init_5 ib_8 ?_
  refine z_newi (N := 8) dX4_init_7 kd_19 rfl (by decide) (by decide) (by decide) (by decide) ?_
  refine z_mem (zm_arr (show 19 ≠ 18 by decide)) ?_
  refine z_putr dX4_init_9 0 clX4 kd_18 (by decide) (by decide) (by decide) wm_fl_X4_9 rfl rfl rfl rfl rfl (fun _ _ _ _ _ _ _ _ _ hk => hk.2.2.2) (by decide +kernel) rfl rfl ?_
  refine z_mem zm_put ?_
  refine z_aload_n dX4_init_12 rfl rfl ?_
  refine z_bipush (v := 8) dX4_init_13 ib_8 ?_
  refine z_newi (N := 8) dX4_init_15 kd_20 rfl (by decide) (by decide) (by decide) (by decide) ?_
  refine z_mem (zm_arr (show 20 ≠ 18 by decide)) ?_
  refine z_putr dX4_init_17 1 clX4 kd_18 (by decide) (by decide) (by decide) wm_fl_X4_15 rfl rfl rfl rfl rfl (fun _ _ _ _ _ _ _ _ _ hk => hk.2.2.2) (by decide +kernel) rfl rfl ?_
  refine z_mem zm_put ?_
  refine z_aload_n dX4_init_20 rfl rfl ?_
  refine z_bipush (v := 8) dX4_init_21 ib_8 ?_
  refine z_newi (N := 8) dX4_init_23 kd_21 rfl (by decide) (by decide) (by decide) (by decide) ?_
  refine z_mem (zm_arr (show 21 ≠ 18 by decide)) ?_
  refine z_putr dX4_init_25 2 clX4 kd_18 (by decide) (by decide) (by decide) wm_fl_X4_18 rfl rfl rfl rfl rfl (fun _ _ _ _ _ _ _ _ _ hk => hk.2.2.2) (by decide +kernel) rfl rfl ?_
  refine z_mem zm_put ?_
  refine z_aload_n dX4_init_28 rfl rfl ?_
  refine z_bipush (v := 8) dX4_init_29 ib_8 ?_
  refine z_newi (N := 8) dX4_init_31 kd_22 rfl (by decide) (by decide) (by decide) (by decide) ?_
  refine z_mem (zm_arr (show 22 ≠ 18 by decide)) ?_
  refine z_putr dX4_init_33 3 clX4 kd_18 (by decide) (by decide) (by decide) wm_fl_X4_21 rfl rfl rfl rfl rfl (fun _ _ _ _ _ _ _ _ _ hk => hk.2.2.2) (by decide +kernel) rfl rfl ?_
  refine z_mem zm_put ?_
  refine z_aload_n dX4_init_36 rfl rfl ?_
  refine z_bipush (v := 8) dX4_init_37 ib_8 ?_
  refine z_newi (N := 8) dX4_init_39 kd_23 rfl (by decide) (by decide) (by decide) (by decide) ?_
  refine z_mem (zm_arr (show 23 ≠ 18 by decide)) ?_
  refine z_putr dX4_init_41 4 clX4 kd_18 (by decide) (by decide) (by decide) wm_fl_X4_24 rfl rfl rfl rfl rfl (fun _ _ _ _ _ _ _ _ _ hk => hk.2.2.2) (by decide +kernel) rfl rfl ?_
  refine z_mem zm_put ?_
  refine z_aload_n dX4_init_44 rfl rfl ?_
  refine z_bipush (v := 8) dX4_init_45 ib_8 ?_
  refine z_newi (N := 8) dX4_init_47 kd_24 rfl (by decide) (by decide) (by decide) (by decide) ?_
  refine z_mem (zm_arr (show 24 ≠ 18 by decide)) ?_
  refine z_putr dX4_init_49 5 clX4 kd_18 (by decide) (by decide) (by decide) wm_fl_X4_27 rfl rfl rfl rfl rfl (fun _ _ _ _ _ _ _ _ _ hk => hk.2.2.2) (by decide +kernel) rfl rfl ?_
  refine z_mem zm_put ?_
  refine z_aload_n dX4_init_52 rfl rfl ?_
  refine z_bipush (v := 8) dX4_init_53 ib_8 ?_
  refine z_newi (N := 8) dX4_init_55 kd_25 rfl (by decide) (by decide) (by decide) (by decide) ?_
  refine z_mem (zm_arr (show 25 ≠ 18 by decide)) ?_
  refine z_putr dX4_init_57 6 clX4 kd_18 (by decide) (by decide) (by decide) wm_fl_X4_30 rfl rfl rfl rfl rfl (fun _ _ _ _ _ _ _ _ _ hk => hk.2.2.2) (by decide +kernel) rfl rfl ?_
  refine z_mem zm_put ?_
  refine z_aload_n dX4_init_60 rfl rfl ?_
  refine z_iconst (v := 5) dX4_init_61 ic_5 ?_
  refine z_puti dX4_init_62 9 clX4 kd_18 (by decide) (by decide) (by decide) wm_fl_X4_33 rfl rfl rfl rfl (by decide +kernel) rfl rfl ?_
  refine z_mem zm_put ?_
  refine z_aload_n dX4_init_65 rfl rfl ?_
  refine z_getr dX4_init_66 3 clX4 kd_18 (by decide) (by decide) wm_fl_X4_21 rfl rfl rfl ?_
  refine z_bipush (v := -6) dX4_init_69 ib_m6 ?_
  refine z_callS meJ7_fill_53178 (z_fill l G (x := -6) kd_22 (by decide) (by decide)) wm_ml_X4_37 ⟨by decide, by decide⟩ ⟨rfl, rfl⟩ (by decide) (by decide) (by decide) rfl rfl dX4_init_71 ?_
  refine z_mem ?_ (z_ret dX4_init_74)
  funext k
  rcases (show k = 18 ∨ k = 19 ∨ k = 20 ∨ k = 21 ∨ k = 22 ∨ k = 23 ∨ k = 24 ∨ k = 25 ∨ (k ≠ 18 ∧ k ≠ 19 ∧ k ≠ 20 ∧ k ≠ 21 ∧ k ≠ 22 ∧ k ≠ 23 ∧ k ≠ 24 ∧ k ≠ 25) by omega) with rfl | rfl | rfl | rfl | rfl | rfl | rfl | rfl | h
  · rfl
  · rfl
  · rfl
  · rfl
  · rfl
  · rfl
  · rfl
  · rfl
  · simp [tn_18, mset, h]
theorem tn_18_cm (μ : MemT) (r : Nat → Int32) {c : Nat} (h : c < 18 ∨ 26 ≤ c) : tn_18 (mset μ c r) = mset (tn_18 μ) c r := by
  unfold tn_18
  rw [zm_arr (show 19 ≠ c by omega), zm_arr (show 20 ≠ c by omega), zm_arr (show 21 ≠ c by omega), zm_arr (show 22 ≠ c by omega), zm_arr (show 23 ≠ c by omega), zm_arr (show 24 ≠ c by omega), zm_arr (show 25 ≠ c by omega), zm_arr (show 18 ≠ c by omega)]
def tn_26 (μ : MemT) : MemT := mset (mset (mset (mset (mset (mset (mset (mset μ 27 z0) 28 z0) 29 z0) 30 (filF 8 (-6) z0)) 31 z0) 32 z0) 33 z0) 26 rTn
theorem zX4_26 (l : Launch) (G : GT) (μ : MemT) : zd_Met l G yX4_init cX4_init 1 ({ frames := 1, cells := 7, slots := 56, locals := 23 }) [.ref (G.2.1 26)] 7 56 11 (mset μ 26 z0) 18 (tn_26 μ) := by
  refine zd_Met.ofZ (by decide) (Nat.le_of_ble_eq_true rfl) rfl ?_
  refine z_aload_n dX4_init_0 rfl rfl ?_
  refine z_obj dX4_init_1 wm_ml_X4_3 (by decide) (by decide) ?_
  refine z_aload_n dX4_init_4 rfl rfl ?_
  refine z_bipush (v := 8) dX4_init_5 ib_8 ?_
  refine z_newi (N := 8) dX4_init_7 kd_27 rfl (by decide) (by decide) (by decide) (by decide) ?_
  refine z_mem (zm_arr (show 27 ≠ 26 by decide)) ?_
  refine z_putr dX4_init_9 0 clX4 kd_26 (by decide) (by decide) (by decide) wm_fl_X4_9 rfl rfl rfl rfl rfl (fun _ _ _ _ _ _ _ _ _ hk => hk.2.2.2) (by decide +kernel) rfl rfl ?_
  refine z_mem zm_put ?_
  refine z_aload_n dX4_init_12 rfl rfl ?_
  refine z_bipush (v := 8) dX4_init_13 ib_8 ?_
  refine z_newi (N := 8) dX4_init_15 kd_28 rfl (by decide) (by decide) (by decide) (by decide) ?_
  refine z_mem (zm_arr (show 28 ≠ 26 by decide)) ?_
  refine z_putr dX4_init_17 1 clX4 kd_26 (by decide) (by decide) (by decide) wm_fl_X4_15 rfl rfl rfl rfl rfl (fun _ _ _ _ _ _ _ _ _ hk => hk.2.2.2) (by decide +kernel) rfl rfl ?_
  refine z_mem zm_put ?_
  refine z_aload_n dX4_init_20 rfl rfl ?_
  refine z_bipush (v := 8) dX4_init_21 ib_8 ?_
  refine z_newi (N := 8) dX4_init_23 kd_29 rfl (by decide) (by decide) (by decide) (by decide) ?_
  refine z_mem (zm_arr (show 29 ≠ 26 by decide)) ?_
  refine z_putr dX4_init_25 2 clX4 kd_26 (by decide) (by decide) (by decide) wm_fl_X4_18 rfl rfl rfl rfl rfl (fun _ _ _ _ _ _ _ _ _ hk => hk.2.2.2) (by decide +kernel) rfl rfl ?_
  refine z_mem zm_put ?_
  refine z_aload_n dX4_init_28 rfl rfl ?_
  refine z_bipush (v := 8) dX4_init_29 ib_8 ?_
  refine z_newi (N := 8) dX4_init_31 kd_30 rfl (by decide) (by decide) (by decide) (by decide) ?_
  refine z_mem (zm_arr (show 30 ≠ 26 by decide)) ?_
  refine z_putr dX4_init_33 3 clX4 kd_26 (by decide) (by decide) (by decide) wm_fl_X4_21 rfl rfl rfl rfl rfl (fun _ _ _ _ _ _ _ _ _ hk => hk.2.2.2) (by decide +kernel) rfl rfl ?_
  refine z_mem zm_put ?_
  refine z_aload_n dX4_init_36 rfl rfl ?_
  refine z_bipush (v := 8) dX4_init_37 ib_8 ?_
  refine z_newi (N := 8) dX4_init_39 kd_31 rfl (by decide) (by decide) (by decide) (by decide) ?_
  refine z_mem (zm_arr (show 31 ≠ 26 by decide)) ?_
  refine z_putr dX4_init_41 4 clX4 kd_26 (by decide) (by decide) (by decide) wm_fl_X4_24 rfl rfl rfl rfl rfl (fun _ _ _ _ _ _ _ _ _ hk => hk.2.2.2) (by decide +kernel) rfl rfl ?_
  refine z_mem zm_put ?_
  refine z_aload_n dX4_init_44 rfl rfl ?_
  refine z_bipush (v := 8) dX4_init_45 ib_8 ?_
  refine z_newi (N := 8) dX4_init_47 kd_32 rfl (by decide) (by decide) (by decide) (by decide) ?_
  refine z_mem (zm_arr (show 32 ≠ 26 by decide)) ?_
  refine z_putr dX4_init_49 5 clX4 kd_26 (by decide) (by decide) (by decide) wm_fl_X4_27 rfl rfl rfl rfl rfl (fun _ _ _ _ _ _ _ _ _ hk => hk.2.2.2) (by decide +kernel) rfl rfl ?_
  refine z_mem zm_put ?_
  refine z_aload_n dX4_init_52 rfl rfl ?_
  refine z_bipush (v := 8) dX4_init_53 ib_8 ?_
  refine z_newi (N := 8) dX4_init_55 kd_33 rfl (by decide) (by decide) (by decide) (by decide) ?_
  refine z_mem (zm_arr (show 33 ≠ 26 by decide)) ?_
  refine z_putr dX4_init_57 6 clX4 kd_26 (by decide) (by decide) (by decide) wm_fl_X4_30 rfl rfl rfl rfl rfl (fun _ _ _ _ _ _ _ _ _ hk => hk.2.2.2) (by decide +kernel) rfl rfl ?_
  refine z_mem zm_put ?_
  refine z_aload_n dX4_init_60 rfl rfl ?_
  refine z_iconst (v := 5) dX4_init_61 ic_5 ?_
  refine z_puti dX4_init_62 9 clX4 kd_26 (by decide) (by decide) (by decide) wm_fl_X4_33 rfl rfl rfl rfl (by decide +kernel) rfl rfl ?_
  refine z_mem zm_put ?_
  refine z_aload_n dX4_init_65 rfl rfl ?_
  refine z_getr dX4_init_66 3 clX4 kd_26 (by decide) (by decide) wm_fl_X4_21 rfl rfl rfl ?_
  refine z_bipush (v := -6) dX4_init_69 ib_m6 ?_
  refine z_callS meJ7_fill_53178 (z_fill l G (x := -6) kd_30 (by decide) (by decide)) wm_ml_X4_37 ⟨by decide, by decide⟩ ⟨rfl, rfl⟩ (by decide) (by decide) (by decide) rfl rfl dX4_init_71 ?_
  refine z_mem ?_ (z_ret dX4_init_74)
  funext k
  rcases (show k = 26 ∨ k = 27 ∨ k = 28 ∨ k = 29 ∨ k = 30 ∨ k = 31 ∨ k = 32 ∨ k = 33 ∨ (k ≠ 26 ∧ k ≠ 27 ∧ k ≠ 28 ∧ k ≠ 29 ∧ k ≠ 30 ∧ k ≠ 31 ∧ k ≠ 32 ∧ k ≠ 33) by omega) with rfl | rfl | rfl | rfl | rfl | rfl | rfl | rfl | h
  · rfl
  · rfl
  · rfl
  · rfl
  · rfl
  · rfl
  · rfl
  · rfl
  · simp [tn_26, mset, h]
theorem tn_26_cm (μ : MemT) (r : Nat → Int32) {c : Nat} (h : c < 26 ∨ 34 ≤ c) : tn_26 (mset μ c r) = mset (tn_26 μ) c r := by
  unfold tn_26
  rw [zm_arr (show 27 ≠ c by omega), zm_arr (show 28 ≠ c by omega), zm_arr (show 29 ≠ c by omega), zm_arr (show 30 ≠ c by omega), zm_arr (show 31 ≠ c by omega), zm_arr (show 32 ≠ c by omega), zm_arr (show 33 ≠ c by omega), zm_arr (show 26 ≠ c by omega)]
def tn_34 (μ : MemT) : MemT := mset (mset (mset (mset (mset (mset (mset (mset μ 35 z0) 36 z0) 37 z0) 38 (filF 8 (-6) z0)) 39 z0) 40 z0) 41 z0) 34 rTn
theorem zX4_34 (l : Launch) (G : GT) (μ : MemT) : zd_Met l G yX4_init cX4_init 1 ({ frames := 1, cells := 7, slots := 56, locals := 23 }) [.ref (G.2.1 34)] 7 56 19 (mset μ 34 z0) 26 (tn_34 μ) := by
  refine zd_Met.ofZ (by decide) (Nat.le_of_ble_eq_true rfl) rfl ?_
  refine z_aload_n dX4_init_0 rfl rfl ?_
  refine z_obj dX4_init_1 wm_ml_X4_3 (by decide) (by decide) ?_
  refine z_aload_n dX4_init_4 rfl rfl ?_
  refine z_bipush (v := 8) dX4_init_5 ib_8 ?_
  refine z_newi (N := 8) dX4_init_7 kd_35 rfl (by decide) (by decide) (by decide) (by decide) ?_
  refine z_mem (zm_arr (show 35 ≠ 34 by decide)) ?_
  refine z_putr dX4_init_9 0 clX4 kd_34 (by decide) (by decide) (by decide) wm_fl_X4_9 rfl rfl rfl rfl rfl (fun _ _ _ _ _ _ _ _ _ hk => hk.2.2.2) (by decide +kernel) rfl rfl ?_
  refine z_mem zm_put ?_
  refine z_aload_n dX4_init_12 rfl rfl ?_
  refine z_bipush (v := 8) dX4_init_13 ib_8 ?_
  refine z_newi (N := 8) dX4_init_15 kd_36 rfl (by decide) (by decide) (by decide) (by decide) ?_
  refine z_mem (zm_arr (show 36 ≠ 34 by decide)) ?_
  refine z_putr dX4_init_17 1 clX4 kd_34 (by decide) (by decide) (by decide) wm_fl_X4_15 rfl rfl rfl rfl rfl (fun _ _ _ _ _ _ _ _ _ hk => hk.2.2.2) (by decide +kernel) rfl rfl ?_
  refine z_mem zm_put ?_
  refine z_aload_n dX4_init_20 rfl rfl ?_
  refine z_bipush (v := 8) dX4_init_21 ib_8 ?_
  refine z_newi (N := 8) dX4_init_23 kd_37 rfl (by decide) (by decide) (by decide) (by decide) ?_
  refine z_mem (zm_arr (show 37 ≠ 34 by decide)) ?_
  refine z_putr dX4_init_25 2 clX4 kd_34 (by decide) (by decide) (by decide) wm_fl_X4_18 rfl rfl rfl rfl rfl (fun _ _ _ _ _ _ _ _ _ hk => hk.2.2.2) (by decide +kernel) rfl rfl ?_
  refine z_mem zm_put ?_
  refine z_aload_n dX4_init_28 rfl rfl ?_
  refine z_bipush (v := 8) dX4_init_29 ib_8 ?_
  refine z_newi (N := 8) dX4_init_31 kd_38 rfl (by decide) (by decide) (by decide) (by decide) ?_
  refine z_mem (zm_arr (show 38 ≠ 34 by decide)) ?_
  refine z_putr dX4_init_33 3 clX4 kd_34 (by decide) (by decide) (by decide) wm_fl_X4_21 rfl rfl rfl rfl rfl (fun _ _ _ _ _ _ _ _ _ hk => hk.2.2.2) (by decide +kernel) rfl rfl ?_
  refine z_mem zm_put ?_
  refine z_aload_n dX4_init_36 rfl rfl ?_
  refine z_bipush (v := 8) dX4_init_37 ib_8 ?_
  refine z_newi (N := 8) dX4_init_39 kd_39 rfl (by decide) (by decide) (by decide) (by decide) ?_
  refine z_mem (zm_arr (show 39 ≠ 34 by decide)) ?_
  refine z_putr dX4_init_41 4 clX4 kd_34 (by decide) (by decide) (by decide) wm_fl_X4_24 rfl rfl rfl rfl rfl (fun _ _ _ _ _ _ _ _ _ hk => hk.2.2.2) (by decide +kernel) rfl rfl ?_
  refine z_mem zm_put ?_
  refine z_aload_n dX4_init_44 rfl rfl ?_
  refine z_bipush (v := 8) dX4_init_45 ib_8 ?_
  refine z_newi (N := 8) dX4_init_47 kd_40 rfl (by decide) (by decide) (by decide) (by decide) ?_
  refine z_mem (zm_arr (show 40 ≠ 34 by decide)) ?_
  refine z_putr dX4_init_49 5 clX4 kd_34 (by decide) (by decide) (by decide) wm_fl_X4_27 rfl rfl rfl rfl rfl (fun _ _ _ _ _ _ _ _ _ hk => hk.2.2.2) (by decide +kernel) rfl rfl ?_
  refine z_mem zm_put ?_
  refine z_aload_n dX4_init_52 rfl rfl ?_
  refine z_bipush (v := 8) dX4_init_53 ib_8 ?_
  refine z_newi (N := 8) dX4_init_55 kd_41 rfl (by decide) (by decide) (by decide) (by decide) ?_
  refine z_mem (zm_arr (show 41 ≠ 34 by decide)) ?_
  refine z_putr dX4_init_57 6 clX4 kd_34 (by decide) (by decide) (by decide) wm_fl_X4_30 rfl rfl rfl rfl rfl (fun _ _ _ _ _ _ _ _ _ hk => hk.2.2.2) (by decide +kernel) rfl rfl ?_
  refine z_mem zm_put ?_
  refine z_aload_n dX4_init_60 rfl rfl ?_
  refine z_iconst (v := 5) dX4_init_61 ic_5 ?_
  refine z_puti dX4_init_62 9 clX4 kd_34 (by decide) (by decide) (by decide) wm_fl_X4_33 rfl rfl rfl rfl (by decide +kernel) rfl rfl ?_
  refine z_mem zm_put ?_
  refine z_aload_n dX4_init_65 rfl rfl ?_
  refine z_getr dX4_init_66 3 clX4 kd_34 (by decide) (by decide) wm_fl_X4_21 rfl rfl rfl ?_
  refine z_bipush (v := -6) dX4_init_69 ib_m6 ?_
  refine z_callS meJ7_fill_53178 (z_fill l G (x := -6) kd_38 (by decide) (by decide)) wm_ml_X4_37 ⟨by decide, by decide⟩ ⟨rfl, rfl⟩ (by decide) (by decide) (by decide) rfl rfl dX4_init_71 ?_
  refine z_mem ?_ (z_ret dX4_init_74)
  funext k
  rcases (show k = 34 ∨ k = 35 ∨ k = 36 ∨ k = 37 ∨ k = 38 ∨ k = 39 ∨ k = 40 ∨ k = 41 ∨ (k ≠ 34 ∧ k ≠ 35 ∧ k ≠ 36 ∧ k ≠ 37 ∧ k ≠ 38 ∧ k ≠ 39 ∧ k ≠ 40 ∧ k ≠ 41) by omega) with rfl | rfl | rfl | rfl | rfl | rfl | rfl | rfl | h
  · rfl
  · rfl
  · rfl
  · rfl
  · rfl
  · rfl
  · rfl
  · rfl
  · simp [tn_34, mset, h]
theorem tn_34_cm (μ : MemT) (r : Nat → Int32) {c : Nat} (h : c < 34 ∨ 42 ≤ c) : tn_34 (mset μ c r) = mset (tn_34 μ) c r := by
  unfold tn_34
  rw [zm_arr (show 35 ≠ c by omega), zm_arr (show 36 ≠ c by omega), zm_arr (show 37 ≠ c by omega), zm_arr (show 38 ≠ c by omega), zm_arr (show 39 ≠ c by omega), zm_arr (show 40 ≠ c by omega), zm_arr (show 41 ≠ c by omega), zm_arr (show 34 ≠ c by omega)]
def tn_42 (μ : MemT) : MemT := mset (mset (mset (mset (mset (mset (mset (mset μ 43 z0) 44 z0) 45 z0) 46 (filF 8 (-6) z0)) 47 z0) 48 z0) 49 z0) 42 rTn
theorem zX4_42 (l : Launch) (G : GT) (μ : MemT) : zd_Met l G yX4_init cX4_init 1 ({ frames := 1, cells := 7, slots := 56, locals := 23 }) [.ref (G.2.1 42)] 7 56 31 (mset μ 42 z0) 38 (tn_42 μ) := by
  refine zd_Met.ofZ (by decide) (Nat.le_of_ble_eq_true rfl) rfl ?_
  refine z_aload_n dX4_init_0 rfl rfl ?_
  refine z_obj dX4_init_1 wm_ml_X4_3 (by decide) (by decide) ?_
  refine z_aload_n dX4_init_4 rfl rfl ?_
  refine z_bipush (v := 8) dX4_init_5 ib_8 ?_
  refine z_newi (N := 8) dX4_init_7 kd_43 rfl (by decide) (by decide) (by decide) (by decide) ?_
  refine z_mem (zm_arr (show 43 ≠ 42 by decide)) ?_
  refine z_putr dX4_init_9 0 clX4 kd_42 (by decide) (by decide) (by decide) wm_fl_X4_9 rfl rfl rfl rfl rfl (fun _ _ _ _ _ _ _ _ _ hk => hk.2.2.2) (by decide +kernel) rfl rfl ?_
  refine z_mem zm_put ?_
  refine z_aload_n dX4_init_12 rfl rfl ?_
  refine z_bipush (v := 8) dX4_init_13 ib_8 ?_
  refine z_newi (N := 8) dX4_init_15 kd_44 rfl (by decide) (by decide) (by decide) (by decide) ?_
  refine z_mem (zm_arr (show 44 ≠ 42 by decide)) ?_
  refine z_putr dX4_init_17 1 clX4 kd_42 (by decide) (by decide) (by decide) wm_fl_X4_15 rfl rfl rfl rfl rfl (fun _ _ _ _ _ _ _ _ _ hk => hk.2.2.2) (by decide +kernel) rfl rfl ?_
  refine z_mem zm_put ?_
  refine z_aload_n dX4_init_20 rfl rfl ?_
  refine z_bipush (v := 8) dX4_init_21 ib_8 ?_
  refine z_newi (N := 8) dX4_init_23 kd_45 rfl (by decide) (by decide) (by decide) (by decide) ?_
  refine z_mem (zm_arr (show 45 ≠ 42 by decide)) ?_
  refine z_putr dX4_init_25 2 clX4 kd_42 (by decide) (by decide) (by decide) wm_fl_X4_18 rfl rfl rfl rfl rfl (fun _ _ _ _ _ _ _ _ _ hk => hk.2.2.2) (by decide +kernel) rfl rfl ?_
  refine z_mem zm_put ?_
  refine z_aload_n dX4_init_28 rfl rfl ?_
  refine z_bipush (v := 8) dX4_init_29 ib_8 ?_
  refine z_newi (N := 8) dX4_init_31 kd_46 rfl (by decide) (by decide) (by decide) (by decide) ?_
  refine z_mem (zm_arr (show 46 ≠ 42 by decide)) ?_
  refine z_putr dX4_init_33 3 clX4 kd_42 (by decide) (by decide) (by decide) wm_fl_X4_21 rfl rfl rfl rfl rfl (fun _ _ _ _ _ _ _ _ _ hk => hk.2.2.2) (by decide +kernel) rfl rfl ?_
  refine z_mem zm_put ?_
  refine z_aload_n dX4_init_36 rfl rfl ?_
  refine z_bipush (v := 8) dX4_init_37 ib_8 ?_
  refine z_newi (N := 8) dX4_init_39 kd_47 rfl (by decide) (by decide) (by decide) (by decide) ?_
  refine z_mem (zm_arr (show 47 ≠ 42 by decide)) ?_
  refine z_putr dX4_init_41 4 clX4 kd_42 (by decide) (by decide) (by decide) wm_fl_X4_24 rfl rfl rfl rfl rfl (fun _ _ _ _ _ _ _ _ _ hk => hk.2.2.2) (by decide +kernel) rfl rfl ?_
  refine z_mem zm_put ?_
  refine z_aload_n dX4_init_44 rfl rfl ?_
  refine z_bipush (v := 8) dX4_init_45 ib_8 ?_
  refine z_newi (N := 8) dX4_init_47 kd_48 rfl (by decide) (by decide) (by decide) (by decide) ?_
  refine z_mem (zm_arr (show 48 ≠ 42 by decide)) ?_
  refine z_putr dX4_init_49 5 clX4 kd_42 (by decide) (by decide) (by decide) wm_fl_X4_27 rfl rfl rfl rfl rfl (fun _ _ _ _ _ _ _ _ _ hk => hk.2.2.2) (by decide +kernel) rfl rfl ?_
  refine z_mem zm_put ?_
  refine z_aload_n dX4_init_52 rfl rfl ?_
  refine z_bipush (v := 8) dX4_init_53 ib_8 ?_
  refine z_newi (N := 8) dX4_init_55 kd_49 rfl (by decide) (by decide) (by decide) (by decide) ?_
  refine z_mem (zm_arr (show 49 ≠ 42 by decide)) ?_
  refine z_putr dX4_init_57 6 clX4 kd_42 (by decide) (by decide) (by decide) wm_fl_X4_30 rfl rfl rfl rfl rfl (fun _ _ _ _ _ _ _ _ _ hk => hk.2.2.2) (by decide +kernel) rfl rfl ?_
  refine z_mem zm_put ?_
  refine z_aload_n dX4_init_60 rfl rfl ?_
  refine z_iconst (v := 5) dX4_init_61 ic_5 ?_
  refine z_puti dX4_init_62 9 clX4 kd_42 (by decide) (by decide) (by decide) wm_fl_X4_33 rfl rfl rfl rfl (by decide +kernel) rfl rfl ?_
  refine z_mem zm_put ?_
  refine z_aload_n dX4_init_65 rfl rfl ?_
  refine z_getr dX4_init_66 3 clX4 kd_42 (by decide) (by decide) wm_fl_X4_21 rfl rfl rfl ?_
  refine z_bipush (v := -6) dX4_init_69 ib_m6 ?_
  refine z_callS meJ7_fill_53178 (z_fill l G (x := -6) kd_46 (by decide) (by decide)) wm_ml_X4_37 ⟨by decide, by decide⟩ ⟨rfl, rfl⟩ (by decide) (by decide) (by decide) rfl rfl dX4_init_71 ?_
  refine z_mem ?_ (z_ret dX4_init_74)
  funext k
  rcases (show k = 42 ∨ k = 43 ∨ k = 44 ∨ k = 45 ∨ k = 46 ∨ k = 47 ∨ k = 48 ∨ k = 49 ∨ (k ≠ 42 ∧ k ≠ 43 ∧ k ≠ 44 ∧ k ≠ 45 ∧ k ≠ 46 ∧ k ≠ 47 ∧ k ≠ 48 ∧ k ≠ 49) by omega) with rfl | rfl | rfl | rfl | rfl | rfl | rfl | rfl | h
  · rfl
  · rfl
  · rfl
  · rfl
  · rfl
  · rfl
  · rfl
  · rfl
  · simp [tn_42, mset, h]
theorem tn_42_cm (μ : MemT) (r : Nat → Int32) {c : Nat} (h : c < 42 ∨ 50 ≤ c) : tn_42 (mset μ c r) = mset (tn_42 μ) c r := by
  unfold tn_42
  rw [zm_arr (show 43 ≠ c by omega), zm_arr (show 44 ≠ c by omega), zm_arr (show 45 ≠ c by omega), zm_arr (show 46 ≠ c by omega), zm_arr (show 47 ≠ c by omega), zm_arr (show 48 ≠ c by omega), zm_arr (show 49 ≠ c by omega), zm_arr (show 42 ≠ c by omega)]
def tn_50 (μ : MemT) : MemT := mset (mset (mset (mset (mset (mset (mset (mset μ 51 z0) 52 z0) 53 z0) 54 (filF 8 (-6) z0)) 55 z0) 56 z0) 57 z0) 50 rTn
theorem zX4_50 (l : Launch) (G : GT) (μ : MemT) : zd_Met l G yX4_init cX4_init 1 ({ frames := 1, cells := 7, slots := 56, locals := 23 }) [.ref (G.2.1 50)] 7 56 51 (mset μ 50 z0) 58 (tn_50 μ) := by
  refine zd_Met.ofZ (by decide) (Nat.le_of_ble_eq_true rfl) rfl ?_
  refine z_aload_n dX4_init_0 rfl rfl ?_
  refine z_obj dX4_init_1 wm_ml_X4_3 (by decide) (by decide) ?_
  refine z_aload_n dX4_init_4 rfl rfl ?_
  refine z_bipush (v := 8) dX4_init_5 ib_8 ?_
  refine z_newi (N := 8) dX4_init_7 kd_51 rfl (by decide) (by decide) (by decide) (by decide) ?_
  refine z_mem (zm_arr (show 51 ≠ 50 by decide)) ?_
  refine z_putr dX4_init_9 0 clX4 kd_50 (by decide) (by decide) (by decide) wm_fl_X4_9 rfl rfl rfl rfl rfl (fun _ _ _ _ _ _ _ _ _ hk => hk.2.2.2) (by decide +kernel) rfl rfl ?_
  refine z_mem zm_put ?_
  refine z_aload_n dX4_init_12 rfl rfl ?_
  refine z_bipush (v := 8) dX4_init_13 ib_8 ?_
  refine z_newi (N := 8) dX4_init_15 kd_52 rfl (by decide) (by decide) (by decide) (by decide) ?_
  refine z_mem (zm_arr (show 52 ≠ 50 by decide)) ?_
  refine z_putr dX4_init_17 1 clX4 kd_50 (by decide) (by decide) (by decide) wm_fl_X4_15 rfl rfl rfl rfl rfl (fun _ _ _ _ _ _ _ _ _ hk => hk.2.2.2) (by decide +kernel) rfl rfl ?_
  refine z_mem zm_put ?_
  refine z_aload_n dX4_init_20 rfl rfl ?_
  refine z_bipush (v := 8) dX4_init_21 ib_8 ?_
  refine z_newi (N := 8) dX4_init_23 kd_53 rfl (by decide) (by decide) (by decide) (by decide) ?_
  refine z_mem (zm_arr (show 53 ≠ 50 by decide)) ?_
  refine z_putr dX4_init_25 2 clX4 kd_50 (by decide) (by decide) (by decide) wm_fl_X4_18 rfl rfl rfl rfl rfl (fun _ _ _ _ _ _ _ _ _ hk => hk.2.2.2) (by decide +kernel) rfl rfl ?_
  refine z_mem zm_put ?_
  refine z_aload_n dX4_init_28 rfl rfl ?_
  refine z_bipush (v := 8) dX4_init_29 ib_8 ?_
  refine z_newi (N := 8) dX4_init_31 kd_54 rfl (by decide) (by decide) (by decide) (by decide) ?_
  refine z_mem (zm_arr (show 54 ≠ 50 by decide)) ?_
  refine z_putr dX4_init_33 3 clX4 kd_50 (by decide) (by decide) (by decide) wm_fl_X4_21 rfl rfl rfl rfl rfl (fun _ _ _ _ _ _ _ _ _ hk => hk.2.2.2) (by decide +kernel) rfl rfl ?_
  refine z_mem zm_put ?_
  refine z_aload_n dX4_init_36 rfl rfl ?_
  refine z_bipush (v := 8) dX4_init_37 ib_8 ?_
  refine z_newi (N := 8) dX4_init_39 kd_55 rfl (by decide) (by decide) (by decide) (by decide) ?_
  refine z_mem (zm_arr (show 55 ≠ 50 by decide)) ?_
  refine z_putr dX4_init_41 4 clX4 kd_50 (by decide) (by decide) (by decide) wm_fl_X4_24 rfl rfl rfl rfl rfl (fun _ _ _ _ _ _ _ _ _ hk => hk.2.2.2) (by decide +kernel) rfl rfl ?_
  refine z_mem zm_put ?_
  refine z_aload_n dX4_init_44 rfl rfl ?_
  refine z_bipush (v := 8) dX4_init_45 ib_8 ?_
  refine z_newi (N := 8) dX4_init_47 kd_56 rfl (by decide) (by decide) (by decide) (by decide) ?_
  refine z_mem (zm_arr (show 56 ≠ 50 by decide)) ?_
  refine z_putr dX4_init_49 5 clX4 kd_50 (by decide) (by decide) (by decide) wm_fl_X4_27 rfl rfl rfl rfl rfl (fun _ _ _ _ _ _ _ _ _ hk => hk.2.2.2) (by decide +kernel) rfl rfl ?_
  refine z_mem zm_put ?_
  refine z_aload_n dX4_init_52 rfl rfl ?_
  refine z_bipush (v := 8) dX4_init_53 ib_8 ?_
  refine z_newi (N := 8) dX4_init_55 kd_57 rfl (by decide) (by decide) (by decide) (by decide) ?_
  refine z_mem (zm_arr (show 57 ≠ 50 by decide)) ?_
  refine z_putr dX4_init_57 6 clX4 kd_50 (by decide) (by decide) (by decide) wm_fl_X4_30 rfl rfl rfl rfl rfl (fun _ _ _ _ _ _ _ _ _ hk => hk.2.2.2) (by decide +kernel) rfl rfl ?_
  refine z_mem zm_put ?_
  refine z_aload_n dX4_init_60 rfl rfl ?_
  refine z_iconst (v := 5) dX4_init_61 ic_5 ?_
  refine z_puti dX4_init_62 9 clX4 kd_50 (by decide) (by decide) (by decide) wm_fl_X4_33 rfl rfl rfl rfl (by decide +kernel) rfl rfl ?_
  refine z_mem zm_put ?_
  refine z_aload_n dX4_init_65 rfl rfl ?_
  refine z_getr dX4_init_66 3 clX4 kd_50 (by decide) (by decide) wm_fl_X4_21 rfl rfl rfl ?_
  refine z_bipush (v := -6) dX4_init_69 ib_m6 ?_
  refine z_callS meJ7_fill_53178 (z_fill l G (x := -6) kd_54 (by decide) (by decide)) wm_ml_X4_37 ⟨by decide, by decide⟩ ⟨rfl, rfl⟩ (by decide) (by decide) (by decide) rfl rfl dX4_init_71 ?_
  refine z_mem ?_ (z_ret dX4_init_74)
  funext k
  rcases (show k = 50 ∨ k = 51 ∨ k = 52 ∨ k = 53 ∨ k = 54 ∨ k = 55 ∨ k = 56 ∨ k = 57 ∨ (k ≠ 50 ∧ k ≠ 51 ∧ k ≠ 52 ∧ k ≠ 53 ∧ k ≠ 54 ∧ k ≠ 55 ∧ k ≠ 56 ∧ k ≠ 57) by omega) with rfl | rfl | rfl | rfl | rfl | rfl | rfl | rfl | h
  · rfl
  · rfl
  · rfl
  · rfl
  · rfl
  · rfl
  · rfl
  · rfl
  · simp [tn_50, mset, h]
theorem tn_50_cm (μ : MemT) (r : Nat → Int32) {c : Nat} (h : c < 50 ∨ 58 ≤ c) : tn_50 (mset μ c r) = mset (tn_50 μ) c r := by
  unfold tn_50
  rw [zm_arr (show 51 ≠ c by omega), zm_arr (show 52 ≠ c by omega), zm_arr (show 53 ≠ c by omega), zm_arr (show 54 ≠ c by omega), zm_arr (show 55 ≠ c by omega), zm_arr (show 56 ≠ c by omega), zm_arr (show 57 ≠ c by omega), zm_arr (show 50 ≠ c by omega)]
def pf_0 (μ : MemT) : MemT := mset μ 16 z0
theorem zX0 (l : Launch) (G : GT) (μ : MemT) : zd_Met l G yX0_init cX0_init 1 ({ frames := 1, cells := 0, slots := 0, locals := 12 }) [.ref (G.2.1 16)] 0 0 49 (mset μ 16 z0) 49 (pf_0 μ) := by
  refine zd_Met.ofZ (by decide) (Nat.le_of_ble_eq_true rfl) rfl ?_
  refine z_aload_n dX0_init_0 rfl rfl ?_
  refine z_obj dX0_init_1 wm_ml_X0_1 (by decide) (by decide) ?_
  refine z_mem ?_ (z_ret dX0_init_4)
  rfl
theorem pf_0_cm (μ : MemT) (r : Nat → Int32) : pf_0 (mset μ 0 r) = mset (pf_0 μ) 0 r := by
  unfold pf_0
  rw [zm_arr (show 16 ≠ 0 by decide)]
def pf_2 (μ : MemT) : MemT := mset (mset μ 4 z0) 3 (upd z0 0 1)
theorem zX2 (l : Launch) (G : GT) (μ : MemT) : zd_Met l G yX2_init cX2_init 1 ({ frames := 1, cells := 1, slots := 60, locals := 12 }) [.ref (G.2.1 3)] 1 60 28 (mset μ 3 z0) 29 (pf_2 μ) := by
  refine zd_Met.ofZ (by decide) (Nat.le_of_ble_eq_true rfl) rfl ?_
  refine z_aload_n dX2_init_0 rfl rfl ?_
  refine z_obj dX2_init_1 wm_ml_X2_3 (by decide) (by decide) ?_
  refine z_aload_n dX2_init_4 rfl rfl ?_
  refine z_bipush (v := 60) dX2_init_5 ib_60 ?_
  refine z_newi (N := 60) dX2_init_7 kd_4 rfl (by decide) (by decide) (by decide) (by decide) ?_
  refine z_mem (zm_arr (show 4 ≠ 3 by decide)) ?_
  refine z_putr dX2_init_9 0 clX2 kd_3 (by decide) (by decide) (by decide) wm_fl_X2_9 rfl rfl rfl rfl rfl (fun _ _ _ _ _ _ _ _ _ hk => hk.2.2.2) (by decide +kernel) rfl rfl ?_
  refine z_mem zm_put ?_
  refine z_mem ?_ (z_ret dX2_init_12)
  rfl
theorem pf_2_cm (μ : MemT) (r : Nat → Int32) : pf_2 (mset μ 0 r) = mset (pf_2 μ) 0 r := by
  unfold pf_2
  rw [zm_arr (show 4 ≠ 0 by decide), zm_arr (show 3 ≠ 0 by decide)]
def pf_3 (μ : MemT) : MemT := mset (mset (mset (mset (mset μ 7 z0) 8 z0) 9 z0) 10 z0) 6 (upd (upd (upd (upd z0 0 1) 1 1) 2 1) 3 1)
theorem zX3 (l : Launch) (G : GT) (μ : MemT) : zd_Met l G yX3_init cX3_init 1 ({ frames := 1, cells := 4, slots := 3969, locals := 12 }) [.ref (G.2.1 6)] 4 3969 39 (mset μ 6 z0) 43 (pf_3 μ) := by
  refine zd_Met.ofZ (by decide) (Nat.le_of_ble_eq_true rfl) rfl ?_
  refine z_aload_n dX3_init_0 rfl rfl ?_
  refine z_obj dX3_init_1 wm_ml_X3_3 (by decide) (by decide) ?_
  refine z_aload_n dX3_init_4 rfl rfl ?_
  refine z_sipush (v := 256) dX3_init_5 is_256 ?_
  refine z_newi (N := 256) dX3_init_8 kd_7 rfl (by decide) (by decide) (by decide) (by decide) ?_
  refine z_mem (zm_arr (show 7 ≠ 6 by decide)) ?_
  refine z_putr dX3_init_10 0 clX3 kd_6 (by decide) (by decide) (by decide) wm_fl_X3_9 rfl rfl rfl rfl rfl (fun _ _ _ _ _ _ _ _ _ hk => hk.2.2.2) (by decide +kernel) rfl rfl ?_
  refine z_mem zm_put ?_
  refine z_aload_n dX3_init_13 rfl rfl ?_
  refine z_sipush (v := 256) dX3_init_14 is_256 ?_
  refine z_newi (N := 256) dX3_init_17 kd_8 rfl (by decide) (by decide) (by decide) (by decide) ?_
  refine z_mem (zm_arr (show 8 ≠ 6 by decide)) ?_
  refine z_putr dX3_init_19 1 clX3 kd_6 (by decide) (by decide) (by decide) wm_fl_X3_15 rfl rfl rfl rfl rfl (fun _ _ _ _ _ _ _ _ _ hk => hk.2.2.2) (by decide +kernel) rfl rfl ?_
  refine z_mem zm_put ?_
  refine z_aload_n dX3_init_22 rfl rfl ?_
  refine z_sipush (v := 256) dX3_init_23 is_256 ?_
  refine z_newi (N := 256) dX3_init_26 kd_9 rfl (by decide) (by decide) (by decide) (by decide) ?_
  refine z_mem (zm_arr (show 9 ≠ 6 by decide)) ?_
  refine z_putr dX3_init_28 2 clX3 kd_6 (by decide) (by decide) (by decide) wm_fl_X3_18 rfl rfl rfl rfl rfl (fun _ _ _ _ _ _ _ _ _ hk => hk.2.2.2) (by decide +kernel) rfl rfl ?_
  refine z_mem zm_put ?_
  refine z_aload_n dX3_init_31 rfl rfl ?_
  refine z_sipush (v := 3201) dX3_init_32 is_3201 ?_
  refine z_newb (N := 3201) dX3_init_35 kd_10 rfl (by decide) (by decide) (by decide) (by decide) ?_
  refine z_mem (zm_arr (show 10 ≠ 6 by decide)) ?_
  refine z_putr dX3_init_37 3 clX3 kd_6 (by decide) (by decide) (by decide) wm_fl_X3_21 rfl rfl rfl rfl rfl (fun _ _ _ _ _ _ _ _ _ hk => hk.2.2.2) (by decide +kernel) rfl rfl ?_
  refine z_mem zm_put ?_
  refine z_mem ?_ (z_ret dX3_init_40)
  rfl
theorem pf_3_cm (μ : MemT) (r : Nat → Int32) : pf_3 (mset μ 0 r) = mset (pf_3 μ) 0 r := by
  unfold pf_3
  rw [zm_arr (show 7 ≠ 0 by decide), zm_arr (show 8 ≠ 0 by decide), zm_arr (show 9 ≠ 0 by decide), zm_arr (show 10 ≠ 0 by decide), zm_arr (show 6 ≠ 0 by decide)]
def pf_5 (μ : MemT) : MemT := mset (mset (mset (mset (mset μ 12 z0) 13 z0) 14 z0) 15 z0) 11 (upd (upd (upd (upd z0 0 1) 1 1) 2 1) 3 1)
theorem zX5 (l : Launch) (G : GT) (μ : MemT) : zd_Met l G yX5_init cX5_init 1 ({ frames := 1, cells := 4, slots := 301, locals := 12 }) [.ref (G.2.1 11)] 4 301 44 (mset μ 11 z0) 48 (pf_5 μ) := by
  refine zd_Met.ofZ (by decide) (Nat.le_of_ble_eq_true rfl) rfl ?_
  refine z_aload_n dX5_init_0 rfl rfl ?_
  refine z_obj dX5_init_1 wm_ml_X5_5 (by decide) (by decide) ?_
  refine z_aload_n dX5_init_4 rfl rfl ?_
  refine z_sipush (v := 145) dX5_init_5 is_145 ?_
  refine z_newi (N := 145) dX5_init_8 kd_12 rfl (by decide) (by decide) (by decide) (by decide) ?_
  refine z_mem (zm_arr (show 12 ≠ 11 by decide)) ?_
  refine z_putr dX5_init_10 0 clX5 kd_11 (by decide) (by decide) (by decide) wm_fl_X5_11 rfl rfl rfl rfl rfl (fun _ _ _ _ _ _ _ _ _ hk => hk.2.2.2) (by decide +kernel) rfl rfl ?_
  refine z_mem zm_put ?_
  refine z_aload_n dX5_init_13 rfl rfl ?_
  refine z_sipush (v := 145) dX5_init_14 is_145 ?_
  refine z_newi (N := 145) dX5_init_17 kd_13 rfl (by decide) (by decide) (by decide) (by decide) ?_
  refine z_mem (zm_arr (show 13 ≠ 11 by decide)) ?_
  refine z_putr dX5_init_19 1 clX5 kd_11 (by decide) (by decide) (by decide) wm_fl_X5_15 rfl rfl rfl rfl rfl (fun _ _ _ _ _ _ _ _ _ hk => hk.2.2.2) (by decide +kernel) rfl rfl ?_
  refine z_mem zm_put ?_
  refine z_aload_n dX5_init_22 rfl rfl ?_
  refine z_bipush (v := 8) dX5_init_23 ib_8 ?_
  refine z_newi (N := 8) dX5_init_25 kd_14 rfl (by decide) (by decide) (by decide) (by decide) ?_
  refine z_mem (zm_arr (show 14 ≠ 11 by decide)) ?_
  refine z_putr dX5_init_27 2 clX5 kd_11 (by decide) (by decide) (by decide) wm_fl_X5_18 rfl rfl rfl rfl rfl (fun _ _ _ _ _ _ _ _ _ hk => hk.2.2.2) (by decide +kernel) rfl rfl ?_
  refine z_mem zm_put ?_
  refine z_aload_n dX5_init_30 rfl rfl ?_
  refine z_iconst (v := 3) dX5_init_31 ic_3 ?_
  refine z_newi (N := 3) dX5_init_32 kd_15 rfl (by decide) (by decide) (by decide) (by decide) ?_
  refine z_mem (zm_arr (show 15 ≠ 11 by decide)) ?_
  refine z_putr dX5_init_34 3 clX5 kd_11 (by decide) (by decide) (by decide) wm_fl_X5_21 rfl rfl rfl rfl rfl (fun _ _ _ _ _ _ _ _ _ hk => hk.2.2.2) (by decide +kernel) rfl rfl ?_
  refine z_mem zm_put ?_
  refine z_mem ?_ (z_ret dX5_init_37)
  rfl
theorem pf_5_cm (μ : MemT) (r : Nat → Int32) : pf_5 (mset μ 0 r) = mset (pf_5 μ) 0 r := by
  unfold pf_5
  rw [zm_arr (show 12 ≠ 0 by decide), zm_arr (show 13 ≠ 0 by decide), zm_arr (show 14 ≠ 0 by decide), zm_arr (show 15 ≠ 0 by decide), zm_arr (show 11 ≠ 0 by decide)]
def pf_1 (μ : MemT) : MemT := mset (tn_42 μ) 5 (upd z0 0 1)
theorem zX1 (l : Launch) (G : GT) (μ : MemT) : zd_Met l G yX1_init cX1_init 1 ({ frames := 2, cells := 8, slots := 68, locals := 43 }) [.ref (G.2.1 5)] 8 68 30 (mset μ 5 z0) 38 (pf_1 μ) := by
  refine zd_Met.ofZ (by decide) (Nat.le_of_ble_eq_true rfl) rfl ?_
  refine z_aload_n dX1_init_0 rfl rfl ?_
  refine z_obj dX1_init_1 wm_ml_X1_3 (by decide) (by decide) ?_
  refine z_aload_n dX1_init_4 rfl rfl ?_
  refine z_new dX1_init_5 clX4 kd_42 rfl wm_kl_X1_9 wm_it_X4 wm_ini_X4 (zf_42 G) (by decide) (by decide) ?_
  refine z_dup dX1_init_8 rfl ?_
  refine z_callI (zX4_42 l G _) wm_cd_X4_init wm_ini_X4 wm_ml_X1_11 wm_im_X4_init rfl (by decide +kernel) ⟨by decide, by decide⟩ ⟨rfl, rfl⟩ (by decide) (by decide) (by decide) dX1_init_9 ?_
  refine z_mem (tn_42_cm _ _ (show 5 < 42 ∨ 50 ≤ 5 by decide)) ?_
  refine z_putr dX1_init_12 0 clX1 kd_5 (by decide) (by decide) (by decide) wm_fl_X1_12 rfl rfl rfl rfl rfl (fun _ _ _ _ _ _ _ _ _ hk => hk.2.2.2) (by decide +kernel) rfl rfl ?_
  refine z_mem zm_put ?_
  refine z_mem ?_ (z_ret dX1_init_15)
  rfl
theorem pf_1_cm (μ : MemT) (r : Nat → Int32) : pf_1 (mset μ 0 r) = mset (pf_1 μ) 0 r := by
  unfold pf_1
  rw [tn_42_cm _ _ (show 0 < 42 ∨ 50 ≤ 0 by decide), zm_arr (show 5 ≠ 0 by decide)]
def pf_6 (μ : MemT) : MemT := mset (tn_50 μ) 17 (upd z0 0 1)
theorem zX6 (l : Launch) (G : GT) (μ : MemT) : zd_Met l G yX6_init cX6_init 1 ({ frames := 2, cells := 8, slots := 68, locals := 43 }) [.ref (G.2.1 17)] 8 68 50 (mset μ 17 z0) 58 (pf_6 μ) := by
  refine zd_Met.ofZ (by decide) (Nat.le_of_ble_eq_true rfl) rfl ?_
  refine z_aload_n dX6_init_0 rfl rfl ?_
  refine z_obj dX6_init_1 wm_ml_X6_1 (by decide) (by decide) ?_
  refine z_aload_n dX6_init_4 rfl rfl ?_
  refine z_new dX6_init_5 clX4 kd_50 rfl wm_kl_X6_7 wm_it_X4 wm_ini_X4 (zf_50 G) (by decide) (by decide) ?_
  refine z_dup dX6_init_8 rfl ?_
  refine z_callI (zX4_50 l G _) wm_cd_X4_init wm_ini_X4 wm_ml_X6_9 wm_im_X4_init rfl (by decide +kernel) ⟨by decide, by decide⟩ ⟨rfl, rfl⟩ (by decide) (by decide) (by decide) dX6_init_9 ?_
  refine z_mem (tn_50_cm _ _ (show 17 < 50 ∨ 58 ≤ 17 by decide)) ?_
  refine z_putr dX6_init_12 0 clX6 kd_17 (by decide) (by decide) (by decide) wm_fl_X6_10 rfl rfl rfl rfl rfl (fun _ _ _ _ _ _ _ _ _ hk => hk.2.2.2) (by decide +kernel) rfl rfl ?_
  refine z_mem zm_put ?_
  refine z_mem ?_ (z_ret dX6_init_15)
  rfl
theorem pf_6_cm (μ : MemT) (r : Nat → Int32) : pf_6 (mset μ 0 r) = mset (pf_6 μ) 0 r := by
  unfold pf_6
  rw [tn_50_cm _ _ (show 0 < 50 ∨ 58 ≤ 0 by decide), zm_arr (show 17 ≠ 0 by decide)]
def rMd : Nat → Int32 := (upd (upd (upd (upd (upd (upd (upd (upd (upd (upd (upd (upd (upd (upd (upd (upd (upd (upd (upd (upd (upd z0 4 1) 5 1) 6 1) 7 1) 8 1) 9 1) 10 1) 12 1) 14 1) 15 1) 16 1) 17 1) 23 1) 28 1) 29 1) 33 1) 34 1) 35 1) 37 1) 38 1) 2 5)
def mdM (μ : MemT) : MemT := mset (mset (mset (mset (mset (mset (mset (mset (mset (mset (mset (mset (mset (mset (mset (mset (mset (mset (mset (mset (mset μ 59 z0) 60 z0) 61 z0) 62 (filF 8 (-6) z0)) 63 z0) 64 z0) 65 z0) 66 z0) 67 z0) 68 z0) 69 z0) 70 z0) 71 z0) 72 z0) 73 z0) 74 z0) 75 z0) 76 z0) 77 z0) 78 z0) 58 rMd
theorem zX8 (l : Launch) (G : GT) (μ : MemT) : zd_Met l G yX8_init cX8_init 2 ({ frames := 1, cells := 20, slots := 4033, locals := 12 }) [.ref (G.2.1 58)] 20 4033 59 (mset μ 58 z0) 79 (mdM μ) := by
  refine zd_Met.ofZ (by decide) (Nat.le_of_ble_eq_true rfl) rfl ?_
  refine z_aload_n dX8_init_0 rfl rfl ?_
  refine z_obj dX8_init_1 wm_ml_X8_1 (by decide) (by decide) ?_
  refine z_aload_n dX8_init_4 rfl rfl ?_
  refine z_bipush (v := 8) dX8_init_5 ib_8 ?_
  refine z_newi (N := 8) dX8_init_7 kd_59 rfl (by decide) (by decide) (by decide) (by decide) ?_
  refine z_mem (zm_arr (show 59 ≠ 58 by decide)) ?_
  refine z_putr dX8_init_9 4 clX8 kd_58 (by decide) (by decide) (by decide) wm_fl_X8_7 rfl rfl rfl rfl rfl (fun _ _ _ _ _ _ _ _ _ hk => hk.2.2.2) (by decide +kernel) rfl rfl ?_
  refine z_mem zm_put ?_
  refine z_aload_n dX8_init_12 rfl rfl ?_
  refine z_bipush (v := 8) dX8_init_13 ib_8 ?_
  refine z_newi (N := 8) dX8_init_15 kd_60 rfl (by decide) (by decide) (by decide) (by decide) ?_
  refine z_mem (zm_arr (show 60 ≠ 58 by decide)) ?_
  refine z_putr dX8_init_17 5 clX8 kd_58 (by decide) (by decide) (by decide) wm_fl_X8_13 rfl rfl rfl rfl rfl (fun _ _ _ _ _ _ _ _ _ hk => hk.2.2.2) (by decide +kernel) rfl rfl ?_
  refine z_mem zm_put ?_
  refine z_aload_n dX8_init_20 rfl rfl ?_
  refine z_bipush (v := 8) dX8_init_21 ib_8 ?_
  refine z_newi (N := 8) dX8_init_23 kd_61 rfl (by decide) (by decide) (by decide) (by decide) ?_
  refine z_mem (zm_arr (show 61 ≠ 58 by decide)) ?_
  refine z_putr dX8_init_25 6 clX8 kd_58 (by decide) (by decide) (by decide) wm_fl_X8_16 rfl rfl rfl rfl rfl (fun _ _ _ _ _ _ _ _ _ hk => hk.2.2.2) (by decide +kernel) rfl rfl ?_
  refine z_mem zm_put ?_
  refine z_aload_n dX8_init_28 rfl rfl ?_
  refine z_bipush (v := 8) dX8_init_29 ib_8 ?_
  refine z_newi (N := 8) dX8_init_31 kd_62 rfl (by decide) (by decide) (by decide) (by decide) ?_
  refine z_mem (zm_arr (show 62 ≠ 58 by decide)) ?_
  refine z_putr dX8_init_33 7 clX8 kd_58 (by decide) (by decide) (by decide) wm_fl_X8_19 rfl rfl rfl rfl rfl (fun _ _ _ _ _ _ _ _ _ hk => hk.2.2.2) (by decide +kernel) rfl rfl ?_
  refine z_mem zm_put ?_
  refine z_aload_n dX8_init_36 rfl rfl ?_
  refine z_bipush (v := 8) dX8_init_37 ib_8 ?_
  refine z_newi (N := 8) dX8_init_39 kd_63 rfl (by decide) (by decide) (by decide) (by decide) ?_
  refine z_mem (zm_arr (show 63 ≠ 58 by decide)) ?_
  refine z_putr dX8_init_41 8 clX8 kd_58 (by decide) (by decide) (by decide) wm_fl_X8_22 rfl rfl rfl rfl rfl (fun _ _ _ _ _ _ _ _ _ hk => hk.2.2.2) (by decide +kernel) rfl rfl ?_
  refine z_mem zm_put ?_
  refine z_aload_n dX8_init_44 rfl rfl ?_
  refine z_bipush (v := 8) dX8_init_45 ib_8 ?_
  refine z_newi (N := 8) dX8_init_47 kd_64 rfl (by decide) (by decide) (by decide) (by decide) ?_
  refine z_mem (zm_arr (show 64 ≠ 58 by decide)) ?_
  refine z_putr dX8_init_49 9 clX8 kd_58 (by decide) (by decide) (by decide) wm_fl_X8_25 rfl rfl rfl rfl rfl (fun _ _ _ _ _ _ _ _ _ hk => hk.2.2.2) (by decide +kernel) rfl rfl ?_
  refine z_mem zm_put ?_
  refine z_aload_n dX8_init_52 rfl rfl ?_
  refine z_bipush (v := 8) dX8_init_53 ib_8 ?_
  refine z_newi (N := 8) dX8_init_55 kd_65 rfl (by decide) (by decide) (by decide) (by decide) ?_
  refine z_mem (zm_arr (show 65 ≠ 58 by decide)) ?_
  refine z_putr dX8_init_57 10 clX8 kd_58 (by decide) (by decide) (by decide) wm_fl_X8_28 rfl rfl rfl rfl rfl (fun _ _ _ _ _ _ _ _ _ hk => hk.2.2.2) (by decide +kernel) rfl rfl ?_
  refine z_mem zm_put ?_
  refine z_aload_n dX8_init_60 rfl rfl ?_
  refine z_bipush (v := 60) dX8_init_61 ib_60 ?_
  refine z_newi (N := 60) dX8_init_63 kd_66 rfl (by decide) (by decide) (by decide) (by decide) ?_
  refine z_mem (zm_arr (show 66 ≠ 58 by decide)) ?_
  refine z_putr dX8_init_65 12 clX8 kd_58 (by decide) (by decide) (by decide) wm_fl_X8_31 rfl rfl rfl rfl rfl (fun _ _ _ _ _ _ _ _ _ hk => hk.2.2.2) (by decide +kernel) rfl rfl ?_
  refine z_mem zm_put ?_
  refine z_aload_n dX8_init_68 rfl rfl ?_
  refine z_bipush (v := 60) dX8_init_69 ib_60 ?_
  refine z_newi (N := 60) dX8_init_71 kd_67 rfl (by decide) (by decide) (by decide) (by decide) ?_
  refine z_mem (zm_arr (show 67 ≠ 58 by decide)) ?_
  refine z_putr dX8_init_73 14 clX8 kd_58 (by decide) (by decide) (by decide) wm_fl_X8_34 rfl rfl rfl rfl rfl (fun _ _ _ _ _ _ _ _ _ hk => hk.2.2.2) (by decide +kernel) rfl rfl ?_
  refine z_mem zm_put ?_
  refine z_aload_n dX8_init_76 rfl rfl ?_
  refine z_bipush (v := 60) dX8_init_77 ib_60 ?_
  refine z_newi (N := 60) dX8_init_79 kd_68 rfl (by decide) (by decide) (by decide) (by decide) ?_
  refine z_mem (zm_arr (show 68 ≠ 58 by decide)) ?_
  refine z_putr dX8_init_81 15 clX8 kd_58 (by decide) (by decide) (by decide) wm_fl_X8_37 rfl rfl rfl rfl rfl (fun _ _ _ _ _ _ _ _ _ hk => hk.2.2.2) (by decide +kernel) rfl rfl ?_
  refine z_mem zm_put ?_
  refine z_aload_n dX8_init_84 rfl rfl ?_
  refine z_bipush (v := 60) dX8_init_85 ib_60 ?_
  refine z_newi (N := 60) dX8_init_87 kd_69 rfl (by decide) (by decide) (by decide) (by decide) ?_
  refine z_mem (zm_arr (show 69 ≠ 58 by decide)) ?_
  refine z_putr dX8_init_89 16 clX8 kd_58 (by decide) (by decide) (by decide) wm_fl_X8_40 rfl rfl rfl rfl rfl (fun _ _ _ _ _ _ _ _ _ hk => hk.2.2.2) (by decide +kernel) rfl rfl ?_
  refine z_mem zm_put ?_
  refine z_aload_n dX8_init_92 rfl rfl ?_
  refine z_bipush (v := 60) dX8_init_93 ib_60 ?_
  refine z_newi (N := 60) dX8_init_95 kd_70 rfl (by decide) (by decide) (by decide) (by decide) ?_
  refine z_mem (zm_arr (show 70 ≠ 58 by decide)) ?_
  refine z_putr dX8_init_97 17 clX8 kd_58 (by decide) (by decide) (by decide) wm_fl_X8_43 rfl rfl rfl rfl rfl (fun _ _ _ _ _ _ _ _ _ hk => hk.2.2.2) (by decide +kernel) rfl rfl ?_
  refine z_mem zm_put ?_
  refine z_aload_n dX8_init_100 rfl rfl ?_
  refine z_bipush (v := 8) dX8_init_101 ib_8 ?_
  refine z_newi (N := 8) dX8_init_103 kd_71 rfl (by decide) (by decide) (by decide) (by decide) ?_
  refine z_mem (zm_arr (show 71 ≠ 58 by decide)) ?_
  refine z_putr dX8_init_105 23 clX8 kd_58 (by decide) (by decide) (by decide) wm_fl_X8_46 rfl rfl rfl rfl rfl (fun _ _ _ _ _ _ _ _ _ hk => hk.2.2.2) (by decide +kernel) rfl rfl ?_
  refine z_mem zm_put ?_
  refine z_aload_n dX8_init_108 rfl rfl ?_
  refine z_bipush (v := 8) dX8_init_109 ib_8 ?_
  refine z_newi (N := 8) dX8_init_111 kd_72 rfl (by decide) (by decide) (by decide) (by decide) ?_
  refine z_mem (zm_arr (show 72 ≠ 58 by decide)) ?_
  refine z_putr dX8_init_113 28 clX8 kd_58 (by decide) (by decide) (by decide) wm_fl_X8_49 rfl rfl rfl rfl rfl (fun _ _ _ _ _ _ _ _ _ hk => hk.2.2.2) (by decide +kernel) rfl rfl ?_
  refine z_mem zm_put ?_
  refine z_aload_n dX8_init_116 rfl rfl ?_
  refine z_bipush (v := 8) dX8_init_117 ib_8 ?_
  refine z_newi (N := 8) dX8_init_119 kd_73 rfl (by decide) (by decide) (by decide) (by decide) ?_
  refine z_mem (zm_arr (show 73 ≠ 58 by decide)) ?_
  refine z_putr dX8_init_121 29 clX8 kd_58 (by decide) (by decide) (by decide) wm_fl_X8_52 rfl rfl rfl rfl rfl (fun _ _ _ _ _ _ _ _ _ hk => hk.2.2.2) (by decide +kernel) rfl rfl ?_
  refine z_mem zm_put ?_
  refine z_aload_n dX8_init_124 rfl rfl ?_
  refine z_sipush (v := 3201) dX8_init_125 is_3201 ?_
  refine z_newz (N := 3201) dX8_init_128 kd_74 rfl (by decide) (by decide) (by decide) (by decide) ?_
  refine z_mem (zm_arr (show 74 ≠ 58 by decide)) ?_
  refine z_putr dX8_init_130 33 clX8 kd_58 (by decide) (by decide) (by decide) wm_fl_X8_55 rfl rfl rfl rfl rfl (fun _ _ _ _ _ _ _ _ _ hk => hk.2.2.2) (by decide +kernel) rfl rfl ?_
  refine z_mem zm_put ?_
  refine z_aload_n dX8_init_133 rfl rfl ?_
  refine z_sipush (v := 145) dX8_init_134 is_145 ?_
  refine z_newi (N := 145) dX8_init_137 kd_75 rfl (by decide) (by decide) (by decide) (by decide) ?_
  refine z_mem (zm_arr (show 75 ≠ 58 by decide)) ?_
  refine z_putr dX8_init_139 34 clX8 kd_58 (by decide) (by decide) (by decide) wm_fl_X8_59 rfl rfl rfl rfl rfl (fun _ _ _ _ _ _ _ _ _ hk => hk.2.2.2) (by decide +kernel) rfl rfl ?_
  refine z_mem zm_put ?_
  refine z_aload_n dX8_init_142 rfl rfl ?_
  refine z_sipush (v := 145) dX8_init_143 is_145 ?_
  refine z_newi (N := 145) dX8_init_146 kd_76 rfl (by decide) (by decide) (by decide) (by decide) ?_
  refine z_mem (zm_arr (show 76 ≠ 58 by decide)) ?_
  refine z_putr dX8_init_148 35 clX8 kd_58 (by decide) (by decide) (by decide) wm_fl_X8_62 rfl rfl rfl rfl rfl (fun _ _ _ _ _ _ _ _ _ hk => hk.2.2.2) (by decide +kernel) rfl rfl ?_
  refine z_mem zm_put ?_
  refine z_aload_n dX8_init_151 rfl rfl ?_
  refine z_sipush (v := 160) dX8_init_152 is_160 ?_
  refine z_newi (N := 160) dX8_init_155 kd_77 rfl (by decide) (by decide) (by decide) (by decide) ?_
  refine z_mem (zm_arr (show 77 ≠ 58 by decide)) ?_
  refine z_putr dX8_init_157 37 clX8 kd_58 (by decide) (by decide) (by decide) wm_fl_X8_65 rfl rfl rfl rfl rfl (fun _ _ _ _ _ _ _ _ _ hk => hk.2.2.2) (by decide +kernel) rfl rfl ?_
  refine z_mem zm_put ?_
  refine z_aload_n dX8_init_160 rfl rfl ?_
  refine z_iconst (v := 2) dX8_init_161 ic_2 ?_
  refine z_newz (N := 2) dX8_init_162 kd_78 rfl (by decide) (by decide) (by decide) (by decide) ?_
  refine z_mem (zm_arr (show 78 ≠ 58 by decide)) ?_
  refine z_putr dX8_init_164 38 clX8 kd_58 (by decide) (by decide) (by decide) wm_fl_X8_68 rfl rfl rfl rfl rfl (fun _ _ _ _ _ _ _ _ _ hk => hk.2.2.2) (by decide +kernel) rfl rfl ?_
  refine z_mem zm_put ?_
  refine z_aload_n dX8_init_167 rfl rfl ?_
  refine z_iconst (v := 5) dX8_init_168 ic_5 ?_
  refine z_puti dX8_init_169 2 clX8 kd_58 (by decide) (by decide) (by decide) wm_fl_X8_71 rfl rfl rfl rfl (by decide +kernel) rfl rfl ?_
  refine z_mem zm_put ?_
  refine z_iconst dX8_init_172 icn_0 ?_
  refine z_mem (μ2 := mset (mset (mset (mset (mset (mset (mset (mset (mset (mset (mset (mset (mset (mset (mset (mset (mset (mset (mset (mset (mset μ 59 z0) 60 z0) 61 z0) 62 z0) 63 z0) 64 z0) 65 z0) 66 z0) 67 z0) 68 z0) 69 z0) 70 z0) 71 z0) 72 z0) 73 z0) 74 z0) 75 z0) 76 z0) 77 z0) 78 z0) 58 rMd) rfl ?_
  have hpost : mdM μ = mset (mset (mset (mset (mset (mset (mset (mset (mset (mset (mset (mset (mset (mset (mset (mset (mset (mset (mset (mset (mset (mset μ 59 z0) 60 z0) 61 z0) 62 z0) 63 z0) 64 z0) 65 z0) 66 z0) 67 z0) 68 z0) 69 z0) 70 z0) 71 z0) 72 z0) 73 z0) 74 z0) 75 z0) 76 z0) 77 z0) 78 z0) 58 rMd) 62 (filF 8 (-6) z0) := by
    funext k
    rcases (show k = 58 ∨ k = 59 ∨ k = 60 ∨ k = 61 ∨ k = 62 ∨ k = 63 ∨ k = 64 ∨ k = 65 ∨ k = 66 ∨ k = 67 ∨ k = 68 ∨ k = 69 ∨ k = 70 ∨ k = 71 ∨ k = 72 ∨ k = 73 ∨ k = 74 ∨ k = 75 ∨ k = 76 ∨ k = 77 ∨ k = 78 ∨ (k ≠ 58 ∧ k ≠ 59 ∧ k ≠ 60 ∧ k ≠ 61 ∧ k ≠ 62 ∧ k ≠ 63 ∧ k ≠ 64 ∧ k ≠ 65 ∧ k ≠ 66 ∧ k ≠ 67 ∧ k ≠ 68 ∧ k ≠ 69 ∧ k ≠ 70 ∧ k ≠ 71 ∧ k ≠ 72 ∧ k ≠ 73 ∧ k ≠ 74 ∧ k ≠ 75 ∧ k ≠ 76 ∧ k ≠ 77 ∧ k ≠ 78) by omega) with rfl | rfl | rfl | rfl | rfl | rfl | rfl | rfl | rfl | rfl | rfl | rfl | rfl | rfl | rfl | rfl | rfl | rfl | rfl | rfl | rfl | h
    · rfl
    · rfl
    · rfl
    · rfl
    · rfl
    · rfl
    · rfl
    · rfl
    · rfl
    · rfl
    · rfl
    · rfl
    · rfl
    · rfl
    · rfl
    · rfl
    · rfl
    · rfl
    · rfl
    · rfl
    · rfl
    · simp [mdM, mset, h]
  rw [hpost]
  refine z_istore_n dX8_init_173 rfl rfl (by decide) ?_
  refine z_mem (μ2 := mset (mset (mset (mset (mset (mset (mset (mset (mset (mset (mset (mset (mset (mset (mset (mset (mset (mset (mset (mset (mset (mset μ 59 z0) 60 z0) 61 z0) 62 z0) 63 z0) 64 z0) 65 z0) 66 z0) 67 z0) 68 z0) 69 z0) 70 z0) 71 z0) 72 z0) 73 z0) 74 z0) 75 z0) 76 z0) 77 z0) 78 z0) 58 rMd) 62 (itr (fun j f => upd f j (-6)) 0 0 z0)) ?_ ?_
  · funext k
    by_cases h : k = 62
    · subst h; rfl
    · rw [mset_ne _ _ h]; rfl
  generalize (mset (mset (mset (mset (mset (mset (mset (mset (mset (mset (mset (mset (mset (mset (mset (mset (mset (mset (mset (mset μ 59 z0) 60 z0) 61 z0) 62 z0) 63 z0) 64 z0) 65 z0) 66 z0) 67 z0) 68 z0) 69 z0) 70 z0) 71 z0) 72 z0) 73 z0) 74 z0) 75 z0) 76 z0) 77 z0) 78 z0) = ν
  have key : ∀ (r j : Nat), j + r = 8 → Zj l G ({ frames := 1, cells := 20, slots := 4033, locals := 12 }) (zd_κ G yX8_init.name 20 4033 79 (mset (mset ν 58 rMd) 62 (filF 8 (-6) z0))) cX8_init 2 yX8_init.cls 20 4033 79 (mset (mset ν 58 rMd) 62 (itr (fun j f => upd f j (-6)) j 0 z0)) 174 [some (.ref (G.2.1 58)), some (.int (nI j))] [] := by
    intro r
    induction r with
    | zero =>
      intro j hj
      have : j = 8 := by omega
      subst this
      refine z_iload_n dX8_init_174 rfl rfl ?_
      refine z_bipush dX8_init_175 ibn_8 ?_
      refine z_icmp_ge 194 dX8_init_177 rfl (fun _ => ?_) (fun q => absurd (Int32.le_refl _) q)
      exact z_ret dX8_init_194
    | succ r ih =>
      intro j hj
      refine z_iload_n dX8_init_174 rfl rfl ?_
      refine z_bipush dX8_init_175 ibn_8 ?_
      refine z_icmp_ge 194 dX8_init_177 rfl (fun q => absurd q (nI_ge (b := 8) (by omega) (by decide))) (fun _ => ?_)
      refine z_aload_n dX8_init_180 rfl rfl ?_
      refine z_getr dX8_init_181 7 clX8 kd_58 (by decide) (by decide) wm_fl_X8_19 rfl rfl rfl ?_
      refine z_iload_n dX8_init_184 rfl rfl ?_
      refine z_bipush dX8_init_185 ib_m6 ?_
      refine z_iast dX8_init_187 j kd_62 (by decide) (by decide) rfl (by omega) (by decide) ?_
      refine z_iinc dX8_init_188 rfl (nI_i1 j) rfl (by decide) ?_
      refine z_goto 174 dX8_init_191 rfl ?_
      refine z_mem ?_ (ih (j + 1) (by omega))
      rw [mset_mset, mset_self, itr_lt, Nat.zero_add]
  exact key 8 0 rfl
def swM (μ : MemT) : MemT := mset (pf_6 (pf_0 (pf_5 (pf_3 (pf_1 (pf_2 (mset (mset (tn_34 (tn_26 (tn_18 μ))) 1 (upd (upd z0 0 1) 1 1)) 2 z0))))))) 0 (upd (upd (upd (upd (upd (upd (upd (upd (upd z0 0 1) 1 1) 2 1) 3 1) 4 1) 5 1) 6 1) 7 1) 8 1)
def zd_κ7 (G : GT) (nm : String) (mc ms n2 : Nat) (μ2 : MemT) : KZ := fun _ _ s _ args below meth _ Q => meth.sig.returnType = none ∧ meth.locks = false ∧ Q = MQ below (zd_Q G n2 μ2) args s mc ms (zd_A G) ∧ meth.name = nm ∧ va_AO RX4 s
def zd_Pc7 (G : GT) (av : List Value) (n : Nat) (μ : MemT) : Array Value → State → Prop := va_Pc av (fun U => zd_P G n μ U.heap ∧ sw_K G U ∧ va_AO RX4 U)
theorem zd_blind7 {G : GT} {av : List Value} {n : Nat} {μ : MemT} : FrameBlind (zd_Pc7 G av n μ) := fun a U g mk q => ⟨q.1, q.2.1, sw_K.same (s := U) (U := U.calling g mk a) rfl q.2.2.1, va_AO.moved (u := U) (U := U.calling g mk a) (Vm.Alike.refl U.vm) q.2.2.2⟩
def zd_Met7 (l : Launch) (G : GT) (y : MethodName) (bytes : ByteArray) (maxL : Nat) (rm : Room) (av : List Value) (mc ms n : Nat) (μ : MemT) (n2 : Nat) (μ2 : MemT) : Prop :=
  zd_ad G → Met l y (.code y bytes maxL none :: wL) rm (zd_Pc7 G av n μ) (zd_Q G n2 μ2) mc ms (zd_A G)
theorem zd_Met7.ofZ {l : Launch} {G : GT} {y : MethodName} {bytes : ByteArray} {maxL : Nat} {rm : Room} {av : List Value} {mc ms n n2 : Nat} {μ μ2 : MemT} {lv0 : List (Option Value)} (hy : plainName y.cls = true) (hlen : (lg_sl av).length ≤ maxL) (hlv : l_ent av maxL = lv0) (h : Zj l G rm (zd_κ7 G y.name mc ms n2 μ2) bytes maxL y.cls 0 0 n μ 0 lv0 []) : zd_Met7 l G y bytes maxL rm av mc ms n μ n2 μ2 := by
  intro hG
  subst hlv
  refine Met.ofW (cc := bytes) (maxL := maxL) (ret := none) hy rfl ?_
  intro p e s m args below meth c s₁ B hml hv
  obtain ⟨rfl, hP, hK, hA⟩ := hv
  have hts := atoms_spec (ws := Cond.code y bytes maxL none :: wL) B.pre
  rw [lg_entry_eq]
  exact h p e s m av.toArray below meth c _ ⟨B.returns, B.notSynchronized, rfl, (name_of_methodNamed B.named B.method).1, hA⟩ ⟨B.exec, B.bytes, hml, findClass_of_methodNamed B.named, fun w hw => hts w (List.mem_cons_of_mem _ hw), hK, hG⟩ s.heap [] _ hP va_S.rf (sw_L_ent (lv_entry av hlen))
theorem z_ret7 {l : Launch} {G : GT} {R : Room} {cc : ByteArray} {nl : Nat} {own nm : String} {cs sl n : Nat} {μ : MemT} {pc : Nat} {lv : List (Option Value)} (d : decode cc pc = .ok (.return_, 1)) : Zj l G R (zd_κ7 G nm cs sl n μ) cc nl own cs sl n μ pc lv [] := by
  intro p e s m args below meth c Q hk F H locs ls hP hS hl
  obtain ⟨hr, hlk, rfl, -⟩ := hk
  exact W.vret (hexec := F.1) (hb := F.2.1) (hr := hr) (hq := fun t ht hW => ⟨⟨rfl, by rw [ht]; exact hP, F.2.2.2.2.2.1.warm hW⟩, hS.F ht⟩) (hf := hS.2.2) (hdg := d) (hlocks := hlk)
theorem zX7 (l : Launch) (G : GT) (μ : MemT) : zd_Met7 l G yX7_init cX7_init 2 ({ frames := 3, cells := 57, slots := 4712, locals := 63 }) [.ref (G.2.1 0)] 57 4712 1 (mset μ 0 z0) 58 (swM μ) := by
  refine zd_Met7.ofZ (by decide) (Nat.le_of_ble_eq_true rfl) rfl ?_
  refine z_aload_n dX7_init_0 rfl rfl ?_
  refine z_obj dX7_init_1 wm_ml_X7_1 (by decide) (by decide) ?_
  refine z_aload_n dX7_init_4 rfl rfl ?_
  refine z_new dX7_init_5 clX4 kd_18 rfl wm_kl_X7_7 wm_it_X4 wm_ini_X4 (zf_18 G) (by decide) (by decide) ?_
  refine z_dup dX7_init_8 rfl ?_
  refine z_callI (zX4_18 l G _) wm_cd_X4_init wm_ini_X4 wm_ml_X7_9 wm_im_X4_init rfl (by decide +kernel) ⟨by decide, by decide⟩ ⟨rfl, rfl⟩ (by decide) (by decide) (by decide) dX7_init_9 ?_
  refine z_mem (tn_18_cm _ _ (show 0 < 18 ∨ 26 ≤ 0 by decide)) ?_
  refine z_putr dX7_init_12 0 clX7 kd_0 (by decide) (by decide) (by decide) wm_fl_X7_10 rfl rfl rfl rfl rfl (fun _ _ _ _ _ _ _ _ _ hk => hk.2.2.2.1) (by decide +kernel) rfl rfl ?_
  refine z_mem zm_put ?_
  refine z_aload_n dX7_init_15 rfl rfl ?_
  refine z_iconst (v := 2) dX7_init_16 ic_2 ?_
  refine z_anew (fun _ _ _ _ _ _ _ _ _ hk => hk.2.2.2.2) dX7_init_17 wm_kl_X7_7 rfl (by decide) (by decide) ?_
  refine z_mem (zm_arr (show 1 ≠ 0 by decide)) ?_
  refine z_putr dX7_init_20 1 clX7 kd_0 (by decide) (by decide) (by decide) wm_fl_X7_16 rfl rfl rfl rfl rfl (fun _ _ _ _ _ _ _ _ _ hk => hk.2.2.2.1) (by decide +kernel) rfl rfl ?_
  refine z_mem zm_put ?_
  refine z_iconst (v := 0) dX7_init_23 ic_0 ?_
  refine z_istore_n dX7_init_24 rfl rfl (by decide) ?_
  refine z_iload_n dX7_init_25 rfl rfl ?_
  refine z_iconst (v := 2) dX7_init_26 ic_2 ?_
  refine z_icmp_ge 49 dX7_init_27 rfl (fun q => absurd q (by decide)) (fun _ => ?_)
  refine z_aload_n dX7_init_30 rfl rfl ?_
  refine z_getr dX7_init_31 1 clX7 kd_0 (by decide) (by decide) wm_fl_X7_16 rfl rfl rfl ?_
  refine z_iload_n dX7_init_34 rfl rfl ?_
  refine z_new dX7_init_35 clX4 kd_26 rfl wm_kl_X7_7 wm_it_X4 wm_ini_X4 (zf_26 G) (by decide) (by decide) ?_
  refine z_dup dX7_init_38 rfl ?_
  refine z_callI (zX4_26 l G _) wm_cd_X4_init wm_ini_X4 wm_ml_X7_9 wm_im_X4_init rfl (by decide +kernel) ⟨by decide, by decide⟩ ⟨rfl, rfl⟩ (by decide) (by decide) (by decide) dX7_init_39 ?_
  refine z_mem (tn_26_cm _ _ (show 0 < 26 ∨ 34 ≤ 0 by decide)) ?_
  refine z_aast dX7_init_42 0 rfl (by decide) rfl (by decide) (by decide) (by decide) ?_
  refine z_mem (zm_arr (show 1 ≠ 0 by decide)) ?_
  refine z_iinc (v := 1) dX7_init_43 rfl (by decide) rfl (by decide) ?_
  refine z_goto 25 dX7_init_46 rfl ?_
  refine z_iload_n dX7_init_25 rfl rfl ?_
  refine z_iconst (v := 2) dX7_init_26 ic_2 ?_
  refine z_icmp_ge 49 dX7_init_27 rfl (fun q => absurd q (by decide)) (fun _ => ?_)
  refine z_aload_n dX7_init_30 rfl rfl ?_
  refine z_getr dX7_init_31 1 clX7 kd_0 (by decide) (by decide) wm_fl_X7_16 rfl rfl rfl ?_
  refine z_iload_n dX7_init_34 rfl rfl ?_
  refine z_new dX7_init_35 clX4 kd_34 rfl wm_kl_X7_7 wm_it_X4 wm_ini_X4 (zf_34 G) (by decide) (by decide) ?_
  refine z_dup dX7_init_38 rfl ?_
  refine z_callI (zX4_34 l G _) wm_cd_X4_init wm_ini_X4 wm_ml_X7_9 wm_im_X4_init rfl (by decide +kernel) ⟨by decide, by decide⟩ ⟨rfl, rfl⟩ (by decide) (by decide) (by decide) dX7_init_39 ?_
  refine z_mem (tn_34_cm _ _ (show 0 < 34 ∨ 42 ≤ 0 by decide)) ?_
  refine z_aast dX7_init_42 1 rfl (by decide) rfl (by decide) (by decide) (by decide) ?_
  refine z_mem (zm_arr (show 1 ≠ 0 by decide)) ?_
  refine z_iinc (v := 2) dX7_init_43 rfl (by decide) rfl (by decide) ?_
  refine z_goto 25 dX7_init_46 rfl ?_
  refine z_iload_n dX7_init_25 rfl rfl ?_
  refine z_iconst (v := 2) dX7_init_26 ic_2 ?_
  refine z_icmp_ge 49 dX7_init_27 rfl (fun _ => ?_) (fun q => absurd (by decide) q)
  have eI : mset (tn_34 (mset (tn_26 (mset (tn_18 μ) 1 (fun _ => 0))) 1 (upd (mset (tn_26 (mset (tn_18 μ) 1 (fun _ => 0))) 0 (upd (upd z0 0 1) 1 1) 1) 0 1))) 1 (upd (mset (tn_34 (mset (tn_26 (mset (tn_18 μ) 1 (fun _ => 0))) 1 (upd (mset (tn_26 (mset (tn_18 μ) 1 (fun _ => 0))) 0 (upd (upd z0 0 1) 1 1) 1) 0 1))) 0 (upd (upd z0 0 1) 1 1) 1) 1 1) = mset (tn_34 (tn_26 (tn_18 μ))) 1 (upd (upd z0 0 1) 1 1) := by
    rw [tn_26_cm _ _ (show 1 < 26 ∨ 34 ≤ 1 by decide), mset_mset, tn_34_cm _ _ (show 1 < 34 ∨ 42 ≤ 1 by decide), mset_mset]
    rfl
  rw [eI]
  refine z_aload_n dX7_init_49 rfl rfl ?_
  refine z_iconst (v := 2) dX7_init_50 ic_2 ?_
  refine z_newz (N := 2) dX7_init_51 kd_2 rfl (by decide) (by decide) (by decide) (by decide) ?_
  refine z_mem (zm_arr (show 2 ≠ 0 by decide)) ?_
  refine z_putr dX7_init_53 2 clX7 kd_0 (by decide) (by decide) (by decide) wm_fl_X7_20 rfl rfl rfl rfl rfl (fun _ _ _ _ _ _ _ _ _ hk => hk.2.2.2.1) (by decide +kernel) rfl rfl ?_
  refine z_mem zm_put ?_
  refine z_aload_n dX7_init_56 rfl rfl ?_
  refine z_new dX7_init_57 clX2 kd_3 rfl wm_kl_X7_24 wm_it_X2 wm_ini_X2 (zf_3 G) (by decide) (by decide) ?_
  refine z_dup dX7_init_60 rfl ?_
  refine z_callIN (zX2 l G _) wm_cd_X2_init wm_ini_X2 wn_X7_26 wm_im_X2_init rfl (by decide +kernel) ⟨by decide, by decide⟩ ⟨rfl, rfl⟩ (by decide) (by decide) (by decide) dX7_init_61 ?_
  refine z_mem (pf_2_cm _ _) ?_
  refine z_putr dX7_init_64 3 clX7 kd_0 (by decide) (by decide) (by decide) wm_fl_X7_27 rfl rfl rfl rfl rfl (fun _ _ _ _ _ _ _ _ _ hk => hk.2.2.2.1) (by decide +kernel) rfl rfl ?_
  refine z_mem zm_put ?_
  refine z_aload_n dX7_init_67 rfl rfl ?_
  refine z_new dX7_init_68 clX1 kd_5 rfl wm_kl_X7_31 wm_it_X1 wm_ini_X1 (zf_5 G) (by decide) (by decide) ?_
  refine z_dup dX7_init_71 rfl ?_
  refine z_callIN (zX1 l G _) wm_cd_X1_init wm_ini_X1 wn_X7_33 wm_im_X1_init rfl (by decide +kernel) ⟨by decide, by decide⟩ ⟨rfl, rfl⟩ (by decide) (by decide) (by decide) dX7_init_72 ?_
  refine z_mem (pf_1_cm _ _) ?_
  refine z_putr dX7_init_75 4 clX7 kd_0 (by decide) (by decide) (by decide) wm_fl_X7_34 rfl rfl rfl rfl rfl (fun _ _ _ _ _ _ _ _ _ hk => hk.2.2.2.1) (by decide +kernel) rfl rfl ?_
  refine z_mem zm_put ?_
  refine z_aload_n dX7_init_78 rfl rfl ?_
  refine z_new dX7_init_79 clX3 kd_6 rfl wm_kl_X7_38 wm_it_X3 wm_ini_X3 (zf_6 G) (by decide) (by decide) ?_
  refine z_dup dX7_init_82 rfl ?_
  refine z_callIN (zX3 l G _) wm_cd_X3_init wm_ini_X3 wn_X7_40 wm_im_X3_init rfl (by decide +kernel) ⟨by decide, by decide⟩ ⟨rfl, rfl⟩ (by decide) (by decide) (by decide) dX7_init_83 ?_
  refine z_mem (pf_3_cm _ _) ?_
  refine z_putr dX7_init_86 5 clX7 kd_0 (by decide) (by decide) (by decide) wm_fl_X7_41 rfl rfl rfl rfl rfl (fun _ _ _ _ _ _ _ _ _ hk => hk.2.2.2.1) (by decide +kernel) rfl rfl ?_
  refine z_mem zm_put ?_
  refine z_aload_n dX7_init_89 rfl rfl ?_
  refine z_new dX7_init_90 clX5 kd_11 rfl wm_kl_X7_45 wm_it_X5 wm_ini_X5 (zf_11 G) (by decide) (by decide) ?_
  refine z_dup dX7_init_93 rfl ?_
  refine z_callIN (zX5 l G _) wm_cd_X5_init wm_ini_X5 wn_X7_47 wm_im_X5_init rfl (by decide +kernel) ⟨by decide, by decide⟩ ⟨rfl, rfl⟩ (by decide) (by decide) (by decide) dX7_init_94 ?_
  refine z_mem (pf_5_cm _ _) ?_
  refine z_putr dX7_init_97 6 clX7 kd_0 (by decide) (by decide) (by decide) wm_fl_X7_48 rfl rfl rfl rfl rfl (fun _ _ _ _ _ _ _ _ _ hk => hk.2.2.2.1) (by decide +kernel) rfl rfl ?_
  refine z_mem zm_put ?_
  refine z_aload_n dX7_init_100 rfl rfl ?_
  refine z_new dX7_init_101 clX0 kd_16 rfl wm_kl_X7_52 wm_it_X0 wm_ini_X0 (zf_16 G) (by decide) (by decide) ?_
  refine z_dup dX7_init_104 rfl ?_
  refine z_callIN (zX0 l G _) wm_cd_X0_init wm_ini_X0 wn_X7_54 wm_im_X0_init rfl (by decide +kernel) ⟨by decide, by decide⟩ ⟨rfl, rfl⟩ (by decide) (by decide) (by decide) dX7_init_105 ?_
  refine z_mem (pf_0_cm _ _) ?_
  refine z_putr dX7_init_108 7 clX7 kd_0 (by decide) (by decide) (by decide) wm_fl_X7_55 rfl rfl rfl rfl rfl (fun _ _ _ _ _ _ _ _ _ hk => hk.2.2.2.1) (by decide +kernel) rfl rfl ?_
  refine z_mem zm_put ?_
  refine z_aload_n dX7_init_111 rfl rfl ?_
  refine z_new dX7_init_112 clX6 kd_17 rfl wm_kl_X7_59 wm_it_X6 wm_ini_X6 (zf_17 G) (by decide) (by decide) ?_
  refine z_dup dX7_init_115 rfl ?_
  refine z_callIN (zX6 l G _) wm_cd_X6_init wm_ini_X6 wn_X7_61 wm_im_X6_init rfl (by decide +kernel) ⟨by decide, by decide⟩ ⟨rfl, rfl⟩ (by decide) (by decide) (by decide) dX7_init_116 ?_
  refine z_mem (pf_6_cm _ _) ?_
  refine z_putr dX7_init_119 8 clX7 kd_0 (by decide) (by decide) (by decide) wm_fl_X7_62 rfl rfl rfl rfl rfl (fun _ _ _ _ _ _ _ _ _ hk => hk.2.2.2.1) (by decide +kernel) rfl rfl ?_
  refine z_mem zm_put ?_
  exact z_ret7 dX7_init_122
