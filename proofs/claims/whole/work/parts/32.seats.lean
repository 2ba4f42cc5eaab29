/-! what is sought among seats -/
def Vx (B : Bool) (μ : MemT) (s : Nat) : Int32 := if B then sumB (nI s) (μ 59) else wcB (nI s) (μ 58 1) (μ 60)
def Vn (B : Bool) (μ : MemT) (s : Nat) : Nat := cl (Vx B μ s)
theorem Vn_eq {t k c : Nat} {μ : MemT} (h : Rel t k c μ) (B : Bool) {s : Nat} (hs : inT t s) : Vx B μ s = nI (Vn B μ s) ∧ Vn B μ s ≤ 3200 := by
  have ht := tr_ht (rl_tw h)
  have key : ∃ u, u ≤ 3200 ∧ Vx B μ s = nI u := by
    unfold Vx
    cases B with
    | true =>
      obtain ⟨u, hu, e⟩ := sumB_n (x := nI s) (f := μ 59) (K := 200) (by decide) (fun p hp hb => by
        have hb2 := sub_bt ht (inT_sub ht hs) hp hb
        have g : μ 19 p = μ 59 p ∧ inR (μ 19 p) 1 200 = true := tr_sw (rl_tw h) p hp hb2
        rw [← g.1]
        exact inR_w g.2 (by decide) (by decide))
      exact ⟨u, by omega, by rw [if_pos rfl]; exact e⟩
    | false =>
      obtain ⟨u, hu, e⟩ := sumB_n (x := nI s) (f := fun p => wc (μ 58 1) (nI p) (μ 60 p)) (K := 400) (by decide) (fun p hp hb => by
        have hb2 := sub_bt ht (inT_sub ht hs) hp hb
        have g : μ 20 p = μ 60 p ∧ inR (μ 20 p) 1 400 = true := tr_wt (rl_tw h) p hp hb2
        rw [g.1] at g
        obtain ⟨v, v1, v2, v3⟩ := wc_n (c := μ 58 1) (x := nI p) g.2
        show inR (wc (μ 58 1) (nI p) (μ 60 p)) 0 400 = true
        rw [v3]
        exact inR_t (by rw [nI_toInt (by omega)]; omega) (by rw [nI_toInt (by omega)]; omega))
      exact ⟨u, by omega, by rw [if_neg (by decide)]; exact e⟩
  obtain ⟨u, hu, e⟩ := key
  unfold Vn
  rw [e, cl_n (by omega)]
  exact ⟨rfl, hu⟩
def okP (t : Nat) (sp : Nat → Int32) (a b : Nat) : Prop := inT t a ∧ inT t b ∧ a &&& b = 0 ∧ togM (nI a) sp = true ∧ togM (nI b) sp = true
def dst (V : Nat → Nat) (z a b : Nat) : Nat := ((V a : Int) - V b - z).natAbs
def keyN (a b : Nat) : Nat := pc (a ||| b) * 65536 + a * 256 + b
def SpN (V : Nat → Nat) (z : Nat) (S : Nat → Nat → Prop) (n : Nat) : Prop := n ≤ z ∧ (∀ a b, S a b → n ≤ dst V z a b) ∧ (n = z ∨ ∃ a b, S a b ∧ n = dst V z a b)
def SpD (V : Nat → Nat) (S : Nat → Nat → Prop) (d : Nat → Int32) : Prop := ∀ v, 1 ≤ v → v < 3201 → (d v = 0 ↔ ¬ ∃ a b, S a b ∧ V a = V b + v)
def SpB (cls : Bool) (V : Nat → Nat) (z : Nat) (S : Nat → Nat → Prop) (c f g : Int32) : Prop := (c = -6 ∧ (cls = true → f = -6 ∧ g = -6) ∧ ∀ a b, S a b → V a ≠ V b + z) ∨ ∃ a b, S a b ∧ V a = V b + z ∧ c = nI (pc (a ||| b)) ∧ f = nI a ∧ g = nI b ∧ ∀ a2 b2, S a2 b2 → V a2 = V b2 + z → keyN a b ≤ keyN a2 b2
def pls (S : Nat → Nat → Prop) (a0 b0 : Nat) : Nat → Nat → Prop := fun a b => S a b ∨ (a = a0 ∧ b = b0)
theorem spN_add {V : Nat → Nat} {z : Nat} {S : Nat → Nat → Prop} {n a0 b0 : Nat} (h : SpN V z S n) : SpN V z (pls S a0 b0) (if dst V z a0 b0 < n then dst V z a0 b0 else n) := by
  obtain ⟨h1, h2, h3⟩ := h
  by_cases c : dst V z a0 b0 < n
  · rw [if_pos c]
    refine ⟨by omega, fun a b hS => ?_, Or.inr ⟨a0, b0, Or.inr ⟨rfl, rfl⟩, rfl⟩⟩
    rcases hS with hS | ⟨rfl, rfl⟩
    · have := h2 a b hS; omega
    · exact Nat.le_refl _
  · rw [if_neg c]
    refine ⟨h1, fun a b hS => ?_, ?_⟩
    · rcases hS with hS | ⟨rfl, rfl⟩
      · exact h2 a b hS
      · omega
    · rcases h3 with e | ⟨a, b, hS, e⟩
      · exact Or.inl e
      · exact Or.inr ⟨a, b, Or.inl hS, e⟩
theorem spN_skip {V : Nat → Nat} {z : Nat} {S : Nat → Nat → Prop} {n a0 b0 : Nat} (h : SpN V z S n) (hv : V a0 ≤ V b0) : SpN V z (pls S a0 b0) n := by
  obtain ⟨h1, h2, h3⟩ := h
  refine ⟨h1, fun a b hS => ?_, ?_⟩
  · rcases hS with hS | ⟨rfl, rfl⟩
    · exact h2 a b hS
    · unfold dst; omega
  · rcases h3 with e | ⟨a, b, hS, e⟩
    · exact Or.inl e
    · exact Or.inr ⟨a, b, Or.inl hS, e⟩
theorem spD_add {V : Nat → Nat} {S : Nat → Nat → Prop} {d : Nat → Int32} {a0 b0 : Nat} (h : SpD V S d) (hv : V b0 < V a0) : SpD V (pls S a0 b0) (upd d (V a0 - V b0) 1) := by
  intro v h1 h2
  by_cases e : v = V a0 - V b0
  · subst e
    rw [upd_self]
    exact ⟨fun q => absurd q (by decide), fun q => absurd ⟨a0, b0, Or.inr ⟨rfl, rfl⟩, by omega⟩ q⟩
  · rw [upd_ne _ _ e, h v h1 h2]
    constructor
    · intro hn ⟨a, b, hS, hab⟩
      rcases hS with hS | ⟨rfl, rfl⟩
      · exact hn ⟨a, b, hS, hab⟩
      · omega
    · intro hn ⟨a, b, hS, hab⟩
      exact hn ⟨a, b, Or.inl hS, hab⟩
theorem spD_skip {V : Nat → Nat} {S : Nat → Nat → Prop} {d : Nat → Int32} {a0 b0 : Nat} (h : SpD V S d) (hv : V a0 ≤ V b0) : SpD V (pls S a0 b0) d := by
  intro v h1 h2
  rw [h v h1 h2]
  constructor
  · intro hn ⟨a, b, hS, hab⟩
    rcases hS with hS | ⟨rfl, rfl⟩
    · exact hn ⟨a, b, hS, hab⟩
    · omega
  · intro hn ⟨a, b, hS, hab⟩
    exact hn ⟨a, b, Or.inl hS, hab⟩
theorem spB_skip {cls : Bool} {V : Nat → Nat} {z : Nat} {S : Nat → Nat → Prop} {c f g : Int32} {a0 b0 : Nat} (h : SpB cls V z S c f g) (hv : V a0 ≠ V b0 + z) : SpB cls V z (pls S a0 b0) c f g := by
  rcases h with ⟨h1, h2, h3⟩ | ⟨a, b, h1, h2, h3, h4, h5, h6⟩
  · refine Or.inl ⟨h1, h2, fun a b hS => ?_⟩
    rcases hS with hS | ⟨rfl, rfl⟩
    · exact h3 a b hS
    · exact hv
  · refine Or.inr ⟨a, b, Or.inl h1, h2, h3, h4, h5, fun a2 b2 hS e => ?_⟩
    rcases hS with hS | ⟨rfl, rfl⟩
    · exact h6 a2 b2 hS e
    · exact absurd e hv
theorem spB_new {cls : Bool} {V : Nat → Nat} {z : Nat} {S : Nat → Nat → Prop} {c f g : Int32} {a0 b0 : Nat} (h : SpB cls V z S c f g) (hv : V a0 = V b0 + z) (hk : ∀ a b, S a b → V a = V b + z → c = nI (pc (a ||| b)) → f = nI a → g = nI b → keyN a0 b0 ≤ keyN a b) : SpB cls V z (pls S a0 b0) (nI (pc (a0 ||| b0))) (nI a0) (nI b0) := by
  refine Or.inr ⟨a0, b0, Or.inr ⟨rfl, rfl⟩, hv, rfl, rfl, rfl, fun a2 b2 hS e => ?_⟩
  rcases hS with hS | ⟨rfl, rfl⟩
  · rcases h with ⟨h1, h2, h3⟩ | ⟨a, b, h1, h2, h3, h4, h5, h6⟩
    · exact absurd e (h3 a2 b2 hS)
    · exact Nat.le_trans (hk a b h1 h2 h3 h4 h5) (h6 a2 b2 hS e)
  · exact Nat.le_refl _
theorem spB_old {cls : Bool} {V : Nat → Nat} {z : Nat} {S : Nat → Nat → Prop} {c f g : Int32} {a0 b0 : Nat} (h : SpB cls V z S c f g) (hc : c ≠ -6) (hk : ∀ a b, S a b → V a = V b + z → c = nI (pc (a ||| b)) → f = nI a → g = nI b → keyN a b ≤ keyN a0 b0) : SpB cls V z (pls S a0 b0) c f g := by
  rcases h with ⟨h1, h2, h3⟩ | ⟨a, b, h1, h2, h3, h4, h5, h6⟩
  · exact absurd h1 hc
  · refine Or.inr ⟨a, b, Or.inl h1, h2, h3, h4, h5, fun a2 b2 hS e => ?_⟩
    rcases hS with hS | ⟨rfl, rfl⟩
    · exact h6 a2 b2 hS e
    · exact hk a b h1 h2 h3 h4 h5
theorem spN_uni {V : Nat → Nat} {z : Nat} {S : Nat → Nat → Prop} {n m : Nat} (h : SpN V z S n) (g : SpN V z S m) : n = m := by
  obtain ⟨h1, h2, h3⟩ := h
  obtain ⟨g1, g2, g3⟩ := g
  have k1 : n ≤ m := by
    rcases g3 with e | ⟨a, b, hS, e⟩
    · omega
    · have := h2 a b hS; omega
  have k2 : m ≤ n := by
    rcases h3 with e | ⟨a, b, hS, e⟩
    · omega
    · have := g2 a b hS; omega
  omega
theorem key_inj {a b a2 b2 : Nat} (ha : a < 256) (hb : b < 256) (ha2 : a2 < 256) (hb2 : b2 < 256) (h : keyN a b = keyN a2 b2) : a = a2 ∧ b = b2 := by
  unfold keyN at h
  omega
theorem spB_uni {V : Nat → Nat} {z : Nat} {S : Nat → Nat → Prop} {c f g c2 f2 g2 : Int32} (hS : ∀ a b, S a b → a < 256 ∧ b < 256) (h : SpB true V z S c f g) (k : SpB false V z S c2 f2 g2) : (c2 = -6 ∧ c = -6 ∧ f = -6 ∧ g = -6) ∨ (0 ≤ c2 ∧ c = c2 ∧ f = f2 ∧ g = g2) := by
  rcases h with ⟨h1, h2, h3⟩ | ⟨a, b, h1, h2, h3, h4, h5, h6⟩
  · rcases k with ⟨k1, k2, k3⟩ | ⟨a', b', k1, k2, k3, k4, k5, k6⟩
    · exact Or.inl ⟨k1, h1, (h2 rfl).1, (h2 rfl).2⟩
    · exact absurd k2 (h3 a' b' k1)
  · rcases k with ⟨k1, k2, k3⟩ | ⟨a', b', k1, k2, k3, k4, k5, k6⟩
    · exact absurd h2 (k3 a b h1)
    · right
      have e1 := h6 a' b' k1 k2
      have e2 := k6 a b h1 h2
      obtain ⟨x1, x2⟩ := hS a b h1
      obtain ⟨y1, y2⟩ := hS a' b' k1
      obtain ⟨rfl, rfl⟩ := key_inj x1 x2 y1 y2 (by omega)
      exact ⟨by rw [k3]; exact nI_nn (pc8 (or_lt x1 x2)), h3.trans k3.symm, h4.trans k4.symm, h5.trans k5.symm⟩
theorem abI_n {X : Int32} {d : Int} (h : X.toInt = d) (hd : d.natAbs < 2 ^ 31) : abI X = nI d.natAbs := by
  unfold abI
  by_cases c : 0 ≤ X
  · have := le_toInt.mp c
    rw [ti_0] at this
    rw [if_pos c]
    exact Int32.toInt_inj.mp (by rw [nI_toInt hd, h]; omega)
  · have : ¬ (0 : Int32).toInt ≤ X.toInt := fun q => c (le_toInt.mpr q)
    rw [ti_0] at this
    rw [if_neg c]
    refine Int32.toInt_inj.mp ?_
    rw [nI_toInt hd, Int32.toInt_sub, ti_0, h, Int.bmod_eq_of_le (by omega) (by omega)]
    omega
theorem dst_I {V : Nat → Nat} {z a b : Nat} (hz : z < 1000) (ha : V a ≤ 3200) (hb : V b ≤ 3200) : abI (nI (V a) - nI (V b) - nI z) = nI (dst V z a b) ∧ dst V z a b < 10000 := by
  have e : (nI (V a) - nI (V b) - nI z).toInt = (V a : Int) - V b - z := by
    rw [Int32.toInt_sub, sub_nI (by omega) (by omega), nI_toInt (by omega)]
    exact Int.bmod_eq_of_le (by omega) (by omega)
  have hd : dst V z a b < 10000 := by unfold dst; omega
  exact ⟨abI_n e (by unfold dst at hd; omega), hd⟩
theorem dif_eq {V : Nat → Nat} {z a b : Nat} (hz : z < 1000) (ha : V a ≤ 3200) (hb : V b ≤ 3200) : (nI (V a) - nI (V b) = nI z) ↔ V a = V b + z := by
  constructor
  · intro q
    have := congrArg Int32.toInt q
    rw [sub_nI (by omega) (by omega), nI_toInt (by omega)] at this
    omega
  · intro q
    refine Int32.toInt_inj.mp ?_
    rw [sub_nI (by omega) (by omega), nI_toInt (by omega)]
    omega
theorem dif_le {V : Nat → Nat} {a b : Nat} (ha : V a ≤ 3200) (hb : V b ≤ 3200) : (nI (V a) - nI (V b) ≤ 0) ↔ V a ≤ V b := by
  rw [le_toInt, sub_nI (by omega) (by omega), ti_0]
  omega
theorem nr_n {n m : Nat} {x v : Int32} (h : abI (x - v) = nI m) (hn : n < 2 ^ 31) (hm : m < 2 ^ 31) : nrI (nI n) x v = nI (if m < n then m else n) := by
  unfold nrI
  rw [h]
  by_cases c : m < n
  · rw [if_pos ((nJ_lt hm hn).mpr c), if_pos c]
  · rw [if_neg (fun q => c ((nJ_lt hm hn).mp q)), if_neg c]
/-! the class's walk -/
def SpC (V : Nat → Nat) (z : Nat) (S : Nat → Nat → Prop) (w : RdT) : Prop := (∃ n, w.1 7 = nI n ∧ SpN V z S n) ∧ SpD V S w.2 ∧ SpB true V z S (w.1 4) (w.1 5) (w.1 6)
theorem spC_skip {V : Nat → Nat} {z : Nat} {S : Nat → Nat → Prop} {w : RdT} {a0 b0 : Nat} (h : SpC V z S w) (hv : V a0 ≤ V b0) (hz : 1 ≤ z) : SpC V z (pls S a0 b0) w := by
  obtain ⟨⟨n, h1, h2⟩, h3, h4⟩ := h
  exact ⟨⟨n, h1, spN_skip h2 hv⟩, spD_skip h3 hv, spB_skip h4 (by omega)⟩
theorem spC_add {V : Nat → Nat} {z : Nat} {S : Nat → Nat → Prop} {w : RdT} {a0 b0 : Nat} (h : SpC V z S w) (hz : z < 1000) (ha : V a0 ≤ 3200) (hb : V b0 ≤ 3200) (hv : V b0 < V a0) (a8 : a0 < 256) (b8 : b0 < 256) (hS : ∀ a b, S a b → a < 256 ∧ b < 256 ∧ a * 256 + b < a0 * 256 + b0) : SpC V z (pls S a0 b0) (ntR (nI a0) (nI b0) (nI (V a0) - nI (V b0)) (nI z) w.1, ntD (nI (V a0) - nI (V b0)) w.2) := by
  obtain ⟨⟨n, h1, h2⟩, h3, h4⟩ := h
  obtain ⟨d1, d2⟩ := dst_I (V := V) (a := a0) (b := b0) hz ha hb
  have hn : n < 1000 := Nat.lt_of_le_of_lt h2.1 hz
  have e7 : nrI (w.1 7) (nI (V a0) - nI (V b0)) (nI z) = nI (if dst V z a0 b0 < n then dst V z a0 b0 else n) := by
    rw [h1]; exact nr_n d1 (by omega) (by omega)
  have pcl : ∀ x y, x < 256 → y < 256 → pc (x ||| y) ≤ 8 := fun x y hx hy => (mk_bc _ (or_lt hx hy)).2
  have hor : bcI (nI a0 ||| nI b0) = nI (pc (a0 ||| b0)) := by rw [nI_or, (mk_bc _ (or_lt a8 b8)).1]
  refine ⟨⟨_, ?_, spN_add (a0 := a0) (b0 := b0) h2⟩, ?_, ?_⟩
  · show ntR (nI a0) (nI b0) (nI (V a0) - nI (V b0)) (nI z) w.1 7 = _
    rw [← e7]
    unfold ntR kfR
    split
    · split
      · rw [upd_ne _ _ (by decide), upd_ne _ _ (by decide), upd_ne _ _ (by decide), upd_self]
      · rw [upd_self]
    · rw [upd_self]
  · show SpD V _ (ntD (nI (V a0) - nI (V b0)) w.2)
    have e : nI (V a0) - nI (V b0) = nI (V a0 - V b0) := nI_sub (by omega)
    unfold ntD
    rw [e, if_neg (by rw [show (3200 : Int32) = nI 3200 from rfl, nJ_lt (by decide) (by omega)]; omega), show (nI (V a0 - V b0)).toNatClampNeg = V a0 - V b0 from nI_clamp (by omega)]
    exact spD_add h3 hv
  · show SpB true V z _ (ntR (nI a0) (nI b0) (nI (V a0) - nI (V b0)) (nI z) w.1 4) (ntR (nI a0) (nI b0) (nI (V a0) - nI (V b0)) (nI z) w.1 5) (ntR (nI a0) (nI b0) (nI (V a0) - nI (V b0)) (nI z) w.1 6)
    unfold ntR
    by_cases c : nI (V a0) - nI (V b0) = nI z
    · have cz := (dif_eq hz ha hb).mp c
      rw [if_pos c]
      unfold kfR
      rw [upd_ne (w.1) _ (show (4 : Nat) ≠ 7 by decide), hor]
      by_cases c2 : w.1 4 = -6 ∨ ¬ w.1 4 ≤ nI (pc (a0 ||| b0))
      · rw [if_pos c2]
        refine spB_new h4 cz (fun a b hSab hab q4 q5 q6 => ?_)
        obtain ⟨x1, x2, x3⟩ := hS a b hSab
        have p1 := pcl a b x1 x2
        have p0 := pcl a0 b0 a8 b8
        rcases c2 with c2 | c2
        · rw [q4] at c2
          have := nI_nn (show pc (a ||| b) < 2 ^ 31 by omega)
          rw [c2] at this
          exact absurd this (by decide)
        · rw [q4, nJ_le (by omega) (by omega)] at c2
          unfold keyN
          omega
      · rw [if_neg c2]
        have n4 : w.1 4 ≠ -6 := fun q => c2 (Or.inl q)
        have l4 : w.1 4 ≤ nI (pc (a0 ||| b0)) := Classical.byContradiction (fun q => c2 (Or.inr q))
        rw [upd_ne _ _ (show (4 : Nat) ≠ 7 by decide), upd_ne _ _ (show (5 : Nat) ≠ 7 by decide), upd_ne _ _ (show (6 : Nat) ≠ 7 by decide)]
        refine spB_old h4 n4 (fun a b hSab hab q4 q5 q6 => ?_)
        obtain ⟨x1, x2, x3⟩ := hS a b hSab
        have p1 := pcl a b x1 x2
        have p0 := pcl a0 b0 a8 b8
        rw [q4, nJ_le (by omega) (by omega)] at l4
        unfold keyN
        omega
    · rw [if_neg c, upd_ne _ _ (show (4 : Nat) ≠ 7 by decide), upd_ne _ _ (show (5 : Nat) ≠ 7 by decide), upd_ne _ _ (show (6 : Nat) ≠ 7 by decide)]
      exact spB_skip h4 (fun q => c ((dif_eq hz ha hb).mpr q))
theorem set_eq {S T : Nat → Nat → Prop} (h : ∀ a b, S a b ↔ T a b) : S = T := funext (fun a => funext (fun b => propext (h a b)))
theorem sa_run {t k c : Nat} {μ : MemT} (h : Rel t k c μ) {B : Bool} {z : Nat} (hz : z < 1000) (hz1 : 1 ≤ z) : SpC (Vn B μ) z (okP t (μ 62)) (saR B (nI z) t μ) := by
  have ht := tr_ht (rl_tw h)
  generalize hf : (if B then 8 else 7) = f
  have hfv : ∀ s, inT t s → fillM μ f s = nI (Vn B μ s) ∧ Vn B μ s ≤ 3200 := fun s hs => by
    obtain ⟨v1, v2⟩ := Vn_eq h B hs
    refine ⟨?_, v2⟩
    rw [← v1, ← hf]
    unfold Vx
    cases B with
    | true => rw [if_pos rfl, if_pos rfl]; exact fill_8 h hs
    | false => rw [if_neg (by decide), if_neg (by decide)]; exact fill_7 h hs
  have eC : saR B (nI z) t μ = itr (fun a w => if (a &&& t == a) = true then (fun a w => if subI (fillM μ 9 a) (nI a) then ssR f a (nI z) (offN t a) (fillM μ) w else w) a w else w) 256 0 (sa0 (nI z) μ) := by
    rw [← itr_sub _ ht, ← hf]
    rfl
  have h0 : SpC (Vn B μ) z (fun x y => okP t (μ 62) x y ∧ x < 0) (sa0 (nI z) μ) := by
    refine ⟨⟨z, rfl, Nat.le_refl _, fun a b hS => absurd hS.2 (Nat.not_lt_zero _), Or.inl rfl⟩, fun v v1 v2 => ?_, Or.inl ⟨rfl, fun _ => ⟨rfl, rfl⟩, fun a b hS => absurd hS.2 (Nat.not_lt_zero _)⟩⟩
    refine ⟨fun _ ⟨a, b, hS, _⟩ => absurd hS.2 (Nat.not_lt_zero _), fun _ => ?_⟩
    simp only [sa0]
    exact filF_in 0 (μ 10) v2
  rw [eC]
  have hfin : (okP t (μ 62)) = (fun x y => okP t (μ 62) x y ∧ x < 256) := set_eq (fun a b => ⟨fun q => ⟨q, q.1.1⟩, fun q => q.1⟩)
  rw [hfin]
  refine itr_inv (I := fun a w => SpC (Vn B μ) z (fun x y => okP t (μ 62) x y ∧ x < a) w) (N := 256) (fun a w ha hI => ?_) 256 0 _ rfl h0
  by_cases cT : inT t a
  · rw [if_pos ((inT_b ha).mpr cT)]
    show SpC (Vn B μ) z _ (if subI (fillM μ 9 a) (nI a) then ssR f a (nI z) (offN t a) (fillM μ) w else w)
    rw [fill_9 h cT]
    by_cases cM : togM (nI a) (μ 62) = true
    · rw [if_pos cM]
      have ho : offN t a < 256 := (mk_off t ht a ha).2
      have eS : ssR f a (nI z) (offN t a) (fillM μ) w = itr (fun b w => if (b &&& offN t a == b) = true then (fun b (w : RdT) => if fillM μ f a - fillM μ f b ≤ 0 then w else if subI (fillM μ 9 b) (nI b) then (ntR (nI a) (nI b) (fillM μ f a - fillM μ f b) (nI z) w.1, ntD (fillM μ f a - fillM μ f b) w.2) else w) b w else w) 256 0 w := by
        rw [← itr_sub _ ho]
        rfl
      rw [eS]
      have e2 : (fun x y => okP t (μ 62) x y ∧ x < a + 1) = (fun x y => okP t (μ 62) x y ∧ (x < a ∨ (x = a ∧ y < 256))) := set_eq (fun x y => ⟨fun q => ⟨q.1, by have := q.1.2.1.1; omega⟩, fun q => ⟨q.1, by omega⟩⟩)
      have e0 : (fun x y => okP t (μ 62) x y ∧ x < a) = (fun x y => okP t (μ 62) x y ∧ (x < a ∨ (x = a ∧ y < 0))) := set_eq (fun x y => ⟨fun q => ⟨q.1, Or.inl q.2⟩, fun q => ⟨q.1, by omega⟩⟩)
      rw [e2]
      rw [e0] at hI
      refine itr_inv (I := fun b w => SpC (Vn B μ) z (fun x y => okP t (μ 62) x y ∧ (x < a ∨ (x = a ∧ y < b))) w) (N := 256) (fun b w hb hI => ?_) 256 0 _ rfl hI
      have same : ¬ okP t (μ 62) a b → SpC (Vn B μ) z (fun x y => okP t (μ 62) x y ∧ (x < a ∨ (x = a ∧ y < b + 1))) w := fun hno => by
        have : (fun x y => okP t (μ 62) x y ∧ (x < a ∨ (x = a ∧ y < b + 1))) = (fun x y => okP t (μ 62) x y ∧ (x < a ∨ (x = a ∧ y < b))) := set_eq (fun x y => ⟨fun q => ⟨q.1, by
          rcases q.2 with q2 | ⟨q2, q3⟩
          · exact Or.inl q2
          · by_cases e : y = b
            · subst e; rw [q2] at q; exact absurd q.1 hno
            · exact Or.inr ⟨q2, by omega⟩⟩, fun q => ⟨q.1, by omega⟩⟩)
        rw [this]; exact hI
      have more : okP t (μ 62) a b → (fun x y => okP t (μ 62) x y ∧ (x < a ∨ (x = a ∧ y < b + 1))) = pls (fun x y => okP t (μ 62) x y ∧ (x < a ∨ (x = a ∧ y < b))) a b := fun hyes => set_eq (fun x y => ⟨fun q => by
          by_cases e : x = a ∧ y = b
          · exact Or.inr e
          · exact Or.inl ⟨q.1, by omega⟩, fun q => by
          rcases q with q | ⟨rfl, rfl⟩
          · exact ⟨q.1, by omega⟩
          · exact ⟨hyes, by omega⟩⟩)
      by_cases cO : inT (offN t a) b
      · have cB := (off_and ht cT hb).mp cO
        rw [if_pos ((inT_b hb).mpr cO)]
        show SpC (Vn B μ) z _ (if fillM μ f a - fillM μ f b ≤ 0 then w else if subI (fillM μ 9 b) (nI b) then (ntR (nI a) (nI b) (fillM μ f a - fillM μ f b) (nI z) w.1, ntD (fillM μ f a - fillM μ f b) w.2) else w)
        obtain ⟨fa1, fa2⟩ := hfv a cT
        obtain ⟨fb1, fb2⟩ := hfv b cB.1
        rw [fa1, fb1, fill_9 h cB.1]
        by_cases cMb : togM (nI b) (μ 62) = true
        · have hyes : okP t (μ 62) a b := ⟨cT, cB.1, cB.2, cM, cMb⟩
          rw [more hyes]
          by_cases cD : nI (Vn B μ a) - nI (Vn B μ b) ≤ 0
          · rw [if_pos cD]
            exact spC_skip hI ((dif_le fa2 fb2).mp cD) hz1
          · rw [if_neg cD, if_pos cMb]
            refine spC_add hI hz fa2 fb2 (by have q1 : ¬ Vn B μ a ≤ Vn B μ b := fun q => cD ((dif_le fa2 fb2).mpr q); omega) ha hb (fun x y q => ⟨q.1.1.1, q.1.2.1.1, ?_⟩)
            have h1 := q.1.2.1.1
            have h2 := q.2
            omega
        · rw [if_neg cMb]
          have hno : ¬ okP t (μ 62) a b := fun q => cMb q.2.2.2.2
          have := same hno
          split <;> exact this
      · rw [if_neg (fun q => cO ((inT_b hb).mp q))]
        exact same (fun q => cO ((off_and ht cT hb).mpr ⟨q.2.1, q.2.2.1⟩))
    · rw [if_neg cM]
      have : (fun x y => okP t (μ 62) x y ∧ x < a + 1) = (fun x y => okP t (μ 62) x y ∧ x < a) := set_eq (fun x y => ⟨fun q => ⟨q.1, by
        by_cases e : x = a
        · subst e; exact absurd q.1.2.2.2.1 cM
        · omega⟩, fun q => ⟨q.1, by omega⟩⟩)
      rw [this]; exact hI
  · rw [if_neg (fun q => cT ((inT_b ha).mp q))]
    have : (fun x y => okP t (μ 62) x y ∧ x < a + 1) = (fun x y => okP t (μ 62) x y ∧ x < a) := set_eq (fun x y => ⟨fun q => ⟨q.1, by
      by_cases e : x = a
      · subst e; exact absurd q.1.1 cT
      · omega⟩, fun q => ⟨q.1, by omega⟩⟩)
    rw [this]; exact hI
/-! the reference's count of seats -/
def seen6 (j a b : Nat) : Prop := ∃ i, i < j ∧ (seN i).2.1 = a ∧ (seN i).2.2 = b
theorem sea_ok {t k c : Nat} {μ : MemT} (h : Rel t k c μ) {j : Nat} (hj : j < 6561) : seaB (nI j) (nI t) (μ 62) = true ↔ okP t (μ 62) (seN j).2.1 (seN j).2.2 := by
  have ht := tr_ht (rl_tw h)
  obtain ⟨s1, s2, s3⟩ := se_ok j hj
  unfold seaB
  rw [se_n hj]
  show (subI (nI (seN j).2.1 ||| nI (seN j).2.2) (nI t) && (togM (nI (seN j).2.1) (μ 62) && togM (nI (seN j).2.2) (μ 62))) = true ↔ _
  rw [subI_or]
  simp only [Bool.and_eq_true]
  constructor
  · intro ⟨⟨g1, g2⟩, g3, g4⟩
    exact ⟨sub_inT ht s1 g1, sub_inT ht s2 g2, s3, g3, g4⟩
  · intro ⟨g1, g2, _, g3, g4⟩
    exact ⟨⟨inT_sub ht g1, inT_sub ht g2⟩, g3, g4⟩
theorem all6 {t : Nat} {sp : Nat → Int32} : (fun a b => okP t sp a b ∧ seen6 6561 a b) = okP t sp := set_eq (fun a b => ⟨fun q => q.1, fun q => ⟨q, by
  obtain ⟨e1, e2, e3⟩ := enc_ok a q.1.1 b q.2.1.1 q.2.2.1
  exact ⟨encN a b, e1, e2, e3⟩⟩⟩)
theorem one6 {t j : Nat} {sp : Nat → Int32} (h : okP t sp (seN j).2.1 (seN j).2.2) : (fun a b => okP t sp a b ∧ seen6 (j + 1) a b) = pls (fun a b => okP t sp a b ∧ seen6 j a b) (seN j).2.1 (seN j).2.2 := set_eq (fun a b => ⟨fun q => by
  obtain ⟨q1, i, q2, q3, q4⟩ := q
  by_cases e : i = j
  · subst e; exact Or.inr ⟨q3.symm, q4.symm⟩
  · exact Or.inl ⟨q1, i, by omega, q3, q4⟩, fun q => by
  rcases q with ⟨q1, i, q2, q3⟩ | ⟨rfl, rfl⟩
  · exact ⟨q1, i, by omega, q3⟩
  · exact ⟨h, j, by omega, rfl, rfl⟩⟩)
theorem no6 {t j : Nat} {sp : Nat → Int32} (h : ¬ okP t sp (seN j).2.1 (seN j).2.2) : (fun a b => okP t sp a b ∧ seen6 (j + 1) a b) = (fun a b => okP t sp a b ∧ seen6 j a b) := set_eq (fun a b => ⟨fun q => by
  obtain ⟨q1, i, q2, q3, q4⟩ := q
  by_cases e : i = j
  · subst e; rw [q3, q4] at h; exact absurd q1 h
  · exact ⟨q1, i, by omega, q3, q4⟩, fun q => by
  obtain ⟨q1, i, q2, q3⟩ := q
  exact ⟨q1, i, by omega, q3⟩⟩)
theorem seD_n {t k c : Nat} {μ : MemT} (h : Rel t k c μ) {B : Bool} {j : Nat} (hj : j < 6561) (hk : okP t (μ 62) (seN j).2.1 (seN j).2.2) : seD B (nI j) μ = nI (Vn B μ (seN j).2.1) - nI (Vn B μ (seN j).2.2) ∧ Vn B μ (seN j).2.1 ≤ 3200 ∧ Vn B μ (seN j).2.2 ≤ 3200 := by
  obtain ⟨v1, v2⟩ := Vn_eq h B hk.1
  obtain ⟨u1, u2⟩ := Vn_eq h B hk.2.1
  refine ⟨?_, v2, u2⟩
  rw [← v1, ← u1]
  unfold seD dfB Vx
  rw [se_n hj]
  cases B with
  | true => rfl
  | false => rfl
theorem on_pc {a b : Nat} (ha : a < 256) (hb : b < 256) : onI (nI a ||| nI b) = nI (pc (a ||| b)) := by
  rw [nI_or, on_nI (or_lt ha hb), (mk_bc _ (or_lt ha hb)).1]
theorem mk_run {t k c : Nat} {μ : MemT} (h : Rel t k c μ) {B : Bool} {z : Nat} (hz : z < 1000) : SpB false (Vn B μ) z (okP t (μ 62)) (mkR B (nI z) μ).1 (mkR B (nI z) μ).2.1 (mkR B (nI z) μ).2.2 := by
  have e1 : μ 58 0 = nI t := show mI μ 0 = nI t from tr_bps (rl_tw h)
  rw [← all6]
  unfold mkR
  refine itr_inv (I := fun j (w : S3T) => SpB false (Vn B μ) z (fun a b => okP t (μ 62) a b ∧ seen6 j a b) w.1 w.2.1 w.2.2) (N := 6561) (fun j w hj hI => ?_) 6561 0 _ rfl (Or.inl ⟨rfl, fun q => (by cases q), fun a b hS => by obtain ⟨_, i, hi, _⟩ := hS; omega⟩)
  unfold mkS
  rw [e1]
  obtain ⟨s1, s2, s3⟩ := se_ok j hj
  by_cases hs : seaB (nI j) (nI t) (μ 62) = true
  · have hk := (sea_ok h hj).mp hs
    obtain ⟨d1, d2, d3⟩ := seD_n h (B := B) hj hk
    rw [hs, Bool.true_and, one6 hk, d1]
    have er : (seR (nI j)).2.1 = nI (seN j).2.1 ∧ (seR (nI j)).2.2 = nI (seN j).2.2 := by rw [se_n hj]; exact ⟨rfl, rfl⟩
    rw [er.1, er.2, on_pc s1 s2]
    generalize hA : (seN j).2.1 = A at *
    generalize hC : (seN j).2.2 = C at *
    have p0 : pc (A ||| C) ≤ 8 := (mk_bc _ (or_lt s1 s2)).2
    by_cases hv : nI (Vn B μ A) - nI (Vn B μ C) = nI z
    · have hv2 := (dif_eq hz d2 d3).mp hv
      rw [if_pos (decide_eq_true hv)]
      by_cases hc : w.1 < 0 ∨ nI (pc (A ||| C)) < w.1 ∨ (nI (pc (A ||| C)) = w.1 ∧ (nI A < w.2.1 ∨ (nI A = w.2.1 ∧ nI C < w.2.2)))
      · rw [if_pos hc]
        refine spB_new hI hv2 (fun a b hSab hab q4 q5 q6 => ?_)
        have a8 := hSab.1.1.1
        have b8 := hSab.1.2.1.1
        have p1 : pc (a ||| b) ≤ 8 := (mk_bc _ (or_lt a8 b8)).2
        rw [q4, q5, q6, nJ_lt (by omega) (by omega), nJ_lt (by omega) (by omega), nJ_lt (by omega) (by omega), nI_eq (by omega) (by omega), nI_eq (by omega) (by omega)] at hc
        rcases hc with hc | hc
        · exact absurd hc (nI_nl (by omega))
        · unfold keyN; omega
      · rw [if_neg hc]
        have n4 : w.1 ≠ -6 := fun q => hc (Or.inl (by rw [q]; decide))
        refine spB_old hI n4 (fun a b hSab hab q4 q5 q6 => ?_)
        have a8 := hSab.1.1.1
        have b8 := hSab.1.2.1.1
        have p1 : pc (a ||| b) ≤ 8 := (mk_bc _ (or_lt a8 b8)).2
        have hc2 := fun q => hc (Or.inr q)
        rw [q4, q5, q6, nJ_lt (by omega) (by omega), nJ_lt (by omega) (by omega), nJ_lt (by omega) (by omega), nI_eq (by omega) (by omega), nI_eq (by omega) (by omega)] at hc2
        unfold keyN
        by_cases x1 : pc (A ||| C) < pc (a ||| b)
        · exact absurd (Or.inl x1) hc2
        · by_cases x2 : pc (A ||| C) = pc (a ||| b)
          · by_cases x3 : A < a
            · exact absurd (Or.inr ⟨x2, Or.inl x3⟩) hc2
            · by_cases x4 : A = a
              · by_cases x5 : C < b
                · exact absurd (Or.inr ⟨x2, Or.inr ⟨x4, x5⟩⟩) hc2
                · omega
              · omega
          · omega
    · rw [if_neg (by simpa using hv)]
      exact spB_skip hI (fun q => hv ((dif_eq hz d2 d3).mpr q))
  · have hs0 : seaB (nI j) (nI t) (μ 62) = false := by simpa using hs
    rw [hs0, Bool.false_and, if_neg (by decide), no6 (fun q => hs ((sea_ok h hj).mpr q))]
    exact hI
theorem nr_run {t k c : Nat} {μ : MemT} (h : Rel t k c μ) {B : Bool} {z : Nat} (hz : z < 1000) : ∃ n, itr (nrS B (nI z) μ) 6561 0 (nI z) = nI n ∧ SpN (Vn B μ) z (okP t (μ 62)) n := by
  have e1 : μ 58 0 = nI t := show mI μ 0 = nI t from tr_bps (rl_tw h)
  rw [← all6]
  refine itr_inv (I := fun j (w : Int32) => ∃ n, w = nI n ∧ SpN (Vn B μ) z (fun a b => okP t (μ 62) a b ∧ seen6 j a b) n) (N := 6561) (fun j w hj hI => ?_) 6561 0 _ rfl ⟨z, rfl, Nat.le_refl _, fun a b hS => by obtain ⟨_, i, hi, _⟩ := hS; omega, Or.inl rfl⟩
  obtain ⟨n, rfl, hN⟩ := hI
  unfold nrS
  rw [e1]
  by_cases hs : seaB (nI j) (nI t) (μ 62) = true
  · have hk := (sea_ok h hj).mp hs
    obtain ⟨d1, d2, d3⟩ := seD_n h (B := B) hj hk
    rw [if_pos hs, one6 hk, d1]
    obtain ⟨x1, x2⟩ := dst_I (V := Vn B μ) (a := (seN j).2.1) (b := (seN j).2.2) hz d2 d3
    have hn : n < 1000 := Nat.lt_of_le_of_lt hN.1 hz
    refine ⟨_, ?_, spN_add (a0 := (seN j).2.1) (b0 := (seN j).2.2) hN⟩
    exact nr_n (n := n) x1 (by omega) (by omega)
  · rw [if_neg hs, no6 (fun q => hs ((sea_ok h hj).mpr q))]
    exact ⟨n, rfl, hN⟩
theorem gp_run {t k c : Nat} {μ : MemT} (h : Rel t k c μ) {B : Bool} : SpD (Vn B μ) (okP t (μ 62)) (gpR B μ) := by
  have e1 : μ 58 0 = nI t := show mI μ 0 = nI t from tr_bps (rl_tw h)
  rw [← all6]
  unfold gpR
  refine itr_inv (I := fun j (w : Nat → Int32) => SpD (Vn B μ) (fun a b => okP t (μ 62) a b ∧ seen6 j a b) w) (N := 6561) (fun j w hj hI => ?_) 6561 0 _ rfl (fun v v1 v2 => ⟨fun _ ⟨a, b, hS, _⟩ => by obtain ⟨_, i, hi, _⟩ := hS; omega, fun _ => filF_in 0 _ v2⟩)
  unfold gpS
  rw [e1]
  by_cases hs : seaB (nI j) (nI t) (μ 62) = true
  · have hk := (sea_ok h hj).mp hs
    obtain ⟨d1, d2, d3⟩ := seD_n h (B := B) hj hk
    rw [if_pos hs, one6 hk, d1]
    by_cases hd : nI (Vn B μ (seN j).2.1) - nI (Vn B μ (seN j).2.2) ≤ 0
    · rw [if_pos hd]
      exact spD_skip hI ((dif_le d2 d3).mp hd)
    · have hlt : Vn B μ (seN j).2.2 < Vn B μ (seN j).2.1 := by
        have : ¬ Vn B μ (seN j).2.1 ≤ Vn B μ (seN j).2.2 := fun q => hd ((dif_le d2 d3).mpr q)
        omega
      rw [if_neg hd, nI_sub (by omega), cl_n (by omega)]
      exact spD_add hI hlt
  · rw [if_neg hs, no6 (fun q => hs ((sea_ok h hj).mpr q))]
    exact hI
theorem gapB_ok {t k c : Nat} {μ : MemT} (h : Rel t k c μ) (B : Bool) : GapB B μ := by
  have ht := tr_ht (rl_tw h)
  have e1 : μ 58 0 = nI t := show mI μ 0 = nI t from tr_bps (rl_tw h)
  intro x hx hpos
  rw [e1] at hx
  unfold seaB at hx
  rw [Bool.and_eq_true, subI_or, Bool.and_eq_true] at hx
  obtain ⟨⟨g1, g2⟩, -⟩ := hx
  obtain ⟨a, ha, ea, ea2⟩ := subI_ex ht g1
  obtain ⟨b, hb, eb, eb2⟩ := subI_ex ht g2
  obtain ⟨v1, v2⟩ := Vn_eq h B (s := a) ⟨ha, ea2⟩
  obtain ⟨u1, u2⟩ := Vn_eq h B (s := b) ⟨hb, eb2⟩
  have eD : seD B x μ = nI (Vn B μ a) - nI (Vn B μ b) := by
    rw [← v1, ← u1]
    unfold seD dfB Vx
    rw [ea, eb]
    cases B <;> rfl
  rw [eD] at hpos ⊢
  have hlt : Vn B μ b < Vn B μ a := by
    have := lt_toInt.mp hpos
    rw [sub_nI (by omega) (by omega), ti_0] at this
    omega
  rw [nI_sub (by omega), cl_n (by omega)]
  omega
/-! make, near, gap -/
theorem sa_ne {r : Nat} (h : r < 6 ∨ 11 ≤ r) (B : Bool) (z : Int32) (t : Nat) (μ : MemT) : saM B z t μ r = μ r := by
  rw [saM, putRd_ne _ _ (by omega) (by omega), fill_ne (by omega)]
theorem rl_sa {t k c : Nat} {μ : MemT} (h : Rel t k c μ) (B : Bool) (z : Int32) : Rel t k c (saM B z t μ) := rl_pans h (fun r hr => sa_ne hr B z t μ) (by rw [saM, putRd_ne _ _ (by decide) (by decide), putRd_ne _ _ (by decide) (by decide), putRd_ne _ _ (by decide) (by decide)]; exact fill_z h)
theorem rl_seF {t k c : Nat} {μ : MemT} (h : Rel t k c μ) (f g : Int32) : Rel t k c (seF f g μ) := by
  have g1 : ∀ r, r ≠ 58 → seF f g μ r = μ r := fun r hr => seF_ne f g μ hr
  exact rl_cong h (g1 2 (by decide)) (g1 78 (by decide)) (g1 77 (by decide)) (by rw [g1 3 (by decide)]) (g1 4 (by decide)) (g1 66 (by decide)) (fun r h1 h2 => g1 r (by omega)) (fun r h1 h2 p _ => by rw [g1 r (by omega)]) (fun i hi => seF_f f g μ (by omega) (by omega)) (by rw [g1 7 (by decide)]; exact rl_z7 h) (by rw [g1 8 (by decide)]; exact rl_z8 h) (by rw [g1 9 (by decide)]; exact rl_z9 h)
theorem rl_74 {t k c : Nat} {μ : MemT} (h : Rel t k c μ) (x : Nat → Int32) : Rel t k c (mset μ 74 x) := by
  have g1 : ∀ r, r ≠ 74 → mset μ 74 x r = μ r := fun r hr => mset_ne _ _ hr
  exact rl_cong h (g1 2 (by decide)) (g1 78 (by decide)) (g1 77 (by decide)) (by rw [g1 3 (by decide)]) (g1 4 (by decide)) (g1 66 (by decide)) (fun r h1 h2 => g1 r (by omega)) (fun r h1 h2 p _ => by rw [g1 r (by omega)]) (fun i hi => by rw [g1 58 (by decide)]) (by rw [g1 7 (by decide)]; exact rl_z7 h) (by rw [g1 8 (by decide)]; exact rl_z8 h) (by rw [g1 9 (by decide)]; exact rl_z9 h)
theorem Vn_M {B : Bool} {μ M : MemT} (hM : ∀ r, 58 ≤ r → M r = μ r) : Vn B M = Vn B μ := by
  funext s
  unfold Vn Vx
  rw [hM 58 (by decide), hM 59 (by decide), hM 60 (by decide)]
theorem rl_make {t k c : Nat} {μ : MemT} (h : Rel t k c μ) (x w : Int32) (B : Bool) : mMake x B w (xMake t x B w μ).2 = (xMake t x B w μ).1 ∧ Rel t k c (xMake t x B w μ).2 := by
  by_cases hr : (inR x 1 999 && inR w 0 2) = true
  · rw [xMake, if_pos hr]
    rw [Bool.and_eq_true] at hr
    obtain ⟨z, hz, rfl⟩ := inR1_ex (n := 999) hr.1
    have hz1 : 1 ≤ z := by have := inR_of hr.1; rw [nI_toInt (by omega)] at this; omega
    refine ⟨?_, rl_sa h B _⟩
    show mMake (nI z) B w (saM B (nI z) t μ) = (if w = 0 then (saR B (nI z) t μ).1 4 else if w = 1 then (saR B (nI z) t μ).1 5 else (saR B (nI z) t μ).1 6)
    obtain ⟨-, -, hB⟩ := sa_run h (B := B) (z := z) (by omega) hz1
    have hm := mk_run (rl_sa h B (nI z)) (B := B) (z := z) (by omega)
    rw [Vn_M (μ := μ) (fun r hr => sa_ne (by omega) B (nI z) t μ), sa_ne (by decide)] at hm
    rw [mMake, if_pos (by rw [hr.1, hr.2]; rfl)]
    rcases spB_uni (fun a b hS => ⟨hS.1.1, hS.2.1.1⟩) hB hm with ⟨u1, u2, u3, u4⟩ | ⟨u1, u2, u3, u4⟩
    · rw [u1, u2, u3, u4, if_pos (Or.inl (by decide))]
      split
      · rfl
      · split <;> rfl
    · rw [u2, u3, u4]
      have nn : ¬ (mkR B (nI z) (saM B (nI z) t μ)).1 < 0 := fun q => by
        have a1 := le_toInt.mp u1
        have a2 := lt_toInt.mp q
        omega
      by_cases hw : w = 0
      · rw [if_pos (Or.inr hw), if_pos hw]
      · rw [if_neg (fun q => q.elim nn hw), if_neg hw]
  · rw [xMake, if_neg hr]
    refine ⟨?_, h⟩
    show mMake x B w μ = -2
    rw [mMake, if_neg hr]
theorem rl_near {t k c : Nat} {μ : MemT} (h : Rel t k c μ) (x : Int32) (B : Bool) : mNear x B (xNear t x B μ).2 = (xNear t x B μ).1 ∧ Rel t k c (xNear t x B μ).2 := by
  by_cases hr : inR x 1 999 = true
  · rw [xNear, if_pos hr]
    obtain ⟨z, hz, rfl⟩ := inR1_ex (n := 999) hr
    have hz1 : 1 ≤ z := by have := inR_of hr; rw [nI_toInt (by omega)] at this; omega
    refine ⟨?_, rl_sa h B _⟩
    show mNear (nI z) B (saM B (nI z) t μ) = (saR B (nI z) t μ).1 7
    obtain ⟨⟨n, e1, hN⟩, -, -⟩ := sa_run h (B := B) (z := z) (by omega) hz1
    obtain ⟨m, e2, hm⟩ := nr_run (rl_sa h B (nI z)) (B := B) (z := z) (by omega)
    rw [Vn_M (μ := μ) (fun r hr => sa_ne (by omega) B (nI z) t μ), sa_ne (by decide)] at hm
    rw [mNear, if_pos hr, e1, e2, spN_uni hN hm]
  · rw [xNear, if_neg hr]
    refine ⟨?_, h⟩
    show mNear x B μ = -2
    rw [mNear, if_neg hr]
theorem rl_gap {t k c : Nat} {μ : MemT} (h : Rel t k c μ) (B : Bool) : mGap B (xGap t B μ).2 = (xGap t B μ).1 ∧ Rel t k c (xGap t B μ).2 := by
  rw [xGap]
  refine ⟨?_, rl_sa h B _⟩
  show luB (gpR B (saM B 1 t μ)) = luB (saR B 1 t μ).2
  obtain ⟨-, hD, -⟩ := sa_run h (B := B) (z := 1) (by decide) (by decide)
  have hG := gp_run (rl_sa h B 1) (B := B)
  rw [Vn_M (μ := μ) (fun r hr => sa_ne (by omega) B 1 t μ), sa_ne (by decide)] at hG
  unfold luB
  have : fnd (fun j => decide (gpR B (saM B 1 t μ) j = 0)) 3200 1 = fnd (fun j => decide ((saR B 1 t μ).2 j = 0)) 3200 1 := by
    refine fnd_cong 3200 1 (fun v v1 v2 => ?_)
    rw [decide_eq_decide, hG v v1 (by omega)]
    exact (hD v v1 (by omega)).symm
  rw [this]

