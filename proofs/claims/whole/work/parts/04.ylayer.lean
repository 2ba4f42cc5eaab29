/-! the static memory: 79 cells, by number; a number's row holds its int-like fields or its elements -/
abbrev MemT : Type := Nat → Nat → Int32
def mset (μ : MemT) (k : Nat) (r : Nat → Int32) : MemT := fun j => if j = k then r else μ j
theorem mset_self (μ : MemT) (k : Nat) (r : Nat → Int32) : mset μ k r k = r := if_pos rfl
theorem mset_ne (μ : MemT) {k j : Nat} (r : Nat → Int32) (h : j ≠ k) : mset μ k r j = μ j := if_neg h
theorem mset_mset (μ : MemT) (k : Nat) (r r' : Nat → Int32) : mset (mset μ k r) k r' = mset μ k r' := by
  funext j
  unfold mset
  split <;> rfl
theorem upd_self (f : Nat → Int32) (k : Nat) (x : Int32) : upd f k x k = x := if_pos rfl
theorem upd_ne (f : Nat → Int32) {k j : Nat} (x : Int32) (h : j ≠ k) : upd f k x j = f j := if_neg h
theorem upd_upd (f : Nat → Int32) (k : Nat) (x y : Int32) : upd (upd f k x) k y = upd f k y := by
  funext j
  unfold upd
  split <;> rfl
theorem mset_same (μ : MemT) (k : Nat) : mset μ k (μ k) = μ := by
  funext j
  unfold mset
  split
  · subst_vars; rfl
  · rfl
abbrev KdT : Type := (Nat × List (Nat ⊕ Nat)) ⊕ (Nat × Nat)
def twTm (b : Nat) : List (Nat ⊕ Nat) := [.inl (b + 1), .inl (b + 2), .inl (b + 3), .inl (b + 4), .inl (b + 5), .inl (b + 6), .inl (b + 7), .inr 0, .inr 0, .inr 0, .inr 0, .inr 0]

def kdL : List KdT := [
  .inl (7, [.inl 18, .inl 1, .inl 2, .inl 3, .inl 5, .inl 6, .inl 11, .inl 16, .inl 17]),
  .inr (3, 2),
  .inr (2, 2),
  .inl (2, [.inl 4, .inr 0]),
  .inr (0, 60),
  .inl (1, [.inl 42, .inr 0, .inr 0, .inr 0, .inr 0, .inr 0, .inr 0, .inr 0, .inr 0, .inr 0, .inr 0, .inr 0, .inr 0]),
  .inl (3, [.inl 7, .inl 8, .inl 9, .inl 10, .inr 0, .inr 0, .inr 0, .inr 0, .inr 0, .inr 0]),
  .inr (0, 256),
  .inr (0, 256),
  .inr (0, 256),
  .inr (1, 3201),
  .inl (5, [.inl 12, .inl 13, .inl 14, .inl 15, .inr 0, .inr 0, .inr 0]),
  .inr (0, 145),
  .inr (0, 145),
  .inr (0, 8),
  .inr (0, 3),
  .inl (0, [.inr 1, .inr 1]),
  .inl (6, [.inl 50, .inr 0, .inr 0, .inr 0]),
  .inl (4, twTm 18),
  .inr (0, 8),
  .inr (0, 8),
  .inr (0, 8),
  .inr (0, 8),
  .inr (0, 8),
  .inr (0, 8),
  .inr (0, 8),
  .inl (4, twTm 26),
  .inr (0, 8),
  .inr (0, 8),
  .inr (0, 8),
  .inr (0, 8),
  .inr (0, 8),
  .inr (0, 8),
  .inr (0, 8),
  .inl (4, twTm 34),
  .inr (0, 8),
  .inr (0, 8),
  .inr (0, 8),
  .inr (0, 8),
  .inr (0, 8),
  .inr (0, 8),
  .inr (0, 8),
  .inl (4, twTm 42),
  .inr (0, 8),
  .inr (0, 8),
  .inr (0, 8),
  .inr (0, 8),
  .inr (0, 8),
  .inr (0, 8),
  .inr (0, 8),
  .inl (4, twTm 50),
  .inr (0, 8),
  .inr (0, 8),
  .inr (0, 8),
  .inr (0, 8),
  .inr (0, 8),
  .inr (0, 8),
  .inr (0, 8),
  .inl (8, [.inr 0, .inr 0, .inr 0, .inr 0, .inl 59, .inl 60, .inl 61, .inl 62, .inl 63, .inl 64, .inl 65, .inr 0, .inl 66, .inr 0, .inl 67, .inl 68, .inl 69, .inl 70, .inr 0, .inr 0, .inr 0, .inr 0, .inr 0, .inl 71, .inr 0, .inr 0, .inr 0, .inr 0, .inl 72, .inl 73, .inr 0, .inr 0, .inr 0, .inl 74, .inl 75, .inl 76, .inr 0, .inl 77, .inl 78, .inr 0, .inr 0]),
  .inr (0, 8),
  .inr (0, 8),
  .inr (0, 8),
  .inr (0, 8),
  .inr (0, 8),
  .inr (0, 8),
  .inr (0, 8),
  .inr (0, 60),
  .inr (0, 60),
  .inr (0, 60),
  .inr (0, 60),
  .inr (0, 60),
  .inr (0, 8),
  .inr (0, 8),
  .inr (0, 8),
  .inr (2, 3201),
  .inr (0, 145),
  .inr (0, 145),
  .inr (0, 160),
  .inr (2, 2)]

theorem kdL_len : kdL.length = 79 := rfl
def sw_jn (a b : Int32) : Int64 := Int64.ofInt (a.toInt * 4294967296 + b.toInt % 4294967296)
def sw_hi (v : Int64) : Int32 := Int32.ofInt (v.toInt / 4294967296)
def sw_lo (v : Int64) : Int32 := Int32.ofInt (v.toInt % 4294967296)
theorem sw_jn_hl (v : Int64) : sw_jn (sw_hi v) (sw_lo v) = v := by
  have h1 := Int64.minValue_le_toInt v
  have h2 := Int64.toInt_le v
  have h3 : Int64.minValue.toInt = -9223372036854775808 := rfl
  have h4 : Int64.maxValue.toInt = 9223372036854775807 := rfl
  unfold sw_jn sw_hi sw_lo
  rw [Int32.toInt_ofInt, Int32.toInt_ofInt]
  have e : (v.toInt / 4294967296).bmod Int32.size * 4294967296 + ((v.toInt % 4294967296).bmod Int32.size) % 4294967296 = v.toInt := by
    have e1 : (v.toInt / 4294967296).bmod Int32.size = v.toInt / 4294967296 := by
      rw [show Int32.size = 4294967296 from rfl, Int.bmod_def]
      omega
    have e2 : (v.toInt % 4294967296).bmod Int32.size % 4294967296 = v.toInt % 4294967296 := by
      rw [show Int32.size = 4294967296 from rfl, Int.bmod_def]
      omega
    rw [e1, e2]
    omega
  rw [e]
  exact Int64.ofInt_toInt v
/-- a fixed launch's classes, the cells' addresses, the arrays' classes -/
abbrev GT : Type := va_G × (Nat → Nat) × (Nat → ClassId)
def sw_fv (ad : Nat → Nat) (r : Nat → Int32) (i : Nat) : Nat ⊕ Nat → Value
  | .inl j => .ref (ad j)
  | .inr 0 => .int (r i)
  | .inr (_ + 1) => .long (sw_jn (r (2 * i)) (r (2 * i + 1)))
def sw_fs (ad : Nat → Nat) (r : Nat → Int32) : Nat → List (Nat ⊕ Nat) → List Value
  | _, [] => []
  | i, t :: ts => sw_fv ad r i t :: sw_fs ad r (i + 1) ts
theorem sw_fs_at (ad : Nat → Nat) (r : Nat → Int32) : ∀ (ts : List (Nat ⊕ Nat)) (i k : Nat), (sw_fs ad r i ts)[k]? = (ts[k]?).map (sw_fv ad r (i + k))
  | [], i, k => by simp [sw_fs]
  | t :: ts, i, 0 => by simp [sw_fs]
  | t :: ts, i, k + 1 => by
    simp only [sw_fs, List.getElem?_cons_succ]
    rw [sw_fs_at ad r ts (i + 1) k, Nat.add_right_comm, Nat.add_assoc]
theorem sw_fs_len (ad : Nat → Nat) (r : Nat → Int32) : ∀ (ts : List (Nat ⊕ Nat)) (i : Nat), (sw_fs ad r i ts).length = ts.length
  | [], i => rfl
  | t :: ts, i => by simp [sw_fs, sw_fs_len ad r ts (i + 1)]
def sw_img (ad : Nat → Nat) : Nat → Option Nat := fun j => some (ad (if j = 0 then 26 else 34))
def sw_e (ad : Nat → Nat) (ar : Nat → ClassId) (r : Nat → Int32) : KdT → va_E
  | .inl (ci, tm) => .inr (ci, sw_fs ad r 0 tm)
  | .inr (3, n) => .inl (ar 3, n, .inr (.inr (.inr (.inr (sw_img ad)))))
  | .inr (q, n) => .inl (ar q, n, .inl r)
def sw_cell (ad : Nat → Nat) (ar : Nat → ClassId) (μ : MemT) (k : Nat) : va_E := match kdL[k]? with
  | some kd => sw_e ad ar (μ k) kd
  | none => .inl (ar 0, 0, .inl (μ k))
theorem sw_cell_of {ad : Nat → Nat} {ar : Nat → ClassId} {μ : MemT} {k : Nat} {kd : KdT} (h : kdL[k]? = some kd) : sw_cell ad ar μ k = sw_e ad ar (μ k) kd := by
  unfold sw_cell
  rw [h]
def sw_ws (ad : Nat → Nat) (ar : Nat → ClassId) (μ : MemT) : va_W := (List.range 79).map (fun k => (ad k, sw_cell ad ar μ k))
theorem sw_ws_at {ad : Nat → Nat} {ar : Nat → ClassId} {μ : MemT} {k : Nat} {kd : KdT} (h : kdL[k]? = some kd) : (sw_ws ad ar μ)[k]? = some (ad k, sw_e ad ar (μ k) kd) := by
  have hk : k < 79 := by
    have := (List.getElem?_eq_some_iff.mp h).1
    rwa [kdL_len] at this
  unfold sw_ws
  rw [List.getElem?_map, List.getElem?_range hk]
  show some (ad k, sw_cell ad ar μ k) = _
  rw [sw_cell_of h]
theorem sw_ws_len (ad : Nat → Nat) (ar : Nat → ClassId) (μ : MemT) : (sw_ws ad ar μ).length = 79 := by simp [sw_ws]
theorem sw_ws_set {ad : Nat → Nat} {ar : Nat → ClassId} {μ : MemT} {k : Nat} {kd : KdT} (h : kdL[k]? = some kd) (r : Nat → Int32) : (sw_ws ad ar μ).set k (ad k, sw_e ad ar r kd) = sw_ws ad ar (mset μ k r) := by
  have hk : k < 79 := by
    have := (List.getElem?_eq_some_iff.mp h).1
    rwa [kdL_len] at this
  apply List.ext_getElem?
  intro j
  by_cases hj : j = k
  · subst hj
    rw [List.getElem?_set_self (by rw [sw_ws_len]; exact hk), sw_ws_at h, mset_self]
  · rw [List.getElem?_set_ne (Ne.symm hj)]
    by_cases hj2 : j < 79
    · unfold sw_ws
      rw [List.getElem?_map, List.getElem?_map, List.getElem?_range hj2]
      show some (ad j, sw_cell ad ar μ j) = some (ad j, sw_cell ad ar (mset μ k r) j)
      unfold sw_cell
      rw [mset_ne μ r hj]
    · rw [List.getElem?_eq_none (by rw [sw_ws_len]; omega), List.getElem?_eq_none (by rw [sw_ws_len]; omega)]
def sw_P (G : GT) (μ : MemT) (H : Heap) : Prop := va_P G.1 vwCl (sw_ws G.2.1 G.2.2 μ) H
def sw_tys (ar : Nat → ClassId) : List (ClassId × FieldType) := [(ar 0, .int), (ar 1, .byte), (ar 2, .boolean), (ar 3, .object "SwornPounds$Town")]
def sw_K (G : GT) (U : State) : Prop := va_K G.1 vwCl (sw_tys G.2.2) U ∧ ∀ w ∈ wL_nest, va_Nw w U
def sw_D (ad : Nat → Nat) : Prop := ∀ i j : Nat, i < 79 → j < 79 → ad i = ad j → i = j
def sw_A (G : GT) : Nat → Prop := fun q => ∃ k : Nat, k < 79 ∧ q = G.2.1 k
theorem wL_nest_form : ∀ w ∈ wL_nest, ∃ (a : String) (i : Nat) (x : MethodName) (h : String), w = .methodLinkNest a i x h := by
  intro w hw
  simp only [wL_nest, List.mem_cons, List.not_mem_nil, or_false] at hw
  rcases hw with h | h | h | h | h | h | h | h | h | h | h | h | h | h | h <;> exact ⟨_, _, _, _, h⟩
theorem sw_K.warm {G : GT} {s U : State} (hW : s.WarmedH U.vm) (h : sw_K G s) : sw_K G U := by
  refine ⟨va_K.moved hW.alike h.1, fun w hw => ?_⟩
  obtain ⟨a, i, x, h2, rfl⟩ := wL_nest_form w hw
  exact va_Nw.warmM hW (h.2 _ hw)
theorem sw_K.same {G : GT} {s U : State} (hvm : s.vm = U.vm) (h : sw_K G s) : sw_K G U := by
  refine ⟨va_K.moved (by rw [hvm]; exact Vm.Alike.refl U.vm) h.1, fun w hw => ?_⟩
  obtain ⟨a, i, x, h2, rfl⟩ := wL_nest_form w hw
  exact va_Nw.same rfl hvm (h.2 _ hw)
theorem sw_Dd {ad : Nat → Nat} {ar : Nat → ClassId} {μ : MemT} {A : Nat → Prop} (hD : sw_D ad) (hA : ∀ k, k < 79 → A (ad k)) : va_D A (sw_ws ad ar μ) := by
  have at' : ∀ (k : Nat) (q : Nat × va_E), (sw_ws ad ar μ)[k]? = some q → k < 79 ∧ q.1 = ad k := by
    intro k q h
    have hk : k < 79 := by
      have := (List.getElem?_eq_some_iff.mp h).1
      rwa [sw_ws_len] at this
    unfold sw_ws at h
    rw [List.getElem?_map, List.getElem?_range hk] at h
    cases h
    exact ⟨hk, rfl⟩
  refine ⟨fun i j p q hi hj h => ?_, fun k q h => ?_⟩
  · obtain ⟨a1, a2⟩ := at' i p hi
    obtain ⟨b1, b2⟩ := at' j q hj
    exact hD i j a1 b1 (by rw [← a2, ← b2, h])
  · obtain ⟨a1, a2⟩ := at' k q h
    rw [a2]
    exact hA k a1
/-! the locals by place -/
def sw_L (ls : Array Slot) (n : Nat) (lv : List (Option Value)) : Prop := ls.size = n ∧ lv_wf ls ∧ ∀ (i : Nat) (v : Value), lv[i]? = some (some v) → ls[i]? = some (.val v)
def l_as : Nat → List (Option Value) → List (Nat × Value)
  | _, [] => []
  | i, some v :: r => (i, v) :: l_as (i + 1) r
  | i, none :: r => l_as (i + 1) r
theorem l_as_mem : ∀ (lv : List (Option Value)) (b i : Nat) (v : Value), (i, v) ∈ l_as b lv ↔ b ≤ i ∧ lv[i - b]? = some (some v)
  | [], b, i, v => by simp [l_as]
  | none :: r, b, i, v => by
    rw [l_as, l_as_mem r (b + 1) i v]
    constructor
    · rintro ⟨h1, h2⟩
      refine ⟨by omega, ?_⟩
      rw [show i - b = (i - (b + 1)) + 1 by omega, List.getElem?_cons_succ]
      exact h2
    · rintro ⟨h1, h2⟩
      by_cases hb : i = b
      · subst hb
        simp at h2
      · refine ⟨by omega, ?_⟩
        rw [show i - b = (i - (b + 1)) + 1 by omega, List.getElem?_cons_succ] at h2
        exact h2
  | some w :: r, b, i, v => by
    rw [l_as, List.mem_cons, l_as_mem r (b + 1) i v]
    constructor
    · rintro (h | ⟨h1, h2⟩)
      · cases h
        exact ⟨Nat.le_refl _, by simp⟩
      · refine ⟨by omega, ?_⟩
        rw [show i - b = (i - (b + 1)) + 1 by omega, List.getElem?_cons_succ]
        exact h2
    · rintro ⟨h1, h2⟩
      by_cases hb : i = b
      · subst hb
        simp at h2
        exact Or.inl (by rw [h2])
      · refine Or.inr ⟨by omega, ?_⟩
        rw [show i - b = (i - (b + 1)) + 1 by omega, List.getElem?_cons_succ] at h2
        exact h2
theorem sw_L.has {ls : Array Slot} {n : Nat} {lv : List (Option Value)} (h : sw_L ls n lv) : lv_has ls n (l_as 0 lv) := by
  refine ⟨h.1, h.2.1, fun q hq => ?_⟩
  obtain ⟨i, v⟩ := q
  have := (l_as_mem lv 0 i v).mp hq
  exact h.2.2 i v (by simpa using this.2)
def okS (lv : List (Option Value)) : Nat → Bool
  | 0 => true
  | j + 1 => match lv[j]? with
    | some (some w) => w.category == 1
    | _ => true
theorem okS_use {lv : List (Option Value)} {i j : Nat} {w : Value} (h : okS lv i = true) (hj : j + 1 = i) (hw : lv[j]? = some (some w)) : w.category = 1 := by
  subst hj
  simp only [okS, hw] at h
  exact eq_of_beq h
theorem sw_L.st1 {ls' : Array Slot} {n i : Nat} {lv : List (Option Value)} {v : Value} (hok : okS lv i = true) (h' : lv_has ls' n ((i, v) :: (l_as 0 lv).filter (fun q => !(q.1 == i) && !(q.1 + 1 == i && q.2.category == 2)))) : sw_L ls' n (lv.set i (some v)) := by
  refine ⟨h'.1, h'.2.1, fun j w hj => ?_⟩
  by_cases hji : j = i
  · subst hji
    have hl : j < (lv.set j (some v)).length := (List.getElem?_eq_some_iff.mp hj).1
    rw [List.length_set] at hl
    rw [List.getElem?_set_self hl] at hj
    cases hj
    exact h'.2.2 (j, v) List.mem_cons_self
  · rw [List.getElem?_set_ne (Ne.symm hji)] at hj
    refine h'.2.2 (j, w) (List.mem_cons_of_mem _ (List.mem_filter.mpr ⟨(l_as_mem lv 0 j w).mpr ⟨Nat.zero_le _, by simpa using hj⟩, ?_⟩))
    by_cases hji2 : j + 1 = i
    · have := okS_use hok hji2 hj
      simp [hji, this]
    · simp [hji, hji2]
theorem sw_L.st2 {ls' : Array Slot} {n i : Nat} {lv : List (Option Value)} {v : Value} (hok : okS lv i = true) (h' : lv_has ls' n ((i, v) :: (l_as 0 lv).filter (fun q => !(q.1 == i) && (!(q.1 == i + 1) && !(q.1 + 1 == i && q.2.category == 2))))) : sw_L ls' n ((lv.set i (some v)).set (i + 1) none) := by
  refine ⟨h'.1, h'.2.1, fun j w hj => ?_⟩
  by_cases hj1 : j = i + 1
  · subst hj1
    have hl : i + 1 < ((lv.set i (some v)).set (i + 1) none).length := (List.getElem?_eq_some_iff.mp hj).1
    rw [List.length_set] at hl
    rw [List.getElem?_set_self hl] at hj
    cases hj
  rw [List.getElem?_set_ne (Ne.symm hj1)] at hj
  by_cases hji : j = i
  · subst hji
    have hl : j < (lv.set j (some v)).length := (List.getElem?_eq_some_iff.mp hj).1
    rw [List.length_set] at hl
    rw [List.getElem?_set_self hl] at hj
    cases hj
    exact h'.2.2 (j, v) List.mem_cons_self
  · rw [List.getElem?_set_ne (Ne.symm hji)] at hj
    refine h'.2.2 (j, w) (List.mem_cons_of_mem _ (List.mem_filter.mpr ⟨(l_as_mem lv 0 j w).mpr ⟨Nat.zero_le _, by simpa using hj⟩, ?_⟩))
    by_cases hji2 : j + 1 = i
    · have := okS_use hok hji2 hj
      simp [hji, hj1, this]
    · simp [hji, hj1, hji2]
theorem sw_L.weak {ls : Array Slot} {n : Nat} {lv lv' : List (Option Value)} (h : sw_L ls n lv) (hw : ∀ (i : Nat) (v : Value), lv'[i]? = some (some v) → lv[i]? = some (some v)) : sw_L ls n lv' := ⟨h.1, h.2.1, fun i v hv => h.2.2 i v (hw i v hv)⟩
theorem set_none_weak {lv : List (Option Value)} {k : Nat} : ∀ (i : Nat) (v : Value), (lv.set k none)[i]? = some (some v) → lv[i]? = some (some v) := by
  intro i v h
  by_cases hk : i = k
  · subst hk
    have hl : i < (lv.set i none).length := (List.getElem?_eq_some_iff.mp h).1
    rw [List.length_set] at hl
    rw [List.getElem?_set_self hl] at h
    cases h
  · rwa [List.getElem?_set_ne (Ne.symm hk)] at h
/-! the judgement -/
abbrev KT : Type := Program → Env → State → MethodId → Array Value → List Frame → Method → Code → (Nat → Prop) → Nat → Nat → (State → Prop) → Prop
def sw_F (G : GT) (R : Room) (cc : ByteArray) (n : Nat) (own : String) (p : Program) (s : State) (m : MethodId) (args : Array Value) (c : Code) (A : Nat → Prop) (cells slots : Nat) : Prop :=
  p.tables.exec = Jvm.exec ∧ c.code = cc ∧ c.maxLocals = n ∧ s.vm.findClass own = some m.cls ∧ (∀ w ∈ wL, w.before args s = true) ∧ sw_K G s ∧ cells ≤ R.cells ∧ slots ≤ R.slots ∧ (∀ k, k < 79 → A (G.2.1 k)) ∧ sw_D G.2.1
def Yj (l : Launch) (G : GT) (R : Room) (κ : KT) (cc : ByteArray) (n : Nat) (own : String) (μ : MemT) (pc : Nat) (lv : List (Option Value)) (st : List Value) : Prop :=
  ∀ (p : Program) (e : Env) (s : State) (m : MethodId) (args : Array Value) (below : List Frame) (meth : Method) (c : Code) (A : Nat → Prop) (cells slots : Nat) (Q : State → Prop), κ p e s m args below meth c A cells slots Q → sw_F G R cc n own p s m args c A cells slots → ∀ (H : Heap) (locs : List Loc) (ls : Array Slot), sw_P G μ H → va_S A s.heap H locs → sw_L ls n lv → W p l e R s m args below meth c H locs cells slots Q (F0 m pc ls st)

theorem y_iconst {l : Launch} {G : GT} {R : Room} {κ : KT} {cc : ByteArray} {n : Nat} {own : String} {μ : MemT} {pc : Nat} {lv : List (Option Value)} {st : List Value} {k : Int} {v : Int32} (d : decode cc pc = .ok (.iconst k, 1)) (hv : Int32.ofInt k = v) (h : Yj l G R κ cc n own μ (pc + 1) lv (.int v :: st)) : Yj l G R κ cc n own μ pc lv st := fun p e s m args below meth c A cells slots Q hk F H locs ls hP hS hl => lv_iconst F.1 F.2.1 d hv (h p e s m args below meth c A cells slots Q hk F H locs ls hP hS hl)
theorem y_bipush {l : Launch} {G : GT} {R : Room} {κ : KT} {cc : ByteArray} {n : Nat} {own : String} {μ : MemT} {pc : Nat} {lv : List (Option Value)} {st : List Value} {k : Int} {v : Int32} (d : decode cc pc = .ok (.bipush k, 2)) (hv : (Int8.ofInt k).toInt32 = v) (h : Yj l G R κ cc n own μ (pc + 2) lv (.int v :: st)) : Yj l G R κ cc n own μ pc lv st := fun p e s m args below meth c A cells slots Q hk F H locs ls hP hS hl => lv_bipush F.1 F.2.1 d hv (h p e s m args below meth c A cells slots Q hk F H locs ls hP hS hl)
theorem y_sipush {l : Launch} {G : GT} {R : Room} {κ : KT} {cc : ByteArray} {n : Nat} {own : String} {μ : MemT} {pc : Nat} {lv : List (Option Value)} {st : List Value} {k : Int} {v : Int32} (d : decode cc pc = .ok (.sipush k, 3)) (hv : (Int16.ofInt k).toInt32 = v) (h : Yj l G R κ cc n own μ (pc + 3) lv (.int v :: st)) : Yj l G R κ cc n own μ pc lv st := fun p e s m args below meth c A cells slots Q hk F H locs ls hP hS hl => lv_sipush F.1 F.2.1 d hv (h p e s m args below meth c A cells slots Q hk F H locs ls hP hS hl)
theorem y_lconst {l : Launch} {G : GT} {R : Room} {κ : KT} {cc : ByteArray} {n : Nat} {own : String} {μ : MemT} {pc : Nat} {lv : List (Option Value)} {st : List Value} {k : Fin 2} {v : Int64} (d : decode cc pc = .ok (.lconst k, 1)) (hv : Int64.ofNat (k : Nat) = v) (h : Yj l G R κ cc n own μ (pc + 1) lv (.long v :: st)) : Yj l G R κ cc n own μ pc lv st := fun p e s m args below meth c A cells slots Q hk F H locs ls hP hS hl => lv_lconst F.1 F.2.1 d hv (h p e s m args below meth c A cells slots Q hk F H locs ls hP hS hl)
theorem y_ldc {l : Launch} {G : GT} {R : Room} {κ : KT} {cc : ByteArray} {n : Nat} {own : String} {μ : MemT} {pc : Nat} {lv : List (Option Value)} {st : List Value} {index : Nat} {v : Int32} (d : decode cc pc = .ok (.ldc index, 2)) (hw : Cond.constant own index v ∈ wL) (h : Yj l G R κ cc n own μ (pc + 2) lv (.int v :: st)) : Yj l G R κ cc n own μ pc lv st := fun p e s m args below meth c A cells slots Q hk F H locs ls hP hS hl => lv_ldc F.1 F.2.1 F.2.2.2.1 (F.2.2.2.2.1 _ hw) d (h p e s m args below meth c A cells slots Q hk F H locs ls hP hS hl)
theorem y_ldcw {l : Launch} {G : GT} {R : Room} {κ : KT} {cc : ByteArray} {n : Nat} {own : String} {μ : MemT} {pc : Nat} {lv : List (Option Value)} {st : List Value} {index : Nat} {v : Int32} (d : decode cc pc = .ok (.ldc_w index, 3)) (hw : Cond.constant own index v ∈ wL) (h : Yj l G R κ cc n own μ (pc + 3) lv (.int v :: st)) : Yj l G R κ cc n own μ pc lv st := fun p e s m args below meth c A cells slots Q hk F H locs ls hP hS hl => lv_ldcw F.1 F.2.1 F.2.2.2.1 (F.2.2.2.2.1 _ hw) d (h p e s m args below meth c A cells slots Q hk F H locs ls hP hS hl)
theorem y_ldc2 {l : Launch} {G : GT} {R : Room} {κ : KT} {cc : ByteArray} {n : Nat} {own : String} {μ : MemT} {pc : Nat} {lv : List (Option Value)} {st : List Value} {index : Nat} {v : Int64} (d : decode cc pc = .ok (.ldc2_w index, 3)) (hw : Cond.constantLong own index v ∈ wL) (h : Yj l G R κ cc n own μ (pc + 3) lv (.long v :: st)) : Yj l G R κ cc n own μ pc lv st := fun p e s m args below meth c A cells slots Q hk F H locs ls hP hS hl => lv_ldc2 F.1 F.2.1 F.2.2.2.1 (F.2.2.2.2.1 _ hw) d (h p e s m args below meth c A cells slots Q hk F H locs ls hP hS hl)
theorem y_iload_n {l : Launch} {G : GT} {R : Room} {κ : KT} {cc : ByteArray} {n : Nat} {own : String} {μ : MemT} {pc : Nat} {lv : List (Option Value)} {st : List Value} {k : Fin 4} {i : Nat} {x : Int32} (d : decode cc pc = .ok (.iload_n k, 1)) (hi : (k : Nat) = i) (hx : lv[i]? = some (some (.int x))) (h : Yj l G R κ cc n own μ (pc + 1) lv (.int x :: st)) : Yj l G R κ cc n own μ pc lv st := fun p e s m args below meth c A cells slots Q hk F H locs ls hP hS hl => lv_iload_n F.1 F.2.1 d hi (hl.2.2 _ _ hx) (h p e s m args below meth c A cells slots Q hk F H locs ls hP hS hl)
theorem y_iload {l : Launch} {G : GT} {R : Room} {κ : KT} {cc : ByteArray} {n : Nat} {own : String} {μ : MemT} {pc : Nat} {lv : List (Option Value)} {st : List Value} {i : Nat} {x : Int32} (d : decode cc pc = .ok (.iload i, 2)) (hx : lv[i]? = some (some (.int x))) (h : Yj l G R κ cc n own μ (pc + 2) lv (.int x :: st)) : Yj l G R κ cc n own μ pc lv st := fun p e s m args below meth c A cells slots Q hk F H locs ls hP hS hl => lv_iload F.1 F.2.1 d (hl.2.2 _ _ hx) (h p e s m args below meth c A cells slots Q hk F H locs ls hP hS hl)
theorem y_lload_n {l : Launch} {G : GT} {R : Room} {κ : KT} {cc : ByteArray} {n : Nat} {own : String} {μ : MemT} {pc : Nat} {lv : List (Option Value)} {st : List Value} {k : Fin 4} {i : Nat} {x : Int64} (d : decode cc pc = .ok (.lload_n k, 1)) (hi : (k : Nat) = i) (hx : lv[i]? = some (some (.long x))) (h : Yj l G R κ cc n own μ (pc + 1) lv (.long x :: st)) : Yj l G R κ cc n own μ pc lv st := fun p e s m args below meth c A cells slots Q hk F H locs ls hP hS hl => lv_lload_n F.1 F.2.1 d hi (hl.2.2 _ _ hx) (h p e s m args below meth c A cells slots Q hk F H locs ls hP hS hl)
theorem y_lload {l : Launch} {G : GT} {R : Room} {κ : KT} {cc : ByteArray} {n : Nat} {own : String} {μ : MemT} {pc : Nat} {lv : List (Option Value)} {st : List Value} {i : Nat} {x : Int64} (d : decode cc pc = .ok (.lload i, 2)) (hx : lv[i]? = some (some (.long x))) (h : Yj l G R κ cc n own μ (pc + 2) lv (.long x :: st)) : Yj l G R κ cc n own μ pc lv st := fun p e s m args below meth c A cells slots Q hk F H locs ls hP hS hl => lv_lload F.1 F.2.1 d (hl.2.2 _ _ hx) (h p e s m args below meth c A cells slots Q hk F H locs ls hP hS hl)
theorem y_aload_n {l : Launch} {G : GT} {R : Room} {κ : KT} {cc : ByteArray} {n : Nat} {own : String} {μ : MemT} {pc : Nat} {lv : List (Option Value)} {st : List Value} {k : Fin 4} {i : Nat} {x : Nat} (d : decode cc pc = .ok (.aload_n k, 1)) (hi : (k : Nat) = i) (hx : lv[i]? = some (some (.ref x))) (h : Yj l G R κ cc n own μ (pc + 1) lv (.ref x :: st)) : Yj l G R κ cc n own μ pc lv st := fun p e s m args below meth c A cells slots Q hk F H locs ls hP hS hl => lv_aload_n F.1 F.2.1 d hi (hl.2.2 _ _ hx) (h p e s m args below meth c A cells slots Q hk F H locs ls hP hS hl)
theorem y_aload {l : Launch} {G : GT} {R : Room} {κ : KT} {cc : ByteArray} {n : Nat} {own : String} {μ : MemT} {pc : Nat} {lv : List (Option Value)} {st : List Value} {i : Nat} {x : Nat} (d : decode cc pc = .ok (.aload i, 2)) (hx : lv[i]? = some (some (.ref x))) (h : Yj l G R κ cc n own μ (pc + 2) lv (.ref x :: st)) : Yj l G R κ cc n own μ pc lv st := fun p e s m args below meth c A cells slots Q hk F H locs ls hP hS hl => lv_aload F.1 F.2.1 d (hl.2.2 _ _ hx) (h p e s m args below meth c A cells slots Q hk F H locs ls hP hS hl)
theorem y_istore_n {l : Launch} {G : GT} {R : Room} {κ : KT} {cc : ByteArray} {n : Nat} {own : String} {μ : MemT} {pc : Nat} {lv : List (Option Value)} {st : List Value} {k : Fin 4} {i : Nat} {x : Int32} (d : decode cc pc = .ok (.istore_n k, 1)) (hi : (k : Nat) = i) (hok : okS lv i = true) (hn : i < n) (h : Yj l G R κ cc n own μ (pc + 1) (lv.set i (some (.int x))) st) : Yj l G R κ cc n own μ pc lv (.int x :: st) := fun p e s m args below meth c A cells slots Q hk F H locs ls hP hS hl => lv_istore_n F.1 F.2.1 d hi hl.has hn rfl (fun ls2 hl2 => h p e s m args below meth c A cells slots Q hk F H locs ls2 hP hS (sw_L.st1 hok hl2))
theorem y_istore {l : Launch} {G : GT} {R : Room} {κ : KT} {cc : ByteArray} {n : Nat} {own : String} {μ : MemT} {pc : Nat} {lv : List (Option Value)} {st : List Value} {i : Nat} {x : Int32} (d : decode cc pc = .ok (.istore i, 2)) (hok : okS lv i = true) (hn : i < n) (h : Yj l G R κ cc n own μ (pc + 2) (lv.set i (some (.int x))) st) : Yj l G R κ cc n own μ pc lv (.int x :: st) := fun p e s m args below meth c A cells slots Q hk F H locs ls hP hS hl => lv_istore F.1 F.2.1 d hl.has hn rfl (fun ls2 hl2 => h p e s m args below meth c A cells slots Q hk F H locs ls2 hP hS (sw_L.st1 hok hl2))
theorem y_astore_n {l : Launch} {G : GT} {R : Room} {κ : KT} {cc : ByteArray} {n : Nat} {own : String} {μ : MemT} {pc : Nat} {lv : List (Option Value)} {st : List Value} {k : Fin 4} {i : Nat} {x : Nat} (d : decode cc pc = .ok (.astore_n k, 1)) (hi : (k : Nat) = i) (hok : okS lv i = true) (hn : i < n) (h : Yj l G R κ cc n own μ (pc + 1) (lv.set i (some (.ref x))) st) : Yj l G R κ cc n own μ pc lv (.ref x :: st) := fun p e s m args below meth c A cells slots Q hk F H locs ls hP hS hl => lv_astore_n F.1 F.2.1 d hi hl.has hn rfl (fun ls2 hl2 => h p e s m args below meth c A cells slots Q hk F H locs ls2 hP hS (sw_L.st1 hok hl2))
theorem y_astore {l : Launch} {G : GT} {R : Room} {κ : KT} {cc : ByteArray} {n : Nat} {own : String} {μ : MemT} {pc : Nat} {lv : List (Option Value)} {st : List Value} {i : Nat} {x : Nat} (d : decode cc pc = .ok (.astore i, 2)) (hok : okS lv i = true) (hn : i < n) (h : Yj l G R κ cc n own μ (pc + 2) (lv.set i (some (.ref x))) st) : Yj l G R κ cc n own μ pc lv (.ref x :: st) := fun p e s m args below meth c A cells slots Q hk F H locs ls hP hS hl => lv_astore F.1 F.2.1 d hl.has hn rfl (fun ls2 hl2 => h p e s m args below meth c A cells slots Q hk F H locs ls2 hP hS (sw_L.st1 hok hl2))
theorem y_lstore_n {l : Launch} {G : GT} {R : Room} {κ : KT} {cc : ByteArray} {n : Nat} {own : String} {μ : MemT} {pc : Nat} {lv : List (Option Value)} {st : List Value} {k : Fin 4} {i : Nat} {x : Int64} (d : decode cc pc = .ok (.lstore_n k, 1)) (hi : (k : Nat) = i) (hok : okS lv i = true) (hn : i + 1 < n) (h : Yj l G R κ cc n own μ (pc + 1) ((lv.set i (some (.long x))).set (i + 1) none) st) : Yj l G R κ cc n own μ pc lv (.long x :: st) := fun p e s m args below meth c A cells slots Q hk F H locs ls hP hS hl => lv_lstore_n F.1 F.2.1 d hi hl.has hn rfl (fun ls2 hl2 => h p e s m args below meth c A cells slots Q hk F H locs ls2 hP hS (sw_L.st2 hok hl2))
theorem y_lstore {l : Launch} {G : GT} {R : Room} {κ : KT} {cc : ByteArray} {n : Nat} {own : String} {μ : MemT} {pc : Nat} {lv : List (Option Value)} {st : List Value} {i : Nat} {x : Int64} (d : decode cc pc = .ok (.lstore i, 2)) (hok : okS lv i = true) (hn : i + 1 < n) (h : Yj l G R κ cc n own μ (pc + 2) ((lv.set i (some (.long x))).set (i + 1) none) st) : Yj l G R κ cc n own μ pc lv (.long x :: st) := fun p e s m args below meth c A cells slots Q hk F H locs ls hP hS hl => lv_lstore F.1 F.2.1 d hl.has hn rfl (fun ls2 hl2 => h p e s m args below meth c A cells slots Q hk F H locs ls2 hP hS (sw_L.st2 hok hl2))
theorem l_as_place {lv : List (Option Value)} {i : Nat} {v : Value} (h : lv[i]? = some (some v)) : ∃ k : Nat, (l_as 0 lv)[k]? = some (i, v) := by
  have : (i, v) ∈ l_as 0 lv := (l_as_mem lv 0 i v).mpr ⟨Nat.zero_le _, by simpa using h⟩
  exact List.getElem?_of_mem this
theorem y_iinc {l : Launch} {G : GT} {R : Room} {κ : KT} {cc : ByteArray} {n : Nat} {own : String} {μ : MemT} {pc : Nat} {lv : List (Option Value)} {st : List Value} {i : Nat} {k : Int} {x v : Int32} (d : decode cc pc = .ok (.iinc i k, 3)) (hx : lv[i]? = some (some (.int x))) (hv : x + Int32.ofInt k = v) (hok : okS lv i = true) (hn : i < n) (h : Yj l G R κ cc n own μ (pc + 3) (lv.set i (some (.int v))) st) : Yj l G R κ cc n own μ pc lv st := fun p e s m args below meth c A cells slots Q hk F H locs ls hP hS hl => (l_as_place hx).elim fun _ hp => lv_iinc F.1 F.2.1 d hl.has hp hv hn rfl (fun ls2 hl2 => h p e s m args below meth c A cells slots Q hk F H locs ls2 hP hS (sw_L.st1 hok hl2))
theorem y_iadd {l : Launch} {G : GT} {R : Room} {κ : KT} {cc : ByteArray} {n : Nat} {own : String} {μ : MemT} {pc : Nat} {lv : List (Option Value)} {st : List Value} {x y : Int32} (d : decode cc pc = .ok (.iadd, 1)) (h : Yj l G R κ cc n own μ (pc + 1) lv (.int (x + y) :: st)) : Yj l G R κ cc n own μ pc lv (.int y :: .int x :: st) := fun p e s m args below meth c A cells slots Q hk F H locs ls hP hS hl => lv_iadd F.1 F.2.1 d (h p e s m args below meth c A cells slots Q hk F H locs ls hP hS hl)
theorem y_isub {l : Launch} {G : GT} {R : Room} {κ : KT} {cc : ByteArray} {n : Nat} {own : String} {μ : MemT} {pc : Nat} {lv : List (Option Value)} {st : List Value} {x y : Int32} (d : decode cc pc = .ok (.isub, 1)) (h : Yj l G R κ cc n own μ (pc + 1) lv (.int (x - y) :: st)) : Yj l G R κ cc n own μ pc lv (.int y :: .int x :: st) := fun p e s m args below meth c A cells slots Q hk F H locs ls hP hS hl => lv_isub F.1 F.2.1 d (h p e s m args below meth c A cells slots Q hk F H locs ls hP hS hl)
theorem y_imul {l : Launch} {G : GT} {R : Room} {κ : KT} {cc : ByteArray} {n : Nat} {own : String} {μ : MemT} {pc : Nat} {lv : List (Option Value)} {st : List Value} {x y : Int32} (d : decode cc pc = .ok (.imul, 1)) (h : Yj l G R κ cc n own μ (pc + 1) lv (.int (x * y) :: st)) : Yj l G R κ cc n own μ pc lv (.int y :: .int x :: st) := fun p e s m args below meth c A cells slots Q hk F H locs ls hP hS hl => lv_imul F.1 F.2.1 d (h p e s m args below meth c A cells slots Q hk F H locs ls hP hS hl)
theorem y_iand {l : Launch} {G : GT} {R : Room} {κ : KT} {cc : ByteArray} {n : Nat} {own : String} {μ : MemT} {pc : Nat} {lv : List (Option Value)} {st : List Value} {x y : Int32} (d : decode cc pc = .ok (.iand, 1)) (h : Yj l G R κ cc n own μ (pc + 1) lv (.int (x &&& y) :: st)) : Yj l G R κ cc n own μ pc lv (.int y :: .int x :: st) := fun p e s m args below meth c A cells slots Q hk F H locs ls hP hS hl => lv_iand F.1 F.2.1 d (h p e s m args below meth c A cells slots Q hk F H locs ls hP hS hl)
theorem y_ior {l : Launch} {G : GT} {R : Room} {κ : KT} {cc : ByteArray} {n : Nat} {own : String} {μ : MemT} {pc : Nat} {lv : List (Option Value)} {st : List Value} {x y : Int32} (d : decode cc pc = .ok (.ior, 1)) (h : Yj l G R κ cc n own μ (pc + 1) lv (.int (x ||| y) :: st)) : Yj l G R κ cc n own μ pc lv (.int y :: .int x :: st) := fun p e s m args below meth c A cells slots Q hk F H locs ls hP hS hl => lv_ior F.1 F.2.1 d (h p e s m args below meth c A cells slots Q hk F H locs ls hP hS hl)
theorem y_ixor {l : Launch} {G : GT} {R : Room} {κ : KT} {cc : ByteArray} {n : Nat} {own : String} {μ : MemT} {pc : Nat} {lv : List (Option Value)} {st : List Value} {x y : Int32} (d : decode cc pc = .ok (.ixor, 1)) (h : Yj l G R κ cc n own μ (pc + 1) lv (.int (x ^^^ y) :: st)) : Yj l G R κ cc n own μ pc lv (.int y :: .int x :: st) := fun p e s m args below meth c A cells slots Q hk F H locs ls hP hS hl => lv_ixor F.1 F.2.1 d (h p e s m args below meth c A cells slots Q hk F H locs ls hP hS hl)
theorem y_ishl {l : Launch} {G : GT} {R : Room} {κ : KT} {cc : ByteArray} {n : Nat} {own : String} {μ : MemT} {pc : Nat} {lv : List (Option Value)} {st : List Value} {x y : Int32} (d : decode cc pc = .ok (.ishl, 1)) (h : Yj l G R κ cc n own μ (pc + 1) lv (.int (x <<< (y &&& 31)) :: st)) : Yj l G R κ cc n own μ pc lv (.int y :: .int x :: st) := fun p e s m args below meth c A cells slots Q hk F H locs ls hP hS hl => lv_ishl F.1 F.2.1 d (h p e s m args below meth c A cells slots Q hk F H locs ls hP hS hl)
theorem y_ishr {l : Launch} {G : GT} {R : Room} {κ : KT} {cc : ByteArray} {n : Nat} {own : String} {μ : MemT} {pc : Nat} {lv : List (Option Value)} {st : List Value} {x y : Int32} (d : decode cc pc = .ok (.ishr, 1)) (h : Yj l G R κ cc n own μ (pc + 1) lv (.int (x >>> (y &&& 31)) :: st)) : Yj l G R κ cc n own μ pc lv (.int y :: .int x :: st) := fun p e s m args below meth c A cells slots Q hk F H locs ls hP hS hl => lv_ishr F.1 F.2.1 d (h p e s m args below meth c A cells slots Q hk F H locs ls hP hS hl)
theorem y_idiv {l : Launch} {G : GT} {R : Room} {κ : KT} {cc : ByteArray} {n : Nat} {own : String} {μ : MemT} {pc : Nat} {lv : List (Option Value)} {st : List Value} {x y : Int32} (d : decode cc pc = .ok (.idiv, 1)) (hne : ¬ y = 0) (h : Yj l G R κ cc n own μ (pc + 1) lv (.int (x / y) :: st)) : Yj l G R κ cc n own μ pc lv (.int y :: .int x :: st) := fun p e s m args below meth c A cells slots Q hk F H locs ls hP hS hl => lv_idiv F.1 F.2.1 d hne (h p e s m args below meth c A cells slots Q hk F H locs ls hP hS hl)
theorem y_irem {l : Launch} {G : GT} {R : Room} {κ : KT} {cc : ByteArray} {n : Nat} {own : String} {μ : MemT} {pc : Nat} {lv : List (Option Value)} {st : List Value} {x y : Int32} (d : decode cc pc = .ok (.irem, 1)) (hne : ¬ y = 0) (h : Yj l G R κ cc n own μ (pc + 1) lv (.int (x - x / y * y) :: st)) : Yj l G R κ cc n own μ pc lv (.int y :: .int x :: st) := fun p e s m args below meth c A cells slots Q hk F H locs ls hP hS hl => lv_irem F.1 F.2.1 d hne (h p e s m args below meth c A cells slots Q hk F H locs ls hP hS hl)
theorem y_ladd {l : Launch} {G : GT} {R : Room} {κ : KT} {cc : ByteArray} {n : Nat} {own : String} {μ : MemT} {pc : Nat} {lv : List (Option Value)} {st : List Value} {x y : Int64} (d : decode cc pc = .ok (.ladd, 1)) (h : Yj l G R κ cc n own μ (pc + 1) lv (.long (x + y) :: st)) : Yj l G R κ cc n own μ pc lv (.long y :: .long x :: st) := fun p e s m args below meth c A cells slots Q hk F H locs ls hP hS hl => lv_ladd F.1 F.2.1 d (h p e s m args below meth c A cells slots Q hk F H locs ls hP hS hl)
theorem y_lsub {l : Launch} {G : GT} {R : Room} {κ : KT} {cc : ByteArray} {n : Nat} {own : String} {μ : MemT} {pc : Nat} {lv : List (Option Value)} {st : List Value} {x y : Int64} (d : decode cc pc = .ok (.lsub, 1)) (h : Yj l G R κ cc n own μ (pc + 1) lv (.long (x - y) :: st)) : Yj l G R κ cc n own μ pc lv (.long y :: .long x :: st) := fun p e s m args below meth c A cells slots Q hk F H locs ls hP hS hl => lv_lsub F.1 F.2.1 d (h p e s m args below meth c A cells slots Q hk F H locs ls hP hS hl)
theorem y_lmul {l : Launch} {G : GT} {R : Room} {κ : KT} {cc : ByteArray} {n : Nat} {own : String} {μ : MemT} {pc : Nat} {lv : List (Option Value)} {st : List Value} {x y : Int64} (d : decode cc pc = .ok (.lmul, 1)) (h : Yj l G R κ cc n own μ (pc + 1) lv (.long (x * y) :: st)) : Yj l G R κ cc n own μ pc lv (.long y :: .long x :: st) := fun p e s m args below meth c A cells slots Q hk F H locs ls hP hS hl => lv_lmul F.1 F.2.1 d (h p e s m args below meth c A cells slots Q hk F H locs ls hP hS hl)
theorem y_ldiv {l : Launch} {G : GT} {R : Room} {κ : KT} {cc : ByteArray} {n : Nat} {own : String} {μ : MemT} {pc : Nat} {lv : List (Option Value)} {st : List Value} {x y : Int64} (d : decode cc pc = .ok (.ldiv, 1)) (hne : ¬ y = 0) (h : Yj l G R κ cc n own μ (pc + 1) lv (.long (x / y) :: st)) : Yj l G R κ cc n own μ pc lv (.long y :: .long x :: st) := fun p e s m args below meth c A cells slots Q hk F H locs ls hP hS hl => lv_ldiv F.1 F.2.1 d hne (h p e s m args below meth c A cells slots Q hk F H locs ls hP hS hl)
theorem y_lrem {l : Launch} {G : GT} {R : Room} {κ : KT} {cc : ByteArray} {n : Nat} {own : String} {μ : MemT} {pc : Nat} {lv : List (Option Value)} {st : List Value} {x y : Int64} (d : decode cc pc = .ok (.lrem, 1)) (hne : ¬ y = 0) (h : Yj l G R κ cc n own μ (pc + 1) lv (.long (x - x / y * y) :: st)) : Yj l G R κ cc n own μ pc lv (.long y :: .long x :: st) := fun p e s m args below meth c A cells slots Q hk F H locs ls hP hS hl => lv_lrem F.1 F.2.1 d hne (h p e s m args below meth c A cells slots Q hk F H locs ls hP hS hl)
theorem y_ineg {l : Launch} {G : GT} {R : Room} {κ : KT} {cc : ByteArray} {n : Nat} {own : String} {μ : MemT} {pc : Nat} {lv : List (Option Value)} {st : List Value} {x : Int32} (d : decode cc pc = .ok (.ineg, 1)) (h : Yj l G R κ cc n own μ (pc + 1) lv (.int (-x) :: st)) : Yj l G R κ cc n own μ pc lv (.int x :: st) := fun p e s m args below meth c A cells slots Q hk F H locs ls hP hS hl => lv_ineg F.1 F.2.1 d (h p e s m args below meth c A cells slots Q hk F H locs ls hP hS hl)
theorem y_lneg {l : Launch} {G : GT} {R : Room} {κ : KT} {cc : ByteArray} {n : Nat} {own : String} {μ : MemT} {pc : Nat} {lv : List (Option Value)} {st : List Value} {x : Int64} (d : decode cc pc = .ok (.lneg, 1)) (h : Yj l G R κ cc n own μ (pc + 1) lv (.long (-x) :: st)) : Yj l G R κ cc n own μ pc lv (.long x :: st) := fun p e s m args below meth c A cells slots Q hk F H locs ls hP hS hl => lv_lneg F.1 F.2.1 d (h p e s m args below meth c A cells slots Q hk F H locs ls hP hS hl)
theorem y_iushr {l : Launch} {G : GT} {R : Room} {κ : KT} {cc : ByteArray} {n : Nat} {own : String} {μ : MemT} {pc : Nat} {lv : List (Option Value)} {st : List Value} {x y : Int32} (d : decode cc pc = .ok (.iushr, 1)) (h : Yj l G R κ cc n own μ (pc + 1) lv (.int ((x.toUInt32 >>> (y.toUInt32 &&& Int32.toUInt32 31)).toInt32) :: st)) : Yj l G R κ cc n own μ pc lv (.int y :: .int x :: st) := fun p e s m args below meth c A cells slots Q hk F H locs ls hP hS hl => lv_iushr F.1 F.2.1 d rfl (h p e s m args below meth c A cells slots Q hk F H locs ls hP hS hl)
theorem y_i2l {l : Launch} {G : GT} {R : Room} {κ : KT} {cc : ByteArray} {n : Nat} {own : String} {μ : MemT} {pc : Nat} {lv : List (Option Value)} {st : List Value} {x : Int32} (d : decode cc pc = .ok (.i2l, 1)) (h : Yj l G R κ cc n own μ (pc + 1) lv (.long x.toInt64 :: st)) : Yj l G R κ cc n own μ pc lv (.int x :: st) := fun p e s m args below meth c A cells slots Q hk F H locs ls hP hS hl => lv_i2l F.1 F.2.1 d rfl (h p e s m args below meth c A cells slots Q hk F H locs ls hP hS hl)
theorem y_l2i {l : Launch} {G : GT} {R : Room} {κ : KT} {cc : ByteArray} {n : Nat} {own : String} {μ : MemT} {pc : Nat} {lv : List (Option Value)} {st : List Value} {x : Int64} (d : decode cc pc = .ok (.l2i, 1)) (h : Yj l G R κ cc n own μ (pc + 1) lv (.int x.toInt32 :: st)) : Yj l G R κ cc n own μ pc lv (.long x :: st) := fun p e s m args below meth c A cells slots Q hk F H locs ls hP hS hl => lv_l2i F.1 F.2.1 d rfl (h p e s m args below meth c A cells slots Q hk F H locs ls hP hS hl)
theorem y_lcmp {l : Launch} {G : GT} {R : Room} {κ : KT} {cc : ByteArray} {n : Nat} {own : String} {μ : MemT} {pc : Nat} {lv : List (Option Value)} {st : List Value} {x y : Int64} (d : decode cc pc = .ok (.lcmp, 1)) (h : Yj l G R κ cc n own μ (pc + 1) lv (.int (lg_cmp x y) :: st)) : Yj l G R κ cc n own μ pc lv (.long y :: .long x :: st) := fun p e s m args below meth c A cells slots Q hk F H locs ls hP hS hl => W.lcmp F.1 F.2.1 d (h p e s m args below meth c A cells slots Q hk F H locs ls hP hS hl)
theorem y_dup {l : Launch} {G : GT} {R : Room} {κ : KT} {cc : ByteArray} {n : Nat} {own : String} {μ : MemT} {pc : Nat} {lv : List (Option Value)} {st : List Value} {v : Value} (d : decode cc pc = .ok (.dup, 1)) (hv : v.category = 1) (h : Yj l G R κ cc n own μ (pc + 1) lv (v :: v :: st)) : Yj l G R κ cc n own μ pc lv (v :: st) := fun p e s m args below meth c A cells slots Q hk F H locs ls hP hS hl => lv_dup F.1 F.2.1 d hv (h p e s m args below meth c A cells slots Q hk F H locs ls hP hS hl)
theorem y_dup_x1 {l : Launch} {G : GT} {R : Room} {κ : KT} {cc : ByteArray} {n : Nat} {own : String} {μ : MemT} {pc : Nat} {lv : List (Option Value)} {st : List Value} {v w : Value} (d : decode cc pc = .ok (.dup_x1, 1)) (hv : v.category = 1) (hw : w.category = 1) (h : Yj l G R κ cc n own μ (pc + 1) lv (v :: w :: v :: st)) : Yj l G R κ cc n own μ pc lv (v :: w :: st) := fun p e s m args below meth c A cells slots Q hk F H locs ls hP hS hl => lv_dup_x1 F.1 F.2.1 d hv hw (h p e s m args below meth c A cells slots Q hk F H locs ls hP hS hl)
theorem y_dup2 {l : Launch} {G : GT} {R : Room} {κ : KT} {cc : ByteArray} {n : Nat} {own : String} {μ : MemT} {pc : Nat} {lv : List (Option Value)} {st : List Value} {v w : Value} (d : decode cc pc = .ok (.dup2, 1)) (hv : v.category = 1) (hw : w.category = 1) (h : Yj l G R κ cc n own μ (pc + 1) lv (v :: w :: v :: w :: st)) : Yj l G R κ cc n own μ pc lv (v :: w :: st) := fun p e s m args below meth c A cells slots Q hk F H locs ls hP hS hl => lv_dup2_11 F.1 F.2.1 d hv hw (h p e s m args below meth c A cells slots Q hk F H locs ls hP hS hl)
theorem y_pop {l : Launch} {G : GT} {R : Room} {κ : KT} {cc : ByteArray} {n : Nat} {own : String} {μ : MemT} {pc : Nat} {lv : List (Option Value)} {st : List Value} {v : Value} (d : decode cc pc = .ok (.pop, 1)) (hv : v.category = 1) (h : Yj l G R κ cc n own μ (pc + 1) lv st) : Yj l G R κ cc n own μ pc lv (v :: st) := fun p e s m args below meth c A cells slots Q hk F H locs ls hP hS hl => lv_pop F.1 F.2.1 d hv (h p e s m args below meth c A cells slots Q hk F H locs ls hP hS hl)
theorem y_if_eq {l : Launch} {G : GT} {R : Room} {κ : KT} {cc : ByteArray} {n : Nat} {own : String} {μ : MemT} {pc : Nat} {lv : List (Option Value)} {st : List Value} {x : Int32} {off : Int} (tgt : Nat) (d : decode cc pc = .ok (.ifCond .eq off, 3)) (ht : (pc : Int) + off = (tgt : Int)) (kt : (x = 0) → Yj l G R κ cc n own μ tgt lv st) (kf : ¬ (x = 0) → Yj l G R κ cc n own μ (pc + 3) lv st) : Yj l G R κ cc n own μ pc lv (.int x :: st) := fun p e s m args below meth c A cells slots Q hk F H locs ls hP hS hl => lv_if_eq F.1 F.2.1 d ht (fun q => kt q p e s m args below meth c A cells slots Q hk F H locs ls hP hS hl) (fun q => kf q p e s m args below meth c A cells slots Q hk F H locs ls hP hS hl)
theorem y_icmp_eq {l : Launch} {G : GT} {R : Room} {κ : KT} {cc : ByteArray} {n : Nat} {own : String} {μ : MemT} {pc : Nat} {lv : List (Option Value)} {st : List Value} {x y : Int32} {off : Int} (tgt : Nat) (d : decode cc pc = .ok (.if_icmp .eq off, 3)) (ht : (pc : Int) + off = (tgt : Int)) (kt : (x = y) → Yj l G R κ cc n own μ tgt lv st) (kf : ¬ (x = y) → Yj l G R κ cc n own μ (pc + 3) lv st) : Yj l G R κ cc n own μ pc lv (.int y :: .int x :: st) := fun p e s m args below meth c A cells slots Q hk F H locs ls hP hS hl => lv_icmp_eq F.1 F.2.1 d ht (fun q => kt q p e s m args below meth c A cells slots Q hk F H locs ls hP hS hl) (fun q => kf q p e s m args below meth c A cells slots Q hk F H locs ls hP hS hl)
theorem y_if_ne {l : Launch} {G : GT} {R : Room} {κ : KT} {cc : ByteArray} {n : Nat} {own : String} {μ : MemT} {pc : Nat} {lv : List (Option Value)} {st : List Value} {x : Int32} {off : Int} (tgt : Nat) (d : decode cc pc = .ok (.ifCond .ne off, 3)) (ht : (pc : Int) + off = (tgt : Int)) (kt : (¬ x = 0) → Yj l G R κ cc n own μ tgt lv st) (kf : (x = 0) → Yj l G R κ cc n own μ (pc + 3) lv st) : Yj l G R κ cc n own μ pc lv (.int x :: st) := fun p e s m args below meth c A cells slots Q hk F H locs ls hP hS hl => lv_if_ne F.1 F.2.1 d ht (fun q => kt q p e s m args below meth c A cells slots Q hk F H locs ls hP hS hl) (fun q => kf q p e s m args below meth c A cells slots Q hk F H locs ls hP hS hl)
theorem y_icmp_ne {l : Launch} {G : GT} {R : Room} {κ : KT} {cc : ByteArray} {n : Nat} {own : String} {μ : MemT} {pc : Nat} {lv : List (Option Value)} {st : List Value} {x y : Int32} {off : Int} (tgt : Nat) (d : decode cc pc = .ok (.if_icmp .ne off, 3)) (ht : (pc : Int) + off = (tgt : Int)) (kt : (¬ x = y) → Yj l G R κ cc n own μ tgt lv st) (kf : (x = y) → Yj l G R κ cc n own μ (pc + 3) lv st) : Yj l G R κ cc n own μ pc lv (.int y :: .int x :: st) := fun p e s m args below meth c A cells slots Q hk F H locs ls hP hS hl => lv_icmp_ne F.1 F.2.1 d ht (fun q => kt q p e s m args below meth c A cells slots Q hk F H locs ls hP hS hl) (fun q => kf q p e s m args below meth c A cells slots Q hk F H locs ls hP hS hl)
theorem y_if_lt {l : Launch} {G : GT} {R : Room} {κ : KT} {cc : ByteArray} {n : Nat} {own : String} {μ : MemT} {pc : Nat} {lv : List (Option Value)} {st : List Value} {x : Int32} {off : Int} (tgt : Nat) (d : decode cc pc = .ok (.ifCond .lt off, 3)) (ht : (pc : Int) + off = (tgt : Int)) (kt : (x < 0) → Yj l G R κ cc n own μ tgt lv st) (kf : ¬ (x < 0) → Yj l G R κ cc n own μ (pc + 3) lv st) : Yj l G R κ cc n own μ pc lv (.int x :: st) := fun p e s m args below meth c A cells slots Q hk F H locs ls hP hS hl => lv_if_lt F.1 F.2.1 d ht (fun q => kt q p e s m args below meth c A cells slots Q hk F H locs ls hP hS hl) (fun q => kf q p e s m args below meth c A cells slots Q hk F H locs ls hP hS hl)
theorem y_icmp_lt {l : Launch} {G : GT} {R : Room} {κ : KT} {cc : ByteArray} {n : Nat} {own : String} {μ : MemT} {pc : Nat} {lv : List (Option Value)} {st : List Value} {x y : Int32} {off : Int} (tgt : Nat) (d : decode cc pc = .ok (.if_icmp .lt off, 3)) (ht : (pc : Int) + off = (tgt : Int)) (kt : (x < y) → Yj l G R κ cc n own μ tgt lv st) (kf : ¬ (x < y) → Yj l G R κ cc n own μ (pc + 3) lv st) : Yj l G R κ cc n own μ pc lv (.int y :: .int x :: st) := fun p e s m args below meth c A cells slots Q hk F H locs ls hP hS hl => lv_icmp_lt F.1 F.2.1 d ht (fun q => kt q p e s m args below meth c A cells slots Q hk F H locs ls hP hS hl) (fun q => kf q p e s m args below meth c A cells slots Q hk F H locs ls hP hS hl)
theorem y_if_ge {l : Launch} {G : GT} {R : Room} {κ : KT} {cc : ByteArray} {n : Nat} {own : String} {μ : MemT} {pc : Nat} {lv : List (Option Value)} {st : List Value} {x : Int32} {off : Int} (tgt : Nat) (d : decode cc pc = .ok (.ifCond .ge off, 3)) (ht : (pc : Int) + off = (tgt : Int)) (kt : (0 ≤ x) → Yj l G R κ cc n own μ tgt lv st) (kf : ¬ (0 ≤ x) → Yj l G R κ cc n own μ (pc + 3) lv st) : Yj l G R κ cc n own μ pc lv (.int x :: st) := fun p e s m args below meth c A cells slots Q hk F H locs ls hP hS hl => lv_if_ge F.1 F.2.1 d ht (fun q => kt q p e s m args below meth c A cells slots Q hk F H locs ls hP hS hl) (fun q => kf q p e s m args below meth c A cells slots Q hk F H locs ls hP hS hl)
theorem y_icmp_ge {l : Launch} {G : GT} {R : Room} {κ : KT} {cc : ByteArray} {n : Nat} {own : String} {μ : MemT} {pc : Nat} {lv : List (Option Value)} {st : List Value} {x y : Int32} {off : Int} (tgt : Nat) (d : decode cc pc = .ok (.if_icmp .ge off, 3)) (ht : (pc : Int) + off = (tgt : Int)) (kt : (y ≤ x) → Yj l G R κ cc n own μ tgt lv st) (kf : ¬ (y ≤ x) → Yj l G R κ cc n own μ (pc + 3) lv st) : Yj l G R κ cc n own μ pc lv (.int y :: .int x :: st) := fun p e s m args below meth c A cells slots Q hk F H locs ls hP hS hl => lv_icmp_ge F.1 F.2.1 d ht (fun q => kt q p e s m args below meth c A cells slots Q hk F H locs ls hP hS hl) (fun q => kf q p e s m args below meth c A cells slots Q hk F H locs ls hP hS hl)
theorem y_if_gt {l : Launch} {G : GT} {R : Room} {κ : KT} {cc : ByteArray} {n : Nat} {own : String} {μ : MemT} {pc : Nat} {lv : List (Option Value)} {st : List Value} {x : Int32} {off : Int} (tgt : Nat) (d : decode cc pc = .ok (.ifCond .gt off, 3)) (ht : (pc : Int) + off = (tgt : Int)) (kt : (0 < x) → Yj l G R κ cc n own μ tgt lv st) (kf : ¬ (0 < x) → Yj l G R κ cc n own μ (pc + 3) lv st) : Yj l G R κ cc n own μ pc lv (.int x :: st) := fun p e s m args below meth c A cells slots Q hk F H locs ls hP hS hl => lv_if_gt F.1 F.2.1 d ht (fun q => kt q p e s m args below meth c A cells slots Q hk F H locs ls hP hS hl) (fun q => kf q p e s m args below meth c A cells slots Q hk F H locs ls hP hS hl)
theorem y_icmp_gt {l : Launch} {G : GT} {R : Room} {κ : KT} {cc : ByteArray} {n : Nat} {own : String} {μ : MemT} {pc : Nat} {lv : List (Option Value)} {st : List Value} {x y : Int32} {off : Int} (tgt : Nat) (d : decode cc pc = .ok (.if_icmp .gt off, 3)) (ht : (pc : Int) + off = (tgt : Int)) (kt : (y < x) → Yj l G R κ cc n own μ tgt lv st) (kf : ¬ (y < x) → Yj l G R κ cc n own μ (pc + 3) lv st) : Yj l G R κ cc n own μ pc lv (.int y :: .int x :: st) := fun p e s m args below meth c A cells slots Q hk F H locs ls hP hS hl => lv_icmp_gt F.1 F.2.1 d ht (fun q => kt q p e s m args below meth c A cells slots Q hk F H locs ls hP hS hl) (fun q => kf q p e s m args below meth c A cells slots Q hk F H locs ls hP hS hl)
theorem y_if_le {l : Launch} {G : GT} {R : Room} {κ : KT} {cc : ByteArray} {n : Nat} {own : String} {μ : MemT} {pc : Nat} {lv : List (Option Value)} {st : List Value} {x : Int32} {off : Int} (tgt : Nat) (d : decode cc pc = .ok (.ifCond .le off, 3)) (ht : (pc : Int) + off = (tgt : Int)) (kt : (x ≤ 0) → Yj l G R κ cc n own μ tgt lv st) (kf : ¬ (x ≤ 0) → Yj l G R κ cc n own μ (pc + 3) lv st) : Yj l G R κ cc n own μ pc lv (.int x :: st) := fun p e s m args below meth c A cells slots Q hk F H locs ls hP hS hl => lv_if_le F.1 F.2.1 d ht (fun q => kt q p e s m args below meth c A cells slots Q hk F H locs ls hP hS hl) (fun q => kf q p e s m args below meth c A cells slots Q hk F H locs ls hP hS hl)
theorem y_icmp_le {l : Launch} {G : GT} {R : Room} {κ : KT} {cc : ByteArray} {n : Nat} {own : String} {μ : MemT} {pc : Nat} {lv : List (Option Value)} {st : List Value} {x y : Int32} {off : Int} (tgt : Nat) (d : decode cc pc = .ok (.if_icmp .le off, 3)) (ht : (pc : Int) + off = (tgt : Int)) (kt : (x ≤ y) → Yj l G R κ cc n own μ tgt lv st) (kf : ¬ (x ≤ y) → Yj l G R κ cc n own μ (pc + 3) lv st) : Yj l G R κ cc n own μ pc lv (.int y :: .int x :: st) := fun p e s m args below meth c A cells slots Q hk F H locs ls hP hS hl => lv_icmp_le F.1 F.2.1 d ht (fun q => kt q p e s m args below meth c A cells slots Q hk F H locs ls hP hS hl) (fun q => kf q p e s m args below meth c A cells slots Q hk F H locs ls hP hS hl)
theorem y_goto {l : Launch} {G : GT} {R : Room} {κ : KT} {cc : ByteArray} {n : Nat} {own : String} {μ : MemT} {pc : Nat} {lv : List (Option Value)} {st : List Value} {off : Int} (tgt : Nat) (d : decode cc pc = .ok (.goto off, 3)) (ht : (pc : Int) + off = (tgt : Int)) (h : Yj l G R κ cc n own μ tgt lv st) : Yj l G R κ cc n own μ pc lv st := fun p e s m args below meth c A cells slots Q hk F H locs ls hP hS hl => lv_goto F.1 F.2.1 d ht (h p e s m args below meth c A cells slots Q hk F H locs ls hP hS hl)
theorem y_tableOut {l : Launch} {G : GT} {R : Room} {κ : KT} {cc : ByteArray} {n : Nat} {own : String} {μ : MemT} {pc : Nat} {lv : List (Option Value)} {st : List Value} {x : Int32} {dflt lo hi : Int} {offs : Array Int} {len : Nat} (tgt : Nat) (d : decode cc pc = .ok (.tableswitch dflt lo hi offs, len)) (hx : x.toInt < lo ∨ hi < x.toInt) (ht : (pc : Int) + dflt = (tgt : Int)) (h : Yj l G R κ cc n own μ tgt lv st) : Yj l G R κ cc n own μ pc lv (.int x :: st) := fun p e s m args below meth c A cells slots Q hk F H locs ls hP hS hl => lv_tableOut F.1 F.2.1 d hx ht (h p e s m args below meth c A cells slots Q hk F H locs ls hP hS hl)
theorem y_tableIn {l : Launch} {G : GT} {R : Room} {κ : KT} {cc : ByteArray} {n : Nat} {own : String} {μ : MemT} {pc : Nat} {lv : List (Option Value)} {st : List Value} {x : Int32} {dflt lo hi off : Int} {offs : Array Int} {len : Nat} (tgt : Nat) (d : decode cc pc = .ok (.tableswitch dflt lo hi offs, len)) (h1 : ¬ x.toInt < lo) (h2 : ¬ hi < x.toInt) (ho : offs[(x.toInt - lo).toNat]? = some off) (ht : (pc : Int) + off = (tgt : Int)) (h : Yj l G R κ cc n own μ tgt lv st) : Yj l G R κ cc n own μ pc lv (.int x :: st) := fun p e s m args below meth c A cells slots Q hk F H locs ls hP hS hl => lv_tableIn F.1 F.2.1 d h1 h2 ho ht (h p e s m args below meth c A cells slots Q hk F H locs ls hP hS hl)
theorem y_lookup {l : Launch} {G : GT} {R : Room} {κ : KT} {cc : ByteArray} {n : Nat} {own : String} {μ : MemT} {pc : Nat} {lv : List (Option Value)} {st : List Value} {x : Int32} {dflt off : Int} {ps : Array (Int × Int)} {len : Nat} (tgt : Nat) (d : decode cc pc = .ok (.lookupswitch dflt ps, len)) (hp : (ps.toList.zip (ps.toList.drop 1)).all (fun (a, next) => a.1 < next.1) = true) (ho : Op.lookupswitch.offset ps.toList dflt x.toInt = off) (ht : (pc : Int) + off = (tgt : Int)) (h : Yj l G R κ cc n own μ tgt lv st) : Yj l G R κ cc n own μ pc lv (.int x :: st) := fun p e s m args below meth c A cells slots Q hk F H locs ls hP hS hl => lv_lookup F.1 F.2.1 d hp ho ht (h p e s m args below meth c A cells slots Q hk F H locs ls hP hS hl)
theorem y_weak {l : Launch} {G : GT} {R : Room} {κ : KT} {cc : ByteArray} {n : Nat} {own : String} {μ : MemT} {pc : Nat} {lv : List (Option Value)} {st : List Value} (lv2 : List (Option Value)) (hw : ∀ (i : Nat) (v : Value), lv2[i]? = some (some v) → lv[i]? = some (some v)) (h : Yj l G R κ cc n own μ pc lv2 st) : Yj l G R κ cc n own μ pc lv st := fun p e s m args below meth c A cells slots Q hk F H locs ls hP hS hl => h p e s m args below meth c A cells slots Q hk F H locs ls hP hS (hl.weak hw)
theorem y_drop {l : Launch} {G : GT} {R : Room} {κ : KT} {cc : ByteArray} {n : Nat} {own : String} {μ : MemT} {pc : Nat} {lv : List (Option Value)} {st : List Value} (k : Nat) (h : Yj l G R κ cc n own μ pc (lv.set k none) st) : Yj l G R κ cc n own μ pc lv st := y_weak _ set_none_weak h
theorem y_eq {l : Launch} {G : GT} {R : Room} {κ : KT} {cc : ByteArray} {n : Nat} {own : String} {μ : MemT} {pc : Nat} {lv : List (Option Value)} {st : List Value} {μ2 : MemT} {lv2 : List (Option Value)} {st2 : List Value} (h1 : μ = μ2) (h2 : lv = lv2) (h3 : st = st2) (h : Yj l G R κ cc n own μ2 pc lv2 st2) : Yj l G R κ cc n own μ pc lv st := by subst h1; subst h2; subst h3; exact h
/-- a class of the tables: its place among the classes, fields, types -/
def sw_cl (ci : Nat) (C : String) (T : u_T) (N : Nat) (ty0 : Nat → FieldType) : Prop := vwCl[ci]? = some (C, T, N) ∧ (∀ w ∈ u_ws C T N, w ∈ wL) ∧ (∀ k, k < N → parseFieldDescriptor (T k).2.2.1 = some (ty0 k)) ∧ (∀ a, a < N → ∀ b, b < N → a ≠ b → (T a).2.1 ≠ (T b).2.1)

theorem clX0 : sw_cl 0 RX0 TX0 2 tyX0 := ⟨rfl, inlX0, tyX0_ok, nmX0⟩
theorem clX1 : sw_cl 1 RX1 TX1 13 tyX1 := ⟨rfl, inlX1, tyX1_ok, nmX1⟩
theorem clX2 : sw_cl 2 RX2 TX2 2 tyX2 := ⟨rfl, inlX2, tyX2_ok, nmX2⟩
theorem clX3 : sw_cl 3 RX3 TX3 10 tyX3 := ⟨rfl, inlX3, tyX3_ok, nmX3⟩
theorem clX4 : sw_cl 4 RX4 TX4 12 tyX4 := ⟨rfl, inlX4, tyX4_ok, nmX4⟩
theorem clX5 : sw_cl 5 RX5 TX5 7 tyX5 := ⟨rfl, inlX5, tyX5_ok, nmX5⟩
theorem clX6 : sw_cl 6 RX6 TX6 4 tyX6 := ⟨rfl, inlX6, tyX6_ok, nmX6⟩
theorem clX7 : sw_cl 7 RX7 TX7 9 tyX7 := ⟨rfl, inlX7, tyX7_ok, nmX7⟩
theorem clX8 : sw_cl 8 RX8 TX8 41 tyX8 := ⟨rfl, inlX8, tyX8_ok, nmX8⟩
theorem y_geti {l : Launch} {G : GT} {R : Room} {κ : KT} {cc : ByteArray} {n : Nat} {own : String} {μ : MemT} {pc : Nat} {lv : List (Option Value)} {st : List Value} {b ci index N : Nat} {C ref : String} {T : u_T} {ty0 : Nat → FieldType} {tm : List (Nat ⊕ Nat)} (d : decode cc pc = .ok (.getfield index, 3)) (i : Nat) (cl : sw_cl ci C T N ty0) (hb : kdL[b]? = some (.inl (ci, tm))) (hN : i < N) (hw : Cond.fieldLink own index ref (T i).2.1 (T i).2.2.1 ∈ wL) (hre : (T i).1 = ref) (ht : tm[i]? = some (.inr 0)) (h : Yj l G R κ cc n own μ (pc + 3) lv (.int (μ b i) :: st)) : Yj l G R κ cc n own μ pc lv (.ref (G.2.1 b) :: st) := fun p e s m args below meth c A cells slots Q hk F H locs ls hP hS hl => va_get (D := G.1) (ci := ci) (C := C) (T := T) (N := N) F.1 F.2.1 F.2.2.2.2.1 cl.2.1 F.2.2.2.1 F.2.2.2.2.2.1.1 hP b (sw_ws_at hb) cl.1 i hN (F.2.2.2.2.1 _ hw) (fun _ h9 => by rw [← hre]; exact h9) (v := .int (μ b i)) (by rw [sw_fs_at, ht]; simp only [Option.map_some, Nat.zero_add]; rfl) d (h p e s m args below meth c A cells slots Q hk F H locs ls hP hS hl)
theorem y_getl {l : Launch} {G : GT} {R : Room} {κ : KT} {cc : ByteArray} {n : Nat} {own : String} {μ : MemT} {pc : Nat} {lv : List (Option Value)} {st : List Value} {b ci index N : Nat} {C ref : String} {T : u_T} {ty0 : Nat → FieldType} {tm : List (Nat ⊕ Nat)} (d : decode cc pc = .ok (.getfield index, 3)) (i : Nat) (cl : sw_cl ci C T N ty0) (hb : kdL[b]? = some (.inl (ci, tm))) (hN : i < N) (hw : Cond.fieldLink own index ref (T i).2.1 (T i).2.2.1 ∈ wL) (hre : (T i).1 = ref) (ht : tm[i]? = some (.inr 1)) (h : Yj l G R κ cc n own μ (pc + 3) lv (.long (sw_jn (μ b (2 * i)) (μ b (2 * i + 1))) :: st)) : Yj l G R κ cc n own μ pc lv (.ref (G.2.1 b) :: st) := fun p e s m args below meth c A cells slots Q hk F H locs ls hP hS hl => va_get (D := G.1) (ci := ci) (C := C) (T := T) (N := N) F.1 F.2.1 F.2.2.2.2.1 cl.2.1 F.2.2.2.1 F.2.2.2.2.2.1.1 hP b (sw_ws_at hb) cl.1 i hN (F.2.2.2.2.1 _ hw) (fun _ h9 => by rw [← hre]; exact h9) (v := .long (sw_jn (μ b (2 * i)) (μ b (2 * i + 1)))) (by rw [sw_fs_at, ht]; simp only [Option.map_some, Nat.zero_add]; rfl) d (h p e s m args below meth c A cells slots Q hk F H locs ls hP hS hl)
theorem y_getr {l : Launch} {G : GT} {R : Room} {κ : KT} {cc : ByteArray} {n : Nat} {own : String} {μ : MemT} {pc : Nat} {lv : List (Option Value)} {st : List Value} {b ci index N : Nat} {C ref : String} {T : u_T} {ty0 : Nat → FieldType} {tm : List (Nat ⊕ Nat)} (d : decode cc pc = .ok (.getfield index, 3)) (i : Nat) (cl : sw_cl ci C T N ty0) (hb : kdL[b]? = some (.inl (ci, tm))) (hN : i < N) (hw : Cond.fieldLink own index ref (T i).2.1 (T i).2.2.1 ∈ wL) (hre : (T i).1 = ref) {j : Nat} (ht : tm[i]? = some (.inl j)) (h : Yj l G R κ cc n own μ (pc + 3) lv (.ref (G.2.1 j) :: st)) : Yj l G R κ cc n own μ pc lv (.ref (G.2.1 b) :: st) := fun p e s m args below meth c A cells slots Q hk F H locs ls hP hS hl => va_get (D := G.1) (ci := ci) (C := C) (T := T) (N := N) F.1 F.2.1 F.2.2.2.2.1 cl.2.1 F.2.2.2.1 F.2.2.2.2.2.1.1 hP b (sw_ws_at hb) cl.1 i hN (F.2.2.2.2.1 _ hw) (fun _ h9 => by rw [← hre]; exact h9) (v := .ref (G.2.1 j)) (by rw [sw_fs_at, ht]; simp only [Option.map_some, Nat.zero_add]; rfl) d (h p e s m args below meth c A cells slots Q hk F H locs ls hP hS hl)
def noLong (tm : List (Nat ⊕ Nat)) : Bool := tm.all fun t => match t with | .inr (_ + 1) => false | _ => true
def allLong (tm : List (Nat ⊕ Nat)) : Bool := tm.all fun t => match t with | .inr (_ + 1) => true | _ => false
theorem sw_fs_upd {ad : Nat → Nat} {r : Nat → Int32} {x : Int32} {tm : List (Nat ⊕ Nat)} {k : Nat} (hn : noLong tm = true) (hk : tm[k]? = some (.inr 0)) : (sw_fs ad r 0 tm).set k (.int x) = sw_fs ad (upd r k x) 0 tm := by
  have hlt : k < tm.length := (List.getElem?_eq_some_iff.mp hk).1
  apply List.ext_getElem?
  intro j
  by_cases hj : j = k
  · subst hj
    rw [List.getElem?_set_self (by rw [sw_fs_len]; exact hlt), sw_fs_at, hk]
    simp only [Option.map_some, sw_fv, Nat.zero_add, upd_self]
  · rw [List.getElem?_set_ne (Ne.symm hj), sw_fs_at, sw_fs_at]
    cases ht : tm[j]? with
    | none => rfl
    | some t =>
      have hm := List.all_eq_true.mp hn t (List.mem_of_getElem? ht)
      simp only [Option.map_some, Nat.zero_add]
      match t, hm with
      | .inl q, _ => rfl
      | .inr 0, _ => simp only [sw_fv, upd_ne r x hj]
      | .inr (q + 1), h => cases h
theorem sw_fs_updl {ad : Nat → Nat} {r : Nat → Int32} {v : Int64} {tm : List (Nat ⊕ Nat)} {k : Nat} (hn : allLong tm = true) (hk : tm[k]? = some (.inr 1)) : (sw_fs ad r 0 tm).set k (.long v) = sw_fs ad (upd (upd r (2 * k) (sw_hi v)) (2 * k + 1) (sw_lo v)) 0 tm := by
  have hlt : k < tm.length := (List.getElem?_eq_some_iff.mp hk).1
  apply List.ext_getElem?
  intro j
  by_cases hj : j = k
  · subst hj
    rw [List.getElem?_set_self (by rw [sw_fs_len]; exact hlt), sw_fs_at, hk]
    simp only [Option.map_some, sw_fv, Nat.zero_add, upd_self, upd_ne _ _ (show 2 * j ≠ 2 * j + 1 by omega), sw_jn_hl]
  · rw [List.getElem?_set_ne (Ne.symm hj), sw_fs_at, sw_fs_at]
    cases ht : tm[j]? with
    | none => rfl
    | some t =>
      have hm := List.all_eq_true.mp hn t (List.mem_of_getElem? ht)
      simp only [Option.map_some, Nat.zero_add]
      match t, hm with
      | .inl q, h => cases h
      | .inr 0, h => cases h
      | .inr (q + 1), _ =>
        simp only [sw_fv]
        rw [upd_ne _ _ (show 2 * j ≠ 2 * k + 1 by omega), upd_ne _ _ (show 2 * j ≠ 2 * k by omega), upd_ne _ _ (show 2 * j + 1 ≠ 2 * k + 1 by omega), upd_ne _ _ (show 2 * j + 1 ≠ 2 * k by omega)]

theorem y_puti {l : Launch} {G : GT} {R : Room} {κ : KT} {cc : ByteArray} {n : Nat} {own : String} {μ : MemT} {pc : Nat} {lv : List (Option Value)} {st : List Value} {b ci index N : Nat} {C ref : String} {T : u_T} {ty0 : Nat → FieldType} {tm : List (Nat ⊕ Nat)} (d : decode cc pc = .ok (.putfield index, 3)) (i : Nat) (cl : sw_cl ci C T N ty0) (hb : kdL[b]? = some (.inl (ci, tm))) (hN : i < N) (hw : Cond.fieldLink own index ref (T i).2.1 (T i).2.2.1 ∈ wL) (hre : (T i).1 = ref) {x : Int32} {ty : FieldType} (hnl : noLong tm = true) (ht : tm[i]? = some (.inr 0)) (hfin : (T i).2.2.2 = false) (hd : parseFieldDescriptor (T i).2.2.1 = some ty) (hn2 : narrow ty (.int x) = .int x) (hfit : fits ty (.int x) = true) (h : Yj l G R κ cc n own (mset μ b (upd (μ b) i x)) (pc + 3) lv st) : Yj l G R κ cc n own μ pc lv (.int x :: .ref (G.2.1 b) :: st) := fun p e s m args below meth c A cells slots Q hk F H locs ls hP hS hl => va_put (D := G.1) (ci := ci) (C := C) (T := T) (N := N) (v := .int x) (ty := ty) F.1 F.2.1 F.2.2.2.2.1 cl.2.1 ty0 cl.2.2.1 cl.2.2.2 F.2.2.2.1 F.2.2.2.2.2.1.1 hP (sw_Dd F.2.2.2.2.2.2.2.2.2 F.2.2.2.2.2.2.2.2.1) hS b (sw_ws_at hb) cl.1 i hN (F.2.2.2.2.1 _ hw) (fun _ h9 => by rw [← hre]; exact h9) hfin hd hn2 hfit (by rw [sw_fs_len]; exact (List.getElem?_eq_some_iff.mp ht).1) d (fun H1 locs1 hP1 _ hS1 => h p e s m args below meth c A cells slots Q hk F H1 locs1 ls (by rw [sw_fs_upd hnl ht] at hP1; rw [sw_P, ← sw_ws_set hb]; exact hP1) hS1 hl)
theorem y_putl {l : Launch} {G : GT} {R : Room} {κ : KT} {cc : ByteArray} {n : Nat} {own : String} {μ : MemT} {pc : Nat} {lv : List (Option Value)} {st : List Value} {b ci index N : Nat} {C ref : String} {T : u_T} {ty0 : Nat → FieldType} {tm : List (Nat ⊕ Nat)} (d : decode cc pc = .ok (.putfield index, 3)) (i : Nat) (cl : sw_cl ci C T N ty0) (hb : kdL[b]? = some (.inl (ci, tm))) (hN : i < N) (hw : Cond.fieldLink own index ref (T i).2.1 (T i).2.2.1 ∈ wL) (hre : (T i).1 = ref) {x : Int64} {ty : FieldType} (hnl : allLong tm = true) (ht : tm[i]? = some (.inr 1)) (hfin : (T i).2.2.2 = false) (hd : parseFieldDescriptor (T i).2.2.1 = some ty) (hn2 : narrow ty (.long x) = .long x) (hfit : fits ty (.long x) = true) (h : Yj l G R κ cc n own (mset μ b (upd (upd (μ b) (2 * i) (sw_hi x)) (2 * i + 1) (sw_lo x))) (pc + 3) lv st) : Yj l G R κ cc n own μ pc lv (.long x :: .ref (G.2.1 b) :: st) := fun p e s m args below meth c A cells slots Q hk F H locs ls hP hS hl => va_put (D := G.1) (ci := ci) (C := C) (T := T) (N := N) (v := .long x) (ty := ty) F.1 F.2.1 F.2.2.2.2.1 cl.2.1 ty0 cl.2.2.1 cl.2.2.2 F.2.2.2.1 F.2.2.2.2.2.1.1 hP (sw_Dd F.2.2.2.2.2.2.2.2.2 F.2.2.2.2.2.2.2.2.1) hS b (sw_ws_at hb) cl.1 i hN (F.2.2.2.2.1 _ hw) (fun _ h9 => by rw [← hre]; exact h9) hfin hd hn2 hfit (by rw [sw_fs_len]; exact (List.getElem?_eq_some_iff.mp ht).1) d (fun H1 locs1 hP1 _ hS1 => h p e s m args below meth c A cells slots Q hk F H1 locs1 ls (by rw [sw_fs_updl hnl ht] at hP1; rw [sw_P, ← sw_ws_set hb]; exact hP1) hS1 hl)
theorem y_iald {l : Launch} {G : GT} {R : Room} {κ : KT} {cc : ByteArray} {n : Nat} {own : String} {μ : MemT} {pc : Nat} {lv : List (Option Value)} {st : List Value} {b N : Nat} {x : Int32} (d : decode cc pc = .ok (.iaload, 1)) (j : Nat) (hb : kdL[b]? = some (.inr (0, N))) (hj : x = nI j) (hlt : j < N) (hN : N < 2 ^ 31) (h : Yj l G R κ cc n own μ (pc + 1) lv (.int (μ b j) :: st)) : Yj l G R κ cc n own μ pc lv (.int x :: .ref (G.2.1 b) :: st) := fun p e s m args below meth c A cells slots Q hk F H locs ls hP hS hl => va_iald F.1 F.2.1 F.2.2.2.2.2.1.1 hP b 0 (sw_ws_at hb) rfl (by rw [hj]; exact vp_in_nI hlt hN) d (by rw [hj, nI_clamp (Nat.lt_trans hlt hN)]; exact (h p e s m args below meth c A cells slots Q hk F H locs ls hP hS hl))
theorem y_bald {l : Launch} {G : GT} {R : Room} {κ : KT} {cc : ByteArray} {n : Nat} {own : String} {μ : MemT} {pc : Nat} {lv : List (Option Value)} {st : List Value} {b N : Nat} {x : Int32} (d : decode cc pc = .ok (.baload, 1)) (j : Nat) (hb : kdL[b]? = some (.inr (1, N))) (hj : x = nI j) (hlt : j < N) (hN : N < 2 ^ 31) (h : Yj l G R κ cc n own μ (pc + 1) lv (.int (μ b j) :: st)) : Yj l G R κ cc n own μ pc lv (.int x :: .ref (G.2.1 b) :: st) := fun p e s m args below meth c A cells slots Q hk F H locs ls hP hS hl => va_bald F.1 F.2.1 F.2.2.2.2.2.1.1 hP b 1 (sw_ws_at hb) rfl (by rw [hj]; exact vp_in_nI hlt hN) d (by rw [hj, nI_clamp (Nat.lt_trans hlt hN)]; exact (h p e s m args below meth c A cells slots Q hk F H locs ls hP hS hl))
theorem y_zald {l : Launch} {G : GT} {R : Room} {κ : KT} {cc : ByteArray} {n : Nat} {own : String} {μ : MemT} {pc : Nat} {lv : List (Option Value)} {st : List Value} {b N : Nat} {x : Int32} (d : decode cc pc = .ok (.baload, 1)) (j : Nat) (hb : kdL[b]? = some (.inr (2, N))) (hj : x = nI j) (hlt : j < N) (hN : N < 2 ^ 31) (h : Yj l G R κ cc n own μ (pc + 1) lv (.int (μ b j) :: st)) : Yj l G R κ cc n own μ pc lv (.int x :: .ref (G.2.1 b) :: st) := fun p e s m args below meth c A cells slots Q hk F H locs ls hP hS hl => va_zald F.1 F.2.1 F.2.2.2.2.2.1.1 hP b 2 (sw_ws_at hb) rfl (by rw [hj]; exact vp_in_nI hlt hN) d (by rw [hj, nI_clamp (Nat.lt_trans hlt hN)]; exact (h p e s m args below meth c A cells slots Q hk F H locs ls hP hS hl))
theorem y_iast {l : Launch} {G : GT} {R : Room} {κ : KT} {cc : ByteArray} {n : Nat} {own : String} {μ : MemT} {pc : Nat} {lv : List (Option Value)} {st : List Value} {b N : Nat} {x y : Int32} (d : decode cc pc = .ok (.iastore, 1)) (j : Nat) (hb : kdL[b]? = some (.inr (0, N))) (hj : x = nI j) (hlt : j < N) (hN : N < 2 ^ 31) (h : Yj l G R κ cc n own (mset μ b (upd (μ b) j y)) (pc + 1) lv st) : Yj l G R κ cc n own μ pc lv (.int y :: .int x :: .ref (G.2.1 b) :: st) := fun p e s m args below meth c A cells slots Q hk F H locs ls hP hS hl => va_iast F.1 F.2.1 F.2.2.2.2.2.1.1 hP (sw_Dd F.2.2.2.2.2.2.2.2.2 F.2.2.2.2.2.2.2.2.1) hS b 0 (sw_ws_at hb) rfl (by rw [hj]; exact vp_in_nI hlt hN) d (fun H1 locs1 hP1 _ hS1 => h p e s m args below meth c A cells slots Q hk F H1 locs1 ls (by rw [hj, nI_clamp (Nat.lt_trans hlt hN)] at hP1; rw [sw_P, ← sw_ws_set hb]; exact hP1) hS1 hl)
theorem y_bast {l : Launch} {G : GT} {R : Room} {κ : KT} {cc : ByteArray} {n : Nat} {own : String} {μ : MemT} {pc : Nat} {lv : List (Option Value)} {st : List Value} {b N : Nat} {x y : Int32} (d : decode cc pc = .ok (.bastore, 1)) (j : Nat) (hb : kdL[b]? = some (.inr (1, N))) (hj : x = nI j) (hlt : j < N) (hN : N < 2 ^ 31) (h : Yj l G R κ cc n own (mset μ b (upd (μ b) j (vp_nar .byte y))) (pc + 1) lv st) : Yj l G R κ cc n own μ pc lv (.int y :: .int x :: .ref (G.2.1 b) :: st) := fun p e s m args below meth c A cells slots Q hk F H locs ls hP hS hl => va_bast F.1 F.2.1 F.2.2.2.2.2.1.1 hP (sw_Dd F.2.2.2.2.2.2.2.2.2 F.2.2.2.2.2.2.2.2.1) hS b 1 (sw_ws_at hb) rfl (by rw [hj]; exact vp_in_nI hlt hN) d (fun H1 locs1 hP1 _ hS1 => h p e s m args below meth c A cells slots Q hk F H1 locs1 ls (by rw [hj, nI_clamp (Nat.lt_trans hlt hN)] at hP1; rw [sw_P, ← sw_ws_set hb]; exact hP1) hS1 hl)
theorem y_zast {l : Launch} {G : GT} {R : Room} {κ : KT} {cc : ByteArray} {n : Nat} {own : String} {μ : MemT} {pc : Nat} {lv : List (Option Value)} {st : List Value} {b N : Nat} {x y : Int32} (d : decode cc pc = .ok (.bastore, 1)) (j : Nat) (hb : kdL[b]? = some (.inr (2, N))) (hj : x = nI j) (hlt : j < N) (hN : N < 2 ^ 31) (h : Yj l G R κ cc n own (mset μ b (upd (μ b) j (vp_nar .boolean y))) (pc + 1) lv st) : Yj l G R κ cc n own μ pc lv (.int y :: .int x :: .ref (G.2.1 b) :: st) := fun p e s m args below meth c A cells slots Q hk F H locs ls hP hS hl => va_zast F.1 F.2.1 F.2.2.2.2.2.1.1 hP (sw_Dd F.2.2.2.2.2.2.2.2.2 F.2.2.2.2.2.2.2.2.1) hS b 2 (sw_ws_at hb) rfl (by rw [hj]; exact vp_in_nI hlt hN) d (fun H1 locs1 hP1 _ hS1 => h p e s m args below meth c A cells slots Q hk F H1 locs1 ls (by rw [hj, nI_clamp (Nat.lt_trans hlt hN)] at hP1; rw [sw_P, ← sw_ws_set hb]; exact hP1) hS1 hl)
theorem y_alen {l : Launch} {G : GT} {R : Room} {κ : KT} {cc : ByteArray} {n : Nat} {own : String} {μ : MemT} {pc : Nat} {lv : List (Option Value)} {st : List Value} {b q N : Nat} (hq : q < 3) (hb : kdL[b]? = some (.inr (q, N))) (d : decode cc pc = .ok (.arraylength, 1)) (h : Yj l G R κ cc n own μ (pc + 1) lv (.int (nI N) :: st)) : Yj l G R κ cc n own μ pc lv (.ref (G.2.1 b) :: st) := fun p e s m args below meth c A cells slots Q hk F H locs ls hP hS hl => by
  match q, hq, hb with
  | 0, _, hb => exact va_alen F.1 F.2.1 F.2.2.2.2.2.1.1 hP b 0 (sw_ws_at hb) rfl rfl d (h p e s m args below meth c A cells slots Q hk F H locs ls hP hS hl)
  | 1, _, hb => exact va_alen F.1 F.2.1 F.2.2.2.2.2.1.1 hP b 1 (sw_ws_at hb) rfl rfl d (h p e s m args below meth c A cells slots Q hk F H locs ls hP hS hl)
  | 2, _, hb => exact va_alen F.1 F.2.1 F.2.2.2.2.2.1.1 hP b 2 (sw_ws_at hb) rfl rfl d (h p e s m args below meth c A cells slots Q hk F H locs ls hP hS hl)
theorem y_aald {l : Launch} {G : GT} {R : Room} {κ : KT} {cc : ByteArray} {n : Nat} {own : String} {μ : MemT} {pc : Nat} {lv : List (Option Value)} {st : List Value} {b : Nat} {x : Int32} (d : decode cc pc = .ok (.aaload, 1)) (j : Nat) (hb : kdL[b]? = some (.inr (3, 2))) (hj : x = nI j) (hlt : j < 2) (h : Yj l G R κ cc n own μ (pc + 1) lv (.ref (G.2.1 (if j = 0 then 26 else 34)) :: st)) : Yj l G R κ cc n own μ pc lv (.int x :: .ref (G.2.1 b) :: st) := fun p e s m args below meth c A cells slots Q hk F H locs ls hP hS hl => va_aldq F.1 F.2.1 F.2.2.2.2.2.1.1 hP b 3 (sw_ws_at hb) rfl (by rw [hj]; exact vp_in_nI hlt (by decide)) d (by rw [hj, nI_clamp (Nat.lt_trans hlt (by decide))]; exact (h p e s m args below meth c A cells slots Q hk F H locs ls hP hS hl))
theorem y_copy {l : Launch} {G : GT} {R : Room} {κ : KT} {cc : ByteArray} {n : Nat} {own : String} {μ : MemT} {pc : Nat} {lv : List (Option Value)} {st : List Value} {b b2 N N2 index : Nat} {x y z : Int32} (d : decode cc pc = .ok (.invokestatic index, 3)) (i j k : Nat) (hb : kdL[b]? = some (.inr (0, N))) (hb2 : kdL[b2]? = some (.inr (0, N2))) (hx : x = nI i) (hy : y = nI j) (hz : z = nI k) (hi : i + k ≤ N) (hj : j + k ≤ N2) (hN : N < 2 ^ 31) (hN2 : N2 < 2 ^ 31) (hw : Cond.methodLink own index arraycopyName ∈ wL) (hfr : 1 ≤ R.frames) (hlo : (st.map fun v => v.category).sum + (nativeFrameWords "java/lang/System" "arraycopy" 5 + 11) ≤ R.locals) (h : Yj l G R κ cc n own (mset μ b2 (va_cpy (μ b) (μ b2) i j k)) (pc + 3) lv st) : Yj l G R κ cc n own μ pc lv (.int z :: .int y :: .ref (G.2.1 b2) :: .int x :: .ref (G.2.1 b) :: st) := fun p e s m args below meth c A cells slots Q hk F H locs ls hP hS hl => by
  have e1 := nI_clamp (n := i) (by omega)
  have e2 := nI_clamp (n := j) (by omega)
  have e3 := nI_clamp (n := k) (by omega)
  subst hx; subst hy; subst hz
  exact va_copyi F.1 F.2.1 (F.2.2.1.trans hl.1.symm) F.2.2.2.1 (F.2.2.2.2.1 _ hw) (F.2.2.2.2.1 _ wm_nat_arraycopyName) (F.2.2.2.2.1 _ wm_st_arraycopyName) (F.2.2.2.2.1 _ wm_ini_System) F.2.2.2.2.2.1.1 hP (sw_Dd F.2.2.2.2.2.2.2.2.2 F.2.2.2.2.2.2.2.2.1) hS b b2 0 0 (sw_ws_at hb) (sw_ws_at hb2) rfl rfl rfl (nI_pos (by omega)) (nI_pos (by omega)) (nI_pos (by omega)) (by rw [e1, e3]; exact hi) (by rw [e2, e3]; exact hj) (fun _ _ => rfl) hfr hlo d (fun H1 locs1 hP1 _ hS1 => h p e s m args below meth c A cells slots Q hk F H1 locs1 ls (by rw [e1, e2, e3] at hP1; rw [sw_P, ← sw_ws_set hb2]; exact hP1) hS1 hl)
theorem y_mmax {l : Launch} {G : GT} {R : Room} {κ : KT} {cc : ByteArray} {n : Nat} {own : String} {μ : MemT} {pc : Nat} {lv : List (Option Value)} {st : List Value} {x y : Int32} {index : Nat} (d : decode cc pc = .ok (.invokestatic index, 3)) (hw : Cond.methodLink own index Lib.Math.max.name ∈ wL) (hfr : 1 ≤ R.frames) (hlo : (st.map fun v => v.category).sum + 13 ≤ R.locals) (h : Yj l G R κ cc n own μ (pc + 3) lv (.int (if x < y then y else x) :: st)) : Yj l G R κ cc n own μ pc lv (.int y :: .int x :: st) := fun p e s m args below meth c A cells slots Q hk F H locs ls hP hS hl => va_mmax F.1 F.2.1 (F.2.2.1.trans hl.1.symm) F.2.2.2.1 (F.2.2.2.2.1 _ hw) (F.2.2.2.2.1 _ wm_st_max) (F.2.2.2.2.1 _ wm_ini_Math) (F.2.2.2.2.1 _ wm_cd_max) hfr hlo F.2.2.2.2.2.2.1 F.2.2.2.2.2.2.2.1 d (h p e s m args below meth c A cells slots Q hk F H locs ls hP hS hl)
theorem y_mmin {l : Launch} {G : GT} {R : Room} {κ : KT} {cc : ByteArray} {n : Nat} {own : String} {μ : MemT} {pc : Nat} {lv : List (Option Value)} {st : List Value} {x y : Int32} {index : Nat} (d : decode cc pc = .ok (.invokestatic index, 3)) (hw : Cond.methodLink own index Lib.Math.min.name ∈ wL) (hfr : 1 ≤ R.frames) (hlo : (st.map fun v => v.category).sum + 13 ≤ R.locals) (h : Yj l G R κ cc n own μ (pc + 3) lv (.int (if y < x then y else x) :: st)) : Yj l G R κ cc n own μ pc lv (.int y :: .int x :: st) := fun p e s m args below meth c A cells slots Q hk F H locs ls hP hS hl => va_mmin F.1 F.2.1 (F.2.2.1.trans hl.1.symm) F.2.2.2.1 (F.2.2.2.2.1 _ hw) (F.2.2.2.2.1 _ wm_st_min) (F.2.2.2.2.1 _ wm_ini_Math) (F.2.2.2.2.1 _ wm_cd_min) hfr hlo F.2.2.2.2.2.2.1 F.2.2.2.2.2.2.2.1 d (h p e s m args below meth c A cells slots Q hk F H locs ls hP hS hl)
theorem y_mabs {l : Launch} {G : GT} {R : Room} {κ : KT} {cc : ByteArray} {n : Nat} {own : String} {μ : MemT} {pc : Nat} {lv : List (Option Value)} {st : List Value} {x : Int32} {index : Nat} (d : decode cc pc = .ok (.invokestatic index, 3)) (hw : Cond.methodLink own index Lib.Math.abs.name ∈ wL) (hfr : 1 ≤ R.frames) (hlo : (st.map fun v => v.category).sum + 13 ≤ R.locals) (h : Yj l G R κ cc n own μ (pc + 3) lv (.int (if 0 ≤ x then x else 0 - x) :: st)) : Yj l G R κ cc n own μ pc lv (.int x :: st) := fun p e s m args below meth c A cells slots Q hk F H locs ls hP hS hl => va_mabs F.1 F.2.1 (F.2.2.1.trans hl.1.symm) F.2.2.2.1 (F.2.2.2.2.1 _ hw) (F.2.2.2.2.1 _ wm_st_abs) (F.2.2.2.2.1 _ wm_ini_Math) (F.2.2.2.2.1 _ wm_cd_abs) hfr hlo F.2.2.2.2.2.2.1 F.2.2.2.2.2.2.2.1 d (h p e s m args below meth c A cells slots Q hk F H locs ls hP hS hl)
theorem y_mabsl {l : Launch} {G : GT} {R : Room} {κ : KT} {cc : ByteArray} {n : Nat} {own : String} {μ : MemT} {pc : Nat} {lv : List (Option Value)} {st : List Value} {x : Int64} {index : Nat} (d : decode cc pc = .ok (.invokestatic index, 3)) (hw : Cond.methodLink own index Lib.MathLoose.abs_long.x ∈ wL) (hfr : 1 ≤ R.frames) (hlo : (st.map fun v => v.category).sum + 13 ≤ R.locals) (h : Yj l G R κ cc n own μ (pc + 3) lv (.long (if 0 < x then x else -x) :: st)) : Yj l G R κ cc n own μ pc lv (.long x :: st) := fun p e s m args below meth c A cells slots Q hk F H locs ls hP hS hl => va_mabs_long F.1 F.2.1 (F.2.2.1.trans hl.1.symm) F.2.2.2.1 (F.2.2.2.2.1 _ hw) (F.2.2.2.2.1 _ wm_st_abs_long) (F.2.2.2.2.1 _ wm_ini_Math) (F.2.2.2.2.1 _ wm_cd_abs_long) hfr hlo F.2.2.2.2.2.2.1 F.2.2.2.2.2.2.2.1 d (h p e s m args below meth c A cells slots Q hk F H locs ls hP hS hl)
/-! a contract: the memory before, the answer and the memory behind -/
def sw_Pc (G : GT) (av : List Value) (μ : MemT) : Array Value → State → Prop := va_Pc av (fun U => sw_P G μ U.heap ∧ sw_K G U)
def sw_Q (G : GT) (post : Option Value → MemT → Prop) : Array Value → State → Outcome → State → Prop := fun _ st oc t => (∃ (v : Option Value) (μ2 : MemT), oc = .returned v ∧ post v μ2 ∧ sw_P G μ2 t.heap ∧ sw_K G t) ∧ va_F (sw_A G) st t
def sw_Met (l : Launch) (G : GT) (y : MethodName) (bytes : ByteArray) (maxL : Nat) (ret : Option FieldType) (rm : Room) (av : List Value) (μ : MemT) (post : Option Value → MemT → Prop) : Prop :=
  sw_D G.2.1 → Met l y (.code y bytes maxL ret :: wL) rm (sw_Pc G av μ) (sw_Q G post) 0 0 (sw_A G)
def sw_κ (G : GT) (ret : Option FieldType) (post : Option Value → MemT → Prop) : KT := fun _ _ s _ args below meth _ A cells slots Q => meth.sig.returnType = ret ∧ meth.locks = false ∧ cells = 0 ∧ slots = 0 ∧ A = sw_A G ∧ Q = MQ below (sw_Q G post) args s 0 0 (sw_A G)
theorem sw_blind {G : GT} {av : List Value} {μ : MemT} : FrameBlind (sw_Pc G av μ) := fun a U g mk q => ⟨q.1, q.2.1, sw_K.same (s := U) (U := U.calling g mk a) rfl q.2.2⟩
def l_pos : List Value → List (Option Value)
  | [] => []
  | .long x :: vs => some (.long x) :: none :: l_pos vs
  | .double x :: vs => some (.double x) :: none :: l_pos vs
  | .int x :: vs => some (.int x) :: l_pos vs
  | .float x :: vs => some (.float x) :: l_pos vs
  | .ref x :: vs => some (.ref x) :: l_pos vs
  | .null :: vs => some .null :: l_pos vs
  | v :: vs => if v.category = 2 then some v :: none :: l_pos vs else some v :: l_pos vs
theorem l_pos_eq (v : Value) (vs : List Value) : l_pos (v :: vs) = if v.category = 2 then some v :: none :: l_pos vs else some v :: l_pos vs := by
  cases v <;> simp [l_pos, Value.category]
theorem l_pos_in : ∀ (av : List Value) (b i : Nat) (v : Value), (l_pos av)[i]? = some (some v) → (b + i, v) ∈ lv_args b av
  | [], b, i, v, h => by simp [l_pos] at h
  | w :: vs, b, i, v, h => by
    rw [l_pos_eq] at h
    rw [lv_args, List.mem_cons]
    by_cases hc : w.category = 2
    · rw [if_pos hc] at h ⊢
      match i, h with
      | 0, h => simp at h; exact Or.inl (by rw [h]; rfl)
      | 1, h => simp at h
      | i + 2, h =>
        have := l_pos_in vs (b + 2) i v (by simpa using h)
        exact Or.inr (by rw [show b + (i + 2) = b + 2 + i by omega]; exact this)
    · rw [if_neg hc] at h ⊢
      match i, h with
      | 0, h => simp at h; exact Or.inl (by rw [h]; rfl)
      | i + 1, h =>
        have := l_pos_in vs (b + 1) i v (by simpa using h)
        exact Or.inr (by rw [show b + (i + 1) = b + 1 + i by omega]; exact this)
def l_ent (av : List Value) (n : Nat) : List (Option Value) := l_pos av ++ List.replicate (n - (l_pos av).length) none
theorem sw_L_ent {ls : Array Slot} {n : Nat} {av : List Value} (h : lv_has ls n (lv_args 0 av)) : sw_L ls n (l_ent av n) := by
  refine ⟨h.1, h.2.1, fun i v hi => ?_⟩
  unfold l_ent at hi
  by_cases hlt : i < (l_pos av).length
  · rw [List.getElem?_append_left hlt] at hi
    have := l_pos_in av 0 i v hi
    rw [Nat.zero_add] at this
    exact h.2.2 _ this
  · rw [List.getElem?_append_right (by omega), List.getElem?_replicate] at hi
    split at hi <;> simp at hi
theorem sw_Met.ofY {l : Launch} {G : GT} {y : MethodName} {bytes : ByteArray} {maxL : Nat} {ret : Option FieldType} {rm : Room} {av : List Value} {μ : MemT} {post : Option Value → MemT → Prop} {lv0 : List (Option Value)} (hy : plainName y.cls = true) (hlen : (lg_sl av).length ≤ maxL) (hlv : l_ent av maxL = lv0) (h : Yj l G rm (sw_κ G ret post) bytes maxL y.cls μ 0 lv0 []) : sw_Met l G y bytes maxL ret rm av μ post := by
  intro hD
  subst hlv
  refine Met.ofW (cc := bytes) (maxL := maxL) (ret := ret) hy rfl ?_
  intro p e s m args below meth c s₁ B hml hv
  obtain ⟨rfl, hP, hK⟩ := hv
  have hts := atoms_spec (ws := Cond.code y bytes maxL ret :: wL) B.pre
  rw [lg_entry_eq]
  exact h p e s m av.toArray below meth c (sw_A G) 0 0 _ ⟨B.returns, B.notSynchronized, rfl, rfl, rfl, rfl⟩ ⟨B.exec, B.bytes, hml, findClass_of_methodNamed B.named, fun w hw => hts w (List.mem_cons_of_mem _ hw), hK, Nat.zero_le _, Nat.zero_le _, fun k hk => ⟨k, hk, rfl⟩, hD⟩ s.heap [] _ hP va_S.rf (sw_L_ent (lv_entry av hlen))

theorem y_iret {l : Launch} {G : GT} {R : Room} {post : Option Value → MemT → Prop} {cc : ByteArray} {n : Nat} {own : String} {μ : MemT} {pc : Nat} {lv : List (Option Value)} {v : Int32} (d : decode cc pc = .ok (.ireturn, 1)) (h : post (some (.int v)) μ) : Yj l G R (sw_κ G (some .int) post) cc n own μ pc lv [.int v] := by
  intro p e s m args below meth c A cells slots Q hk F H locs ls hP hS hl
  obtain ⟨hr, hlk, rfl, rfl, rfl, rfl⟩ := hk
  exact W.iret (hexec := F.1) (hb := F.2.1) (hr := hr) (hq := fun t ht hW => ⟨⟨_, μ, rfl, h, by rw [ht]; exact hP, F.2.2.2.2.2.1.warm hW⟩, hS.F ht⟩) (hf := hS.2.2) (hdg := d) (hlocks := hlk)
theorem y_lret {l : Launch} {G : GT} {R : Room} {post : Option Value → MemT → Prop} {cc : ByteArray} {n : Nat} {own : String} {μ : MemT} {pc : Nat} {lv : List (Option Value)} {v : Int64} (d : decode cc pc = .ok (.lreturn, 1)) (h : post (some (.long v)) μ) : Yj l G R (sw_κ G (some .long) post) cc n own μ pc lv [.long v] := by
  intro p e s m args below meth c A cells slots Q hk F H locs ls hP hS hl
  obtain ⟨hr, hlk, rfl, rfl, rfl, rfl⟩ := hk
  exact W.lret (hexec := F.1) (hb := F.2.1) (hr := hr) (hq := fun t ht hW => ⟨⟨_, μ, rfl, h, by rw [ht]; exact hP, F.2.2.2.2.2.1.warm hW⟩, hS.F ht⟩) (hf := hS.2.2) (hdg := d) (hlocks := hlk)
theorem y_vret {l : Launch} {G : GT} {R : Room} {post : Option Value → MemT → Prop} {cc : ByteArray} {n : Nat} {own : String} {μ : MemT} {pc : Nat} {lv : List (Option Value)} (d : decode cc pc = .ok (.return_, 1)) (h : post none μ) : Yj l G R (sw_κ G none post) cc n own μ pc lv [] := by
  intro p e s m args below meth c A cells slots Q hk F H locs ls hP hS hl
  obtain ⟨hr, hlk, rfl, rfl, rfl, rfl⟩ := hk
  exact W.vret (hexec := F.1) (hb := F.2.1) (hr := hr) (hq := fun t ht hW => ⟨⟨_, μ, rfl, h, by rw [ht]; exact hP, F.2.2.2.2.2.1.warm hW⟩, hS.F ht⟩) (hf := hS.2.2) (hdg := d) (hlocks := hlk)
theorem y_zret {l : Launch} {G : GT} {R : Room} {post : Option Value → MemT → Prop} {cc : ByteArray} {n : Nat} {own : String} {μ : MemT} {pc : Nat} {lv : List (Option Value)} {v : Int32} (d : decode cc pc = .ok (.ireturn, 1)) (hv : narrow .boolean (.int v) = .int v) (h : post (some (.int v)) μ) : Yj l G R (sw_κ G (some .boolean) post) cc n own μ pc lv [.int v] := by
  intro p e s m args below meth c A cells slots Q hk F H locs ls hP hS hl
  obtain ⟨hr, hlk, rfl, rfl, rfl, rfl⟩ := hk
  exact W.zret (hexec := F.1) (hb := F.2.1) (hr := hr) (hn := hv) (hq := fun t ht hW => ⟨⟨_, μ, rfl, h, by rw [ht]; exact hP, F.2.2.2.2.2.1.warm hW⟩, hS.F ht⟩) (hf := hS.2.2) (hdg := d) (hlocks := hlk)
def bI (b : Bool) : Int32 := if b then 1 else 0
theorem bI_t : bI true = 1 := rfl
theorem bI_f : bI false = 0 := rfl
theorem bI_nar (b : Bool) : narrow .boolean (.int (bI b)) = .int (bI b) := by cases b <;> rfl
theorem bI_eq0 (b : Bool) : bI b = 0 ↔ b = false := by cases b <;> decide
theorem bI_eq1 (b : Bool) : bI b = 1 ↔ b = true := by cases b <;> decide
theorem bI_ne0 (b : Bool) : ¬ bI b = 0 ↔ b = true := by cases b <;> decide

/-! calls -/
def sw_meV (y : MethodName) (bytes : ByteArray) (maxL : Nat) (ret : Option FieldType) (C : String) (n : Nat) : Prop := Cond.instanceMethod y ∈ wL ∧ Cond.selects C y y ∈ wL ∧ Cond.initialized y.cls ∈ wL ∧ Cond.code y bytes maxL ret ∈ wL ∧ y.cls = C ∧ (y.cls ≠ "java/lang/invoke/MethodHandle" ∧ y.cls ≠ "java/lang/invoke/VarHandle" ∧ (parseMethodDescriptor y.desc).map (fun d => d.parameters.length) = some n)
def sw_meS (y : MethodName) (bytes : ByteArray) (maxL : Nat) (ret : Option FieldType) (n : Nat) : Prop := Cond.static y ∈ wL ∧ Cond.initialized y.cls ∈ wL ∧ Cond.code y bytes maxL ret ∈ wL ∧ (y.cls ≠ "java/lang/invoke/MethodHandle" ∧ y.cls ≠ "java/lang/invoke/VarHandle" ∧ (parseMethodDescriptor y.desc).map (fun d => d.parameters.length) = some n)
theorem wL_callee {w : Cond} (h : w ∈ wL) : GoodIn wL (w :: wL) := fun x hx => (List.mem_cons.mp hx).elim (fun e => by rw [e]; exact wL_good _ h) (fun h2 => wL_good _ h2)
theorem sw_go {p : Program} {l : Launch} {e : Env} {R : Room} {s : State} {m : MethodId} {args : Array Value} {below : List Frame} {meth : Method} {c : Code} {H : Heap} {locs : List Loc} {cells slots : Nat} {Q : State → Prop} {pc : Nat} {ls : Array Slot} {st rest : List Value} {G : GT} {post : Option Value → MemT → Prop} {a : Array Value} {A : Nat → Prop}
    (hr : va_Run p l e R s m args below meth c H locs cells slots 0 0 (F0 m pc ls st) rest (sw_Q G post a) (sw_A G)) (hS : va_S A s.heap H locs) (hA : ∀ q, sw_A G q → A q)
    (kk : ∀ (v : Option Value) (μ2 : MemT) (H1 : Heap) (locs1 : List Loc), post v μ2 → sw_P G μ2 H1 → va_S A s.heap H1 locs1 → W p l e R s m args below meth c H1 locs1 cells slots Q (F0 m (pc + 3) ls (v.toList ++ rest))) : W p l e R s m args below meth c H locs cells slots Q (F0 m pc ls st) := by
  intro T hT X
  obtain ⟨v, st₀, t, T', L, h0, X', hL, e1, e2, ⟨⟨v2, μ2, hv, hp, hP2, hK2⟩, hz, hk⟩, st⟩ := hr T hT X
  cases hv
  rw [h0] at hz hk
  obtain ⟨t2, a1, b1⟩ := kk v μ2 T'.heap (locs ++ L) hp (by rw [e1]; exact hP2)
    ⟨Nat.le_trans hS.1 (by rw [e1]; exact hz), fun q h1 h2 => by rw [e1, hk q (Nat.lt_of_lt_of_le h1 hS.1) (fun z => h2 (hA q z))]; exact hS.2.1 q h1 h2, fun q hq => by
      rcases List.mem_append.mp hq with h | h
      · exact hS.2.2 q h
      · exact hA _ (hL q h)⟩ T' rfl X'
  exact ⟨t2, st t2 a1, b1⟩
theorem sw_Ain {G : GT} {R : Room} {cc : ByteArray} {n : Nat} {own : String} {p : Program} {s : State} {m : MethodId} {args : Array Value} {c : Code} {A : Nat → Prop} {cells slots : Nat} (F : sw_F G R cc n own p s m args c A cells slots) : ∀ q, sw_A G q → A q := by
  rintro q ⟨k, hk, rfl⟩
  exact F.2.2.2.2.2.2.2.2.1 k hk

theorem y_callV {l : Launch} {G : GT} {R : Room} {κ : KT} {cc : ByteArray} {n : Nat} {own : String} {μ : MemT} {pc : Nat} {lv : List (Option Value)} {st : List Value} {y : MethodName} {bytes : ByteArray} {maxL index np : Nat} {ret : Option FieldType} {rm : Room} {post : Option Value → MemT → Prop} {As rest : List Value} {b ci N : Nat} {C : String} {T : u_T} {ty0 : Nat → FieldType} {tm : List (Nat ⊕ Nat)} (me : sw_meV y bytes maxL ret C np) (cl : sw_cl ci C T N ty0) (hb : kdL[b]? = some (.inl (ci, tm))) (hM : sw_Met l G y bytes maxL ret rm (.ref (G.2.1 b) :: As) μ post) (hw : Cond.methodLink own index y ∈ wL) (hR : rm.frames + 1 ≤ R.frames ∧ 8 + (maxL + 11) + rm.locals ≤ R.locals) (hrm : rm.cells = 0 ∧ rm.slots = 0) (hn : As.length = np) (hroom : (rest.map fun v => v.category).sum ≤ 8) (hst : st = As.reverse ++ .ref (G.2.1 b) :: rest) (d : decode cc pc = .ok (.invokevirtual index, 3)) (h : ∀ (v : Option Value) (μ2 : MemT), post v μ2 → Yj l G R κ cc n own μ2 (pc + 3) lv (v.toList ++ rest)) : Yj l G R κ cc n own μ pc lv st := by
  subst hst
  intro p e s m args below meth c A cells slots Q hk F H locs ls hP hS hl
  exact sw_go (va_runV (C := C) (rest := rest) ⟨F.1, F.2.1, F.2.2.1, F.2.2.2.1, F.2.2.2.2.1⟩ (hM F.2.2.2.2.2.2.2.2.2) ⟨callB_of np F.2.2.2.2.1 (wL_callee me.2.2.2.1) rfl hrm.1 hrm.2 (F.2.2.2.2.1 _ me.2.2.1) (F.2.2.2.2.1 _ hw) me.2.2.2.2.2 hR, F.2.2.2.2.1 _ me.1, F.2.2.2.2.1 _ me.2.1⟩ ⟨sw_blind, va_recv F.2.2.2.2.2.1.1 hP cl.1 (sw_ws_at hb), fun U hU hW => ⟨rfl, by rw [hU]; exact hP, F.2.2.2.2.2.1.warm hW⟩⟩ rfl hn hl.1 rfl (lv_room hroom) d ⟨F.2.2.2.2.2.2.1, F.2.2.2.2.2.2.2.1⟩) hS (sw_Ain F) (fun v μ2 H1 locs1 hp hP1 hS1 => h v μ2 hp p e s m args below meth c A cells slots Q hk F H1 locs1 ls hP1 hS1 hl)
theorem y_callS {l : Launch} {G : GT} {R : Room} {κ : KT} {cc : ByteArray} {n : Nat} {own : String} {μ : MemT} {pc : Nat} {lv : List (Option Value)} {st : List Value} {y : MethodName} {bytes : ByteArray} {maxL index np : Nat} {ret : Option FieldType} {rm : Room} {post : Option Value → MemT → Prop} {As rest : List Value} (me : sw_meS y bytes maxL ret np) (hM : sw_Met l G y bytes maxL ret rm As μ post) (hw : Cond.methodLink own index y ∈ wL) (hR : rm.frames + 1 ≤ R.frames ∧ 8 + (maxL + 11) + rm.locals ≤ R.locals) (hrm : rm.cells = 0 ∧ rm.slots = 0) (hn : As.length = np) (hroom : (rest.map fun v => v.category).sum ≤ 8) (hst : st = As.reverse ++ rest) (d : decode cc pc = .ok (.invokestatic index, 3)) (h : ∀ (v : Option Value) (μ2 : MemT), post v μ2 → Yj l G R κ cc n own μ2 (pc + 3) lv (v.toList ++ rest)) : Yj l G R κ cc n own μ pc lv st := by
  subst hst
  intro p e s m args below meth c A cells slots Q hk F H locs ls hP hS hl
  exact sw_go (va_runS (rest := rest) ⟨F.1, F.2.1, F.2.2.1, F.2.2.2.1, F.2.2.2.2.1⟩ (hM F.2.2.2.2.2.2.2.2.2) ⟨callB_of np F.2.2.2.2.1 (wL_callee me.2.2.1) rfl hrm.1 hrm.2 (F.2.2.2.2.1 _ me.2.1) (F.2.2.2.2.1 _ hw) me.2.2.2 hR, F.2.2.2.2.1 _ me.1⟩ ⟨sw_blind, fun U hU hW => ⟨rfl, by rw [hU]; exact hP, F.2.2.2.2.2.1.warm hW⟩⟩ rfl hn hl.1 rfl (lv_room hroom) d ⟨F.2.2.2.2.2.2.1, F.2.2.2.2.2.2.2.1⟩) hS (sw_Ain F) (fun v μ2 H1 locs1 hp hP1 hS1 => h v μ2 hp p e s m args below meth c A cells slots Q hk F H1 locs1 ls hP1 hS1 hl)
theorem y_callSN {l : Launch} {G : GT} {R : Room} {κ : KT} {cc : ByteArray} {n : Nat} {own : String} {μ : MemT} {pc : Nat} {lv : List (Option Value)} {st : List Value} {y : MethodName} {bytes : ByteArray} {maxL index np : Nat} {ret : Option FieldType} {rm : Room} {post : Option Value → MemT → Prop} {As rest : List Value} {host : String} (me : sw_meS y bytes maxL ret np) (hM : sw_Met l G y bytes maxL ret rm As μ post) (hw : Cond.methodLinkNest own index y host ∈ wL_nest) (hR : rm.frames + 1 ≤ R.frames ∧ 8 + (maxL + 11) + rm.locals ≤ R.locals) (hrm : rm.cells = 0 ∧ rm.slots = 0) (hn : As.length = np) (hroom : (rest.map fun v => v.category).sum ≤ 8) (hst : st = As.reverse ++ rest) (d : decode cc pc = .ok (.invokestatic index, 3)) (h : ∀ (v : Option Value) (μ2 : MemT), post v μ2 → Yj l G R κ cc n own μ2 (pc + 3) lv (v.toList ++ rest)) : Yj l G R κ cc n own μ pc lv st := by
  subst hst
  intro p e s m args below meth c A cells slots Q hk F H locs ls hP hS hl
  exact sw_go (va_runSN (rest := rest) ⟨F.1, F.2.1, F.2.2.1, F.2.2.2.1, F.2.2.2.2.1⟩ (hM F.2.2.2.2.2.2.2.2.2) ⟨va_cnB np F.2.2.2.2.1 (wL_callee me.2.2.1) rfl hrm.1 hrm.2 (F.2.2.2.2.2.1.2 _ hw) (F.2.2.2.2.1 _ me.2.1) me.2.2.2 hR, F.2.2.2.2.1 _ me.1, trivial⟩ ⟨sw_blind, fun U hU hW => ⟨rfl, by rw [hU]; exact hP, F.2.2.2.2.2.1.warm hW⟩⟩ rfl hn hl.1 rfl (lv_room hroom) d ⟨F.2.2.2.2.2.2.1, F.2.2.2.2.2.2.2.1⟩) hS (sw_Ain F) (fun v μ2 H1 locs1 hp hP1 hS1 => h v μ2 hp p e s m args below meth c A cells slots Q hk F H1 locs1 ls hP1 hS1 hl)