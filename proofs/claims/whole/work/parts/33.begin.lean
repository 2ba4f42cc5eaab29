/-! cells under construction: the cells come in a fixed order, one behind another -/
def pzO : List Nat := [0, 18, 19, 20, 21, 22, 23, 24, 25, 1, 26, 27, 28, 29, 30, 31, 32, 33, 34, 35, 36, 37, 38, 39, 40, 41, 2, 3, 4, 5, 42, 43, 44, 45, 46, 47, 48, 49, 6, 7, 8, 9, 10, 11, 12, 13, 14, 15, 16, 17, 50, 51, 52, 53, 54, 55, 56, 57, 58, 59, 60, 61, 62, 63, 64, 65, 66, 67, 68, 69, 70, 71, 72, 73, 74, 75, 76, 77, 78]
def pzP : List Nat := [0, 9, 26, 27, 28, 29, 38, 39, 40, 41, 42, 43, 44, 45, 46, 47, 48, 49, 1, 2, 3, 4, 5, 6, 7, 8, 10, 11, 12, 13, 14, 15, 16, 17, 18, 19, 20, 21, 22, 23, 24, 25, 30, 31, 32, 33, 34, 35, 36, 37, 50, 51, 52, 53, 54, 55, 56, 57, 58, 59, 60, 61, 62, 63, 64, 65, 66, 67, 68, 69, 70, 71, 72, 73, 74, 75, 76, 77, 78]
def oz (i : Nat) : Nat := pzO.getD i 0
def poz (k : Nat) : Nat := pzP.getD k 0
theorem poz_oz : ∀ i, i < 79 → poz (oz i) = i ∧ oz i < 79 := by decide
theorem oz_poz : ∀ k, k < 79 → oz (poz k) = k ∧ poz k < 79 := by decide
def zd_fv (ad : Nat → Nat) (r : Nat → Int32) (i : Nat) : Nat ⊕ Nat → Value
  | .inl j => if r i = 0 then .null else .ref (ad j)
  | .inr 0 => .int (r i)
  | .inr (_ + 1) => .long (sw_jn (r (2 * i)) (r (2 * i + 1)))
def zd_fs (ad : Nat → Nat) (r : Nat → Int32) : Nat → List (Nat ⊕ Nat) → List Value
  | _, [] => []
  | i, t :: ts => zd_fv ad r i t :: zd_fs ad r (i + 1) ts
theorem zd_fs_at (ad : Nat → Nat) (r : Nat → Int32) : ∀ (ts : List (Nat ⊕ Nat)) (i k : Nat), (zd_fs ad r i ts)[k]? = (ts[k]?).map (zd_fv ad r (i + k))
  | [], i, k => by simp [zd_fs]
  | t :: ts, i, 0 => by simp [zd_fs]
  | t :: ts, i, k + 1 => by
    simp only [zd_fs, List.getElem?_cons_succ]
    rw [zd_fs_at ad r ts (i + 1) k, Nat.add_right_comm, Nat.add_assoc]
theorem zd_fs_len (ad : Nat → Nat) (r : Nat → Int32) : ∀ (ts : List (Nat ⊕ Nat)) (i : Nat), (zd_fs ad r i ts).length = ts.length
  | [], i => rfl
  | t :: ts, i => by simp [zd_fs, zd_fs_len ad r ts (i + 1)]
def zd_e (ad : Nat → Nat) (ar : Nat → ClassId) (r : Nat → Int32) : KdT → va_E
  | .inl (ci, tm) => .inr (ci, zd_fs ad r 0 tm)
  | .inr (3, n) => .inl (ar 3, n, .inr (.inr (.inr (.inr (fun j => if r j = 0 then none else sw_img ad j)))))
  | .inr (q, n) => .inl (ar q, n, .inl r)
def zd_cell (ad : Nat → Nat) (ar : Nat → ClassId) (μ : MemT) (k : Nat) : va_E := match kdL[k]? with
  | some kd => zd_e ad ar (μ k) kd
  | none => .inl (ar 0, 0, .inl (μ k))
theorem zd_cell_of {ad : Nat → Nat} {ar : Nat → ClassId} {μ : MemT} {k : Nat} {kd : KdT} (h : kdL[k]? = some kd) : zd_cell ad ar μ k = zd_e ad ar (μ k) kd := by
  unfold zd_cell
  rw [h]
def zd_ws (ad : Nat → Nat) (ar : Nat → ClassId) (μ : MemT) (n : Nat) : va_W := (List.range n).map (fun i => (ad (oz i), zd_cell ad ar μ (oz i)))
theorem zd_ws_len (ad : Nat → Nat) (ar : Nat → ClassId) (μ : MemT) (n : Nat) : (zd_ws ad ar μ n).length = n := by simp [zd_ws]
theorem zd_ws_ix {ad : Nat → Nat} {ar : Nat → ClassId} {μ : MemT} {n i : Nat} (h : i < n) : (zd_ws ad ar μ n)[i]? = some (ad (oz i), zd_cell ad ar μ (oz i)) := by
  unfold zd_ws
  rw [List.getElem?_map, List.getElem?_range h]
  rfl
theorem kd_lt {k : Nat} {kd : KdT} (h : kdL[k]? = some kd) : k < 79 := by
  have := (List.getElem?_eq_some_iff.mp h).1
  rwa [kdL_len] at this
theorem zd_ws_at {ad : Nat → Nat} {ar : Nat → ClassId} {μ : MemT} {n k : Nat} {kd : KdT} (h : kdL[k]? = some kd) (hn : poz k < n) : (zd_ws ad ar μ n)[poz k]? = some (ad k, zd_e ad ar (μ k) kd) := by
  rw [zd_ws_ix hn, (oz_poz k (kd_lt h)).1, zd_cell_of h]
theorem zd_ws_set {ad : Nat → Nat} {ar : Nat → ClassId} {μ : MemT} {n k : Nat} {kd : KdT} (h : kdL[k]? = some kd) (hn : poz k < n) (h79 : n ≤ 79) (r : Nat → Int32) : (zd_ws ad ar μ n).set (poz k) (ad k, zd_e ad ar r kd) = zd_ws ad ar (mset μ k r) n := by
  apply List.ext_getElem?
  intro j
  by_cases hj : j = poz k
  · subst hj
    rw [List.getElem?_set_self (by rw [zd_ws_len]; exact hn), zd_ws_at h hn, mset_self]
  · rw [List.getElem?_set_ne (Ne.symm hj)]
    by_cases hj2 : j < n
    · rw [zd_ws_ix hj2, zd_ws_ix hj2]
      unfold zd_cell
      have hne : oz j ≠ k := fun q => hj (by rw [← q, (poz_oz j (by omega)).1])
      rw [mset_ne μ r hne]
    · rw [List.getElem?_eq_none (by rw [zd_ws_len]; omega), List.getElem?_eq_none (by rw [zd_ws_len]; omega)]
theorem zd_ws_app {ad : Nat → Nat} {ar : Nat → ClassId} {μ : MemT} {n k : Nat} {kd : KdT} (h : kdL[k]? = some kd) (hn : poz k = n) (r : Nat → Int32) : zd_ws ad ar μ n ++ [(ad k, zd_e ad ar r kd)] = zd_ws ad ar (mset μ k r) (n + 1) := by
  have hk := kd_lt h
  have hlt := (oz_poz k hk).2
  have ho : oz n = k := by rw [← hn]; exact (oz_poz k hk).1
  apply List.ext_getElem?
  intro j
  by_cases hj : j < n
  · rw [List.getElem?_append_left (by rw [zd_ws_len]; exact hj), zd_ws_ix hj, zd_ws_ix (by omega)]
    unfold zd_cell
    have hne : oz j ≠ k := fun q => by
      have := (poz_oz j (by omega)).1
      rw [q] at this
      omega
    rw [mset_ne μ r hne]
  · rw [List.getElem?_append_right (by rw [zd_ws_len]; omega), zd_ws_len]
    by_cases hj2 : j = n
    · subst hj2
      rw [Nat.sub_self, zd_ws_ix (by omega), ho, zd_cell_of h, mset_self]
      rfl
    · rw [List.getElem?_eq_none (by simp; omega), List.getElem?_eq_none (by rw [zd_ws_len]; omega)]
def zd_P (G : GT) (n : Nat) (μ : MemT) (H : Heap) : Prop := H.size = G.2.1 0 + n ∧ va_P G.1 vwCl (zd_ws G.2.1 G.2.2 μ n) H
def zd_A (G : GT) : Nat → Prop := fun q => G.2.1 0 ≤ q
def zd_ad (G : GT) : Prop := ∀ k, k < 79 → G.2.1 k = G.2.1 0 + poz k
theorem zd_sw_D {G : GT} (h : zd_ad G) : sw_D G.2.1 := by
  intro i j hi hj e
  rw [h i hi, h j hj] at e
  have : poz i = poz j := by omega
  rw [← (oz_poz i hi).1, ← (oz_poz j hj).1, this]
theorem zd_D {G : GT} {μ : MemT} {n : Nat} (h : zd_ad G) (hn : n ≤ 79) : va_D (zd_A G) (zd_ws G.2.1 G.2.2 μ n) := by
  have at' : ∀ (k : Nat) (q : Nat × va_E), (zd_ws G.2.1 G.2.2 μ n)[k]? = some q → k < n ∧ q.1 = G.2.1 0 + k := by
    intro k q hq
    have hk : k < n := by
      have := (List.getElem?_eq_some_iff.mp hq).1
      rwa [zd_ws_len] at this
    rw [zd_ws_ix hk] at hq
    cases hq
    refine ⟨hk, ?_⟩
    obtain ⟨a1, a2⟩ := poz_oz k (by omega)
    show G.2.1 (oz k) = _
    rw [h _ a2, a1]
  refine ⟨fun i j p q hi hj he => ?_, fun k q hk => ?_⟩
  · obtain ⟨a1, a2⟩ := at' i p hi
    obtain ⟨b1, b2⟩ := at' j q hj
    omega
  · obtain ⟨a1, a2⟩ := at' k q hk
    show G.2.1 0 ≤ q.1
    omega
theorem zd_fs_upd {ad : Nat → Nat} {r : Nat → Int32} {x : Int32} {tm : List (Nat ⊕ Nat)} {k : Nat} (hn : noLong tm = true) (hk : tm[k]? = some (.inr 0)) : (zd_fs ad r 0 tm).set k (.int x) = zd_fs ad (upd r k x) 0 tm := by
  have hlt : k < tm.length := (List.getElem?_eq_some_iff.mp hk).1
  apply List.ext_getElem?
  intro j
  by_cases hj : j = k
  · subst hj
    rw [List.getElem?_set_self (by rw [zd_fs_len]; exact hlt), zd_fs_at, hk]
    simp only [Option.map_some, zd_fv, Nat.zero_add, upd_self]
  · rw [List.getElem?_set_ne (Ne.symm hj), zd_fs_at, zd_fs_at]
    cases ht : tm[j]? with
    | none => rfl
    | some t =>
      have hm := List.all_eq_true.mp hn t (List.mem_of_getElem? ht)
      simp only [Option.map_some, Nat.zero_add]
      match t, hm with
      | .inl q, _ => simp only [zd_fv, upd_ne r _ hj]
      | .inr 0, _ => simp only [zd_fv, upd_ne r _ hj]
      | .inr (q + 1), h => cases h
theorem zd_fs_updr {ad : Nat → Nat} {r : Nat → Int32} {c : Nat} {tm : List (Nat ⊕ Nat)} {k : Nat} (hn : noLong tm = true) (hk : tm[k]? = some (.inl c)) : (zd_fs ad r 0 tm).set k (.ref (ad c)) = zd_fs ad (upd r k 1) 0 tm := by
  have hlt : k < tm.length := (List.getElem?_eq_some_iff.mp hk).1
  apply List.ext_getElem?
  intro j
  by_cases hj : j = k
  · subst hj
    rw [List.getElem?_set_self (by rw [zd_fs_len]; exact hlt), zd_fs_at, hk]
    simp only [Option.map_some, zd_fv, Nat.zero_add, upd_self]
    rfl
  · rw [List.getElem?_set_ne (Ne.symm hj), zd_fs_at, zd_fs_at]
    cases ht : tm[j]? with
    | none => rfl
    | some t =>
      have hm := List.all_eq_true.mp hn t (List.mem_of_getElem? ht)
      simp only [Option.map_some, Nat.zero_add]
      match t, hm with
      | .inl q, _ => simp only [zd_fv, upd_ne r _ hj]
      | .inr 0, _ => simp only [zd_fv, upd_ne r _ hj]
      | .inr (q + 1), h => cases h
/-! the judgement of constructors -/
abbrev KZ : Type := Program → Env → State → MethodId → Array Value → List Frame → Method → Code → (State → Prop) → Prop
def zd_F (G : GT) (cc : ByteArray) (nl : Nat) (own : String) (p : Program) (s : State) (m : MethodId) (args : Array Value) (c : Code) : Prop :=
  p.tables.exec = Jvm.exec ∧ c.code = cc ∧ c.maxLocals = nl ∧ s.vm.findClass own = some m.cls ∧ (∀ w ∈ wL, w.before args s = true) ∧ sw_K G s ∧ zd_ad G
def Zj (l : Launch) (G : GT) (R : Room) (κ : KZ) (cc : ByteArray) (nl : Nat) (own : String) (cs sl n : Nat) (μ : MemT) (pc : Nat) (lv : List (Option Value)) (st : List Value) : Prop :=
  ∀ (p : Program) (e : Env) (s : State) (m : MethodId) (args : Array Value) (below : List Frame) (meth : Method) (c : Code) (Q : State → Prop), κ p e s m args below meth c Q → zd_F G cc nl own p s m args c → ∀ (H : Heap) (locs : List Loc) (ls : Array Slot), zd_P G n μ H → va_S (zd_A G) s.heap H locs → sw_L ls nl lv → W p l e R s m args below meth c H locs cs sl Q (F0 m pc ls st)

theorem z_iconst {l : Launch} {G : GT} {R : Room} {κ : KZ} {cc : ByteArray} {nl : Nat} {own : String} {cs sl n : Nat} {μ : MemT} {pc : Nat} {lv : List (Option Value)} {st : List Value} {k : Int} {v : Int32} (d : decode cc pc = .ok (.iconst k, 1)) (hv : Int32.ofInt k = v) (h : Zj l G R κ cc nl own cs sl n μ (pc + 1) lv (.int v :: st)) : Zj l G R κ cc nl own cs sl n μ pc lv st := fun p e s m args below meth c Q hk F H locs ls hP hS hl => lv_iconst F.1 F.2.1 d hv (h p e s m args below meth c Q hk F H locs ls hP hS hl)
theorem z_bipush {l : Launch} {G : GT} {R : Room} {κ : KZ} {cc : ByteArray} {nl : Nat} {own : String} {cs sl n : Nat} {μ : MemT} {pc : Nat} {lv : List (Option Value)} {st : List Value} {k : Int} {v : Int32} (d : decode cc pc = .ok (.bipush k, 2)) (hv : (Int8.ofInt k).toInt32 = v) (h : Zj l G R κ cc nl own cs sl n μ (pc + 2) lv (.int v :: st)) : Zj l G R κ cc nl own cs sl n μ pc lv st := fun p e s m args below meth c Q hk F H locs ls hP hS hl => lv_bipush F.1 F.2.1 d hv (h p e s m args below meth c Q hk F H locs ls hP hS hl)
theorem z_sipush {l : Launch} {G : GT} {R : Room} {κ : KZ} {cc : ByteArray} {nl : Nat} {own : String} {cs sl n : Nat} {μ : MemT} {pc : Nat} {lv : List (Option Value)} {st : List Value} {k : Int} {v : Int32} (d : decode cc pc = .ok (.sipush k, 3)) (hv : (Int16.ofInt k).toInt32 = v) (h : Zj l G R κ cc nl own cs sl n μ (pc + 3) lv (.int v :: st)) : Zj l G R κ cc nl own cs sl n μ pc lv st := fun p e s m args below meth c Q hk F H locs ls hP hS hl => lv_sipush F.1 F.2.1 d hv (h p e s m args below meth c Q hk F H locs ls hP hS hl)
theorem z_iload_n {l : Launch} {G : GT} {R : Room} {κ : KZ} {cc : ByteArray} {nl : Nat} {own : String} {cs sl n : Nat} {μ : MemT} {pc : Nat} {lv : List (Option Value)} {st : List Value} {k : Fin 4} {i : Nat} {x : Int32} (d : decode cc pc = .ok (.iload_n k, 1)) (hi : (k : Nat) = i) (hx : lv[i]? = some (some (.int x))) (h : Zj l G R κ cc nl own cs sl n μ (pc + 1) lv (.int x :: st)) : Zj l G R κ cc nl own cs sl n μ pc lv st := fun p e s m args below meth c Q hk F H locs ls hP hS hl => lv_iload_n F.1 F.2.1 d hi (hl.2.2 _ _ hx) (h p e s m args below meth c Q hk F H locs ls hP hS hl)
theorem z_aload_n {l : Launch} {G : GT} {R : Room} {κ : KZ} {cc : ByteArray} {nl : Nat} {own : String} {cs sl n : Nat} {μ : MemT} {pc : Nat} {lv : List (Option Value)} {st : List Value} {k : Fin 4} {i : Nat} {x : Nat} (d : decode cc pc = .ok (.aload_n k, 1)) (hi : (k : Nat) = i) (hx : lv[i]? = some (some (.ref x))) (h : Zj l G R κ cc nl own cs sl n μ (pc + 1) lv (.ref x :: st)) : Zj l G R κ cc nl own cs sl n μ pc lv st := fun p e s m args below meth c Q hk F H locs ls hP hS hl => lv_aload_n F.1 F.2.1 d hi (hl.2.2 _ _ hx) (h p e s m args below meth c Q hk F H locs ls hP hS hl)
theorem z_istore_n {l : Launch} {G : GT} {R : Room} {κ : KZ} {cc : ByteArray} {nl : Nat} {own : String} {cs sl n : Nat} {μ : MemT} {pc : Nat} {lv : List (Option Value)} {st : List Value} {k : Fin 4} {i : Nat} {x : Int32} (d : decode cc pc = .ok (.istore_n k, 1)) (hi : (k : Nat) = i) (hok : okS lv i = true) (hn : i < nl) (h : Zj l G R κ cc nl own cs sl n μ (pc + 1) (lv.set i (some (.int x))) st) : Zj l G R κ cc nl own cs sl n μ pc lv (.int x :: st) := fun p e s m args below meth c Q hk F H locs ls hP hS hl => lv_istore_n F.1 F.2.1 d hi hl.has hn rfl (fun ls2 hl2 => h p e s m args below meth c Q hk F H locs ls2 hP hS (sw_L.st1 hok hl2))
theorem z_iinc {l : Launch} {G : GT} {R : Room} {κ : KZ} {cc : ByteArray} {nl : Nat} {own : String} {cs sl n : Nat} {μ : MemT} {pc : Nat} {lv : List (Option Value)} {st : List Value} {i : Nat} {k : Int} {x v : Int32} (d : decode cc pc = .ok (.iinc i k, 3)) (hx : lv[i]? = some (some (.int x))) (hv : x + Int32.ofInt k = v) (hok : okS lv i = true) (hn : i < nl) (h : Zj l G R κ cc nl own cs sl n μ (pc + 3) (lv.set i (some (.int v))) st) : Zj l G R κ cc nl own cs sl n μ pc lv st := fun p e s m args below meth c Q hk F H locs ls hP hS hl => (l_as_place hx).elim fun _ hp => lv_iinc F.1 F.2.1 d hl.has hp hv hn rfl (fun ls2 hl2 => h p e s m args below meth c Q hk F H locs ls2 hP hS (sw_L.st1 hok hl2))
theorem z_goto {l : Launch} {G : GT} {R : Room} {κ : KZ} {cc : ByteArray} {nl : Nat} {own : String} {cs sl n : Nat} {μ : MemT} {pc : Nat} {lv : List (Option Value)} {st : List Value} {off : Int} (tgt : Nat) (d : decode cc pc = .ok (.goto off, 3)) (ht : (pc : Int) + off = (tgt : Int)) (h : Zj l G R κ cc nl own cs sl n μ tgt lv st) : Zj l G R κ cc nl own cs sl n μ pc lv st := fun p e s m args below meth c Q hk F H locs ls hP hS hl => lv_goto F.1 F.2.1 d ht (h p e s m args below meth c Q hk F H locs ls hP hS hl)
theorem z_dup {l : Launch} {G : GT} {R : Room} {κ : KZ} {cc : ByteArray} {nl : Nat} {own : String} {cs sl n : Nat} {μ : MemT} {pc : Nat} {lv : List (Option Value)} {st : List Value} {v : Value} (d : decode cc pc = .ok (.dup, 1)) (hc : v.category = 1) (h : Zj l G R κ cc nl own cs sl n μ (pc + 1) lv (v :: v :: st)) : Zj l G R κ cc nl own cs sl n μ pc lv (v :: st) := fun p e s m args below meth c Q hk F H locs ls hP hS hl => lv_dup F.1 F.2.1 d hc (h p e s m args below meth c Q hk F H locs ls hP hS hl)
theorem z_icmp_ge {l : Launch} {G : GT} {R : Room} {κ : KZ} {cc : ByteArray} {nl : Nat} {own : String} {cs sl n : Nat} {μ : MemT} {pc : Nat} {lv : List (Option Value)} {st : List Value} {x y : Int32} {off : Int} (tgt : Nat) (d : decode cc pc = .ok (.if_icmp .ge off, 3)) (ht : (pc : Int) + off = (tgt : Int)) (kt : (y ≤ x) → Zj l G R κ cc nl own cs sl n μ tgt lv st) (kf : ¬ (y ≤ x) → Zj l G R κ cc nl own cs sl n μ (pc + 3) lv st) : Zj l G R κ cc nl own cs sl n μ pc lv (.int y :: .int x :: st) := fun p e s m args below meth c Q hk F H locs ls hP hS hl => lv_icmp_ge F.1 F.2.1 d ht (fun q => kt q p e s m args below meth c Q hk F H locs ls hP hS hl) (fun q => kf q p e s m args below meth c Q hk F H locs ls hP hS hl)
theorem z_eq {l : Launch} {G : GT} {R : Room} {κ : KZ} {cc : ByteArray} {nl : Nat} {own : String} {cs sl n : Nat} {μ : MemT} {pc : Nat} {lv : List (Option Value)} {st : List Value} {μ2 : MemT} {lv2 : List (Option Value)} {st2 : List Value} (h1 : μ = μ2) (h2 : lv = lv2) (h3 : st = st2) (h : Zj l G R κ cc nl own cs sl n μ2 pc lv2 st2) : Zj l G R κ cc nl own cs sl n μ pc lv st := by subst h1; subst h2; subst h3; exact h
theorem z_obj {l : Launch} {G : GT} {R : Room} {κ : KZ} {cc : ByteArray} {nl : Nat} {own : String} {cs sl n : Nat} {μ : MemT} {pc : Nat} {lv : List (Option Value)} {st : List Value} {idx x : Nat} (d : decode cc pc = .ok (.invokespecial idx, 3)) (hw : Cond.methodLink own idx objectInit ∈ wL) (hfr : 1 ≤ R.frames) (hlo : (st.map fun v => v.category).sum + 12 ≤ R.locals) (h : Zj l G R κ cc nl own cs sl n μ (pc + 3) lv st) : Zj l G R κ cc nl own cs sl n μ pc lv (.ref x :: st) := fun p e s m args below meth c Q hk F H locs ls hP hS hl => W.objInit F.1 F.2.1 F.2.2.2.1 (F.2.2.2.2.1 _ hw) (F.2.2.2.2.1 _ wm_im_objectInit) (F.2.2.2.2.1 _ wm_cd_objectInit) rfl (by rw [F.2.2.1]; exact hl.1) rfl d hfr (by show 2 * 0 + _ + 12 ≤ _; omega) (h p e s m args below meth c Q hk F H locs ls hP hS hl)
theorem z_getr {l : Launch} {G : GT} {R : Room} {κ : KZ} {cc : ByteArray} {nl : Nat} {own : String} {cs sl n : Nat} {μ : MemT} {pc : Nat} {lv : List (Option Value)} {st : List Value} {b ci index N c : Nat} {C ref : String} {T : u_T} {ty0 : Nat → FieldType} {tm : List (Nat ⊕ Nat)} (d : decode cc pc = .ok (.getfield index, 3)) (i : Nat) (cl : sw_cl ci C T N ty0) (hb : kdL[b]? = some (.inl (ci, tm))) (hpo : poz b < n) (hN : i < N) (hw : Cond.fieldLink own index ref (T i).2.1 (T i).2.2.1 ∈ wL) (hre : (T i).1 = ref) (ht : tm[i]? = some (.inl c)) (hset : μ b i = 1) (h : Zj l G R κ cc nl own cs sl n μ (pc + 3) lv (.ref (G.2.1 c) :: st)) : Zj l G R κ cc nl own cs sl n μ pc lv (.ref (G.2.1 b) :: st) := fun p e s m args below meth c0 Q hk F H locs ls hP hS hl => va_get (D := G.1) (ci := ci) (C := C) (T := T) (N := N) F.1 F.2.1 F.2.2.2.2.1 cl.2.1 F.2.2.2.1 F.2.2.2.2.2.1.1 hP.2 (poz b) (zd_ws_at hb hpo) cl.1 i hN (F.2.2.2.2.1 _ hw) (fun _ h9 => by rw [← hre]; exact h9) (v := .ref (G.2.1 c)) (by rw [zd_fs_at, ht]; simp only [Option.map_some, Nat.zero_add, zd_fv, hset]; rfl) d (h p e s m args below meth c0 Q hk F H locs ls hP hS hl)
theorem z_alen {l : Launch} {G : GT} {R : Room} {κ : KZ} {cc : ByteArray} {nl : Nat} {own : String} {cs sl n : Nat} {μ : MemT} {pc : Nat} {lv : List (Option Value)} {st : List Value} {b N : Nat} (hb : kdL[b]? = some (.inr (0, N))) (hpo : poz b < n) (d : decode cc pc = .ok (.arraylength, 1)) (h : Zj l G R κ cc nl own cs sl n μ (pc + 1) lv (.int (nI N) :: st)) : Zj l G R κ cc nl own cs sl n μ pc lv (.ref (G.2.1 b) :: st) := fun p e s m args below meth c Q hk F H locs ls hP hS hl => va_alen F.1 F.2.1 F.2.2.2.2.2.1.1 hP.2 (poz b) 0 (zd_ws_at hb hpo) rfl rfl d (h p e s m args below meth c Q hk F H locs ls hP hS hl)
theorem z_putr {l : Launch} {G : GT} {R : Room} {κ : KZ} {cc : ByteArray} {nl : Nat} {own : String} {cs sl n : Nat} {μ : MemT} {pc : Nat} {lv : List (Option Value)} {st : List Value} {b ci index N : Nat} {C ref : String} {T : u_T} {ty0 : Nat → FieldType} {tm : List (Nat ⊕ Nat)} (d : decode cc pc = .ok (.putfield index, 3)) (i : Nat) (cl : sw_cl ci C T N ty0) (hb : kdL[b]? = some (.inl (ci, tm))) (hpo : poz b < n) (h79 : n ≤ 79) (hN : i < N) (hw : Cond.fieldLink own index ref (T i).2.1 (T i).2.2.1 ∈ wL) (hre : (T i).1 = ref) {ty : FieldType} (hnl : noLong tm = true) {c : Nat} (ht : tm[i]? = some (.inl c)) (hfin : (T i).2.2.2 = true) (hdecl : (T i).1 = own) (hκ : ∀ p e s m args below meth c0 Q, κ p e s m args below meth c0 Q → meth.name = "<init>") (hd : parseFieldDescriptor (T i).2.2.1 = some ty) (hn2 : narrow ty (.ref (G.2.1 c)) = .ref (G.2.1 c)) (hfit : fits ty (.ref (G.2.1 c)) = true) (h : Zj l G R κ cc nl own cs sl n (mset μ b (upd (μ b) i 1)) (pc + 3) lv st) : Zj l G R κ cc nl own cs sl n μ pc lv (.ref (G.2.1 c) :: .ref (G.2.1 b) :: st) := by
  intro p e s m args below meth c0 Q hk F H locs ls hP hS hl
  have hts := F.2.2.2.2.1
  have hK := F.2.2.2.2.2.1.1
  have hD := zd_D (μ := μ) F.2.2.2.2.2.2 h79
  have hap := va_apart (own := own) hts cl.2.1 ty0 cl.2.2.1 cl.2.2.2 hK cl.1
  obtain ⟨r, h1, cell, q1, q2, q3, q4⟩ := hP.2 (poz b) _ (zd_ws_at hb hpo)
  have hr : r = (C, T, N) := Option.some.inj (h1.symm.trans cl.1)
  subst hr
  obtain ⟨hSk, hfc, kC, hkC, hkind⟩ := hK.1 ci _ cl.1
  obtain ⟨cf, kf, fi, f, hi, hsl⟩ := hSk i hN
  have hsame : s.fieldFound? ref (T i).2.1 (T i).2.2.1 = some (cf, kf, fi, f) := by rw [← hre]; exact hi
  have hlay := hts _ (cl.2.1 _ (u_in_lay hN))
  unfold u_lay at hlay
  rw [if_pos hfin] at hlay
  have hst := (u_facts hfc hkC (u_lays hts cl.2.1 hN) hi).1
  have hcf : m.cls = cf := by
    obtain ⟨_, _, c', _, _, _, -, -, hf', -, -, -, hown2, -⟩ := Cond.laysFinal_spec hlay
    have e1 : c' = cf := by have := hi.symm.trans hf'; simp at this; exact this.1.symm
    rw [hdecl] at hown2
    rw [← e1]; exact Option.some.inj (F.2.2.2.1.symm.trans hown2)
  have h6 := u_fits hfc hkC hkind (Or.inr hlay) hi hd hn2 hfit
  refine W.putFinK F.1 F.2.1 F.2.2.2.1 (hts _ hw) hsame hst hcf (hκ _ _ _ _ _ _ _ _ _ hk) (by rw [q2]; exact h6) q1 q3 (by rw [hsl]; exact k2_hasslot (q4 i hN)) rfl rfl d fun H' e1 e2 e3 => ?_
  rw [hsl] at e1
  refine h p e s m args below meth c0 Q hk F H' _ ls ⟨by rw [e2]; exact hP.1, ?_⟩ (hS.put e2 e3 (hD.2 _ _ (zd_ws_at hb hpo))) hl
  have hP2 := hP.2.set hD (zd_ws_at hb hpo) (e := .inr (ci, (zd_fs G.2.1 (μ b) 0 tm).set i (.ref (G.2.1 c)))) (H1 := H') ⟨_, cl.1, t_OB.to (V := updV (vp_V (zd_fs G.2.1 (μ b) 0 tm)) i (.ref (G.2.1 c))) ⟨_, e1, q2, q3, t_set q4 hap hN (.ref (G.2.1 c))⟩ (fun j _ => vp_updV_set (by rw [zd_fs_len]; exact (List.getElem?_eq_some_iff.mp ht).1) (.ref (G.2.1 c)) j)⟩ e3
  rw [zd_fs_updr hnl ht] at hP2
  rw [← zd_ws_set hb hpo h79]
  exact hP2
theorem z_putrN {l : Launch} {G : GT} {R : Room} {κ : KZ} {cc : ByteArray} {nl : Nat} {own : String} {cs sl n : Nat} {μ : MemT} {pc : Nat} {lv : List (Option Value)} {st : List Value} {b ci index N : Nat} {C ref : String} {T : u_T} {ty0 : Nat → FieldType} {tm : List (Nat ⊕ Nat)} (d : decode cc pc = .ok (.putfield index, 3)) (i : Nat) (cl : sw_cl ci C T N ty0) (hb : kdL[b]? = some (.inl (ci, tm))) (hpo : poz b < n) (h79 : n ≤ 79) (hN : i < N) (hw : Cond.fieldLink own index ref (T i).2.1 (T i).2.2.1 ∈ wL) (hre : (T i).1 = ref) {ty : FieldType} (hnl : noLong tm = true) {c : Nat} (ht : tm[i]? = some (.inl c)) (hfin : (T i).2.2.2 = false) (hd : parseFieldDescriptor (T i).2.2.1 = some ty) (hn2 : narrow ty (.ref (G.2.1 c)) = .ref (G.2.1 c)) (hfit : fits ty (.ref (G.2.1 c)) = true) (h : Zj l G R κ cc nl own cs sl n (mset μ b (upd (μ b) i 1)) (pc + 3) lv st) : Zj l G R κ cc nl own cs sl n μ pc lv (.ref (G.2.1 c) :: .ref (G.2.1 b) :: st) := by
  intro p e s m args below meth c0 Q hk F H locs ls hP hS hl
  have hts := F.2.2.2.2.1
  have hK := F.2.2.2.2.2.1.1
  have hD := zd_D (μ := μ) F.2.2.2.2.2.2 h79
  have hap := va_apart (own := own) hts cl.2.1 ty0 cl.2.2.1 cl.2.2.2 hK cl.1
  obtain ⟨r, h1, cell, q1, q2, q3, q4⟩ := hP.2 (poz b) _ (zd_ws_at hb hpo)
  have hr : r = (C, T, N) := Option.some.inj (h1.symm.trans cl.1)
  subst hr
  obtain ⟨hSk, hfc, kC, hkC, hkind⟩ := hK.1 ci _ cl.1
  obtain ⟨cf, kf, fi, f, hi, hsl⟩ := hSk i hN
  have hsame : s.fieldFound? ref (T i).2.1 (T i).2.2.1 = some (cf, kf, fi, f) := by rw [← hre]; exact hi
  have hlay := hts _ (cl.2.1 _ (u_in_lay hN))
  unfold u_lay at hlay
  rw [if_neg (by rw [hfin]; decide)] at hlay
  have hst := (u_facts hfc hkC (u_lays hts cl.2.1 hN) hi).1
  have h6 := u_store hfc hkC hkind hlay hi hd hn2 hfit
  refine W.putK F.1 F.2.1 (f := f) ⟨F.2.2.2.1, hts _ hw, ⟨_, _, _, hsame⟩, hst⟩ (by rw [q2]; exact h6) q1 q3 (by rw [hsl]; exact k2_hasslot (q4 i hN)) rfl rfl d fun H' e1 e2 e3 => ?_
  rw [hsl] at e1
  refine h p e s m args below meth c0 Q hk F H' _ ls ⟨by rw [e2]; exact hP.1, ?_⟩ (hS.put e2 e3 (hD.2 _ _ (zd_ws_at hb hpo))) hl
  have hP2 := hP.2.set hD (zd_ws_at hb hpo) (e := .inr (ci, (zd_fs G.2.1 (μ b) 0 tm).set i (.ref (G.2.1 c)))) (H1 := H') ⟨_, cl.1, t_OB.to (V := updV (vp_V (zd_fs G.2.1 (μ b) 0 tm)) i (.ref (G.2.1 c))) ⟨_, e1, q2, q3, t_set q4 hap hN (.ref (G.2.1 c))⟩ (fun j _ => vp_updV_set (by rw [zd_fs_len]; exact (List.getElem?_eq_some_iff.mp ht).1) (.ref (G.2.1 c)) j)⟩ e3
  rw [zd_fs_updr hnl ht] at hP2
  rw [← zd_ws_set hb hpo h79]
  exact hP2
theorem z_puti {l : Launch} {G : GT} {R : Room} {κ : KZ} {cc : ByteArray} {nl : Nat} {own : String} {cs sl n : Nat} {μ : MemT} {pc : Nat} {lv : List (Option Value)} {st : List Value} {b ci index N : Nat} {C ref : String} {T : u_T} {ty0 : Nat → FieldType} {tm : List (Nat ⊕ Nat)} (d : decode cc pc = .ok (.putfield index, 3)) (i : Nat) (cl : sw_cl ci C T N ty0) (hb : kdL[b]? = some (.inl (ci, tm))) (hpo : poz b < n) (h79 : n ≤ 79) (hN : i < N) (hw : Cond.fieldLink own index ref (T i).2.1 (T i).2.2.1 ∈ wL) (hre : (T i).1 = ref) {ty : FieldType} (hnl : noLong tm = true) {x : Int32} (ht : tm[i]? = some (.inr 0)) (hfin : (T i).2.2.2 = false) (hd : parseFieldDescriptor (T i).2.2.1 = some ty) (hn2 : narrow ty (.int x) = .int x) (hfit : fits ty (.int x) = true) (h : Zj l G R κ cc nl own cs sl n (mset μ b (upd (μ b) i x)) (pc + 3) lv st) : Zj l G R κ cc nl own cs sl n μ pc lv (.int x :: .ref (G.2.1 b) :: st) := by
  intro p e s m args below meth c Q hk F H locs ls hP hS hl
  have hts := F.2.2.2.2.1
  have hK := F.2.2.2.2.2.1.1
  have hD := zd_D (μ := μ) F.2.2.2.2.2.2 h79
  have hap := va_apart (own := own) hts cl.2.1 ty0 cl.2.2.1 cl.2.2.2 hK cl.1
  obtain ⟨r, h1, cell, q1, q2, q3, q4⟩ := hP.2 (poz b) _ (zd_ws_at hb hpo)
  have hr : r = (C, T, N) := Option.some.inj (h1.symm.trans cl.1)
  subst hr
  obtain ⟨hSk, hfc, kC, hkC, hkind⟩ := hK.1 ci _ cl.1
  obtain ⟨cf, kf, fi, f, hi, hsl⟩ := hSk i hN
  have hsame : s.fieldFound? ref (T i).2.1 (T i).2.2.1 = some (cf, kf, fi, f) := by rw [← hre]; exact hi
  have hlay := hts _ (cl.2.1 _ (u_in_lay hN))
  unfold u_lay at hlay
  rw [if_neg (by rw [hfin]; decide)] at hlay
  have hst := (u_facts hfc hkC (u_lays hts cl.2.1 hN) hi).1
  have h6 := u_store hfc hkC hkind hlay hi hd hn2 hfit
  refine W.putK F.1 F.2.1 (f := f) ⟨F.2.2.2.1, hts _ hw, ⟨_, _, _, hsame⟩, hst⟩ (by rw [q2]; exact h6) q1 q3 (by rw [hsl]; exact k2_hasslot (q4 i hN)) rfl rfl d fun H' e1 e2 e3 => ?_
  rw [hsl] at e1
  refine h p e s m args below meth c Q hk F H' _ ls ⟨by rw [e2]; exact hP.1, ?_⟩ (hS.put e2 e3 (hD.2 _ _ (zd_ws_at hb hpo))) hl
  have hP2 := hP.2.set hD (zd_ws_at hb hpo) (e := .inr (ci, (zd_fs G.2.1 (μ b) 0 tm).set i (.int x))) (H1 := H') ⟨_, cl.1, t_OB.to (V := updV (vp_V (zd_fs G.2.1 (μ b) 0 tm)) i (.int x)) ⟨_, e1, q2, q3, t_set q4 hap hN (.int x)⟩ (fun j _ => vp_updV_set (by rw [zd_fs_len]; exact (List.getElem?_eq_some_iff.mp ht).1) (.int x) j)⟩ e3
  rw [zd_fs_upd hnl ht] at hP2
  rw [← zd_ws_set hb hpo h79]
  exact hP2
theorem z_iast {l : Launch} {G : GT} {R : Room} {κ : KZ} {cc : ByteArray} {nl : Nat} {own : String} {cs sl n : Nat} {μ : MemT} {pc : Nat} {lv : List (Option Value)} {st : List Value} {b N : Nat} {x y : Int32} (d : decode cc pc = .ok (.iastore, 1)) (j : Nat) (hb : kdL[b]? = some (.inr (0, N))) (hpo : poz b < n) (h79 : n ≤ 79) (hj : x = nI j) (hlt : j < N) (hN : N < 2 ^ 31) (h : Zj l G R κ cc nl own cs sl n (mset μ b (upd (μ b) j y)) (pc + 1) lv st) : Zj l G R κ cc nl own cs sl n μ pc lv (.int y :: .int x :: .ref (G.2.1 b) :: st) := by
  intro p e s m args below meth c Q hk F H locs ls hP hS hl
  have hK := F.2.2.2.2.2.1.1
  have hD := zd_D (μ := μ) F.2.2.2.2.2.2 h79
  have hin : vp_in x N := by rw [hj]; exact vp_in_nI hlt hN
  have hcl : x.toNatClampNeg = j := by rw [hj]; exact nI_clamp (Nat.lt_trans hlt hN)
  refine W.iast F.1 F.2.1 (hP.2 (poz b) _ (zd_ws_at hb hpo)) ((hK.2 0 _ rfl).1 N (fun j => .int (μ b j))) (fun q => by cases q) (by show ¬ (x < 0 ∨ (arrV _ _ _).slots.size ≤ _); rw [arrV_size]; exact hin) rfl rfl d fun H1 e1 z oq => ?_
  refine h p e s m args below meth c Q hk F H1 _ ls ⟨by rw [z]; exact hP.1, ?_⟩ (hS.put z oq (hD.2 _ _ (zd_ws_at hb hpo))) hl
  have hP2 := hP.2.set hD (zd_ws_at hb hpo) (e := .inl (G.2.2 0, N, .inl (upd (μ b) j y))) (H1 := H1) (by
    show H1[G.2.1 b]? = some (vp_cell _ _)
    rw [e1]
    rw [vp_cell_i, vp_cell_i, arrV_store]
    congr 2
    funext q
    rw [hcl]
    by_cases hq : q = j
    · subst hq
      simp [updV, upd]
    · simp [updV, upd, hq]) oq
  rw [← zd_ws_set hb hpo h79]
  exact hP2
theorem zd_born {G : GT} {n : Nat} {μ : MemT} {H H1 : Heap} {k : Nat} {kd : KdT} {r : Nat → Int32} (hP : zd_P G n μ H) (hG : zd_ad G) (hb : kdL[k]? = some kd) (hpo : poz k = n) (z1 : H1.size = G.2.1 0 + n + 1) (o1 : ∀ q, q < G.2.1 0 + n → H1[q]? = H[q]?) (he : va_at G.1 vwCl (G.2.1 k, zd_e G.2.1 G.2.2 r kd) H1) : zd_P G (n + 1) (mset μ k r) H1 := by
  refine ⟨by rw [z1, Nat.add_assoc], ?_⟩
  rw [← zd_ws_app hb hpo]
  refine (hP.2.kept (fun j x hx => ?_)).app (fun j x hx => ?_)
  · refine o1 x.1 ?_
    have := (hP.2 j x hx).lt
    rw [← hP.1]
    exact this
  · have hz : j < 1 := (List.getElem?_eq_some_iff.mp hx).1
    rw [show j = 0 by omega] at hx
    cases hx
    exact he
theorem zd_new_at {G : GT} (hG : zd_ad G) {n k : Nat} {kd : KdT} (hb : kdL[k]? = some kd) (hpo : poz k = n) : G.2.1 k = G.2.1 0 + n := by rw [hG k (kd_lt hb), hpo]
theorem zd_S_new {G : GT} {n : Nat} {H0 H H1 : Heap} {locs : List Loc} (hS : va_S (zd_A G) H0 H locs) (hz : H.size = G.2.1 0 + n) (z1 : H1.size = G.2.1 0 + n + 1) (o1 : ∀ q, q < G.2.1 0 + n → H1[q]? = H[q]?) : va_S (zd_A G) H0 H1 locs :=
  ⟨Nat.le_trans hS.1 (by omega), fun x h1 h2 => (o1 x (by have := hS.1; omega)).trans (hS.2.1 x h1 h2), hS.2.2⟩
theorem z_newi {l : Launch} {G : GT} {R : Room} {κ : KZ} {cc : ByteArray} {nl : Nat} {own : String} {cs sl n : Nat} {μ : MemT} {pc : Nat} {lv : List (Option Value)} {st : List Value} {k N : Nat} {x : Int32} (d : decode cc pc = .ok (.newarray .int, 2)) (hb : kdL[k]? = some (.inr (0, N))) (hpo : poz k = n) (hx : x = nI N) (hN : N < 4000) (hc : cs + 1 ≤ R.cells) (hs : sl + N ≤ R.slots) (h : Zj l G R κ cc nl own (cs + 1) (sl + N) (n + 1) (mset μ k (fun _ => 0)) (pc + 2) lv (.ref (G.2.1 k) :: st)) : Zj l G R κ cc nl own cs sl n μ pc lv (.int x :: st) := by
  intro p e s m args below meth c Q hk F H locs ls hP hS hl
  have hcl : x.toNatClampNeg = N := by rw [hx]; exact nI_clamp (by omega)
  have hnn : ¬ x < 0 := by rw [hx]; exact nI_nl (by omega)
  have hbytes : N * componentBytes (newarray.typeOf .int) ≤ 536870912 := by
    show N * 4 ≤ 536870912
    omega
  refine va_newaK (atype := .int) F.1 F.2.1 (F.2.2.2.2.1 _ wm_ac_int) rfl d rfl hnn hcl hbytes hc hs hP.1 fun H1 cA e1 z1 o1 hAr hNm => ?_
  have hca : cA = G.2.2 0 := by
    have hra : s.vm.findClass _ = some (G.2.2 0) := (F.2.2.2.2.2.1.1.2 0 _ rfl).2
    exact Option.some.inj (hNm.symm.trans hra)
  rw [← zd_new_at F.2.2.2.2.2.2 hb hpo] at e1 ⊢
  refine h p e s m args below meth c Q hk F H1 locs ls (zd_born hP F.2.2.2.2.2.2 hb hpo z1 o1 ?_) (zd_S_new hS hP.1 z1 o1) hl
  show H1[G.2.1 k]? = some (vp_cell (G.2.2 0) (N, .inl (fun _ => 0)))
  rw [e1, hca]
  rfl
theorem z_newb {l : Launch} {G : GT} {R : Room} {κ : KZ} {cc : ByteArray} {nl : Nat} {own : String} {cs sl n : Nat} {μ : MemT} {pc : Nat} {lv : List (Option Value)} {st : List Value} {k N : Nat} {x : Int32} (d : decode cc pc = .ok (.newarray .byte, 2)) (hb : kdL[k]? = some (.inr (1, N))) (hpo : poz k = n) (hx : x = nI N) (hN : N < 4000) (hc : cs + 1 ≤ R.cells) (hs : sl + N ≤ R.slots) (h : Zj l G R κ cc nl own (cs + 1) (sl + N) (n + 1) (mset μ k (fun _ => 0)) (pc + 2) lv (.ref (G.2.1 k) :: st)) : Zj l G R κ cc nl own cs sl n μ pc lv (.int x :: st) := by
  intro p e s m args below meth c Q hk F H locs ls hP hS hl
  have hcl : x.toNatClampNeg = N := by rw [hx]; exact nI_clamp (by omega)
  have hnn : ¬ x < 0 := by rw [hx]; exact nI_nl (by omega)
  have hbytes : N * componentBytes (newarray.typeOf .byte) ≤ 536870912 := by
    show N * 1 ≤ 536870912
    omega
  refine va_newaK (atype := .byte) F.1 F.2.1 (F.2.2.2.2.1 _ wm_ac_byte) rfl d rfl hnn hcl hbytes hc hs hP.1 fun H1 cA e1 z1 o1 hAr hNm => ?_
  have hca : cA = G.2.2 1 := by
    have hra : s.vm.findClass _ = some (G.2.2 1) := (F.2.2.2.2.2.1.1.2 1 _ rfl).2
    exact Option.some.inj (hNm.symm.trans hra)
  rw [← zd_new_at F.2.2.2.2.2.2 hb hpo] at e1 ⊢
  refine h p e s m args below meth c Q hk F H1 locs ls (zd_born hP F.2.2.2.2.2.2 hb hpo z1 o1 ?_) (zd_S_new hS hP.1 z1 o1) hl
  show H1[G.2.1 k]? = some (vp_cell (G.2.2 1) (N, .inl (fun _ => 0)))
  rw [e1, hca]
  rfl
theorem z_newz {l : Launch} {G : GT} {R : Room} {κ : KZ} {cc : ByteArray} {nl : Nat} {own : String} {cs sl n : Nat} {μ : MemT} {pc : Nat} {lv : List (Option Value)} {st : List Value} {k N : Nat} {x : Int32} (d : decode cc pc = .ok (.newarray .boolean, 2)) (hb : kdL[k]? = some (.inr (2, N))) (hpo : poz k = n) (hx : x = nI N) (hN : N < 4000) (hc : cs + 1 ≤ R.cells) (hs : sl + N ≤ R.slots) (h : Zj l G R κ cc nl own (cs + 1) (sl + N) (n + 1) (mset μ k (fun _ => 0)) (pc + 2) lv (.ref (G.2.1 k) :: st)) : Zj l G R κ cc nl own cs sl n μ pc lv (.int x :: st) := by
  intro p e s m args below meth c Q hk F H locs ls hP hS hl
  have hcl : x.toNatClampNeg = N := by rw [hx]; exact nI_clamp (by omega)
  have hnn : ¬ x < 0 := by rw [hx]; exact nI_nl (by omega)
  have hbytes : N * componentBytes (newarray.typeOf .boolean) ≤ 536870912 := by
    show N * 1 ≤ 536870912
    omega
  refine va_newaK (atype := .boolean) F.1 F.2.1 (F.2.2.2.2.1 _ wm_ac_boolean) rfl d rfl hnn hcl hbytes hc hs hP.1 fun H1 cA e1 z1 o1 hAr hNm => ?_
  have hca : cA = G.2.2 2 := by
    have hra : s.vm.findClass _ = some (G.2.2 2) := (F.2.2.2.2.2.1.1.2 2 _ rfl).2
    exact Option.some.inj (hNm.symm.trans hra)
  rw [← zd_new_at F.2.2.2.2.2.2 hb hpo] at e1 ⊢
  refine h p e s m args below meth c Q hk F H1 locs ls (zd_born hP F.2.2.2.2.2.2 hb hpo z1 o1 ?_) (zd_S_new hS hP.1 z1 o1) hl
  show H1[G.2.1 k]? = some (vp_cell (G.2.2 2) (N, .inl (fun _ => 0)))
  rw [e1, hca]
  rfl
theorem z_new {l : Launch} {G : GT} {R : Room} {κ : KZ} {cc : ByteArray} {nl : Nat} {own : String} {cs sl n : Nat} {μ : MemT} {pc : Nat} {lv : List (Option Value)} {st : List Value} {k ci N index : Nat} {C : String} {T : u_T} {ty0 : Nat → FieldType} {tm : List (Nat ⊕ Nat)} (d : decode cc pc = .ok (.new index, 3)) (cl : sw_cl ci C T N ty0) (hb : kdL[k]? = some (.inl (ci, tm))) (hpo : poz k = n) (hw : Cond.classLink own index C ∈ wL) (hwi : Cond.instantiable C N ∈ wL) (hwn : Cond.initialized C ∈ wL) (hfs : ∀ j, j < N → defaultValue (ty0 j) = vp_V (zd_fs G.2.1 (fun _ => 0) 0 tm) j) (hc : cs + 1 ≤ R.cells) (hs : sl + N ≤ R.slots) (h : Zj l G R κ cc nl own (cs + 1) (sl + N) (n + 1) (mset μ k (fun _ => 0)) (pc + 3) lv (.ref (G.2.1 k) :: st)) : Zj l G R κ cc nl own cs sl n μ pc lv st := by
  intro p e s m args below meth c Q hk F H locs ls hP hS hl
  have hts := F.2.2.2.2.1
  have hKn := F.2.2.2.2.2.1.1.1 ci _ cl.1
  refine W.newcK F.1 F.2.1 F.2.2.2.1 (hts _ hw) (hts _ hwi) (hts _ hwn) rfl d hc hs hKn.2.1 hP.1 fun H1 kC hkC e1 z1 o1 => ?_
  rw [← zd_new_at F.2.2.2.2.2.2 hb hpo] at e1 ⊢
  refine h p e s m args below meth c Q hk F H1 locs ls (zd_born hP F.2.2.2.2.2.2 hb hpo z1 o1 ?_) (zd_S_new hS hP.1 z1 o1) hl
  exact ⟨_, cl.1, (u_born ty0 hts cl.2.1 hKn hkC e1 cl.2.2.1).to hfs⟩
/-! contracts of constructors: how many cells there are, and what they hold -/
def zd_Q (G : GT) (n2 : Nat) (μ2 : MemT) : Array Value → State → Outcome → State → Prop := fun _ st oc t => (oc = .returned none ∧ zd_P G n2 μ2 t.heap ∧ sw_K G t) ∧ va_F (zd_A G) st t
def zd_Pc (G : GT) (av : List Value) (n : Nat) (μ : MemT) : Array Value → State → Prop := va_Pc av (fun U => zd_P G n μ U.heap ∧ sw_K G U)
theorem zd_blind {G : GT} {av : List Value} {n : Nat} {μ : MemT} : FrameBlind (zd_Pc G av n μ) := fun a U g mk q => ⟨q.1, q.2.1, sw_K.same (s := U) (U := U.calling g mk a) rfl q.2.2⟩
def zd_Met (l : Launch) (G : GT) (y : MethodName) (bytes : ByteArray) (maxL : Nat) (rm : Room) (av : List Value) (mc ms n : Nat) (μ : MemT) (n2 : Nat) (μ2 : MemT) : Prop :=
  zd_ad G → Met l y (.code y bytes maxL none :: wL) rm (zd_Pc G av n μ) (zd_Q G n2 μ2) mc ms (zd_A G)
def zd_κ (G : GT) (nm : String) (mc ms n2 : Nat) (μ2 : MemT) : KZ := fun _ _ s _ args below meth _ Q => meth.sig.returnType = none ∧ meth.locks = false ∧ Q = MQ below (zd_Q G n2 μ2) args s mc ms (zd_A G) ∧ meth.name = nm
theorem zd_Met.ofZ {l : Launch} {G : GT} {y : MethodName} {bytes : ByteArray} {maxL : Nat} {rm : Room} {av : List Value} {mc ms n n2 : Nat} {μ μ2 : MemT} {lv0 : List (Option Value)} (hy : plainName y.cls = true) (hlen : (lg_sl av).length ≤ maxL) (hlv : l_ent av maxL = lv0) (h : Zj l G rm (zd_κ G y.name mc ms n2 μ2) bytes maxL y.cls 0 0 n μ 0 lv0 []) : zd_Met l G y bytes maxL rm av mc ms n μ n2 μ2 := by
  intro hG
  subst hlv
  refine Met.ofW (cc := bytes) (maxL := maxL) (ret := none) hy rfl ?_
  intro p e s m args below meth c s₁ B hml hv
  obtain ⟨rfl, hP, hK⟩ := hv
  have hts := atoms_spec (ws := Cond.code y bytes maxL none :: wL) B.pre
  rw [lg_entry_eq]
  exact h p e s m av.toArray below meth c _ ⟨B.returns, B.notSynchronized, rfl, (name_of_methodNamed B.named B.method).1⟩ ⟨B.exec, B.bytes, hml, findClass_of_methodNamed B.named, fun w hw => hts w (List.mem_cons_of_mem _ hw), hK, hG⟩ s.heap [] _ hP va_S.rf (sw_L_ent (lv_entry av hlen))
theorem z_ret {l : Launch} {G : GT} {R : Room} {cc : ByteArray} {nl : Nat} {own nm : String} {cs sl n : Nat} {μ : MemT} {pc : Nat} {lv : List (Option Value)} (d : decode cc pc = .ok (.return_, 1)) : Zj l G R (zd_κ G nm cs sl n μ) cc nl own cs sl n μ pc lv [] := by
  intro p e s m args below meth c Q hk F H locs ls hP hS hl
  obtain ⟨hr, hlk, rfl, -⟩ := hk
  exact W.vret (hexec := F.1) (hb := F.2.1) (hr := hr) (hq := fun t ht hW => ⟨⟨rfl, by rw [ht]; exact hP, F.2.2.2.2.2.1.warm hW⟩, hS.F ht⟩) (hf := hS.2.2) (hdg := d) (hlocks := hlk)
theorem zd_go {p : Program} {l : Launch} {e : Env} {R : Room} {s : State} {m : MethodId} {args : Array Value} {below : List Frame} {meth : Method} {c : Code} {H : Heap} {locs : List Loc} {cs sl mc ms : Nat} {Q : State → Prop} {pc : Nat} {ls : Array Slot} {st rest : List Value} {G : GT} {n2 : Nat} {μ2 : MemT} {a : Array Value}
    (hr : va_Run p l e R s m args below meth c H locs cs sl mc ms (F0 m pc ls st) rest (zd_Q G n2 μ2 a) (zd_A G)) (hS : va_S (zd_A G) s.heap H locs)
    (kk : ∀ (H1 : Heap) (locs1 : List Loc), zd_P G n2 μ2 H1 → va_S (zd_A G) s.heap H1 locs1 → W p l e R s m args below meth c H1 locs1 (cs + mc) (sl + ms) Q (F0 m (pc + 3) ls rest)) : W p l e R s m args below meth c H locs cs sl Q (F0 m pc ls st) := by
  intro T hT X
  obtain ⟨v, st₀, t, T', L, h0, X', hL, e1, e2, ⟨⟨hv, hP2, hK2⟩, hz, hk⟩, stp⟩ := hr T hT X
  cases hv
  rw [h0] at hz hk
  obtain ⟨t2, a1, b1⟩ := kk T'.heap (locs ++ L) (by rw [e1]; exact hP2)
    ⟨Nat.le_trans hS.1 (by rw [e1]; exact hz), fun q h1 h2 => by rw [e1, hk q (Nat.lt_of_lt_of_le h1 hS.1) h2]; exact hS.2.1 q h1 h2, fun q hq => by
      rcases List.mem_append.mp hq with h | h
      · exact hS.2.2 q h
      · exact hL q h⟩ T' rfl X'
  exact ⟨t2, stp t2 a1, b1⟩
theorem z_callI {l : Launch} {G : GT} {R : Room} {κ : KZ} {cc : ByteArray} {nl : Nat} {own : String} {cs sl n : Nat} {μ : MemT} {pc : Nat} {lv : List (Option Value)} {st : List Value} {y : MethodName} {bytes : ByteArray} {maxL index : Nat} {rm : Room} {n2 mc ms x : Nat} {μ2 : MemT} (hM : zd_Met l G y bytes maxL rm [.ref x] mc ms n μ n2 μ2) (hcd : Cond.code y bytes maxL none ∈ wL) (hini : Cond.initialized y.cls ∈ wL) (hw : Cond.methodLink own index y ∈ wL) (him : Cond.instanceMethod y ∈ wL) (hy1 : y.name = "<init>") (hd : y.cls ≠ "java/lang/invoke/MethodHandle" ∧ y.cls ≠ "java/lang/invoke/VarHandle" ∧ (parseMethodDescriptor y.desc).map (fun d => d.parameters.length) = some 0) (hR : rm.frames + 1 ≤ R.frames ∧ 8 + (maxL + 11) + rm.locals ≤ R.locals) (hrm : rm.cells = mc ∧ rm.slots = ms) (hroom : (st.map fun v => v.category).sum ≤ 8) (hc : cs + mc ≤ R.cells) (hs : sl + ms ≤ R.slots) (d : decode cc pc = .ok (.invokespecial index, 3)) (h : Zj l G R κ cc nl own (cs + mc) (sl + ms) n2 μ2 (pc + 3) lv st) : Zj l G R κ cc nl own cs sl n μ pc lv (.ref x :: st) := by
  intro p e s m args below meth c Q hk F H locs ls hP hS hl
  exact zd_go (va_runI (As := []) (rest := st) ⟨F.1, F.2.1, F.2.2.1, F.2.2.2.1, F.2.2.2.2.1⟩ (hM F.2.2.2.2.2.2) (cwI 0 F.2.2.2.2.1 (wL_callee hcd) rfl hrm.1 hrm.2 (F.2.2.2.2.1 _ hini) (F.2.2.2.2.1 _ hw) (F.2.2.2.2.1 _ him) hy1 hd hR) ⟨zd_blind, fun U hU hW => ⟨rfl, by rw [hU]; exact hP, F.2.2.2.2.2.1.warm hW⟩⟩ rfl rfl hl.1 rfl (lv_room hroom) d ⟨hc, hs⟩) hS (fun H1 locs1 hP1 hS1 => h p e s m args below meth c Q hk F H1 locs1 ls hP1 hS1 hl)
theorem z_callIN {l : Launch} {G : GT} {R : Room} {κ : KZ} {cc : ByteArray} {nl : Nat} {own : String} {cs sl n : Nat} {μ : MemT} {pc : Nat} {lv : List (Option Value)} {st : List Value} {y : MethodName} {bytes : ByteArray} {maxL index : Nat} {rm : Room} {n2 mc ms x : Nat} {μ2 : MemT} {host : String} (hM : zd_Met l G y bytes maxL rm [.ref x] mc ms n μ n2 μ2) (hcd : Cond.code y bytes maxL none ∈ wL) (hini : Cond.initialized y.cls ∈ wL) (hw : Cond.methodLinkNest own index y host ∈ wL_nest) (him : Cond.instanceMethod y ∈ wL) (hy1 : y.name = "<init>") (hd : y.cls ≠ "java/lang/invoke/MethodHandle" ∧ y.cls ≠ "java/lang/invoke/VarHandle" ∧ (parseMethodDescriptor y.desc).map (fun d => d.parameters.length) = some 0) (hR : rm.frames + 1 ≤ R.frames ∧ 8 + (maxL + 11) + rm.locals ≤ R.locals) (hrm : rm.cells = mc ∧ rm.slots = ms) (hroom : (st.map fun v => v.category).sum ≤ 8) (hc : cs + mc ≤ R.cells) (hs : sl + ms ≤ R.slots) (d : decode cc pc = .ok (.invokespecial index, 3)) (h : Zj l G R κ cc nl own (cs + mc) (sl + ms) n2 μ2 (pc + 3) lv st) : Zj l G R κ cc nl own cs sl n μ pc lv (.ref x :: st) := by
  intro p e s m args below meth c Q hk F H locs ls hP hS hl
  exact zd_go (va_runIN (As := []) (rest := st) ⟨F.1, F.2.1, F.2.2.1, F.2.2.2.1, F.2.2.2.2.1⟩ (hM F.2.2.2.2.2.2) ⟨va_cnB 0 F.2.2.2.2.1 (wL_callee hcd) rfl hrm.1 hrm.2 (F.2.2.2.2.2.1.2 _ hw) (F.2.2.2.2.1 _ hini) hd hR, hy1, F.2.2.2.2.1 _ him⟩ ⟨zd_blind, fun U hU hW => ⟨rfl, by rw [hU]; exact hP, F.2.2.2.2.2.1.warm hW⟩⟩ rfl rfl hl.1 rfl (lv_room hroom) d ⟨hc, hs⟩) hS (fun H1 locs1 hP1 hS1 => h p e s m args below meth c Q hk F H1 locs1 ls hP1 hS1 hl)
theorem z_callS {l : Launch} {G : GT} {R : Room} {κ : KZ} {cc : ByteArray} {nl : Nat} {own : String} {cs sl n : Nat} {μ : MemT} {pc : Nat} {lv : List (Option Value)} {st : List Value} {y : MethodName} {bytes : ByteArray} {maxL index : Nat} {rm : Room} {n2 mc ms : Nat} {μ2 : MemT} {np : Nat} {As : List Value} {st1 : List Value} (me : sw_meS y bytes maxL none np) (hM : zd_Met l G y bytes maxL rm As mc ms n μ n2 μ2) (hw : Cond.methodLink own index y ∈ wL) (hR : rm.frames + 1 ≤ R.frames ∧ 8 + (maxL + 11) + rm.locals ≤ R.locals) (hrm : rm.cells = mc ∧ rm.slots = ms) (hroom : (st.map fun v => v.category).sum ≤ 8) (hc : cs + mc ≤ R.cells) (hs : sl + ms ≤ R.slots) (hn : As.length = np) (hst : st1 = As.reverse ++ st) (d : decode cc pc = .ok (.invokestatic index, 3)) (h : Zj l G R κ cc nl own (cs + mc) (sl + ms) n2 μ2 (pc + 3) lv st) : Zj l G R κ cc nl own cs sl n μ pc lv st1 := by
  subst hst
  intro p e s m args below meth c Q hk F H locs ls hP hS hl
  exact zd_go (va_runS (rest := st) ⟨F.1, F.2.1, F.2.2.1, F.2.2.2.1, F.2.2.2.2.1⟩ (hM F.2.2.2.2.2.2) ⟨callB_of np F.2.2.2.2.1 (wL_callee me.2.2.1) rfl hrm.1 hrm.2 (F.2.2.2.2.1 _ me.2.1) (F.2.2.2.2.1 _ hw) me.2.2.2 hR, F.2.2.2.2.1 _ me.1⟩ ⟨zd_blind, fun U hU hW => ⟨rfl, by rw [hU]; exact hP, F.2.2.2.2.2.1.warm hW⟩⟩ rfl hn hl.1 rfl (lv_room hroom) d ⟨hc, hs⟩) hS (fun H1 locs1 hP1 hS1 => h p e s m args below meth c Q hk F H1 locs1 ls hP1 hS1 hl)
