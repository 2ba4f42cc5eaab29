/-! cells under construction: the cells come in a fixed order, one behind another -/
def pzO : List Nat := [0, 18, 19, 20, 21, 22, 23, 24, 25, 1, 26, 27, 28, 29, 30, 31, 32, 33, 34, 35, 36, 37, 38, 39, 40, 41, 2, 3, 4, 5, 42, 43, 44, 45, 46, 47, 48, 49, 6, 7, 8, 9, 10, 11, 12, 13, 14, 15, 16, 17, 50, 51, 52, 53, 54, 55, 56, 57, 58, 59, 60, 61, 62, 63, 64, 65, 66, 67, 68, 69, 70, 71, 72, 73, 74, 75, 76, 77, 78]
def pzP : List Nat := [0, 9, 26, 27, 28, 29, 38, 39, 40, 41, 42, 43, 44, 45, 46, 47, 48, 49, 1, 2, 3, 4, 5, 6, 7, 8, 10, 11, 12, 13, 14, 15, 16, 17, 18, 19, 20, 21, 22, 23, 24, 25, 30, 31, 32, 33, 34, 35, 36, 37, 50, 51, 52, 53, 54, 55, 56, 57, 58, 59, 60, 61, 62, 63, 64, 65, 66, 67, 68, 69, 70, 71, 72, 73, 74, 75, 76, 77, 78]
def oz (i : Nat) : Nat := pzO.getD i 0
def poz (k : Nat) : Nat := pzP.getD k 0
theorem poz_oz : ∀ i, i < 79 → poz (oz i) = i ∧ oz i < 79 := by decide
theorem oz_poz : ∀ k, k < 79 → oz (poz k) = k ∧ poz k < 79 := by decide
def zd_fv (ad : Nat → Nat) (r : Nat → Int32) (i : Nat) : Nat ⊕ Nat → Value
  | .inl j => if r i = 0 then .null else .ref (ad j)
  | .inr 0 => .int (r i)
  | .inr (_ + 1) => .long (sw_jn (r (2 * i)) (r (2 * i + 1)))
def zd_fs (ad : Nat → Nat) (r : Nat → Int32) : Nat → List (Nat ⊕ Nat) → List Value
  | _, [] => []
  | i, t :: ts => zd_fv ad r i t :: zd_fs ad r (i + 1) ts
theorem zd_fs_at (ad : Nat → Nat) (r : Nat → Int32) : ∀ (ts : List (Nat ⊕ Nat)) (i k : Nat), (zd_fs ad r i ts)[k]? = (ts[k]?).map (zd_fv ad r (i + k))
  | [], i, k => by simp [zd_fs]
  | t :: ts, i, 0 => by simp [zd_fs]
  | t :: ts, i, k + 1 => by
    simp only [zd_fs, List.getElem?_cons_succ]
    rw [zd_fs_at ad r ts (i + 1) k, Nat.add_right_comm, Nat.add_assoc]
theorem zd_fs_len (ad : Nat → Nat) (r : Nat → Int32) : ∀ (ts : List (Nat ⊕ Nat)) (i : Nat), (zd_fs ad r i ts).length = ts.length
  | [], i => rfl
  | t :: ts, i => by simp [zd_fs, zd_fs_len ad r ts (i + 1)]
def zd_e (ad : Nat → Nat) (ar : Nat → ClassId) (r : Nat → Int32) : KdT → va_E
  | .inl (ci, tm) => .inr (ci, zd_fs ad r 0 tm)
  | .inr (3, n) => .inl (ar 3, n, .inr (.inr (.inr (.inr (fun j => if r j = 0 then none else sw_img ad j)))))
  | .inr (q, n) => .inl (ar q, n, .inl r)
def zd_cell (ad : Nat → Nat) (ar : Nat → ClassId) (μ : MemT) (k : Nat) : va_E := match kdL[k]? with
  | some kd => zd_e ad ar (μ k) kd
  | none => .inl (ar 0, 0, .inl (μ k))
theorem zd_cell_of {ad : Nat → Nat} {ar : Nat → ClassId} {μ : MemT} {k : Nat} {kd : KdT} (h : kdL[k]? = some kd) : zd_cell ad ar μ k = zd_e ad ar (μ k) kd := by
  unfold zd_cell
  rw [h]
def zd_ws (ad : Nat → Nat) (ar : Nat → ClassId) (μ : MemT) (n : Nat) : va_W := (List.range n).map (fun i => (ad (oz i), zd_cell ad ar μ (oz i)))
theorem zd_ws_len (ad : Nat → Nat) (ar : Nat → ClassId) (μ : MemT) (n : Nat) : (zd_ws ad ar μ n).length = n := by simp [zd_ws]
theorem zd_ws_ix {ad : Nat → Nat} {ar : Nat → ClassId} {μ : MemT} {n i : Nat} (h : i < n) : (zd_ws ad ar μ n)[i]? = some (ad (oz i), zd_cell ad ar μ (oz i)) := by
  unfold zd_ws
  rw [List.getElem?_map, List.getElem?_range h]
  rfl
theorem kd_lt {k : Nat} {kd : KdT} (h : kdL[k]? = some kd) : k < 79 := by
  have := (List.getElem?_eq_some_iff.mp h).1
  rwa [kdL_len] at this
theorem zd_ws_at {ad : Nat → Nat} {ar : Nat → ClassId} {μ : MemT} {n k : Nat} {kd : KdT} (h : kdL[k]? = some kd) (hn : poz k < n) : (zd_ws ad ar μ n)[poz k]? = some (ad k, zd_e ad ar (μ k) kd) := by
  rw [zd_ws_ix hn, (oz_poz k (kd_lt h)).1, zd_cell_of h]
theorem zd_ws_set {ad : Nat → Nat} {ar : Nat → ClassId} {μ : MemT} {n k : Nat} {kd : KdT} (h : kdL[k]? = some kd) (hn : poz k < n) (h79 : n ≤ 79) (r : Nat → Int32) : (zd_ws ad ar μ n).set (poz k) (ad k, zd_e ad ar r kd) = zd_ws ad ar (mset μ k r) n := by
  apply List.ext_getElem?
  intro j
  by_cases hj : j = poz k
  · subst hj
    rw [List.getElem?_set_self (by rw [zd_ws_len]; exact hn), zd_ws_at h hn, mset_self]
  · rw [List.getElem?_set_ne (Ne.symm hj)]
    by_cases hj2 : j < n
    · rw [zd_ws_ix hj2, zd_ws_ix hj2]
      unfold zd_cell
      have hne : oz j ≠ k := fun q => hj (by rw [← q, (poz_oz j (by omega)).1])
      rw [mset_ne μ r hne]
    · rw [List.getElem?_eq_none (by rw [zd_ws_len]; omega), List.getElem?_eq_none (by rw [zd_ws_len]; omega)]
theorem zd_ws_app {ad : Nat → Nat} {ar : Nat → ClassId} {μ : MemT} {n k : Nat} {kd : KdT} (h : kdL[k]? = some kd) (hn : poz k = n) (r : Nat → Int32) : zd_ws ad ar μ n ++ [(ad k, zd_e ad ar r kd)] = zd_ws ad ar (mset μ k r) (n + 1) := by
  have hk := kd_lt h
  have hlt := (oz_poz k hk).2
  have ho : oz n = k := by rw [← hn]; exact (oz_poz k hk).1
  apply List.ext_getElem?
  intro j
  by_cases hj : j < n
  · rw [List.getElem?_append_left (by rw [zd_ws_len]; exact hj), zd_ws_ix hj, zd_ws_ix (by omega)]
    unfold zd_cell
    have hne : oz j ≠ k := fun q => by
      have := (poz_oz j (by omega)).1
      rw [q] at this
      omega
    rw [mset_ne μ r hne]
  · rw [List.getElem?_append_right (by rw [zd_ws_len]; omega), zd_ws_len]
    by_cases hj2 : j = n
    · subst hj2
      rw [Nat.sub_self, zd_ws_ix (by omega), ho, zd_cell_of h, mset_self]
      rfl
    · rw [List.getElem?_eq_none (by simp; omega), List.getElem?_eq_none (by rw [zd_ws_len]; omega)]
def zd_P (G : GT) (n : Nat) (μ : MemT) (H : Heap) : Prop := H.size = G.2.1 0 + n ∧ va_P G.1 vwCl (zd_ws G.2.1 G.2.2 μ n) H
def zd_A (G : GT) : Nat → Prop := fun q => G.2.1 0 ≤ q
def zd_ad (G : GT) : Prop := ∀ k, k < 79 → G.2.1 k = G.2.1 0 + poz k
theorem zd_sw_D {G : GT} (h : zd_ad G) : sw_D G.2.1 := by
  intro i j hi hj e
  rw [h i hi, h j hj] at e
  have : poz i = poz j := by omega
  rw [← (oz_poz i hi).1, ← (oz_poz j hj).1, this]
theorem zd_D {G : GT} {μ : MemT} {n : Nat} (h : zd_ad G) (hn : n ≤ 79) : va_D (zd_A G) (zd_ws G.2.1 G.2.2 μ n) := by
  have at' : ∀ (k : Nat) (q : Nat × va_E), (zd_ws G.2.1 G.2.2 μ n)[k]? = some q → k < n ∧ q.1 = G.2.1 0 + k := by
    intro k q hq
    have hk : k < n := by
      have := (List.getElem?_eq_some_iff.mp hq).1
      rwa [zd_ws_len] at this
    rw [zd_ws_ix hk] at hq
    cases hq
    refine ⟨hk, ?_⟩
    obtain ⟨a1, a2⟩ := poz_oz k (by omega)
    show G.2.1 (oz k) = _
    rw [h _ a2, a1]
  refine ⟨fun i j p q hi hj he => ?_, fun k q hk => ?_⟩
  · obtain ⟨a1, a2⟩ := at' i p hi
    obtain ⟨b1, b2⟩ := at' j q hj
    omega
  · obtain ⟨a1, a2⟩ := at' k q hk
    show G.2.1 0 ≤ q.1
    omega
theorem zd_fs_upd {ad : Nat → Nat} {r : Nat → Int32} {x : Int32} {tm : List (Nat ⊕ Nat)} {k : Nat} (hn : noLong tm = true) (hk : tm[k]? = some (.inr 0)) : (zd_fs ad r 0 tm).set k (.int x) = zd_fs ad (upd r k x) 0 tm := by
  have hlt : k < tm.length := (List.getElem?_eq_some_iff.mp hk).1
  apply List.ext_getElem?
  intro j
  by_cases hj : j = k
  · subst hj
    rw [List.getElem?_set_self (by rw [zd_fs_len]; exact hlt), zd_fs_at, hk]
    simp only [Option.map_some, zd_fv, Nat.zero_add, upd_self]
  · rw [List.getElem?_set_ne (Ne.symm hj), zd_fs_at, zd_fs_at]
    cases ht : tm[j]? with
    | none => rfl
    | some t =>
      have hm := List.all_eq_true.mp hn t (List.mem_of_getElem? ht)
      simp only [Option.map_some, Nat.zero_add]
      match t, hm with
      | .inl q, _ => simp only [zd_fv, upd_ne r _ hj]
      | .inr 0, _ => simp only [zd_fv, upd_ne r _ hj]
      | .inr (q + 1), h => cases h
theorem zd_fs_updr {ad : Nat → Nat} {r : Nat → Int32} {c : Nat} {tm : List (Nat ⊕ Nat)} {k : Nat} (hn : noLong tm = true) (hk : tm[k]? = some (.inl c)) : (zd_fs ad r 0 tm).set k (.ref (ad c)) = zd_fs ad (upd r k 1) 0 tm := by
  have hlt : k < tm.length := (List.getElem?_eq_some_iff.mp hk).1
  apply List.ext_getElem?
  intro j
  by_cases hj : j = k
  · subst hj
    rw [List.getElem?_set_self (by rw [zd_fs_len]; exact hlt), zd_fs_at, hk]
    simp only [Option.map_some, zd_fv, Nat.zero_add, upd_self]
    rfl
  · rw [List.getElem?_set_ne (Ne.symm hj), zd_fs_at, zd_fs_at]
    cases ht : tm[j]? with
    | none => rfl
    | some t =>
      have hm := List.all_eq_true.mp hn t (List.mem_of_getElem? ht)
      simp only [Option.map_some, Nat.zero_add]
      match t, hm with
      | .inl q, _ => simp only [zd_fv, upd_ne r _ hj]
      | .inr 0, _ => simp only [zd_fv, upd_ne r _ hj]
      | .inr (q + 1), h => cases h
/-! the judgement of constructors -/
abbrev KZ : Type := Program → Env → State → MethodId → Array Value → List Frame → Method → Code → (State → Prop) → Prop
def zd_F (G : GT) (cc : ByteArray) (nl : Nat) (own : String) (p : Program) (s : State) (m : MethodId) (args : Array Value) (c : Code) : Prop :=
  p.tables.exec = Jvm.exec ∧ c.code = cc ∧ c.maxLocals = nl ∧ s.vm.findClass own = some m.cls ∧ (∀ w ∈ wL, w.before args s = true) ∧ sw_K G s ∧ zd_ad G
def Zj (l : Launch) (G : GT) (R : Room) (κ : KZ) (cc : ByteArray) (nl : Nat) (own : String) (cs sl n : Nat) (μ : MemT) (pc : Nat) (lv : List (Option Value)) (st : List Value) : Prop :=
  ∀ (p : Program) (e : Env) (s : State) (m : MethodId) (args : Array Value) (below : List Frame) (meth : Method) (c : Code) (Q : State → Prop), κ p e s m args below meth c Q → zd_F G cc nl own p s m args c → ∀ (H : Heap) (locs : List Loc) (ls : Array Slot), zd_P G n μ H → va_S (zd_A G) s.heap H locs → sw_L ls nl lv → W p l e R s m args below meth c H locs cs sl Q (F0 m pc ls st)

theorem z_iconst {l : Launch} {G : GT} {R : Room} {κ : KZ} {cc : ByteArray} {nl : Nat} {own : String} {cs sl n : Nat} {μ : MemT} {pc : Nat} {lv : List (Option Value)} {st : List Value} {k : Int} {v : Int32} (d : decode cc pc = .ok (.iconst k, 1)) (hv : Int32.ofInt k = v) (h : Zj l G R κ cc nl own cs sl n μ (pc + 1) lv (.int v :: st)) : Zj l G R κ cc nl own cs sl n μ pc lv st := fun p e s m args below meth c Q hk F H locs ls hP hS hl => lv_iconst F.1 F.2.1 d hv (h p e s m args below meth c Q hk F H locs ls hP hS hl)
theorem z_bipush {l : Launch} {G : GT} {R : Room} {κ : KZ} {cc : ByteArray} {nl : Nat} {own : String} {cs sl n : Nat} {μ : MemT} {pc : Nat} {lv : List (Option Value)} {st : List Value} {k : Int} {v : Int32} (d : decode cc pc = .ok (.bipush k, 2)) (hv : (Int8.ofInt k).toInt32 = v) (h : Zj l G R κ cc nl own cs sl n μ (pc + 2) lv (.int v :: st)) : Zj l G R κ cc nl own cs sl n μ pc lv st := fun p e s m args below meth c Q hk F H locs ls hP hS hl => lv_bipush F.1 F.2.1 d hv (h p e s m args below meth c Q hk F H locs ls hP hS hl)
theorem z_sipush {l : Launch} {G : GT} {R : Room} {κ : KZ} {cc : ByteArray} {nl : Nat} {own : String} {cs sl n : Nat} {μ : MemT} {pc : Nat} {lv : List (Option Value)} {st : List Value} {k : Int} {v : Int32} (d : decode cc pc = .ok (.sipush k, 3)) (hv : (Int16.ofInt k).toInt32 = v) (h : Zj l G R κ cc nl own cs sl n μ (pc + 3) lv (.int v :: st)) : Zj l G R κ cc nl own cs sl n μ pc lv st := fun p e s m args below meth c Q hk F H locs ls hP hS hl => lv_sipush F.1 F.2.1 d hv (h p e s m args below meth c Q hk F H locs ls hP hS hl)
theorem z_iload_n {l : Launch} {G : GT} {R : Room} {κ : KZ} {cc : ByteArray} {nl : Nat} {own : String} {cs sl n : Nat} {μ : MemT} {pc : Nat} {lv : List (Option Value)} {st : List Value} {k : Fin 4} {i : Nat} {x : Int32} (d : decode cc pc = .ok (.iload_n k, 1)) (hi : (k : Nat) = i) (hx : lv[i]? = some (some (.int x))) (h : Zj l G R κ cc nl own cs sl n μ (pc + 1) lv (.int x :: st)) : Zj l G R κ cc nl own cs sl n μ pc lv st := fun p e s m args below meth c Q hk F H locs ls hP hS hl => lv_iload_n F.1 F.2.1 d hi (hl.2.2 _ _ hx) (h p e s m args below meth c Q hk F H locs ls hP hS hl)
theorem z_aload_n {l : Launch} {G : GT} {R : Room} {κ : KZ} {cc : ByteArray} {nl : Nat} {own : String} {cs sl n : Nat} {μ : MemT} {pc : Nat} {lv : List (Option Value)} {st : List Value} {k : Fin 4} {i : Nat} {x : Nat} (d : decode cc pc = .ok (.aload_n k, 1)) (hi : (k : Nat) = i) (hx : lv[i]? = some (some (.ref x))) (h : Zj l G R κ cc nl own cs sl n μ (pc + 1) lv (.ref x :: st)) : Zj l G R κ cc nl own cs sl n μ pc lv st := fun p e s m args below meth c Q hk F H locs ls hP hS hl => lv_aload_n F.1 F.2.1 d hi (hl.2.2 _ _ hx) (h p e s m args below meth c Q hk F H locs ls hP hS hl)
theorem z_istore_n {l : Launch} {G : GT} {R : Room} {κ : KZ} {cc : ByteArray} {nl : Nat} {own : String} {cs sl n : Nat} {μ : MemT} {pc : Nat} {lv : List (Option Value)} {st : List Value} {k : Fin 4} {i : Nat} {x : Int32} (d : decode cc pc = .ok (.istore_n k, 1)) (hi : (k : Nat) = i) (hok : okS lv i = true) (hn : i < nl) (h : Zj l G R κ cc nl own cs sl n μ (pc + 1) (lv.set i (some (.int x))) st) : Zj l G R κ cc nl own cs sl n μ pc lv (.int x :: st) := fun p e s m args below meth c Q hk F H locs ls hP hS hl => lv_istore_n F.1 F.2.1 d hi hl.has hn rfl (fun ls2 hl2 => h p e s m args below meth c Q hk F H locs ls2 hP hS (sw_L.st1 hok hl2))
theorem z_iinc {l : Launch} {G : GT} {R : Room} {κ : KZ} {cc : ByteArray} {nl : Nat} {own : String} {cs sl n : Nat} {μ : MemT} {pc : Nat} {lv : List (Option Value)} {st : List Value} {i : Nat} {k : Int} {x v : Int32} (d : decode cc pc = .ok (.iinc i k, 3)) (hx : lv[i]? = some (some (.int x))) (hv : x + Int32.ofInt k = v) (hok : okS lv i = true) (hn : i < nl) (h : Zj l G R κ cc nl own cs sl n μ (pc + 3) (lv.set i (some (.int v))) st) : Zj l G R κ cc nl own cs sl n μ pc lv st := fun p e s m args below meth c Q hk F H locs ls hP hS hl => (l_as_place hx).elim fun _ hp => lv_iinc F.1 F.2.1 d hl.has hp hv hn rfl (fun ls2 hl2 => h p e s m args below meth c Q hk F H locs ls2 hP hS (sw_L.st1 hok hl2))
theorem z_goto {l : Launch} {G : GT} {R : Room} {κ : KZ} {cc : ByteArray} {nl : Nat} {own : String} {cs sl n : Nat} {μ : MemT} {pc : Nat} {lv : List (Option Value)} {st : List Value} {off : Int} (tgt : Nat) (d : decode cc pc = .ok (.goto off, 3)) (ht : (pc : Int) + off = (tgt : Int)) (h : Zj l G R κ cc nl own cs sl n μ tgt lv st) : Zj l G R κ cc nl own cs sl n μ pc lv st := fun p e s m args below meth c Q hk F H locs ls hP hS hl => lv_goto F.1 F.2.1 d ht (h p e s m args below meth c Q hk F H locs ls hP hS hl)
theorem z_dup {l : Launch} {G : GT} {R : Room} {κ : KZ} {cc : ByteArray} {nl : Nat} {own : String} {cs sl n : Nat} {μ : MemT} {pc : Nat} {lv : List (Option Value)} {st : List Value} {v : Value} (d : decode cc pc = .ok (.dup, 1)) (hc : v.category = 1) (h : Zj l G R κ cc nl own cs sl n μ (pc + 1) lv (v :: v :: st)) : Zj l G R κ cc nl own cs sl n μ pc lv (v :: st) := fun p e s m args below meth c Q hk F H locs ls hP hS hl => lv_dup F.1 F.2.1 d hc (h p e s m args below meth c Q hk F H locs ls hP hS hl)
theorem z_icmp_ge {l : Launch} {G : GT} {R : Room} {κ : KZ} {cc : ByteArray} {nl : Nat} {own : String} {cs sl n : Nat} {μ : MemT} {pc : Nat} {lv : List (Option Value)} {st : List Value} {x y : Int32} {off : Int} (tgt : Nat) (d : decode cc pc = .ok (.if_icmp .ge off, 3)) (ht : (pc : Int) + off = (tgt : Int)) (kt : (y ≤ x) → Zj l G R κ cc nl own cs sl n μ tgt lv st) (kf : ¬ (y ≤ x) → Zj l G R κ cc nl own cs sl n μ (pc + 3) lv st) : Zj l G R κ cc nl own cs sl n μ pc lv (.int y :: .int x :: st) := fun p e s m args below meth c Q hk F H locs ls hP hS hl => lv_icmp_ge F.1 F.2.1 d ht (fun q => kt q p e s m args below meth c Q hk F H locs ls hP hS hl) (fun q => kf q p e s m args below meth c Q hk F H locs ls hP hS hl)
theorem z_eq {l : Launch} {G : GT} {R : Room} {κ : KZ} {cc : ByteArray} {nl : Nat} {own : String} {cs sl n : Nat} {μ : MemT} {pc : Nat} {lv : List (Option Value)} {st : List Value} {μ2 : MemT} {lv2 : List (Option Value)} {st2 : List Value} (h1 : μ = μ2) (h2 : lv = lv2) (h3 : st = st2) (h : Zj l G R κ cc nl own cs sl n μ2 pc lv2 st2) : Zj l G R κ cc nl own cs sl n μ pc lv st := by subst h1; subst h2; subst h3; exact h
theorem z_obj {l : Launch} {G : GT} {R : Room} {κ : KZ} {cc : ByteArray} {nl : Nat} {own : String} {cs sl n : Nat} {μ : MemT} {pc : Nat} {lv : List (Option Value)} {st : List Value} {idx x : Nat} (d : decode cc pc = .ok (.invokespecial idx, 3)) (hw : Cond.methodLink own idx objectInit ∈ wL) (hfr : 1 ≤ R.frames) (hlo : (st.map fun v => v.category).sum + 12 ≤ R.locals) (h : Zj l G R κ cc nl own cs sl n μ (pc + 3) lv st) : Zj l G R κ cc nl own cs sl n μ pc lv (.ref x :: st) := fun p e s m args below meth c Q hk F H locs ls hP hS hl => W.objInit F.1 F.2.1 F.2.2.2.1 (F.2.2.2.2.1 _ hw) (F.2.2.2.2.1 _ wm_im_objectInit) (F.2.2.2.2.1 _ wm_cd_objectInit) rfl (by rw [F.2.2.1]; exact hl.1) rfl d hfr (by show 2 * 0 + _ + 12 ≤ _; omega) (h p e s m args below meth c Q hk F H locs ls hP hS hl)
theorem z_getr {l : Launch} {G : GT} {R : Room} {κ : KZ} {cc : ByteArray} {nl : Nat} {own : String} {cs sl n : Nat} {μ : MemT} {pc : Nat} {lv : List (Option Value)} {st : List Value} {b ci index N c : Nat} {C ref : String} {T : u_T} {ty0 : Nat → FieldType} {tm : List (Nat ⊕ Nat)} (d : decode cc pc = .ok (.getfield index, 3)) (i : Nat) (cl : sw_cl ci C T N ty0) (hb : kdL[b]? = some (.inl (ci, tm))) (hpo : poz b < n) (hN : i < N) (hw : Cond.fieldLink own index ref (T i).2.1 (T i).2.2.1 ∈ wL) (hre : (T i).1 = ref) (ht : tm[i]? = some (.inl c)) (hset : μ b i = 1) (h : Zj l G R κ cc nl own cs sl n μ (pc + 3) lv (.ref (G.2.1 c) :: st)) : Zj l G R κ cc nl own cs sl n μ pc lv (.ref (G.2.1 b) :: st) := fun p e s m args below meth c0 Q hk F H locs ls hP hS hl => va_get (D := G.1) (ci := ci) (C := C) (T := T) (N := N) F.1 F.2.1 F.2.2.2.2.1 cl.2.1 F.2.2.2.1 F.2.2.2.2.2.1.1 hP.2 (poz b) (zd_ws_at hb hpo) cl.1 i hN (F.2.2.2.2.1 _ hw) (fun _ h9 => by rw [← hre]; exact h9) (v := .ref (G.2.1 c)) (by rw [zd_fs_at, ht]; simp only [Option.map_some, Nat.zero_add, zd_fv, hset]; rfl) d (h p e s m args below meth c0 Q hk F H locs ls hP hS hl)
theorem z_alen {l : Launch} {G : GT} {R : Room} {κ : KZ} {cc : ByteArray} {nl : Nat} {own : String} {cs sl n : Nat} {μ : MemT} {pc : Nat} {lv : List (Option Value)} {st : List Value} {b N : Nat} (hb : kdL[b]? = some (.inr (0, N))) (hpo : poz b < n) (d : decode cc pc = .ok (.arraylength, 1)) (h : Zj l G R κ cc nl own cs sl n μ (pc + 1) lv (.int (nI N) :: st)) : Zj l G R κ cc nl own cs sl n μ pc lv (.ref (G.2.1 b) :: st) := fun p e s m args below meth c Q hk F H locs ls hP hS hl => va_alen F.1 F.2.1 F.2.2.2.2.2.1.1 hP.2 (poz b) 0 (zd_ws_at hb hpo) rfl rfl d (h p e s m args below meth c Q hk F H locs ls hP hS hl)
theorem z_putr {l : Launch} {G : GT} {R : Room} {κ : KZ} {cc : ByteArray} {nl : Nat} {own : String} {cs sl n : Nat} {μ : MemT} {pc : Nat} {lv : List (Option Value)} {st : List Value} {b ci index N : Nat} {C ref : String} {T : u_T} {ty0 : Nat → FieldType} {tm : List (Nat ⊕ Nat)} (d : decode cc pc = .ok (.putfield index, 3)) (i : Nat) (cl : sw_cl ci C T N ty0) (hb : kdL[b]? = some (.inl (ci, tm))) (hpo : poz b < n) (h79 : n ≤ 79) (hN : i < N) (hw : Cond.fieldLink own index ref (T i).2.1 (T i).2.2.1 ∈ wL) (hre : (T i).1 = ref) {ty : FieldType} (hnl : noLong tm = true) {c : Nat} (ht : tm[i]? = some (.inl c)) (hfin : (T i).2.2.2 = true) (hdecl : (T i).1 = own) (hκ : ∀ p e s m args below meth c0 Q, κ p e s m args below meth c0 Q → meth.name = "<init>") (hd : parseFieldDescriptor (T i).2.2.1 = some ty) (hn2 : narrow ty (.ref (G.2.1 c)) = .ref (G.2.1 c)) (hfit : fits ty (.ref (G.2.1 c)) = true) (h : Zj l G R κ cc nl own cs sl n (mset μ b (upd (μ b) i 1)) (pc + 3) lv st) : Zj l G R κ cc nl own cs sl n μ pc lv (.ref (G.2.1 c) :: .ref (G.2.1 b) :: st) := by
  intro p e s m args below meth c0 Q hk F H locs ls hP hS hl
  have hts := F.2.2.2.2.1
  have hK := F.2.2.2.2.2.1.1
  have hD := zd_D (μ := μ) F.2.2.2.2.2.2 h79
  have hap := va_apart (own := own) hts cl.2.1 ty0 cl.2.2.1 cl.2.2.2 hK cl.1
  obtain ⟨r, h1, cell, q1, q2, q3, q4⟩ := hP.2 (poz b) _ (zd_ws_at hb hpo)
  have hr : r = (C, T, N) := Option.some.inj (h1.symm.trans cl.1)
  subst hr
  obtain ⟨hSk, hfc, kC, hkC, hkind⟩ := hK.1 ci _ cl.1
  obtain ⟨cf, kf, fi, f, hi, hsl⟩ := hSk i hN
  have hsame : s.fieldFound? ref (T i).2.1 (T i).2.2.1 = some (cf, kf, fi, f) := by rw [← hre]; exact hi
  have hlay := hts _ (cl.2.1 _ (u_in_lay hN))
  unfold u_lay at hlay
  rw [if_pos hfin] at hlay
  have hst := (u_facts hfc hkC (u_lays hts cl.2.1 hN) hi).1
  have hcf : m.cls = cf := by
    obtain ⟨_, _, c', _, _, _, -, -, hf', -, -, -, hown2, -⟩ := Cond.laysFinal_spec hlay
    have e1 : c' = cf := by have := hi.symm.trans hf'; simp at this; exact this.1.symm
    rw [hdecl] at hown2
    rw [← e1]; exact Option.some.inj (F.2.2.2.1.symm.trans hown2)
  have h6 := u_fits hfc hkC hkind (Or.inr hlay) hi hd hn2 hfit
  refine W.putFinK F.1 F.2.1 F.2.2.2.1 (hts _ hw) hsame hst hcf (hκ _ _ _ _ _ _ _ _ _ hk) (by rw [q2]; exact h6) q1 q3 (by rw [hsl]; exact k2_hasslot (q4 i hN)) rfl rfl d fun H' e1 e2 e3 => ?_
  rw [hsl] at e1
  refine h p e s m args below meth c0 Q hk F H' _ ls ⟨by rw [e2]; exact hP.1, ?_⟩ (hS.put e2 e3 (hD.2 _ _ (zd_ws_at hb hpo))) hl
  have hP2 := hP.2.set hD (zd_ws_at hb hpo) (e := .inr (ci, (zd_fs G.2.1 (μ b) 0 tm).set i (.ref (G.2.1 c)))) (H1 := H') ⟨_, cl.1, t_OB.to (V := updV (vp_V (zd_fs G.2.1 (μ b) 0 tm)) i (.ref (G.2.1 c))) ⟨_, e1, q2, q3, t_set q4 hap hN (.ref (G.2.1 c))⟩ (fun j _ => vp_updV_set (by rw [zd_fs_len]; exact (List.getElem?_eq_some_iff.mp ht).1) (.ref (G.2.1 c)) j)⟩ e3
  rw [zd_fs_updr hnl ht] at hP2
  rw [← zd_ws_set hb hpo h79]
  exact hP2
theorem z_putrN {l : Launch} {G : GT} {R : Room} {κ : KZ} {cc : ByteArray} {nl : Nat} {own : String} {cs sl n : Nat} {μ : MemT} {pc : Nat} {lv : List (Option Value)} {st : List Value} {b ci index N : Nat} {C ref : String} {T : u_T} {ty0 : Nat → FieldType} {tm : List (Nat ⊕ Nat)} (d : decode cc pc = .ok (.putfield index, 3)) (i : Nat) (cl : sw_cl ci C T N ty0) (hb : kdL[b]? = some (.inl (ci, tm))) (hpo : poz b < n) (h79 : n ≤ 79) (hN : i < N) (hw : Cond.fieldLink own index ref (T i).2.1 (T i).2.2.1 ∈ wL) (hre : (T i).1 = ref) {ty : FieldType} (hnl : noLong tm = true) {c : Nat} (ht : tm[i]? = some (.inl c)) (hfin : (T i).2.2.2 = false) (hd : parseFieldDescriptor (T i).2.2.1 = some ty) (hn2 : narrow ty (.ref (G.2.1 c)) = .ref (G.2.1 c)) (hfit : fits ty (.ref (G.2.1 c)) = true) (h : Zj l G R κ cc nl own cs sl n (mset μ b (upd (μ b) i 1)) (pc + 3) lv st) : Zj l G R κ cc nl own cs sl n μ pc lv (.ref (G.2.1 c) :: .ref (G.2.1 b) :: st) := by
  intro p e s m args below meth c0 Q hk F H locs ls hP hS hl
  have hts := F.2.2.2.2.1
  have hK := F.2.2.2.2.2.1.1
  have hD := zd_D (μ := μ) F.2.2.2.2.2.2 h79
  have hap := va_apart (own := own) hts cl.2.1 ty0 cl.2.2.1 cl.2.2.2 hK cl.1
  obtain ⟨r, h1, cell, q1, q2, q3, q4⟩ := hP.2 (poz b) _ (zd_ws_at hb hpo)
  have hr : r = (C, T, N) := Option.some.inj (h1.symm.trans cl.1)
  subst hr
  obtain ⟨hSk, hfc, kC, hkC, hkind⟩ := hK.1 ci _ cl.1
  obtain ⟨cf, kf, fi, f, hi, hsl⟩ := hSk i hN
  have hsame : s.fieldFound? ref (T i).2.1 (T i).2.2.1 = some (cf, kf, fi, f) := by rw [← hre]; exact hi
  have hlay := hts _ (cl.2.1 _ (u_in_lay hN))
  unfold u_lay at hlay
  rw [if_neg (by rw [hfin]; decide)] at hlay
  have hst := (u_facts hfc hkC (u_lays hts cl.2.1 hN) hi).1
  have h6 := u_store hfc hkC hkind hlay hi hd hn2 hfit
  refine W.putK F.1 F.2.1 (f := f) ⟨F.2.2.2.1, hts _ hw, ⟨_, _, _, hsame⟩, hst⟩ (by rw [q2]; exact h6) q1 q3 (by rw [hsl]; exact k2_hasslot (q4 i hN)) rfl rfl d fun H' e1 e2 e3 => ?_
  rw [hsl] at e1
  refine h p e s m args below meth c0 Q hk F H' _ ls ⟨by rw [e2]; exact hP.1, ?_⟩ (hS.put e2 e3 (hD.2 _ _ (zd_ws_at hb hpo))) hl
  have hP2 := hP.2.set hD (zd_ws_at hb hpo) (e := .inr (ci, (zd_fs G.2.1 (μ b) 0 tm).set i (.ref (G.2.1 c)))) (H1 := H') ⟨_, cl.1, t_OB.to (V := updV (vp_V (zd_fs G.2.1 (μ b) 0 tm)) i (.ref (G.2.1 c))) ⟨_, e1, q2, q3, t_set q4 hap hN (.ref (G.2.1 c))⟩ (fun j _ => vp_updV_set (by rw [zd_fs_len]; exact (List.getElem?_eq_some_iff.mp ht).1) (.ref (G.2.1 c)) j)⟩ e3
  rw [zd_fs_updr hnl ht] at hP2
  rw [← zd_ws_set hb hpo h79]
  exact hP2
theorem z_puti {l : Launch} {G : GT} {R : Room} {κ : KZ} {cc : ByteArray} {nl : Nat} {own : String} {cs sl n : Nat} {μ : MemT} {pc : Nat} {lv : List (Option Value)} {st : List Value} {b ci index N : Nat} {C ref : String} {T : u_T} {ty0 : Nat → FieldType} {tm : List (Nat ⊕ Nat)} (d : decode cc pc = .ok (.putfield index, 3)) (i : Nat) (cl : sw_cl ci C T N ty0) (hb : kdL[b]? = some (.inl (ci, tm))) (hpo : poz b < n) (h79 : n ≤ 79) (hN : i < N) (hw : Cond.fieldLink own index ref (T i).2.1 (T i).2.2.1 ∈ wL) (hre : (T i).1 = ref) {ty : FieldType} (hnl : noLong tm = true) {x : Int32} (ht : tm[i]? = some (.inr 0)) (hfin : (T i).2.2.2 = false) (hd : parseFieldDescriptor (T i).2.2.1 = some ty) (hn2 : narrow ty (.int x) = .int x) (hfit : fits ty (.int x) = true) (h : Zj l G R κ cc nl own cs sl n (mset μ b (upd (μ b) i x)) (pc + 3) lv st) : Zj l G R κ cc nl own cs sl n μ pc lv (.int x :: .ref (G.2.1 b) :: st) := by
  intro p e s m args below meth c Q hk F H locs ls hP hS hl
  have hts := F.2.2.2.2.1
  have hK := F.2.2.2.2.2.1.1
  have hD := zd_D (μ := μ) F.2.2.2.2.2.2 h79
  have hap := va_apart (own := own) hts cl.2.1 ty0 cl.2.2.1 cl.2.2.2 hK cl.1
  obtain ⟨r, h1, cell, q1, q2, q3, q4⟩ := hP.2 (poz b) _ (zd_ws_at hb hpo)
  have hr : r = (C, T, N) := Option.some.inj (h1.symm.trans cl.1)
  subst hr
  obtain ⟨hSk, hfc, kC, hkC, hkind⟩ := hK.1 ci _ cl.1
  obtain ⟨cf, kf, fi, f, hi, hsl⟩ := hSk i hN
  have hsame : s.fieldFound? ref (T i).2.1 (T i).2.2.1 = some (cf, kf, fi, f) := by rw [← hre]; exact hi
  have hlay := hts _ (cl.2.1 _ (u_in_lay hN))
  unfold u_lay at hlay
  rw [if_neg (by rw [hfin]; decide)] at hlay
  have hst := (u_facts hfc hkC (u_lays hts cl.2.1 hN) hi).1
  have h6 := u_store hfc hkC hkind hlay hi hd hn2 hfit
  refine W.putK F.1 F.2.1 (f := f) ⟨F.2.2.2.1, hts _ hw, ⟨_, _, _, hsame⟩, hst⟩ (by rw [q2]; exact h6) q1 q3 (by rw [hsl]; exact k2_hasslot (q4 i hN)) rfl rfl d fun H' e1 e2 e3 => ?_
  rw [hsl] at e1
  refine h p e s m args below meth c Q hk F H' _ ls ⟨by rw [e2]; exact hP.1, ?_⟩ (hS.put e2 e3 (hD.2 _ _ (zd_ws_at hb hpo))) hl
  have hP2 := hP.2.set hD (zd_ws_at hb hpo) (e := .inr (ci, (zd_fs G.2.1 (μ b) 0 tm).set i (.int x))) (H1 := H') ⟨_, cl.1, t_OB.to (V := updV (vp_V (zd_fs G.2.1 (μ b) 0 tm)) i (.int x)) ⟨_, e1, q2, q3, t_set q4 hap hN (.int x)⟩ (fun j _ => vp_updV_set (by rw [zd_fs_len]; exact (List.getElem?_eq_some_iff.mp ht).1) (.int x) j)⟩ e3
  rw [zd_fs_upd hnl ht] at hP2
  rw [← zd_ws_set hb hpo h79]
  exact hP2
theorem z_iast {l : Launch} {G : GT} {R : Room} {κ : KZ} {cc : ByteArray} {nl : Nat} {own : String} {cs sl n : Nat} {μ : MemT} {pc : Nat} {lv : List (Option Value)} {st : List Value} {b N : Nat} {x y : Int32} (d : decode cc pc = .ok (.iastore, 1)) (j : Nat) (hb : kdL[b]? = some (.inr (0, N))) (hpo : poz b < n) (h79 : n ≤ 79) (hj : x = nI j) (hlt : j < N) (hN : N < 2 ^ 31) (h : Zj l G R κ cc nl own cs sl n (mset μ b (upd (μ b) j y)) (pc + 1) lv st) : Zj l G R κ cc nl own cs sl n μ pc lv (.int y :: .int x :: .ref (G.2.1 b) :: st) := by
  intro p e s m args below meth c Q hk F H locs ls hP hS hl
  have hK := F.2.2.2.2.2.1.1
  have hD := zd_D (μ := μ) F.2.2.2.2.2.2 h79
  have hin : vp_in x N := by rw [hj]; exact vp_in_nI hlt hN
  have hcl : x.toNatClampNeg = j := by rw [hj]; exact nI_clamp (Nat.lt_trans hlt hN)
  refine W.iast F.1 F.2.1 (hP.2 (poz b) _ (zd_ws_at hb hpo)) ((hK.2 0 _ rfl).1 N (fun j => .int (μ b j))) (fun q => by cases q) (by show ¬ (x < 0 ∨ (arrV _ _ _).slots.size ≤ _); rw [arrV_size]; exact hin) rfl rfl d fun H1 e1 z oq => ?_
  refine h p e s m args below meth c Q hk F H1 _ ls ⟨by rw [z]; exact hP.1, ?_⟩ (hS.put z oq (hD.2 _ _ (zd_ws_at hb hpo))) hl
  have hP2 := hP.2.set hD (zd_ws_at hb hpo) (e := .inl (G.2.2 0, N, .inl (upd (μ b) j y))) (H1 := H1) (by
    show H1[G.2.1 b]? = some (vp_cell _ _)
    rw [e1]
    rw [vp_cell_i, vp_cell_i, arrV_store]
    congr 2
    funext q
    rw [hcl]
    by_cases hq : q = j
    · subst hq
      simp [updV, upd]
    · simp [updV, upd, hq]) oq
  rw [← zd_ws_set hb hpo h79]
  exact hP2
theorem zd_born {G : GT} {n : Nat} {μ : MemT} {H H1 : Heap} {k : Nat} {kd : KdT} {r : Nat → Int32} (hP : zd_P G n μ H) (hG : zd_ad G) (hb : kdL[k]? = some kd) (hpo : poz k = n) (z1 : H1.size = G.2.1 0 + n + 1) (o1 : ∀ q, q < G.2.1 0 + n → H1[q]? = H[q]?) (he : va_at G.1 vwCl (G.2.1 k, zd_e G.2.1 G.2.2 r kd) H1) : zd_P G (n + 1) (mset μ k r) H1 := by
  refine ⟨by rw [z1, Nat.add_assoc], ?_⟩
  rw [← zd_ws_app hb hpo]
  refine (hP.2.kept (fun j x hx => ?_)).app (fun j x hx => ?_)
  · refine o1 x.1 ?_
    have := (hP.2 j x hx).lt
    rw [← hP.1]
    exact this
  · have hz : j < 1 := (List.getElem?_eq_some_iff.mp hx).1
    rw [show j = 0 by omega] at hx
    cases hx
    exact he
theorem zd_new_at {G : GT} (hG : zd_ad G) {n k : Nat} {kd : KdT} (hb : kdL[k]? = some kd) (hpo : poz k = n) : G.2.1 k = G.2.1 0 + n := by rw [hG k (kd_lt hb), hpo]
theorem zd_S_new {G : GT} {n : Nat} {H0 H H1 : Heap} {locs : List Loc} (hS : va_S (zd_A G) H0 H locs) (hz : H.size = G.2.1 0 + n) (z1 : H1.size = G.2.1 0 + n + 1) (o1 : ∀ q, q < G.2.1 0 + n → H1[q]? = H[q]?) : va_S (zd_A G) H0 H1 locs :=
  ⟨Nat.le_trans hS.1 (by omega), fun x h1 h2 => (o1 x (by have := hS.1; omega)).trans (hS.2.1 x h1 h2), hS.2.2⟩
theorem z_newi {l : Launch} {G : GT} {R : Room} {κ : KZ} {cc : ByteArray} {nl : Nat} {own : String} {cs sl n : Nat} {μ : MemT} {pc : Nat} {lv : List (Option Value)} {st : List Value} {k N : Nat} {x : Int32} (d : decode cc pc = .ok (.newarray .int, 2)) (hb : kdL[k]? = some (.inr (0, N))) (hpo : poz k = n) (hx : x = nI N) (hN : N < 4000) (hc : cs + 1 ≤ R.cells) (hs : sl + N ≤ R.slots) (h : Zj l G R κ cc nl own (cs + 1) (sl + N) (n + 1) (mset μ k (fun _ => 0)) (pc + 2) lv (.ref (G.2.1 k) :: st)) : Zj l G R κ cc nl own cs sl n μ pc lv (.int x :: st) := by
  intro p e s m args below meth c Q hk F H locs ls hP hS hl
  have hcl : x.toNatClampNeg = N := by rw [hx]; exact nI_clamp (by omega)
  have hnn : ¬ x < 0 := by rw [hx]; exact nI_nl (by omega)
  have hbytes : N * componentBytes (newarray.typeOf .int) ≤ 536870912 := by
    show N * 4 ≤ 536870912
    omega
  refine va_newaK (atype := .int) F.1 F.2.1 (F.2.2.2.2.1 _ wm_ac_int) rfl d rfl hnn hcl hbytes hc hs hP.1 fun H1 cA e1 z1 o1 hAr hNm => ?_
  have hca : cA = G.2.2 0 := by
    have hra : s.vm.findClass _ = some (G.2.2 0) := (F.2.2.2.2.2.1.1.2 0 _ rfl).2
    exact Option.some.inj (hNm.symm.trans hra)
  rw [← zd_new_at F.2.2.2.2.2.2 hb hpo] at e1 ⊢
  refine h p e s m args below meth c Q hk F H1 locs ls (zd_born hP F.2.2.2.2.2.2 hb hpo z1 o1 ?_) (zd_S_new hS hP.1 z1 o1) hl
  show H1[G.2.1 k]? = some (vp_cell (G.2.2 0) (N, .inl (fun _ => 0)))
  rw [e1, hca]
  rfl
theorem z_newb {l : Launch} {G : GT} {R : Room} {κ : KZ} {cc : ByteArray} {nl : Nat} {own : String} {cs sl n : Nat} {μ : MemT} {pc : Nat} {lv : List (Option Value)} {st : List Value} {k N : Nat} {x : Int32} (d : decode cc pc = .ok (.newarray .byte, 2)) (hb : kdL[k]? = some (.inr (1, N))) (hpo : poz k = n) (hx : x = nI N) (hN : N < 4000) (hc : cs + 1 ≤ R.cells) (hs : sl + N ≤ R.slots) (h : Zj l G R κ cc nl own (cs + 1) (sl + N) (n + 1) (mset μ k (fun _ => 0)) (pc + 2) lv (.ref (G.2.1 k) :: st)) : Zj l G R κ cc nl own cs sl n μ pc lv (.int x :: st) := by
  intro p e s m args below meth c Q hk F H locs ls hP hS hl
  have hcl : x.toNatClampNeg = N := by rw [hx]; exact nI_clamp (by omega)
  have hnn : ¬ x < 0 := by rw [hx]; exact nI_nl (by omega)
  have hbytes : N * componentBytes (newarray.typeOf .byte) ≤ 536870912 := by
    show N * 1 ≤ 536870912
    omega
  refine va_newaK (atype := .byte) F.1 F.2.1 (F.2.2.2.2.1 _ wm_ac_byte) rfl d rfl hnn hcl hbytes hc hs hP.1 fun H1 cA e1 z1 o1 hAr hNm => ?_
  have hca : cA = G.2.2 1 := by
    have hra : s.vm.findClass _ = some (G.2.2 1) := (F.2.2.2.2.2.1.1.2 1 _ rfl).2
    exact Option.some.inj (hNm.symm.trans hra)
  rw [← zd_new_at F.2.2.2.2.2.2 hb hpo] at e1 ⊢
  refine h p e s m args below meth c Q hk F H1 locs ls (zd_born hP F.2.2.2.2.2.2 hb hpo z1 o1 ?_) (zd_S_new hS hP.1 z1 o1) hl
  show H1[G.2.1 k]? = some (vp_cell (G.2.2 1) (N, .inl (fun _ => 0)))
  rw [e1, hca]
  rfl
theorem z_newz {l : Launch} {G : GT} {R : Room} {κ : KZ} {cc : ByteArray} {nl : Nat} {own : String} {cs sl n : Nat} {μ : MemT} {pc : Nat} {lv : List (Option Value)} {st : List Value} {k N : Nat} {x : Int32} (d : decode cc pc = .ok (.newarray .boolean, 2)) (hb : kdL[k]? = some (.inr (2, N))) (hpo : poz k = n) (hx : x = nI N) (hN : N < 4000) (hc : cs + 1 ≤ R.cells) (hs : sl + N ≤ R.slots) (h : Zj l G R κ cc nl own (cs + 1) (sl + N) (n + 1) (mset μ k (fun _ => 0)) (pc + 2) lv (.ref (G.2.1 k) :: st)) : Zj l G R κ cc nl own cs sl n μ pc lv (.int x :: st) := by
  intro p e s m args below meth c Q hk F H locs ls hP hS hl
  have hcl : x.toNatClampNeg = N := by rw [hx]; exact nI_clamp (by omega)
  have hnn : ¬ x < 0 := by rw [hx]; exact nI_nl (by omega)
  have hbytes : N * componentBytes (newarray.typeOf .boolean) ≤ 536870912 := by
    show N * 1 ≤ 536870912
    omega
  refine va_newaK (atype := .boolean) F.1 F.2.1 (F.2.2.2.2.1 _ wm_ac_boolean) rfl d rfl hnn hcl hbytes hc hs hP.1 fun H1 cA e1 z1 o1 hAr hNm => ?_
  have hca : cA = G.2.2 2 := by
    have hra : s.vm.findClass _ = some (G.2.2 2) := (F.2.2.2.2.2.1.1.2 2 _ rfl).2
    exact Option.some.inj (hNm.symm.trans hra)
  rw [← zd_new_at F.2.2.2.2.2.2 hb hpo] at e1 ⊢
  refine h p e s m args below meth c Q hk F H1 locs ls (zd_born hP F.2.2.2.2.2.2 hb hpo z1 o1 ?_) (zd_S_new hS hP.1 z1 o1) hl
  show H1[G.2.1 k]? = some (vp_cell (G.2.2 2) (N, .inl (fun _ => 0)))
  rw [e1, hca]
  rfl
theorem z_new {l : Launch} {G : GT} {R : Room} {κ : KZ} {cc : ByteArray} {nl : Nat} {own : String} {cs sl n : Nat} {μ : MemT} {pc : Nat} {lv : List (Option Value)} {st : List Value} {k ci N index : Nat} {C : String} {T : u_T} {ty0 : Nat → FieldType} {tm : List (Nat ⊕ Nat)} (d : decode cc pc = .ok (.new index, 3)) (cl : sw_cl ci C T N ty0) (hb : kdL[k]? = some (.inl (ci, tm))) (hpo : poz k = n) (hw : Cond.classLink own index C ∈ wL) (hwi : Cond.instantiable C N ∈ wL) (hwn : Cond.initialized C ∈ wL) (hfs : ∀ j, j < N → defaultValue (ty0 j) = vp_V (zd_fs G.2.1 (fun _ => 0) 0 tm) j) (hc : cs + 1 ≤ R.cells) (hs : sl + N ≤ R.slots) (h : Zj l G R κ cc nl own (cs + 1) (sl + N) (n + 1) (mset μ k (fun _ => 0)) (pc + 3) lv (.ref (G.2.1 k) :: st)) : Zj l G R κ cc nl own cs sl n μ pc lv st := by
  intro p e s m args below meth c Q hk F H locs ls hP hS hl
  have hts := F.2.2.2.2.1
  have hKn := F.2.2.2.2.2.1.1.1 ci _ cl.1
  refine W.newcK F.1 F.2.1 F.2.2.2.1 (hts _ hw) (hts _ hwi) (hts _ hwn) rfl d hc hs hKn.2.1 hP.1 fun H1 kC hkC e1 z1 o1 => ?_
  rw [← zd_new_at F.2.2.2.2.2.2 hb hpo] at e1 ⊢
  refine h p e s m args below meth c Q hk F H1 locs ls (zd_born hP F.2.2.2.2.2.2 hb hpo z1 o1 ?_) (zd_S_new hS hP.1 z1 o1) hl
  exact ⟨_, cl.1, (u_born ty0 hts cl.2.1 hKn hkC e1 cl.2.2.1).to hfs⟩
/-! contracts of constructors: how many cells there are, and what they hold -/
def zd_Q (G : GT) (n2 : Nat) (μ2 : MemT) : Array Value → State → Outcome → State → Prop := fun _ st oc t => (oc = .returned none ∧ zd_P G n2 μ2 t.heap ∧ sw_K G t) ∧ va_F (zd_A G) st t
def zd_Pc (G : GT) (av : List Value) (n : Nat) (μ : MemT) : Array Value → State → Prop := va_Pc av (fun U => zd_P G n μ U.heap ∧ sw_K G U)
theorem zd_blind {G : GT} {av : List Value} {n : Nat} {μ : MemT} : FrameBlind (zd_Pc G av n μ) := fun a U g mk q => ⟨q.1, q.2.1, sw_K.same (s := U) (U := U.calling g mk a) rfl q.2.2⟩
def zd_Met (l : Launch) (G : GT) (y : MethodName) (bytes : ByteArray) (maxL : Nat) (rm : Room) (av : List Value) (mc ms n : Nat) (μ : MemT) (n2 : Nat) (μ2 : MemT) : Prop :=
  zd_ad G → Met l y (.code y bytes maxL none :: wL) rm (zd_Pc G av n μ) (zd_Q G n2 μ2) mc ms (zd_A G)
def zd_κ (G : GT) (nm : String) (mc ms n2 : Nat) (μ2 : MemT) : KZ := fun _ _ s _ args below meth _ Q => meth.sig.returnType = none ∧ meth.locks = false ∧ Q = MQ below (zd_Q G n2 μ2) args s mc ms (zd_A G) ∧ meth.name = nm
theorem zd_Met.ofZ {l : Launch} {G : GT} {y : MethodName} {bytes : ByteArray} {maxL : Nat} {rm : Room} {av : List Value} {mc ms n n2 : Nat} {μ μ2 : MemT} {lv0 : List (Option Value)} (hy : plainName y.cls = true) (hlen : (lg_sl av).length ≤ maxL) (hlv : l_ent av maxL = lv0) (h : Zj l G rm (zd_κ G y.name mc ms n2 μ2) bytes maxL y.cls 0 0 n μ 0 lv0 []) : zd_Met l G y bytes maxL rm av mc ms n μ n2 μ2 := by
  intro hG
  subst hlv
  refine Met.ofW (cc := bytes) (maxL := maxL) (ret := none) hy rfl ?_
  intro p e s m args below meth c s₁ B hml hv
  obtain ⟨rfl, hP, hK⟩ := hv
  have hts := atoms_spec (ws := Cond.code y bytes maxL none :: wL) B.pre
  rw [lg_entry_eq]
  exact h p e s m av.toArray below meth c _ ⟨B.returns, B.notSynchronized, rfl, (name_of_methodNamed B.named B.method).1⟩ ⟨B.exec, B.bytes, hml, findClass_of_methodNamed B.named, fun w hw => hts w (List.mem_cons_of_mem _ hw), hK, hG⟩ s.heap [] _ hP va_S.rf (sw_L_ent (lv_entry av hlen))
theorem z_ret {l : Launch} {G : GT} {R : Room} {cc : ByteArray} {nl : Nat} {own nm : String} {cs sl n : Nat} {μ : MemT} {pc : Nat} {lv : List (Option Value)} (d : decode cc pc = .ok (.return_, 1)) : Zj l G R (zd_κ G nm cs sl n μ) cc nl own cs sl n μ pc lv [] := by
  intro p e s m args below meth c Q hk F H locs ls hP hS hl
  obtain ⟨hr, hlk, rfl, -⟩ := hk
  exact W.vret (hexec := F.1) (hb := F.2.1) (hr := hr) (hq := fun t ht hW => ⟨⟨rfl, by rw [ht]; exact hP, F.2.2.2.2.2.1.warm hW⟩, hS.F ht⟩) (hf := hS.2.2) (hdg := d) (hlocks := hlk)
theorem zd_go {p : Program} {l : Launch} {e : Env} {R : Room} {s : State} {m : MethodId} {args : Array Value} {below : List Frame} {meth : Method} {c : Code} {H : Heap} {locs : List Loc} {cs sl mc ms : Nat} {Q : State → Prop} {pc : Nat} {ls : Array Slot} {st rest : List Value} {G : GT} {n2 : Nat} {μ2 : MemT} {a : Array Value}
    (hr : va_Run p l e R s m args below meth c H locs cs sl mc ms (F0 m pc ls st) rest (zd_Q G n2 μ2 a) (zd_A G)) (hS : va_S (zd_A G) s.heap H locs)
    (kk : ∀ (H1 : Heap) (locs1 : List Loc), zd_P G n2 μ2 H1 → va_S (zd_A G) s.heap H1 locs1 → W p l e R s m args below meth c H1 locs1 (cs + mc) (sl + ms) Q (F0 m (pc + 3) ls rest)) : W p l e R s m args below meth c H locs cs sl Q (F0 m pc ls st) := by
  intro T hT X
  obtain ⟨v, st₀, t, T', L, h0, X', hL, e1, e2, ⟨⟨hv, hP2, hK2⟩, hz, hk⟩, stp⟩ := hr T hT X
  cases hv
  rw [h0] at hz hk
  obtain ⟨t2, a1, b1⟩ := kk T'.heap (locs ++ L) (by rw [e1]; exact hP2)
    ⟨Nat.le_trans hS.1 (by rw [e1]; exact hz), fun q h1 h2 => by rw [e1, hk q (Nat.lt_of_lt_of_le h1 hS.1) h2]; exact hS.2.1 q h1 h2, fun q hq => by
      rcases List.mem_append.mp hq with h | h
      · exact hS.2.2 q h
      · exact hL q h⟩ T' rfl X'
  exact ⟨t2, stp t2 a1, b1⟩
theorem z_callI {l : Launch} {G : GT} {R : Room} {κ : KZ} {cc : ByteArray} {nl : Nat} {own : String} {cs sl n : Nat} {μ : MemT} {pc : Nat} {lv : List (Option Value)} {st : List Value} {y : MethodName} {bytes : ByteArray} {maxL index : Nat} {rm : Room} {n2 mc ms x : Nat} {μ2 : MemT} (hM : zd_Met l G y bytes maxL rm [.ref x] mc ms n μ n2 μ2) (hcd : Cond.code y bytes maxL none ∈ wL) (hini : Cond.initialized y.cls ∈ wL) (hw : Cond.methodLink own index y ∈ wL) (him : Cond.instanceMethod y ∈ wL) (hy1 : y.name = "<init>") (hd : y.cls ≠ "java/lang/invoke/MethodHandle" ∧ y.cls ≠ "java/lang/invoke/VarHandle" ∧ (parseMethodDescriptor y.desc).map (fun d => d.parameters.length) = some 0) (hR : rm.frames + 1 ≤ R.frames ∧ 8 + (maxL + 11) + rm.locals ≤ R.locals) (hrm : rm.cells = mc ∧ rm.slots = ms) (hroom : (st.map fun v => v.category).sum ≤ 8) (hc : cs + mc ≤ R.cells) (hs : sl + ms ≤ R.slots) (d : decode cc pc = .ok (.invokespecial index, 3)) (h : Zj l G R κ cc nl own (cs + mc) (sl + ms) n2 μ2 (pc + 3) lv st) : Zj l G R κ cc nl own cs sl n μ pc lv (.ref x :: st) := by
  intro p e s m args below meth c Q hk F H locs ls hP hS hl
  exact zd_go (va_runI (As := []) (rest := st) ⟨F.1, F.2.1, F.2.2.1, F.2.2.2.1, F.2.2.2.2.1⟩ (hM F.2.2.2.2.2.2) (cwI 0 F.2.2.2.2.1 (wL_callee hcd) rfl hrm.1 hrm.2 (F.2.2.2.2.1 _ hini) (F.2.2.2.2.1 _ hw) (F.2.2.2.2.1 _ him) hy1 hd hR) ⟨zd_blind, fun U hU hW => ⟨rfl, by rw [hU]; exact hP, F.2.2.2.2.2.1.warm hW⟩⟩ rfl rfl hl.1 rfl (lv_room hroom) d ⟨hc, hs⟩) hS (fun H1 locs1 hP1 hS1 => h p e s m args below meth c Q hk F H1 locs1 ls hP1 hS1 hl)
theorem z_callIN {l : Launch} {G : GT} {R : Room} {κ : KZ} {cc : ByteArray} {nl : Nat} {own : String} {cs sl n : Nat} {μ : MemT} {pc : Nat} {lv : List (Option Value)} {st : List Value} {y : MethodName} {bytes : ByteArray} {maxL index : Nat} {rm : Room} {n2 mc ms x : Nat} {μ2 : MemT} {host : String} (hM : zd_Met l G y bytes maxL rm [.ref x] mc ms n μ n2 μ2) (hcd : Cond.code y bytes maxL none ∈ wL) (hini : Cond.initialized y.cls ∈ wL) (hw : Cond.methodLinkNest own index y host ∈ wL_nest) (him : Cond.instanceMethod y ∈ wL) (hy1 : y.name = "<init>") (hd : y.cls ≠ "java/lang/invoke/MethodHandle" ∧ y.cls ≠ "java/lang/invoke/VarHandle" ∧ (parseMethodDescriptor y.desc).map (fun d => d.parameters.length) = some 0) (hR : rm.frames + 1 ≤ R.frames ∧ 8 + (maxL + 11) + rm.locals ≤ R.locals) (hrm : rm.cells = mc ∧ rm.slots = ms) (hroom : (st.map fun v => v.category).sum ≤ 8) (hc : cs + mc ≤ R.cells) (hs : sl + ms ≤ R.slots) (d : decode cc pc = .ok (.invokespecial index, 3)) (h : Zj l G R κ cc nl own (cs + mc) (sl + ms) n2 μ2 (pc + 3) lv st) : Zj l G R κ cc nl own cs sl n μ pc lv (.ref x :: st) := by
  intro p e s m args below meth c Q hk F H locs ls hP hS hl
  exact zd_go (va_runIN (As := []) (rest := st) ⟨F.1, F.2.1, F.2.2.1, F.2.2.2.1, F.2.2.2.2.1⟩ (hM F.2.2.2.2.2.2) ⟨va_cnB 0 F.2.2.2.2.1 (wL_callee hcd) rfl hrm.1 hrm.2 (F.2.2.2.2.2.1.2 _ hw) (F.2.2.2.2.1 _ hini) hd hR, hy1, F.2.2.2.2.1 _ him⟩ ⟨zd_blind, fun U hU hW => ⟨rfl, by rw [hU]; exact hP, F.2.2.2.2.2.1.warm hW⟩⟩ rfl rfl hl.1 rfl (lv_room hroom) d ⟨hc, hs⟩) hS (fun H1 locs1 hP1 hS1 => h p e s m args below meth c Q hk F H1 locs1 ls hP1 hS1 hl)
theorem z_callS {l : Launch} {G : GT} {R : Room} {κ : KZ} {cc : ByteArray} {nl : Nat} {own : String} {cs sl n : Nat} {μ : MemT} {pc : Nat} {lv : List (Option Value)} {st : List Value} {y : MethodName} {bytes : ByteArray} {maxL index : Nat} {rm : Room} {n2 mc ms : Nat} {μ2 : MemT} {np : Nat} {As : List Value} {st1 : List Value} (me : sw_meS y bytes maxL none np) (hM : zd_Met l G y bytes maxL rm As mc ms n μ n2 μ2) (hw : Cond.methodLink own index y ∈ wL) (hR : rm.frames + 1 ≤ R.frames ∧ 8 + (maxL + 11) + rm.locals ≤ R.locals) (hrm : rm.cells = mc ∧ rm.slots = ms) (hroom : (st.map fun v => v.category).sum ≤ 8) (hc : cs + mc ≤ R.cells) (hs : sl + ms ≤ R.slots) (hn : As.length = np) (hst : st1 = As.reverse ++ st) (d : decode cc pc = .ok (.invokestatic index, 3)) (h : Zj l G R κ cc nl own (cs + mc) (sl + ms) n2 μ2 (pc + 3) lv st) : Zj l G R κ cc nl own cs sl n μ pc lv st1 := by
  subst hst
  intro p e s m args below meth c Q hk F H locs ls hP hS hl
  exact zd_go (va_runS (rest := st) ⟨F.1, F.2.1, F.2.2.1, F.2.2.2.1, F.2.2.2.2.1⟩ (hM F.2.2.2.2.2.2) ⟨callB_of np F.2.2.2.2.1 (wL_callee me.2.2.1) rfl hrm.1 hrm.2 (F.2.2.2.2.1 _ me.2.1) (F.2.2.2.2.1 _ hw) me.2.2.2 hR, F.2.2.2.2.1 _ me.1⟩ ⟨zd_blind, fun U hU hW => ⟨rfl, by rw [hU]; exact hP, F.2.2.2.2.2.1.warm hW⟩⟩ rfl hn hl.1 rfl (lv_room hroom) d ⟨hc, hs⟩) hS (fun H1 locs1 hP1 hS1 => h p e s m args below meth c Q hk F H1 locs1 ls hP1 hS1 hl)
/-! constructors -/
def z0 : Nat → Int32 := fun _ => 0
theorem zm_arr {μ : MemT} {b k : Nat} {rb r : Nat → Int32} (h : k ≠ b) : mset (mset μ b rb) k r = mset (mset μ k r) b rb := mset_comm _ _ _ (Ne.symm h)
theorem zm_put {μ : MemT} {b i : Nat} {rb : Nat → Int32} {x : Int32} : mset (mset μ b rb) b (upd (mset μ b rb b) i x) = mset μ b (upd rb i x) := by rw [mset_self, mset_mset]
theorem z_mem {l : Launch} {G : GT} {R : Room} {κ : KZ} {cc : ByteArray} {nl : Nat} {own : String} {cs sl n : Nat} {μ : MemT} {pc : Nat} {lv : List (Option Value)} {st : List Value} {μ2 : MemT} (h1 : μ = μ2) (h : Zj l G R κ cc nl own cs sl n μ2 pc lv st) : Zj l G R κ cc nl own cs sl n μ pc lv st := by subst h1; exact h
theorem z_aast {l : Launch} {G : GT} {R : Room} {κ : KZ} {cc : ByteArray} {nl : Nat} {own : String} {cs sl n : Nat} {μ : MemT} {pc : Nat} {lv : List (Option Value)} {st : List Value} {c : Nat} {x : Int32} (d : decode cc pc = .ok (.aastore, 1)) (j : Nat) (hj : x = nI j) (hlt : j < 2) (hc : c = if j = 0 then 26 else 34) (hpo : poz 1 < n) (hpc : poz c < n) (h79 : n ≤ 79) (h : Zj l G R κ cc nl own cs sl n (mset μ 1 (upd (μ 1) j 1)) (pc + 1) lv st) : Zj l G R κ cc nl own cs sl n μ pc lv (.ref (G.2.1 c) :: .int x :: .ref (G.2.1 1) :: st) := by
  intro p e s m args below meth c0 Q hk F H locs ls hP hS hl
  have hK := F.2.2.2.2.2.1.1
  have hD := zd_D (μ := μ) F.2.2.2.2.2.2 h79
  have hin : vp_in x 2 := by rw [hj]; exact vp_in_nI hlt (by decide)
  have hcl : x.toNatClampNeg = j := by rw [hj]; exact nI_clamp (Nat.lt_trans hlt (by decide))
  have hlt2 : x.toNatClampNeg < 2 := by rw [hcl]; exact hlt
  have h0 : ¬ x < 0 := fun q => hin (Or.inl q)
  have hkc : kdL[c]? = some (.inl (4, twTm c)) := by rw [hc]; split <;> rfl
  obtain ⟨r', hr', cellV, g1, g2, g3, -⟩ := hP.2 (poz c) _ (zd_ws_at hkc hpc)
  have hcls := (hK.1 4 _ clX4.1).2
  obtain ⟨kA, comp, k1, k2, k3, -⟩ := (hK.2 3 _ rfl).2
  have hcomp : comp = G.1.1 4 := Option.some.inj (k3.symm.trans hcls.1)
  subst hcomp
  obtain ⟨kC, hkC, -⟩ := hcls.2
  refine W.aast F.1 F.2.1 (hP.2 (poz 1) _ (zd_ws_at kd_1 hpo)) (fun q h => by cases h) (fun h => by cases h) k1 k2 rfl hkC ⟨h0, by show _ < (arrV _ _ _).slots.size; rw [arrV_size]; exact hlt2⟩ g1 (fun q h => by rw [g3] at h; cases h) (by rw [g2]; exact hkC) (by rw [g2]; exact va_assign hcls) rfl rfl d fun H1 e1 z oq => ?_
  refine h p e s m args below meth c0 Q hk F H1 _ ls ⟨by rw [z]; exact hP.1, ?_⟩ (hS.put z oq (hD.2 _ _ (zd_ws_at kd_1 hpo))) hl
  have hP2 := hP.2.set hD (zd_ws_at kd_1 hpo) (e := zd_e G.2.1 G.2.2 (upd (μ 1) j 1) (.inr (3, 2))) (H1 := H1) (by
    show H1[G.2.1 1]? = some (vp_cell _ _)
    rw [e1]
    rw [vp_cell_q, vp_cell_q, arrV_store]
    congr 2
    funext q
    rw [hcl]
    by_cases hq : q = j
    · subst hq
      simp [updV, upd, va_rf, sw_img, hc]
    · simp [updV, upd, hq]) oq
  rw [← zd_ws_set kd_1 hpo h79]
  exact hP2
theorem z_anew {l : Launch} {G : GT} {R : Room} {κ : KZ} {cc : ByteArray} {nl : Nat} {own : String} {cs sl n : Nat} {μ : MemT} {pc : Nat} {lv : List (Option Value)} {st : List Value} (hAO : ∀ p e s m args below meth c Q, κ p e s m args below meth c Q → va_AO RX4 s) {index : Nat} (d : decode cc pc = .ok (.anewarray index, 3)) (hw : Cond.classLink own index RX4 ∈ wL) (hpo : poz 1 = n) (hc : cs + 1 ≤ R.cells) (hs : sl + 2 ≤ R.slots) (h : Zj l G R κ cc nl own (cs + 1) (sl + 2) (n + 1) (mset μ 1 (fun _ => 0)) (pc + 3) lv (.ref (G.2.1 1) :: st)) : Zj l G R κ cc nl own cs sl n μ pc lv (.int 2 :: st) := by
  intro p e s m args below meth c Q hk F H locs ls hP hS hl
  refine W.anew F.1 F.2.1 F.2.2.2.1 (F.2.2.2.2.1 _ hw) (va_AO.use (hAO p e s m args below meth c Q hk)) rfl d rfl (by decide) (by decide) hc hs fun cA kA comp f1 f2 f3 f4 => ?_
  rw [show (2 : Int32).toNatClampNeg = 2 from rfl]
  generalize hH1 : H.push ({ cls := cA, slots := Array.replicate 2 .null, vm := .none } : Cell) = H1
  have z1 : H1.size = G.2.1 0 + n + 1 := by rw [← hH1, Array.size_push, hP.1]
  have e1 : H1[H.size]? = some (arrV cA 2 (fun _ => .null)) := by rw [← hH1, Array.getElem?_push_size, ← arrV_new]
  have o1 : ∀ q : Nat, q < G.2.1 0 + n → H1[q]? = H[q]? := fun q hq => by rw [← hH1, Array.getElem?_push, if_neg (by rw [hP.1]; omega)]
  have hca : cA = G.2.2 3 := by
    obtain ⟨kA2, comp2, k1, k2, k3, k4⟩ := (F.2.2.2.2.2.1.1.2 3 _ rfl).2
    exact Option.some.inj (f1.symm.trans k4)
  rw [hP.1] at e1 ⊢
  rw [← zd_new_at F.2.2.2.2.2.2 kd_1 hpo] at e1 ⊢
  refine h p e s m args below meth c Q hk F H1 locs ls (zd_born hP F.2.2.2.2.2.2 kd_1 hpo z1 o1 ?_) (zd_S_new hS hP.1 z1 o1) hl
  show H1[G.2.1 1]? = some (vp_cell (G.2.2 3) (2, .inr (.inr (.inr (.inr (fun j => if z0 j = 0 then none else sw_img G.2.1 j))))))
  rw [e1, hca, vp_cell_q]
  rfl
theorem z_fill (l : Launch) (G : GT) {b n : Nat} {x : Int32} {μ : MemT} (hb : kdL[b]? = some (.inr (0, 8))) (hpo : poz b < n) (h79 : n ≤ 79) : zd_Met l G yJ7_fill_53178 cJ7_fill_53178 4 ({ frames := 0, cells := 0, slots := 0, locals := 0 }) [.ref (G.2.1 b), .int x] 0 0 n μ n (mset μ b (filF 8 x (μ b))) := by
  refine zd_Met.ofZ (by decide) (Nat.le_of_ble_eq_true rfl) rfl ?_
  refine z_iconst dJ7_fill_53178_0 icn_0 ?_
  refine z_istore_n dJ7_fill_53178_1 rfl rfl (by decide) ?_
  refine z_aload_n dJ7_fill_53178_2 rfl rfl ?_
  refine z_alen hb hpo dJ7_fill_53178_3 ?_
  refine z_istore_n dJ7_fill_53178_4 rfl rfl (by decide) ?_
  have key : ∀ (r j : Nat), j + r = 8 → Zj l G ({ frames := 0, cells := 0, slots := 0, locals := 0 }) (zd_κ G yJ7_fill_53178.name 0 0 n (mset μ b (filF 8 x (μ b)))) cJ7_fill_53178 4 yJ7_fill_53178.cls 0 0 n (mset μ b (itr (fun j f => upd f j x) j 0 (μ b))) 5 [some (.ref (G.2.1 b)), some (.int x), some (.int (nI j)), some (.int (nI 8))] [] := by
    intro r
    induction r with
    | zero =>
      intro j hj
      have : j = 8 := by omega
      subst this
      refine z_iload_n dJ7_fill_53178_5 rfl rfl ?_
      refine z_iload_n dJ7_fill_53178_6 rfl rfl ?_
      refine z_icmp_ge 20 dJ7_fill_53178_7 rfl (fun _ => ?_) (fun q => absurd (Int32.le_refl _) q)
      exact z_ret dJ7_fill_53178_20
    | succ r ih =>
      intro j hj
      refine z_iload_n dJ7_fill_53178_5 rfl rfl ?_
      refine z_iload_n dJ7_fill_53178_6 rfl rfl ?_
      refine z_icmp_ge 20 dJ7_fill_53178_7 rfl (fun q => absurd q (nI_ge (b := 8) (by omega) (by decide))) (fun _ => ?_)
      refine z_aload_n dJ7_fill_53178_10 rfl rfl ?_
      refine z_iload_n dJ7_fill_53178_11 rfl rfl ?_
      refine z_iload_n dJ7_fill_53178_12 rfl rfl ?_
      refine z_iast dJ7_fill_53178_13 j hb hpo h79 rfl (by omega) (by decide) ?_
      refine z_iinc dJ7_fill_53178_14 rfl (nI_i1 j) rfl (by decide) ?_
      refine z_goto 5 dJ7_fill_53178_17 rfl ?_
      refine z_mem ?_ (ih (j + 1) (by omega))
      rw [mset_mset, mset_self, itr_lt, Nat.zero_add]
  exact z_mem (by show μ = mset μ b (μ b); rw [mset_same]) (key 8 0 rfl)
theorem zf_0 (G : GT) : ∀ j, j < 9 → defaultValue (tyX7 j) = vp_V (zd_fs G.2.1 (fun _ => 0) 0 [.inl 18, .inl 1, .inl 2, .inl 3, .inl 5, .inl 6, .inl 11, .inl 16, .inl 17]) j := by
  intro j hj
  rcases (show j = 0 ∨ j = 1 ∨ j = 2 ∨ j = 3 ∨ j = 4 ∨ j = 5 ∨ j = 6 ∨ j = 7 ∨ j = 8 by omega) with rfl | rfl | rfl | rfl | rfl | rfl | rfl | rfl | rfl <;> rfl
theorem zf_18 (G : GT) : ∀ j, j < 12 → defaultValue (tyX4 j) = vp_V (zd_fs G.2.1 (fun _ => 0) 0 (twTm 18)) j := by
  intro j hj
  rcases (show j = 0 ∨ j = 1 ∨ j = 2 ∨ j = 3 ∨ j = 4 ∨ j = 5 ∨ j = 6 ∨ j = 7 ∨ j = 8 ∨ j = 9 ∨ j = 10 ∨ j = 11 by omega) with rfl | rfl | rfl | rfl | rfl | rfl | rfl | rfl | rfl | rfl | rfl | rfl <;> rfl
theorem zf_26 (G : GT) : ∀ j, j < 12 → defaultValue (tyX4 j) = vp_V (zd_fs G.2.1 (fun _ => 0) 0 (twTm 26)) j := by
  intro j hj
  rcases (show j = 0 ∨ j = 1 ∨ j = 2 ∨ j = 3 ∨ j = 4 ∨ j = 5 ∨ j = 6 ∨ j = 7 ∨ j = 8 ∨ j = 9 ∨ j = 10 ∨ j = 11 by omega) with rfl | rfl | rfl | rfl | rfl | rfl | rfl | rfl | rfl | rfl | rfl | rfl <;> rfl
theorem zf_34 (G : GT) : ∀ j, j < 12 → defaultValue (tyX4 j) = vp_V (zd_fs G.2.1 (fun _ => 0) 0 (twTm 34)) j := by
  intro j hj
  rcases (show j = 0 ∨ j = 1 ∨ j = 2 ∨ j = 3 ∨ j = 4 ∨ j = 5 ∨ j = 6 ∨ j = 7 ∨ j = 8 ∨ j = 9 ∨ j = 10 ∨ j = 11 by omega) with rfl | rfl | rfl | rfl | rfl | rfl | rfl | rfl | rfl | rfl | rfl | rfl <;> rfl
theorem zf_3 (G : GT) : ∀ j, j < 2 → defaultValue (tyX2 j) = vp_V (zd_fs G.2.1 (fun _ => 0) 0 [.inl 4, .inr 0]) j := by
  intro j hj
  rcases (show j = 0 ∨ j = 1 by omega) with rfl | rfl <;> rfl
theorem zf_5 (G : GT) : ∀ j, j < 13 → defaultValue (tyX1 j) = vp_V (zd_fs G.2.1 (fun _ => 0) 0 [.inl 42, .inr 0, .inr 0, .inr 0, .inr 0, .inr 0, .inr 0, .inr 0, .inr 0, .inr 0, .inr 0, .inr 0, .inr 0]) j := by
  intro j hj
  rcases (show j = 0 ∨ j = 1 ∨ j = 2 ∨ j = 3 ∨ j = 4 ∨ j = 5 ∨ j = 6 ∨ j = 7 ∨ j = 8 ∨ j = 9 ∨ j = 10 ∨ j = 11 ∨ j = 12 by omega) with rfl | rfl | rfl | rfl | rfl | rfl | rfl | rfl | rfl | rfl | rfl | rfl | rfl <;> rfl
theorem zf_42 (G : GT) : ∀ j, j < 12 → defaultValue (tyX4 j) = vp_V (zd_fs G.2.1 (fun _ => 0) 0 (twTm 42)) j := by
  intro j hj
  rcases (show j = 0 ∨ j = 1 ∨ j = 2 ∨ j = 3 ∨ j = 4 ∨ j = 5 ∨ j = 6 ∨ j = 7 ∨ j = 8 ∨ j = 9 ∨ j = 10 ∨ j = 11 by omega) with rfl | rfl | rfl | rfl | rfl | rfl | rfl | rfl | rfl | rfl | rfl | rfl <;> rfl
theorem zf_6 (G : GT) : ∀ j, j < 10 → defaultValue (tyX3 j) = vp_V (zd_fs G.2.1 (fun _ => 0) 0 [.inl 7, .inl 8, .inl 9, .inl 10, .inr 0, .inr 0, .inr 0, .inr 0, .inr 0, .inr 0]) j := by
  intro j hj
  rcases (show j = 0 ∨ j = 1 ∨ j = 2 ∨ j = 3 ∨ j = 4 ∨ j = 5 ∨ j = 6 ∨ j = 7 ∨ j = 8 ∨ j = 9 by omega) with rfl | rfl | rfl | rfl | rfl | rfl | rfl | rfl | rfl | rfl <;> rfl
theorem zf_11 (G : GT) : ∀ j, j < 7 → defaultValue (tyX5 j) = vp_V (zd_fs G.2.1 (fun _ => 0) 0 [.inl 12, .inl 13, .inl 14, .inl 15, .inr 0, .inr 0, .inr 0]) j := by
  intro j hj
  rcases (show j = 0 ∨ j = 1 ∨ j = 2 ∨ j = 3 ∨ j = 4 ∨ j = 5 ∨ j = 6 by omega) with rfl | rfl | rfl | rfl | rfl | rfl | rfl <;> rfl
theorem zf_16 (G : GT) : ∀ j, j < 2 → defaultValue (tyX0 j) = vp_V (zd_fs G.2.1 (fun _ => 0) 0 [.inr 1, .inr 1]) j := by
  intro j hj
  rcases (show j = 0 ∨ j = 1 by omega) with rfl | rfl <;> rfl
theorem zf_17 (G : GT) : ∀ j, j < 4 → defaultValue (tyX6 j) = vp_V (zd_fs G.2.1 (fun _ => 0) 0 [.inl 50, .inr 0, .inr 0, .inr 0]) j := by
  intro j hj
  rcases (show j = 0 ∨ j = 1 ∨ j = 2 ∨ j = 3 by omega) with rfl | rfl | rfl | rfl <;> rfl
theorem zf_50 (G : GT) : ∀ j, j < 12 → defaultValue (tyX4 j) = vp_V (zd_fs G.2.1 (fun _ => 0) 0 (twTm 50)) j := by
  intro j hj
  rcases (show j = 0 ∨ j = 1 ∨ j = 2 ∨ j = 3 ∨ j = 4 ∨ j = 5 ∨ j = 6 ∨ j = 7 ∨ j = 8 ∨ j = 9 ∨ j = 10 ∨ j = 11 by omega) with rfl | rfl | rfl | rfl | rfl | rfl | rfl | rfl | rfl | rfl | rfl | rfl <;> rfl
theorem zf_58 (G : GT) : ∀ j, j < 41 → defaultValue (tyX8 j) = vp_V (zd_fs G.2.1 (fun _ => 0) 0 [.inr 0, .inr 0, .inr 0, .inr 0, .inl 59, .inl 60, .inl 61, .inl 62, .inl 63, .inl 64, .inl 65, .inr 0, .inl 66, .inr 0, .inl 67, .inl 68, .inl 69, .inl 70, .inr 0, .inr 0, .inr 0, .inr 0, .inr 0, .inl 71, .inr 0, .inr 0, .inr 0, .inr 0, .inl 72, .inl 73, .inr 0, .inr 0, .inr 0, .inl 74, .inl 75, .inl 76, .inr 0, .inl 77, .inl 78, .inr 0, .inr 0]) j := by
  intro j hj
  rcases (show j = 0 ∨ j = 1 ∨ j = 2 ∨ j = 3 ∨ j = 4 ∨ j = 5 ∨ j = 6 ∨ j = 7 ∨ j = 8 ∨ j = 9 ∨ j = 10 ∨ j = 11 ∨ j = 12 ∨ j = 13 ∨ j = 14 ∨ j = 15 ∨ j = 16 ∨ j = 17 ∨ j = 18 ∨ j = 19 ∨ j = 20 ∨ j = 21 ∨ j = 22 ∨ j = 23 ∨ j = 24 ∨ j = 25 ∨ j = 26 ∨ j = 27 ∨ j = 28 ∨ j = 29 ∨ j = 30 ∨ j = 31 ∨ j = 32 ∨ j = 33 ∨ j = 34 ∨ j = 35 ∨ j = 36 ∨ j = 37 ∨ j = 38 ∨ j = 39 ∨ j = 40 by omega) with rfl | rfl | rfl | rfl | rfl | rfl | rfl | rfl | rfl | rfl | rfl | rfl | rfl | rfl | rfl | rfl | rfl | rfl | rfl | rfl | rfl | rfl | rfl | rfl | rfl | rfl | rfl | rfl | rfl | rfl | rfl | rfl | rfl | rfl | rfl | rfl | rfl | rfl | rfl | rfl | rfl <;> rfl
def rTn : Nat → Int32 := upd (upd (upd (upd (upd (upd (upd (upd z0 0 1) 1 1) 2 1) 3 1) 4 1) 5 1) 6 1) 9 5
def tn_18 (μ : MemT) : MemT := mset (mset (mset (mset (mset (mset (mset (mset μ 19 z0) 20 z0) 21 z0) 22 (filF 8 (-6) z0)) 23 z0) 24 z0) 25 z0) 18 rTn
theorem zX4_18 (l : Launch) (G : GT) (μ : MemT) : zd_Met l G yX4_init cX4_init 1 ({ frames := 1, cells := 7, slots := 56, locals := 23 }) [.ref (G.2.1 18)] 7 56 2 (mset μ 18 z0) 9 (tn_18 μ) := by
  refine zd_Met.ofZ (by decide) (Nat.le_of_ble_eq_true rfl) rfl ?_
  refine z_aload_n dX4_init_0 rfl rfl ?_
  refine z_obj dX4_init_1 wm_ml_X4_3 (by decide) (by decide) ?_
  refine z_aload_n dX4_init_4 rfl rfl ?_
  refine z_bipush (v := 8) dX4_init_5 ib_8 ?_
  refine z_newi (N := 8) dX4_init_7 kd_19 rfl (by decide) (by decide) (by decide) (by decide) ?_
  refine z_mem (zm_arr (show 19 ≠ 18 by decide)) ?_
  refine z_putr dX4_init_9 0 clX4 kd_18 (by decide) (by decide) (by decide) wm_fl_X4_9 rfl rfl rfl rfl rfl (fun _ _ _ _ _ _ _ _ _ hk => hk.2.2.2) (tyX4_ok 0 (by decide)) rfl rfl ?_
  refine z_mem zm_put ?_
  refine z_aload_n dX4_init_12 rfl rfl ?_
  refine z_bipush (v := 8) dX4_init_13 ib_8 ?_
  refine z_newi (N := 8) dX4_init_15 kd_20 rfl (by decide) (by decide) (by decide) (by decide) ?_
  refine z_mem (zm_arr (show 20 ≠ 18 by decide)) ?_
  refine z_putr dX4_init_17 1 clX4 kd_18 (by decide) (by decide) (by decide) wm_fl_X4_15 rfl rfl rfl rfl rfl (fun _ _ _ _ _ _ _ _ _ hk => hk.2.2.2) (tyX4_ok 1 (by decide)) rfl rfl ?_
  refine z_mem zm_put ?_
  refine z_aload_n dX4_init_20 rfl rfl ?_
  refine z_bipush (v := 8) dX4_init_21 ib_8 ?_
  refine z_newi (N := 8) dX4_init_23 kd_21 rfl (by decide) (by decide) (by decide) (by decide) ?_
  refine z_mem (zm_arr (show 21 ≠ 18 by decide)) ?_
  refine z_putr dX4_init_25 2 clX4 kd_18 (by decide) (by decide) (by decide) wm_fl_X4_18 rfl rfl rfl rfl rfl (fun _ _ _ _ _ _ _ _ _ hk => hk.2.2.2) (tyX4_ok 2 (by decide)) rfl rfl ?_
  refine z_mem zm_put ?_
  refine z_aload_n dX4_init_28 rfl rfl ?_
  refine z_bipush (v := 8) dX4_init_29 ib_8 ?_
  refine z_newi (N := 8) dX4_init_31 kd_22 rfl (by decide) (by decide) (by decide) (by decide) ?_
  refine z_mem (zm_arr (show 22 ≠ 18 by decide)) ?_
  refine z_putr dX4_init_33 3 clX4 kd_18 (by decide) (by decide) (by decide) wm_fl_X4_21 rfl rfl rfl rfl rfl (fun _ _ _ _ _ _ _ _ _ hk => hk.2.2.2) (tyX4_ok 3 (by decide)) rfl rfl ?_
  refine z_mem zm_put ?_
  refine z_aload_n dX4_init_36 rfl rfl ?_
  refine z_bipush (v := 8) dX4_init_37 ib_8 ?_
  refine z_newi (N := 8) dX4_init_39 kd_23 rfl (by decide) (by decide) (by decide) (by decide) ?_
  refine z_mem (zm_arr (show 23 ≠ 18 by decide)) ?_
  refine z_putr dX4_init_41 4 clX4 kd_18 (by decide) (by decide) (by decide) wm_fl_X4_24 rfl rfl rfl rfl rfl (fun _ _ _ _ _ _ _ _ _ hk => hk.2.2.2) (tyX4_ok 4 (by decide)) rfl rfl ?_
  refine z_mem zm_put ?_
  refine z_aload_n dX4_init_44 rfl rfl ?_
  refine z_bipush (v := 8) dX4_init_45 ib_8 ?_
  refine z_newi (N := 8) dX4_init_47 kd_24 rfl (by decide) (by decide) (by decide) (by decide) ?_
  refine z_mem (zm_arr (show 24 ≠ 18 by decide)) ?_
  refine z_putr dX4_init_49 5 clX4 kd_18 (by decide) (by decide) (by decide) wm_fl_X4_27 rfl rfl rfl rfl rfl (fun _ _ _ _ _ _ _ _ _ hk => hk.2.2.2) (tyX4_ok 5 (by decide)) rfl rfl ?_
  refine z_mem zm_put ?_
  refine z_aload_n dX4_init_52 rfl rfl ?_
  refine z_bipush (v := 8) dX4_init_53 ib_8 ?_
  refine z_newi (N := 8) dX4_init_55 kd_25 rfl (by decide) (by decide) (by decide) (by decide) ?_
  refine z_mem (zm_arr (show 25 ≠ 18 by decide)) ?_
  refine z_putr dX4_init_57 6 clX4 kd_18 (by decide) (by decide) (by decide) wm_fl_X4_30 rfl rfl rfl rfl rfl (fun _ _ _ _ _ _ _ _ _ hk => hk.2.2.2) (tyX4_ok 6 (by decide)) rfl rfl ?_
  refine z_mem zm_put ?_
  refine z_aload_n dX4_init_60 rfl rfl ?_
  refine z_iconst (v := 5) dX4_init_61 ic_5 ?_
  refine z_puti dX4_init_62 9 clX4 kd_18 (by decide) (by decide) (by decide) wm_fl_X4_33 rfl rfl rfl rfl (tyX4_ok 9 (by decide)) rfl rfl ?_
  refine z_mem zm_put ?_
  refine z_aload_n dX4_init_65 rfl rfl ?_
  refine z_getr dX4_init_66 3 clX4 kd_18 (by decide) (by decide) wm_fl_X4_21 rfl rfl rfl ?_
  refine z_bipush (v := -6) dX4_init_69 ib_m6 ?_
  refine z_callS meJ7_fill_53178 (z_fill l G (x := -6) kd_22 (by decide) (by decide)) wm_ml_X4_37 ⟨by decide, by decide⟩ ⟨rfl, rfl⟩ (Nat.le_of_ble_eq_true rfl) (Nat.le_of_ble_eq_true rfl) (Nat.le_of_ble_eq_true rfl) rfl rfl dX4_init_71 ?_
  refine z_mem ?_ (z_ret dX4_init_74)
  funext k
  rcases (show k = 18 ∨ k = 19 ∨ k = 20 ∨ k = 21 ∨ k = 22 ∨ k = 23 ∨ k = 24 ∨ k = 25 ∨ (k ≠ 18 ∧ k ≠ 19 ∧ k ≠ 20 ∧ k ≠ 21 ∧ k ≠ 22 ∧ k ≠ 23 ∧ k ≠ 24 ∧ k ≠ 25) by omega) with rfl | rfl | rfl | rfl | rfl | rfl | rfl | rfl | h
  · rfl
  · rfl
  · rfl
  · rfl
  · rfl
  · rfl
  · rfl
  · rfl
  · simp [tn_18, mset, h]
theorem tn_18_cm (μ : MemT) (r : Nat → Int32) {c : Nat} (h : c < 18 ∨ 26 ≤ c) : tn_18 (mset μ c r) = mset (tn_18 μ) c r := by
  unfold tn_18
  rw [zm_arr (show 19 ≠ c by omega), zm_arr (show 20 ≠ c by omega), zm_arr (show 21 ≠ c by omega), zm_arr (show 22 ≠ c by omega), zm_arr (show 23 ≠ c by omega), zm_arr (show 24 ≠ c by omega), zm_arr (show 25 ≠ c by omega), zm_arr (show 18 ≠ c by omega)]
def tn_26 (μ : MemT) : MemT := mset (mset (mset (mset (mset (mset (mset (mset μ 27 z0) 28 z0) 29 z0) 30 (filF 8 (-6) z0)) 31 z0) 32 z0) 33 z0) 26 rTn
theorem zX4_26 (l : Launch) (G : GT) (μ : MemT) : zd_Met l G yX4_init cX4_init 1 ({ frames := 1, cells := 7, slots := 56, locals := 23 }) [.ref (G.2.1 26)] 7 56 11 (mset μ 26 z0) 18 (tn_26 μ) := by
  refine zd_Met.ofZ (by decide) (Nat.le_of_ble_eq_true rfl) rfl ?_
  refine z_aload_n dX4_init_0 rfl rfl ?_
  refine z_obj dX4_init_1 wm_ml_X4_3 (by decide) (by decide) ?_
  refine z_aload_n dX4_init_4 rfl rfl ?_
  refine z_bipush (v := 8) dX4_init_5 ib_8 ?_
  refine z_newi (N := 8) dX4_init_7 kd_27 rfl (by decide) (by decide) (by decide) (by decide) ?_
  refine z_mem (zm_arr (show 27 ≠ 26 by decide)) ?_
  refine z_putr dX4_init_9 0 clX4 kd_26 (by decide) (by decide) (by decide) wm_fl_X4_9 rfl rfl rfl rfl rfl (fun _ _ _ _ _ _ _ _ _ hk => hk.2.2.2) (tyX4_ok 0 (by decide)) rfl rfl ?_
  refine z_mem zm_put ?_
  refine z_aload_n dX4_init_12 rfl rfl ?_
  refine z_bipush (v := 8) dX4_init_13 ib_8 ?_
  refine z_newi (N := 8) dX4_init_15 kd_28 rfl (by decide) (by decide) (by decide) (by decide) ?_
  refine z_mem (zm_arr (show 28 ≠ 26 by decide)) ?_
  refine z_putr dX4_init_17 1 clX4 kd_26 (by decide) (by decide) (by decide) wm_fl_X4_15 rfl rfl rfl rfl rfl (fun _ _ _ _ _ _ _ _ _ hk => hk.2.2.2) (tyX4_ok 1 (by decide)) rfl rfl ?_
  refine z_mem zm_put ?_
  refine z_aload_n dX4_init_20 rfl rfl ?_
  refine z_bipush (v := 8) dX4_init_21 ib_8 ?_
  refine z_newi (N := 8) dX4_init_23 kd_29 rfl (by decide) (by decide) (by decide) (by decide) ?_
  refine z_mem (zm_arr (show 29 ≠ 26 by decide)) ?_
  refine z_putr dX4_init_25 2 clX4 kd_26 (by decide) (by decide) (by decide) wm_fl_X4_18 rfl rfl rfl rfl rfl (fun _ _ _ _ _ _ _ _ _ hk => hk.2.2.2) (tyX4_ok 2 (by decide)) rfl rfl ?_
  refine z_mem zm_put ?_
  refine z_aload_n dX4_init_28 rfl rfl ?_
  refine z_bipush (v := 8) dX4_init_29 ib_8 ?_
  refine z_newi (N := 8) dX4_init_31 kd_30 rfl (by decide) (by decide) (by decide) (by decide) ?_
  refine z_mem (zm_arr (show 30 ≠ 26 by decide)) ?_
  refine z_putr dX4_init_33 3 clX4 kd_26 (by decide) (by decide) (by decide) wm_fl_X4_21 rfl rfl rfl rfl rfl (fun _ _ _ _ _ _ _ _ _ hk => hk.2.2.2) (tyX4_ok 3 (by decide)) rfl rfl ?_
  refine z_mem zm_put ?_
  refine z_aload_n dX4_init_36 rfl rfl ?_
  refine z_bipush (v := 8) dX4_init_37 ib_8 ?_
  refine z_newi (N := 8) dX4_init_39 kd_31 rfl (by decide) (by decide) (by decide) (by decide) ?_
  refine z_mem (zm_arr (show 31 ≠ 26 by decide)) ?_
  refine z_putr dX4_init_41 4 clX4 kd_26 (by decide) (by decide) (by decide) wm_fl_X4_24 rfl rfl rfl rfl rfl (fun _ _ _ _ _ _ _ _ _ hk => hk.2.2.2) (tyX4_ok 4 (by decide)) rfl rfl ?_
  refine z_mem zm_put ?_
  refine z_aload_n dX4_init_44 rfl rfl ?_
  refine z_bipush (v := 8) dX4_init_45 ib_8 ?_
  refine z_newi (N := 8) dX4_init_47 kd_32 rfl (by decide) (by decide) (by decide) (by decide) ?_
  refine z_mem (zm_arr (show 32 ≠ 26 by decide)) ?_
  refine z_putr dX4_init_49 5 clX4 kd_26 (by decide) (by decide) (by decide) wm_fl_X4_27 rfl rfl rfl rfl rfl (fun _ _ _ _ _ _ _ _ _ hk => hk.2.2.2) (tyX4_ok 5 (by decide)) rfl rfl ?_
  refine z_mem zm_put ?_
  refine z_aload_n dX4_init_52 rfl rfl ?_
  refine z_bipush (v := 8) dX4_init_53 ib_8 ?_
  refine z_newi (N := 8) dX4_init_55 kd_33 rfl (by decide) (by decide) (by decide) (by decide) ?_
  refine z_mem (zm_arr (show 33 ≠ 26 by decide)) ?_
  refine z_putr dX4_init_57 6 clX4 kd_26 (by decide) (by decide) (by decide) wm_fl_X4_30 rfl rfl rfl rfl rfl (fun _ _ _ _ _ _ _ _ _ hk => hk.2.2.2) (tyX4_ok 6 (by decide)) rfl rfl ?_
  refine z_mem zm_put ?_
  refine z_aload_n dX4_init_60 rfl rfl ?_
  refine z_iconst (v := 5) dX4_init_61 ic_5 ?_
  refine z_puti dX4_init_62 9 clX4 kd_26 (by decide) (by decide) (by decide) wm_fl_X4_33 rfl rfl rfl rfl (tyX4_ok 9 (by decide)) rfl rfl ?_
  refine z_mem zm_put ?_
  refine z_aload_n dX4_init_65 rfl rfl ?_
  refine z_getr dX4_init_66 3 clX4 kd_26 (by decide) (by decide) wm_fl_X4_21 rfl rfl rfl ?_
  refine z_bipush (v := -6) dX4_init_69 ib_m6 ?_
  refine z_callS meJ7_fill_53178 (z_fill l G (x := -6) kd_30 (by decide) (by decide)) wm_ml_X4_37 ⟨by decide, by decide⟩ ⟨rfl, rfl⟩ (Nat.le_of_ble_eq_true rfl) (Nat.le_of_ble_eq_true rfl) (Nat.le_of_ble_eq_true rfl) rfl rfl dX4_init_71 ?_
  refine z_mem ?_ (z_ret dX4_init_74)
  funext k
  rcases (show k = 26 ∨ k = 27 ∨ k = 28 ∨ k = 29 ∨ k = 30 ∨ k = 31 ∨ k = 32 ∨ k = 33 ∨ (k ≠ 26 ∧ k ≠ 27 ∧ k ≠ 28 ∧ k ≠ 29 ∧ k ≠ 30 ∧ k ≠ 31 ∧ k ≠ 32 ∧ k ≠ 33) by omega) with rfl | rfl | rfl | rfl | rfl | rfl | rfl | rfl | h
  · rfl
  · rfl
  · rfl
  · rfl
  · rfl
  · rfl
  · rfl
  · rfl
  · simp [tn_26, mset, h]
theorem tn_26_cm (μ : MemT) (r : Nat → Int32) {c : Nat} (h : c < 26 ∨ 34 ≤ c) : tn_26 (mset μ c r) = mset (tn_26 μ) c r := by
  unfold tn_26
  rw [zm_arr (show 27 ≠ c by omega), zm_arr (show 28 ≠ c by omega), zm_arr (show 29 ≠ c by omega), zm_arr (show 30 ≠ c by omega), zm_arr (show 31 ≠ c by omega), zm_arr (show 32 ≠ c by omega), zm_arr (show 33 ≠ c by omega), zm_arr (show 26 ≠ c by omega)]
def tn_34 (μ : MemT) : MemT := mset (mset (mset (mset (mset (mset (mset (mset μ 35 z0) 36 z0) 37 z0) 38 (filF 8 (-6) z0)) 39 z0) 40 z0) 41 z0) 34 rTn
theorem zX4_34 (l : Launch) (G : GT) (μ : MemT) : zd_Met l G yX4_init cX4_init 1 ({ frames := 1, cells := 7, slots := 56, locals := 23 }) [.ref (G.2.1 34)] 7 56 19 (mset μ 34 z0) 26 (tn_34 μ) := by
  refine zd_Met.ofZ (by decide) (Nat.le_of_ble_eq_true rfl) rfl ?_
  refine z_aload_n dX4_init_0 rfl rfl ?_
  refine z_obj dX4_init_1 wm_ml_X4_3 (by decide) (by decide) ?_
  refine z_aload_n dX4_init_4 rfl rfl ?_
  refine z_bipush (v := 8) dX4_init_5 ib_8 ?_
  refine z_newi (N := 8) dX4_init_7 kd_35 rfl (by decide) (by decide) (by decide) (by decide) ?_
  refine z_mem (zm_arr (show 35 ≠ 34 by decide)) ?_
  refine z_putr dX4_init_9 0 clX4 kd_34 (by decide) (by decide) (by decide) wm_fl_X4_9 rfl rfl rfl rfl rfl (fun _ _ _ _ _ _ _ _ _ hk => hk.2.2.2) (tyX4_ok 0 (by decide)) rfl rfl ?_
  refine z_mem zm_put ?_
  refine z_aload_n dX4_init_12 rfl rfl ?_
  refine z_bipush (v := 8) dX4_init_13 ib_8 ?_
  refine z_newi (N := 8) dX4_init_15 kd_36 rfl (by decide) (by decide) (by decide) (by decide) ?_
  refine z_mem (zm_arr (show 36 ≠ 34 by decide)) ?_
  refine z_putr dX4_init_17 1 clX4 kd_34 (by decide) (by decide) (by decide) wm_fl_X4_15 rfl rfl rfl rfl rfl (fun _ _ _ _ _ _ _ _ _ hk => hk.2.2.2) (tyX4_ok 1 (by decide)) rfl rfl ?_
  refine z_mem zm_put ?_
  refine z_aload_n dX4_init_20 rfl rfl ?_
  refine z_bipush (v := 8) dX4_init_21 ib_8 ?_
  refine z_newi (N := 8) dX4_init_23 kd_37 rfl (by decide) (by decide) (by decide) (by decide) ?_
  refine z_mem (zm_arr (show 37 ≠ 34 by decide)) ?_
  refine z_putr dX4_init_25 2 clX4 kd_34 (by decide) (by decide) (by decide) wm_fl_X4_18 rfl rfl rfl rfl rfl (fun _ _ _ _ _ _ _ _ _ hk => hk.2.2.2) (tyX4_ok 2 (by decide)) rfl rfl ?_
  refine z_mem zm_put ?_
  refine z_aload_n dX4_init_28 rfl rfl ?_
  refine z_bipush (v := 8) dX4_init_29 ib_8 ?_
  refine z_newi (N := 8) dX4_init_31 kd_38 rfl (by decide) (by decide) (by decide) (by decide) ?_
  refine z_mem (zm_arr (show 38 ≠ 34 by decide)) ?_
  refine z_putr dX4_init_33 3 clX4 kd_34 (by decide) (by decide) (by decide) wm_fl_X4_21 rfl rfl rfl rfl rfl (fun _ _ _ _ _ _ _ _ _ hk => hk.2.2.2) (tyX4_ok 3 (by decide)) rfl rfl ?_
  refine z_mem zm_put ?_
  refine z_aload_n dX4_init_36 rfl rfl ?_
  refine z_bipush (v := 8) dX4_init_37 ib_8 ?_
  refine z_newi (N := 8) dX4_init_39 kd_39 rfl (by decide) (by decide) (by decide) (by decide) ?_
  refine z_mem (zm_arr (show 39 ≠ 34 by decide)) ?_
  refine z_putr dX4_init_41 4 clX4 kd_34 (by decide) (by decide) (by decide) wm_fl_X4_24 rfl rfl rfl rfl rfl (fun _ _ _ _ _ _ _ _ _ hk => hk.2.2.2) (tyX4_ok 4 (by decide)) rfl rfl ?_
  refine z_mem zm_put ?_
  refine z_aload_n dX4_init_44 rfl rfl ?_
  refine z_bipush (v := 8) dX4_init_45 ib_8 ?_
  refine z_newi (N := 8) dX4_init_47 kd_40 rfl (by decide) (by decide) (by decide) (by decide) ?_
  refine z_mem (zm_arr (show 40 ≠ 34 by decide)) ?_
  refine z_putr dX4_init_49 5 clX4 kd_34 (by decide) (by decide) (by decide) wm_fl_X4_27 rfl rfl rfl rfl rfl (fun _ _ _ _ _ _ _ _ _ hk => hk.2.2.2) (tyX4_ok 5 (by decide)) rfl rfl ?_
  refine z_mem zm_put ?_
  refine z_aload_n dX4_init_52 rfl rfl ?_
  refine z_bipush (v := 8) dX4_init_53 ib_8 ?_
  refine z_newi (N := 8) dX4_init_55 kd_41 rfl (by decide) (by decide) (by decide) (by decide) ?_
  refine z_mem (zm_arr (show 41 ≠ 34 by decide)) ?_
  refine z_putr dX4_init_57 6 clX4 kd_34 (by decide) (by decide) (by decide) wm_fl_X4_30 rfl rfl rfl rfl rfl (fun _ _ _ _ _ _ _ _ _ hk => hk.2.2.2) (tyX4_ok 6 (by decide)) rfl rfl ?_
  refine z_mem zm_put ?_
  refine z_aload_n dX4_init_60 rfl rfl ?_
  refine z_iconst (v := 5) dX4_init_61 ic_5 ?_
  refine z_puti dX4_init_62 9 clX4 kd_34 (by decide) (by decide) (by decide) wm_fl_X4_33 rfl rfl rfl rfl (tyX4_ok 9 (by decide)) rfl rfl ?_
  refine z_mem zm_put ?_
  refine z_aload_n dX4_init_65 rfl rfl ?_
  refine z_getr dX4_init_66 3 clX4 kd_34 (by decide) (by decide) wm_fl_X4_21 rfl rfl rfl ?_
  refine z_bipush (v := -6) dX4_init_69 ib_m6 ?_
  refine z_callS meJ7_fill_53178 (z_fill l G (x := -6) kd_38 (by decide) (by decide)) wm_ml_X4_37 ⟨by decide, by decide⟩ ⟨rfl, rfl⟩ (Nat.le_of_ble_eq_true rfl) (Nat.le_of_ble_eq_true rfl) (Nat.le_of_ble_eq_true rfl) rfl rfl dX4_init_71 ?_
  refine z_mem ?_ (z_ret dX4_init_74)
  funext k
  rcases (show k = 34 ∨ k = 35 ∨ k = 36 ∨ k = 37 ∨ k = 38 ∨ k = 39 ∨ k = 40 ∨ k = 41 ∨ (k ≠ 34 ∧ k ≠ 35 ∧ k ≠ 36 ∧ k ≠ 37 ∧ k ≠ 38 ∧ k ≠ 39 ∧ k ≠ 40 ∧ k ≠ 41) by omega) with rfl | rfl | rfl | rfl | rfl | rfl | rfl | rfl | h
  · rfl
  · rfl
  · rfl
  · rfl
  · rfl
  · rfl
  · rfl
  · rfl
  · simp [tn_34, mset, h]
theorem tn_34_cm (μ : MemT) (r : Nat → Int32) {c : Nat} (h : c < 34 ∨ 42 ≤ c) : tn_34 (mset μ c r) = mset (tn_34 μ) c r := by
  unfold tn_34
  rw [zm_arr (show 35 ≠ c by omega), zm_arr (show 36 ≠ c by omega), zm_arr (show 37 ≠ c by omega), zm_arr (show 38 ≠ c by omega), zm_arr (show 39 ≠ c by omega), zm_arr (show 40 ≠ c by omega), zm_arr (show 41 ≠ c by omega), zm_arr (show 34 ≠ c by omega)]
def tn_42 (μ : MemT) : MemT := mset (mset (mset (mset (mset (mset (mset (mset μ 43 z0) 44 z0) 45 z0) 46 (filF 8 (-6) z0)) 47 z0) 48 z0) 49 z0) 42 rTn
theorem zX4_42 (l : Launch) (G : GT) (μ : MemT) : zd_Met l G yX4_init cX4_init 1 ({ frames := 1, cells := 7, slots := 56, locals := 23 }) [.ref (G.2.1 42)] 7 56 31 (mset μ 42 z0) 38 (tn_42 μ) := by
  refine zd_Met.ofZ (by decide) (Nat.le_of_ble_eq_true rfl) rfl ?_
  refine z_aload_n dX4_init_0 rfl rfl ?_
  refine z_obj dX4_init_1 wm_ml_X4_3 (by decide) (by decide) ?_
  refine z_aload_n dX4_init_4 rfl rfl ?_
  refine z_bipush (v := 8) dX4_init_5 ib_8 ?_
  refine z_newi (N := 8) dX4_init_7 kd_43 rfl (by decide) (by decide) (by decide) (by decide) ?_
  refine z_mem (zm_arr (show 43 ≠ 42 by decide)) ?_
  refine z_putr dX4_init_9 0 clX4 kd_42 (by decide) (by decide) (by decide) wm_fl_X4_9 rfl rfl rfl rfl rfl (fun _ _ _ _ _ _ _ _ _ hk => hk.2.2.2) (tyX4_ok 0 (by decide)) rfl rfl ?_
  refine z_mem zm_put ?_
  refine z_aload_n dX4_init_12 rfl rfl ?_
  refine z_bipush (v := 8) dX4_init_13 ib_8 ?_
  refine z_newi (N := 8) dX4_init_15 kd_44 rfl (by decide) (by decide) (by decide) (by decide) ?_
  refine z_mem (zm_arr (show 44 ≠ 42 by decide)) ?_
  refine z_putr dX4_init_17 1 clX4 kd_42 (by decide) (by decide) (by decide) wm_fl_X4_15 rfl rfl rfl rfl rfl (fun _ _ _ _ _ _ _ _ _ hk => hk.2.2.2) (tyX4_ok 1 (by decide)) rfl rfl ?_
  refine z_mem zm_put ?_
  refine z_aload_n dX4_init_20 rfl rfl ?_
  refine z_bipush (v := 8) dX4_init_21 ib_8 ?_
  refine z_newi (N := 8) dX4_init_23 kd_45 rfl (by decide) (by decide) (by decide) (by decide) ?_
  refine z_mem (zm_arr (show 45 ≠ 42 by decide)) ?_
  refine z_putr dX4_init_25 2 clX4 kd_42 (by decide) (by decide) (by decide) wm_fl_X4_18 rfl rfl rfl rfl rfl (fun _ _ _ _ _ _ _ _ _ hk => hk.2.2.2) (tyX4_ok 2 (by decide)) rfl rfl ?_
  refine z_mem zm_put ?_
  refine z_aload_n dX4_init_28 rfl rfl ?_
  refine z_bipush (v := 8) dX4_init_29 ib_8 ?_
  refine z_newi (N := 8) dX4_init_31 kd_46 rfl (by decide) (by decide) (by decide) (by decide) ?_
  refine z_mem (zm_arr (show 46 ≠ 42 by decide)) ?_
  refine z_putr dX4_init_33 3 clX4 kd_42 (by decide) (by decide) (by decide) wm_fl_X4_21 rfl rfl rfl rfl rfl (fun _ _ _ _ _ _ _ _ _ hk => hk.2.2.2) (tyX4_ok 3 (by decide)) rfl rfl ?_
  refine z_mem zm_put ?_
  refine z_aload_n dX4_init_36 rfl rfl ?_
  refine z_bipush (v := 8) dX4_init_37 ib_8 ?_
  refine z_newi (N := 8) dX4_init_39 kd_47 rfl (by decide) (by decide) (by decide) (by decide) ?_
  refine z_mem (zm_arr (show 47 ≠ 42 by decide)) ?_
  refine z_putr dX4_init_41 4 clX4 kd_42 (by decide) (by decide) (by decide) wm_fl_X4_24 rfl rfl rfl rfl rfl (fun _ _ _ _ _ _ _ _ _ hk => hk.2.2.2) (tyX4_ok 4 (by decide)) rfl rfl ?_
  refine z_mem zm_put ?_
  refine z_aload_n dX4_init_44 rfl rfl ?_
  refine z_bipush (v := 8) dX4_init_45 ib_8 ?_
  refine z_newi (N := 8) dX4_init_47 kd_48 rfl (by decide) (by decide) (by decide) (by decide) ?_
  refine z_mem (zm_arr (show 48 ≠ 42 by decide)) ?_
  refine z_putr dX4_init_49 5 clX4 kd_42 (by decide) (by decide) (by decide) wm_fl_X4_27 rfl rfl rfl rfl rfl (fun _ _ _ _ _ _ _ _ _ hk => hk.2.2.2) (tyX4_ok 5 (by decide)) rfl rfl ?_
  refine z_mem zm_put ?_
  refine z_aload_n dX4_init_52 rfl rfl ?_
  refine z_bipush (v := 8) dX4_init_53 ib_8 ?_
  refine z_newi (N := 8) dX4_init_55 kd_49 rfl (by decide) (by decide) (by decide) (by decide) ?_
  refine z_mem (zm_arr (show 49 ≠ 42 by decide)) ?_
  refine z_putr dX4_init_57 6 clX4 kd_42 (by decide) (by decide) (by decide) wm_fl_X4_30 rfl rfl rfl rfl rfl (fun _ _ _ _ _ _ _ _ _ hk => hk.2.2.2) (tyX4_ok 6 (by decide)) rfl rfl ?_
  refine z_mem zm_put ?_
  refine z_aload_n dX4_init_60 rfl rfl ?_
  refine z_iconst (v := 5) dX4_init_61 ic_5 ?_
  refine z_puti dX4_init_62 9 clX4 kd_42 (by decide) (by decide) (by decide) wm_fl_X4_33 rfl rfl rfl rfl (tyX4_ok 9 (by decide)) rfl rfl ?_
  refine z_mem zm_put ?_
  refine z_aload_n dX4_init_65 rfl rfl ?_
  refine z_getr dX4_init_66 3 clX4 kd_42 (by decide) (by decide) wm_fl_X4_21 rfl rfl rfl ?_
  refine z_bipush (v := -6) dX4_init_69 ib_m6 ?_
  refine z_callS meJ7_fill_53178 (z_fill l G (x := -6) kd_46 (by decide) (by decide)) wm_ml_X4_37 ⟨by decide, by decide⟩ ⟨rfl, rfl⟩ (Nat.le_of_ble_eq_true rfl) (Nat.le_of_ble_eq_true rfl) (Nat.le_of_ble_eq_true rfl) rfl rfl dX4_init_71 ?_
  refine z_mem ?_ (z_ret dX4_init_74)
  funext k
  rcases (show k = 42 ∨ k = 43 ∨ k = 44 ∨ k = 45 ∨ k = 46 ∨ k = 47 ∨ k = 48 ∨ k = 49 ∨ (k ≠ 42 ∧ k ≠ 43 ∧ k ≠ 44 ∧ k ≠ 45 ∧ k ≠ 46 ∧ k ≠ 47 ∧ k ≠ 48 ∧ k ≠ 49) by omega) with rfl | rfl | rfl | rfl | rfl | rfl | rfl | rfl | h
  · rfl
  · rfl
  · rfl
  · rfl
  · rfl
  · rfl
  · rfl
  · rfl
  · simp [tn_42, mset, h]
theorem tn_42_cm (μ : MemT) (r : Nat → Int32) {c : Nat} (h : c < 42 ∨ 50 ≤ c) : tn_42 (mset μ c r) = mset (tn_42 μ) c r := by
  unfold tn_42
  rw [zm_arr (show 43 ≠ c by omega), zm_arr (show 44 ≠ c by omega), zm_arr (show 45 ≠ c by omega), zm_arr (show 46 ≠ c by omega), zm_arr (show 47 ≠ c by omega), zm_arr (show 48 ≠ c by omega), zm_arr (show 49 ≠ c by omega), zm_arr (show 42 ≠ c by omega)]
def tn_50 (μ : MemT) : MemT := mset (mset (mset (mset (mset (mset (mset (mset μ 51 z0) 52 z0) 53 z0) 54 (filF 8 (-6) z0)) 55 z0) 56 z0) 57 z0) 50 rTn
theorem zX4_50 (l : Launch) (G : GT) (μ : MemT) : zd_Met l G yX4_init cX4_init 1 ({ frames := 1, cells := 7, slots := 56, locals := 23 }) [.ref (G.2.1 50)] 7 56 51 (mset μ 50 z0) 58 (tn_50 μ) := by
  refine zd_Met.ofZ (by decide) (Nat.le_of_ble_eq_true rfl) rfl ?_
  refine z_aload_n dX4_init_0 rfl rfl ?_
  refine z_obj dX4_init_1 wm_ml_X4_3 (by decide) (by decide) ?_
  refine z_aload_n dX4_init_4 rfl rfl ?_
  refine z_bipush (v := 8) dX4_init_5 ib_8 ?_
  refine z_newi (N := 8) dX4_init_7 kd_51 rfl (by decide) (by decide) (by decide) (by decide) ?_
  refine z_mem (zm_arr (show 51 ≠ 50 by decide)) ?_
  refine z_putr dX4_init_9 0 clX4 kd_50 (by decide) (by decide) (by decide) wm_fl_X4_9 rfl rfl rfl rfl rfl (fun _ _ _ _ _ _ _ _ _ hk => hk.2.2.2) (tyX4_ok 0 (by decide)) rfl rfl ?_
  refine z_mem zm_put ?_
  refine z_aload_n dX4_init_12 rfl rfl ?_
  refine z_bipush (v := 8) dX4_init_13 ib_8 ?_
  refine z_newi (N := 8) dX4_init_15 kd_52 rfl (by decide) (by decide) (by decide) (by decide) ?_
  refine z_mem (zm_arr (show 52 ≠ 50 by decide)) ?_
  refine z_putr dX4_init_17 1 clX4 kd_50 (by decide) (by decide) (by decide) wm_fl_X4_15 rfl rfl rfl rfl rfl (fun _ _ _ _ _ _ _ _ _ hk => hk.2.2.2) (tyX4_ok 1 (by decide)) rfl rfl ?_
  refine z_mem zm_put ?_
  refine z_aload_n dX4_init_20 rfl rfl ?_
  refine z_bipush (v := 8) dX4_init_21 ib_8 ?_
  refine z_newi (N := 8) dX4_init_23 kd_53 rfl (by decide) (by decide) (by decide) (by decide) ?_
  refine z_mem (zm_arr (show 53 ≠ 50 by decide)) ?_
  refine z_putr dX4_init_25 2 clX4 kd_50 (by decide) (by decide) (by decide) wm_fl_X4_18 rfl rfl rfl rfl rfl (fun _ _ _ _ _ _ _ _ _ hk => hk.2.2.2) (tyX4_ok 2 (by decide)) rfl rfl ?_
  refine z_mem zm_put ?_
  refine z_aload_n dX4_init_28 rfl rfl ?_
  refine z_bipush (v := 8) dX4_init_29 ib_8 ?_
  refine z_newi (N := 8) dX4_init_31 kd_54 rfl (by decide) (by decide) (by decide) (by decide) ?_
  refine z_mem (zm_arr (show 54 ≠ 50 by decide)) ?_
  refine z_putr dX4_init_33 3 clX4 kd_50 (by decide) (by decide) (by decide) wm_fl_X4_21 rfl rfl rfl rfl rfl (fun _ _ _ _ _ _ _ _ _ hk => hk.2.2.2) (tyX4_ok 3 (by decide)) rfl rfl ?_
  refine z_mem zm_put ?_
  refine z_aload_n dX4_init_36 rfl rfl ?_
  refine z_bipush (v := 8) dX4_init_37 ib_8 ?_
  refine z_newi (N := 8) dX4_init_39 kd_55 rfl (by decide) (by decide) (by decide) (by decide) ?_
  refine z_mem (zm_arr (show 55 ≠ 50 by decide)) ?_
  refine z_putr dX4_init_41 4 clX4 kd_50 (by decide) (by decide) (by decide) wm_fl_X4_24 rfl rfl rfl rfl rfl (fun _ _ _ _ _ _ _ _ _ hk => hk.2.2.2) (tyX4_ok 4 (by decide)) rfl rfl ?_
  refine z_mem zm_put ?_
  refine z_aload_n dX4_init_44 rfl rfl ?_
  refine z_bipush (v := 8) dX4_init_45 ib_8 ?_
  refine z_newi (N := 8) dX4_init_47 kd_56 rfl (by decide) (by decide) (by decide) (by decide) ?_
  refine z_mem (zm_arr (show 56 ≠ 50 by decide)) ?_
  refine z_putr dX4_init_49 5 clX4 kd_50 (by decide) (by decide) (by decide) wm_fl_X4_27 rfl rfl rfl rfl rfl (fun _ _ _ _ _ _ _ _ _ hk => hk.2.2.2) (tyX4_ok 5 (by decide)) rfl rfl ?_
  refine z_mem zm_put ?_
  refine z_aload_n dX4_init_52 rfl rfl ?_
  refine z_bipush (v := 8) dX4_init_53 ib_8 ?_
  refine z_newi (N := 8) dX4_init_55 kd_57 rfl (by decide) (by decide) (by decide) (by decide) ?_
  refine z_mem (zm_arr (show 57 ≠ 50 by decide)) ?_
  refine z_putr dX4_init_57 6 clX4 kd_50 (by decide) (by decide) (by decide) wm_fl_X4_30 rfl rfl rfl rfl rfl (fun _ _ _ _ _ _ _ _ _ hk => hk.2.2.2) (tyX4_ok 6 (by decide)) rfl rfl ?_
  refine z_mem zm_put ?_
  refine z_aload_n dX4_init_60 rfl rfl ?_
  refine z_iconst (v := 5) dX4_init_61 ic_5 ?_
  refine z_puti dX4_init_62 9 clX4 kd_50 (by decide) (by decide) (by decide) wm_fl_X4_33 rfl rfl rfl rfl (tyX4_ok 9 (by decide)) rfl rfl ?_
  refine z_mem zm_put ?_
  refine z_aload_n dX4_init_65 rfl rfl ?_
  refine z_getr dX4_init_66 3 clX4 kd_50 (by decide) (by decide) wm_fl_X4_21 rfl rfl rfl ?_
  refine z_bipush (v := -6) dX4_init_69 ib_m6 ?_
  refine z_callS meJ7_fill_53178 (z_fill l G (x := -6) kd_54 (by decide) (by decide)) wm_ml_X4_37 ⟨by decide, by decide⟩ ⟨rfl, rfl⟩ (Nat.le_of_ble_eq_true rfl) (Nat.le_of_ble_eq_true rfl) (Nat.le_of_ble_eq_true rfl) rfl rfl dX4_init_71 ?_
  refine z_mem ?_ (z_ret dX4_init_74)
  funext k
  rcases (show k = 50 ∨ k = 51 ∨ k = 52 ∨ k = 53 ∨ k = 54 ∨ k = 55 ∨ k = 56 ∨ k = 57 ∨ (k ≠ 50 ∧ k ≠ 51 ∧ k ≠ 52 ∧ k ≠ 53 ∧ k ≠ 54 ∧ k ≠ 55 ∧ k ≠ 56 ∧ k ≠ 57) by omega) with rfl | rfl | rfl | rfl | rfl | rfl | rfl | rfl | h
  · rfl
  · rfl
  · rfl
  · rfl
  · rfl
  · rfl
  · rfl
  · rfl
  · simp [tn_50, mset, h]
theorem tn_50_cm (μ : MemT) (r : Nat → Int32) {c : Nat} (h : c < 50 ∨ 58 ≤ c) : tn_50 (mset μ c r) = mset (tn_50 μ) c r := by
  unfold tn_50
  rw [zm_arr (show 51 ≠ c by omega), zm_arr (show 52 ≠ c by omega), zm_arr (show 53 ≠ c by omega), zm_arr (show 54 ≠ c by omega), zm_arr (show 55 ≠ c by omega), zm_arr (show 56 ≠ c by omega), zm_arr (show 57 ≠ c by omega), zm_arr (show 50 ≠ c by omega)]
def pf_0 (μ : MemT) : MemT := mset μ 16 z0
theorem zX0 (l : Launch) (G : GT) (μ : MemT) : zd_Met l G yX0_init cX0_init 1 ({ frames := 1, cells := 0, slots := 0, locals := 12 }) [.ref (G.2.1 16)] 0 0 49 (mset μ 16 z0) 49 (pf_0 μ) := by
  refine zd_Met.ofZ (by decide) (Nat.le_of_ble_eq_true rfl) rfl ?_
  refine z_aload_n dX0_init_0 rfl rfl ?_
  refine z_obj dX0_init_1 wm_ml_X0_1 (by decide) (by decide) ?_
  refine z_mem ?_ (z_ret dX0_init_4)
  rfl
theorem pf_0_cm (μ : MemT) (r : Nat → Int32) : pf_0 (mset μ 0 r) = mset (pf_0 μ) 0 r := by
  unfold pf_0
  rw [zm_arr (show 16 ≠ 0 by decide)]
def pf_2 (μ : MemT) : MemT := mset (mset μ 4 z0) 3 (upd z0 0 1)
theorem zX2 (l : Launch) (G : GT) (μ : MemT) : zd_Met l G yX2_init cX2_init 1 ({ frames := 1, cells := 1, slots := 60, locals := 12 }) [.ref (G.2.1 3)] 1 60 28 (mset μ 3 z0) 29 (pf_2 μ) := by
  refine zd_Met.ofZ (by decide) (Nat.le_of_ble_eq_true rfl) rfl ?_
  refine z_aload_n dX2_init_0 rfl rfl ?_
  refine z_obj dX2_init_1 wm_ml_X2_3 (by decide) (by decide) ?_
  refine z_aload_n dX2_init_4 rfl rfl ?_
  refine z_bipush (v := 60) dX2_init_5 ib_60 ?_
  refine z_newi (N := 60) dX2_init_7 kd_4 rfl (by decide) (by decide) (by decide) (by decide) ?_
  refine z_mem (zm_arr (show 4 ≠ 3 by decide)) ?_
  refine z_putr dX2_init_9 0 clX2 kd_3 (by decide) (by decide) (by decide) wm_fl_X2_9 rfl rfl rfl rfl rfl (fun _ _ _ _ _ _ _ _ _ hk => hk.2.2.2) (tyX2_ok 0 (by decide)) rfl rfl ?_
  refine z_mem zm_put ?_
  refine z_mem ?_ (z_ret dX2_init_12)
  rfl
theorem pf_2_cm (μ : MemT) (r : Nat → Int32) : pf_2 (mset μ 0 r) = mset (pf_2 μ) 0 r := by
  unfold pf_2
  rw [zm_arr (show 4 ≠ 0 by decide), zm_arr (show 3 ≠ 0 by decide)]
def pf_3 (μ : MemT) : MemT := mset (mset (mset (mset (mset μ 7 z0) 8 z0) 9 z0) 10 z0) 6 (upd (upd (upd (upd z0 0 1) 1 1) 2 1) 3 1)
theorem zX3 (l : Launch) (G : GT) (μ : MemT) : zd_Met l G yX3_init cX3_init 1 ({ frames := 1, cells := 4, slots := 3969, locals := 12 }) [.ref (G.2.1 6)] 4 3969 39 (mset μ 6 z0) 43 (pf_3 μ) := by
  refine zd_Met.ofZ (by decide) (Nat.le_of_ble_eq_true rfl) rfl ?_
  refine z_aload_n dX3_init_0 rfl rfl ?_
  refine z_obj dX3_init_1 wm_ml_X3_3 (by decide) (by decide) ?_
  refine z_aload_n dX3_init_4 rfl rfl ?_
  refine z_sipush (v := 256) dX3_init_5 is_256 ?_
  refine z_newi (N := 256) dX3_init_8 kd_7 rfl (by decide) (by decide) (by decide) (by decide) ?_
  refine z_mem (zm_arr (show 7 ≠ 6 by decide)) ?_
  refine z_putr dX3_init_10 0 clX3 kd_6 (by decide) (by decide) (by decide) wm_fl_X3_9 rfl rfl rfl rfl rfl (fun _ _ _ _ _ _ _ _ _ hk => hk.2.2.2) (tyX3_ok 0 (by decide)) rfl rfl ?_
  refine z_mem zm_put ?_
  refine z_aload_n dX3_init_13 rfl rfl ?_
  refine z_sipush (v := 256) dX3_init_14 is_256 ?_
  refine z_newi (N := 256) dX3_init_17 kd_8 rfl (by decide) (by decide) (by decide) (by decide) ?_
  refine z_mem (zm_arr (show 8 ≠ 6 by decide)) ?_
  refine z_putr dX3_init_19 1 clX3 kd_6 (by decide) (by decide) (by decide) wm_fl_X3_15 rfl rfl rfl rfl rfl (fun _ _ _ _ _ _ _ _ _ hk => hk.2.2.2) (tyX3_ok 1 (by decide)) rfl rfl ?_
  refine z_mem zm_put ?_
  refine z_aload_n dX3_init_22 rfl rfl ?_
  refine z_sipush (v := 256) dX3_init_23 is_256 ?_
  refine z_newi (N := 256) dX3_init_26 kd_9 rfl (by decide) (by decide) (by decide) (by decide) ?_
  refine z_mem (zm_arr (show 9 ≠ 6 by decide)) ?_
  refine z_putr dX3_init_28 2 clX3 kd_6 (by decide) (by decide) (by decide) wm_fl_X3_18 rfl rfl rfl rfl rfl (fun _ _ _ _ _ _ _ _ _ hk => hk.2.2.2) (tyX3_ok 2 (by decide)) rfl rfl ?_
  refine z_mem zm_put ?_
  refine z_aload_n dX3_init_31 rfl rfl ?_
  refine z_sipush (v := 3201) dX3_init_32 is_3201 ?_
  refine z_newb (N := 3201) dX3_init_35 kd_10 rfl (by decide) (by decide) (by decide) (by decide) ?_
  refine z_mem (zm_arr (show 10 ≠ 6 by decide)) ?_
  refine z_putr dX3_init_37 3 clX3 kd_6 (by decide) (by decide) (by decide) wm_fl_X3_21 rfl rfl rfl rfl rfl (fun _ _ _ _ _ _ _ _ _ hk => hk.2.2.2) (tyX3_ok 3 (by decide)) rfl rfl ?_
  refine z_mem zm_put ?_
  refine z_mem ?_ (z_ret dX3_init_40)
  rfl
theorem pf_3_cm (μ : MemT) (r : Nat → Int32) : pf_3 (mset μ 0 r) = mset (pf_3 μ) 0 r := by
  unfold pf_3
  rw [zm_arr (show 7 ≠ 0 by decide), zm_arr (show 8 ≠ 0 by decide), zm_arr (show 9 ≠ 0 by decide), zm_arr (show 10 ≠ 0 by decide), zm_arr (show 6 ≠ 0 by decide)]
def pf_5 (μ : MemT) : MemT := mset (mset (mset (mset (mset μ 12 z0) 13 z0) 14 z0) 15 z0) 11 (upd (upd (upd (upd z0 0 1) 1 1) 2 1) 3 1)
theorem zX5 (l : Launch) (G : GT) (μ : MemT) : zd_Met l G yX5_init cX5_init 1 ({ frames := 1, cells := 4, slots := 301, locals := 12 }) [.ref (G.2.1 11)] 4 301 44 (mset μ 11 z0) 48 (pf_5 μ) := by
  refine zd_Met.ofZ (by decide) (Nat.le_of_ble_eq_true rfl) rfl ?_
  refine z_aload_n dX5_init_0 rfl rfl ?_
  refine z_obj dX5_init_1 wm_ml_X5_5 (by decide) (by decide) ?_
  refine z_aload_n dX5_init_4 rfl rfl ?_
  refine z_sipush (v := 145) dX5_init_5 is_145 ?_
  refine z_newi (N := 145) dX5_init_8 kd_12 rfl (by decide) (by decide) (by decide) (by decide) ?_
  refine z_mem (zm_arr (show 12 ≠ 11 by decide)) ?_
  refine z_putr dX5_init_10 0 clX5 kd_11 (by decide) (by decide) (by decide) wm_fl_X5_11 rfl rfl rfl rfl rfl (fun _ _ _ _ _ _ _ _ _ hk => hk.2.2.2) (tyX5_ok 0 (by decide)) rfl rfl ?_
  refine z_mem zm_put ?_
  refine z_aload_n dX5_init_13 rfl rfl ?_
  refine z_sipush (v := 145) dX5_init_14 is_145 ?_
  refine z_newi (N := 145) dX5_init_17 kd_13 rfl (by decide) (by decide) (by decide) (by decide) ?_
  refine z_mem (zm_arr (show 13 ≠ 11 by decide)) ?_
  refine z_putr dX5_init_19 1 clX5 kd_11 (by decide) (by decide) (by decide) wm_fl_X5_15 rfl rfl rfl rfl rfl (fun _ _ _ _ _ _ _ _ _ hk => hk.2.2.2) (tyX5_ok 1 (by decide)) rfl rfl ?_
  refine z_mem zm_put ?_
  refine z_aload_n dX5_init_22 rfl rfl ?_
  refine z_bipush (v := 8) dX5_init_23 ib_8 ?_
  refine z_newi (N := 8) dX5_init_25 kd_14 rfl (by decide) (by decide) (by decide) (by decide) ?_
  refine z_mem (zm_arr (show 14 ≠ 11 by decide)) ?_
  refine z_putr dX5_init_27 2 clX5 kd_11 (by decide) (by decide) (by decide) wm_fl_X5_18 rfl rfl rfl rfl rfl (fun _ _ _ _ _ _ _ _ _ hk => hk.2.2.2) (tyX5_ok 2 (by decide)) rfl rfl ?_
  refine z_mem zm_put ?_
  refine z_aload_n dX5_init_30 rfl rfl ?_
  refine z_iconst (v := 3) dX5_init_31 ic_3 ?_
  refine z_newi (N := 3) dX5_init_32 kd_15 rfl (by decide) (by decide) (by decide) (by decide) ?_
  refine z_mem (zm_arr (show 15 ≠ 11 by decide)) ?_
  refine z_putr dX5_init_34 3 clX5 kd_11 (by decide) (by decide) (by decide) wm_fl_X5_21 rfl rfl rfl rfl rfl (fun _ _ _ _ _ _ _ _ _ hk => hk.2.2.2) (tyX5_ok 3 (by decide)) rfl rfl ?_
  refine z_mem zm_put ?_
  refine z_mem ?_ (z_ret dX5_init_37)
  rfl
theorem pf_5_cm (μ : MemT) (r : Nat → Int32) : pf_5 (mset μ 0 r) = mset (pf_5 μ) 0 r := by
  unfold pf_5
  rw [zm_arr (show 12 ≠ 0 by decide), zm_arr (show 13 ≠ 0 by decide), zm_arr (show 14 ≠ 0 by decide), zm_arr (show 15 ≠ 0 by decide), zm_arr (show 11 ≠ 0 by decide)]
def pf_1 (μ : MemT) : MemT := mset (tn_42 μ) 5 (upd z0 0 1)
theorem zX1 (l : Launch) (G : GT) (μ : MemT) : zd_Met l G yX1_init cX1_init 1 ({ frames := 2, cells := 8, slots := 68, locals := 43 }) [.ref (G.2.1 5)] 8 68 30 (mset μ 5 z0) 38 (pf_1 μ) := by
  refine zd_Met.ofZ (by decide) (Nat.le_of_ble_eq_true rfl) rfl ?_
  refine z_aload_n dX1_init_0 rfl rfl ?_
  refine z_obj dX1_init_1 wm_ml_X1_3 (by decide) (by decide) ?_
  refine z_aload_n dX1_init_4 rfl rfl ?_
  refine z_new dX1_init_5 clX4 kd_42 rfl wm_kl_X1_9 wm_it_X4 wm_ini_X4 (zf_42 G) (by decide) (by decide) ?_
  refine z_dup dX1_init_8 rfl ?_
  refine z_callI (zX4_42 l G _) wm_cd_X4_init wm_ini_X4 wm_ml_X1_11 wm_im_X4_init rfl (by decide +kernel) ⟨by decide, by decide⟩ ⟨rfl, rfl⟩ (Nat.le_of_ble_eq_true rfl) (Nat.le_of_ble_eq_true rfl) (Nat.le_of_ble_eq_true rfl) dX1_init_9 ?_
  refine z_mem (tn_42_cm _ _ (show 5 < 42 ∨ 50 ≤ 5 by decide)) ?_
  refine z_putr dX1_init_12 0 clX1 kd_5 (by decide) (by decide) (by decide) wm_fl_X1_12 rfl rfl rfl rfl rfl (fun _ _ _ _ _ _ _ _ _ hk => hk.2.2.2) (tyX1_ok 0 (by decide)) rfl rfl ?_
  refine z_mem zm_put ?_
  refine z_mem ?_ (z_ret dX1_init_15)
  rfl
theorem pf_1_cm (μ : MemT) (r : Nat → Int32) : pf_1 (mset μ 0 r) = mset (pf_1 μ) 0 r := by
  unfold pf_1
  rw [tn_42_cm _ _ (show 0 < 42 ∨ 50 ≤ 0 by decide), zm_arr (show 5 ≠ 0 by decide)]
def pf_6 (μ : MemT) : MemT := mset (tn_50 μ) 17 (upd z0 0 1)
theorem zX6 (l : Launch) (G : GT) (μ : MemT) : zd_Met l G yX6_init cX6_init 1 ({ frames := 2, cells := 8, slots := 68, locals := 43 }) [.ref (G.2.1 17)] 8 68 50 (mset μ 17 z0) 58 (pf_6 μ) := by
  refine zd_Met.ofZ (by decide) (Nat.le_of_ble_eq_true rfl) rfl ?_
  refine z_aload_n dX6_init_0 rfl rfl ?_
  refine z_obj dX6_init_1 wm_ml_X6_1 (by decide) (by decide) ?_
  refine z_aload_n dX6_init_4 rfl rfl ?_
  refine z_new dX6_init_5 clX4 kd_50 rfl wm_kl_X6_7 wm_it_X4 wm_ini_X4 (zf_50 G) (by decide) (by decide) ?_
  refine z_dup dX6_init_8 rfl ?_
  refine z_callI (zX4_50 l G _) wm_cd_X4_init wm_ini_X4 wm_ml_X6_9 wm_im_X4_init rfl (by decide +kernel) ⟨by decide, by decide⟩ ⟨rfl, rfl⟩ (Nat.le_of_ble_eq_true rfl) (Nat.le_of_ble_eq_true rfl) (Nat.le_of_ble_eq_true rfl) dX6_init_9 ?_
  refine z_mem (tn_50_cm _ _ (show 17 < 50 ∨ 58 ≤ 17 by decide)) ?_
  refine z_putr dX6_init_12 0 clX6 kd_17 (by decide) (by decide) (by decide) wm_fl_X6_10 rfl rfl rfl rfl rfl (fun _ _ _ _ _ _ _ _ _ hk => hk.2.2.2) (tyX6_ok 0 (by decide)) rfl rfl ?_
  refine z_mem zm_put ?_
  refine z_mem ?_ (z_ret dX6_init_15)
  rfl
theorem pf_6_cm (μ : MemT) (r : Nat → Int32) : pf_6 (mset μ 0 r) = mset (pf_6 μ) 0 r := by
  unfold pf_6
  rw [tn_50_cm _ _ (show 0 < 50 ∨ 58 ≤ 0 by decide), zm_arr (show 17 ≠ 0 by decide)]
def rMd : Nat → Int32 := (upd (upd (upd (upd (upd (upd (upd (upd (upd (upd (upd (upd (upd (upd (upd (upd (upd (upd (upd (upd (upd z0 4 1) 5 1) 6 1) 7 1) 8 1) 9 1) 10 1) 12 1) 14 1) 15 1) 16 1) 17 1) 23 1) 28 1) 29 1) 33 1) 34 1) 35 1) 37 1) 38 1) 2 5)
def mdM (μ : MemT) : MemT := mset (mset (mset (mset (mset (mset (mset (mset (mset (mset (mset (mset (mset (mset (mset (mset (mset (mset (mset (mset (mset μ 59 z0) 60 z0) 61 z0) 62 (filF 8 (-6) z0)) 63 z0) 64 z0) 65 z0) 66 z0) 67 z0) 68 z0) 69 z0) 70 z0) 71 z0) 72 z0) 73 z0) 74 z0) 75 z0) 76 z0) 77 z0) 78 z0) 58 rMd
theorem zX8 (l : Launch) (G : GT) (μ : MemT) : zd_Met l G yX8_init cX8_init 2 ({ frames := 1, cells := 20, slots := 4033, locals := 12 }) [.ref (G.2.1 58)] 20 4033 59 (mset μ 58 z0) 79 (mdM μ) := by
  refine zd_Met.ofZ (by decide) (Nat.le_of_ble_eq_true rfl) rfl ?_
  refine z_aload_n dX8_init_0 rfl rfl ?_
  refine z_obj dX8_init_1 wm_ml_X8_1 (by decide) (by decide) ?_
  refine z_aload_n dX8_init_4 rfl rfl ?_
  refine z_bipush (v := 8) dX8_init_5 ib_8 ?_
  refine z_newi (N := 8) dX8_init_7 kd_59 rfl (by decide) (by decide) (by decide) (by decide) ?_
  refine z_mem (zm_arr (show 59 ≠ 58 by decide)) ?_
  refine z_putr dX8_init_9 4 clX8 kd_58 (by decide) (by decide) (by decide) wm_fl_X8_7 rfl rfl rfl rfl rfl (fun _ _ _ _ _ _ _ _ _ hk => hk.2.2.2) (tyX8_ok 4 (by decide)) rfl rfl ?_
  refine z_mem zm_put ?_
  refine z_aload_n dX8_init_12 rfl rfl ?_
  refine z_bipush (v := 8) dX8_init_13 ib_8 ?_
  refine z_newi (N := 8) dX8_init_15 kd_60 rfl (by decide) (by decide) (by decide) (by decide) ?_
  refine z_mem (zm_arr (show 60 ≠ 58 by decide)) ?_
  refine z_putr dX8_init_17 5 clX8 kd_58 (by decide) (by decide) (by decide) wm_fl_X8_13 rfl rfl rfl rfl rfl (fun _ _ _ _ _ _ _ _ _ hk => hk.2.2.2) (tyX8_ok 5 (by decide)) rfl rfl ?_
  refine z_mem zm_put ?_
  refine z_aload_n dX8_init_20 rfl rfl ?_
  refine z_bipush (v := 8) dX8_init_21 ib_8 ?_
  refine z_newi (N := 8) dX8_init_23 kd_61 rfl (by decide) (by decide) (by decide) (by decide) ?_
  refine z_mem (zm_arr (show 61 ≠ 58 by decide)) ?_
  refine z_putr dX8_init_25 6 clX8 kd_58 (by decide) (by decide) (by decide) wm_fl_X8_16 rfl rfl rfl rfl rfl (fun _ _ _ _ _ _ _ _ _ hk => hk.2.2.2) (tyX8_ok 6 (by decide)) rfl rfl ?_
  refine z_mem zm_put ?_
  refine z_aload_n dX8_init_28 rfl rfl ?_
  refine z_bipush (v := 8) dX8_init_29 ib_8 ?_
  refine z_newi (N := 8) dX8_init_31 kd_62 rfl (by decide) (by decide) (by decide) (by decide) ?_
  refine z_mem (zm_arr (show 62 ≠ 58 by decide)) ?_
  refine z_putr dX8_init_33 7 clX8 kd_58 (by decide) (by decide) (by decide) wm_fl_X8_19 rfl rfl rfl rfl rfl (fun _ _ _ _ _ _ _ _ _ hk => hk.2.2.2) (tyX8_ok 7 (by decide)) rfl rfl ?_
  refine z_mem zm_put ?_
  refine z_aload_n dX8_init_36 rfl rfl ?_
  refine z_bipush (v := 8) dX8_init_37 ib_8 ?_
  refine z_newi (N := 8) dX8_init_39 kd_63 rfl (by decide) (by decide) (by decide) (by decide) ?_
  refine z_mem (zm_arr (show 63 ≠ 58 by decide)) ?_
  refine z_putr dX8_init_41 8 clX8 kd_58 (by decide) (by decide) (by decide) wm_fl_X8_22 rfl rfl rfl rfl rfl (fun _ _ _ _ _ _ _ _ _ hk => hk.2.2.2) (tyX8_ok 8 (by decide)) rfl rfl ?_
  refine z_mem zm_put ?_
  refine z_aload_n dX8_init_44 rfl rfl ?_
  refine z_bipush (v := 8) dX8_init_45 ib_8 ?_
  refine z_newi (N := 8) dX8_init_47 kd_64 rfl (by decide) (by decide) (by decide) (by decide) ?_
  refine z_mem (zm_arr (show 64 ≠ 58 by decide)) ?_
  refine z_putr dX8_init_49 9 clX8 kd_58 (by decide) (by decide) (by decide) wm_fl_X8_25 rfl rfl rfl rfl rfl (fun _ _ _ _ _ _ _ _ _ hk => hk.2.2.2) (tyX8_ok 9 (by decide)) rfl rfl ?_
  refine z_mem zm_put ?_
  refine z_aload_n dX8_init_52 rfl rfl ?_
  refine z_bipush (v := 8) dX8_init_53 ib_8 ?_
  refine z_newi (N := 8) dX8_init_55 kd_65 rfl (by decide) (by decide) (by decide) (by decide) ?_
  refine z_mem (zm_arr (show 65 ≠ 58 by decide)) ?_
  refine z_putr dX8_init_57 10 clX8 kd_58 (by decide) (by decide) (by decide) wm_fl_X8_28 rfl rfl rfl rfl rfl (fun _ _ _ _ _ _ _ _ _ hk => hk.2.2.2) (tyX8_ok 10 (by decide)) rfl rfl ?_
  refine z_mem zm_put ?_
  refine z_aload_n dX8_init_60 rfl rfl ?_
  refine z_bipush (v := 60) dX8_init_61 ib_60 ?_
  refine z_newi (N := 60) dX8_init_63 kd_66 rfl (by decide) (by decide) (by decide) (by decide) ?_
  refine z_mem (zm_arr (show 66 ≠ 58 by decide)) ?_
  refine z_putr dX8_init_65 12 clX8 kd_58 (by decide) (by decide) (by decide) wm_fl_X8_31 rfl rfl rfl rfl rfl (fun _ _ _ _ _ _ _ _ _ hk => hk.2.2.2) (tyX8_ok 12 (by decide)) rfl rfl ?_
  refine z_mem zm_put ?_
  refine z_aload_n dX8_init_68 rfl rfl ?_
  refine z_bipush (v := 60) dX8_init_69 ib_60 ?_
  refine z_newi (N := 60) dX8_init_71 kd_67 rfl (by decide) (by decide) (by decide) (by decide) ?_
  refine z_mem (zm_arr (show 67 ≠ 58 by decide)) ?_
  refine z_putr dX8_init_73 14 clX8 kd_58 (by decide) (by decide) (by decide) wm_fl_X8_34 rfl rfl rfl rfl rfl (fun _ _ _ _ _ _ _ _ _ hk => hk.2.2.2) (tyX8_ok 14 (by decide)) rfl rfl ?_
  refine z_mem zm_put ?_
  refine z_aload_n dX8_init_76 rfl rfl ?_
  refine z_bipush (v := 60) dX8_init_77 ib_60 ?_
  refine z_newi (N := 60) dX8_init_79 kd_68 rfl (by decide) (by decide) (by decide) (by decide) ?_
  refine z_mem (zm_arr (show 68 ≠ 58 by decide)) ?_
  refine z_putr dX8_init_81 15 clX8 kd_58 (by decide) (by decide) (by decide) wm_fl_X8_37 rfl rfl rfl rfl rfl (fun _ _ _ _ _ _ _ _ _ hk => hk.2.2.2) (tyX8_ok 15 (by decide)) rfl rfl ?_
  refine z_mem zm_put ?_
  refine z_aload_n dX8_init_84 rfl rfl ?_
  refine z_bipush (v := 60) dX8_init_85 ib_60 ?_
  refine z_newi (N := 60) dX8_init_87 kd_69 rfl (by decide) (by decide) (by decide) (by decide) ?_
  refine z_mem (zm_arr (show 69 ≠ 58 by decide)) ?_
  refine z_putr dX8_init_89 16 clX8 kd_58 (by decide) (by decide) (by decide) wm_fl_X8_40 rfl rfl rfl rfl rfl (fun _ _ _ _ _ _ _ _ _ hk => hk.2.2.2) (tyX8_ok 16 (by decide)) rfl rfl ?_
  refine z_mem zm_put ?_
  refine z_aload_n dX8_init_92 rfl rfl ?_
  refine z_bipush (v := 60) dX8_init_93 ib_60 ?_
  refine z_newi (N := 60) dX8_init_95 kd_70 rfl (by decide) (by decide) (by decide) (by decide) ?_
  refine z_mem (zm_arr (show 70 ≠ 58 by decide)) ?_
  refine z_putr dX8_init_97 17 clX8 kd_58 (by decide) (by decide) (by decide) wm_fl_X8_43 rfl rfl rfl rfl rfl (fun _ _ _ _ _ _ _ _ _ hk => hk.2.2.2) (tyX8_ok 17 (by decide)) rfl rfl ?_
  refine z_mem zm_put ?_
  refine z_aload_n dX8_init_100 rfl rfl ?_
  refine z_bipush (v := 8) dX8_init_101 ib_8 ?_
  refine z_newi (N := 8) dX8_init_103 kd_71 rfl (by decide) (by decide) (by decide) (by decide) ?_
  refine z_mem (zm_arr (show 71 ≠ 58 by decide)) ?_
  refine z_putr dX8_init_105 23 clX8 kd_58 (by decide) (by decide) (by decide) wm_fl_X8_46 rfl rfl rfl rfl rfl (fun _ _ _ _ _ _ _ _ _ hk => hk.2.2.2) (tyX8_ok 23 (by decide)) rfl rfl ?_
  refine z_mem zm_put ?_
  refine z_aload_n dX8_init_108 rfl rfl ?_
  refine z_bipush (v := 8) dX8_init_109 ib_8 ?_
  refine z_newi (N := 8) dX8_init_111 kd_72 rfl (by decide) (by decide) (by decide) (by decide) ?_
  refine z_mem (zm_arr (show 72 ≠ 58 by decide)) ?_
  refine z_putr dX8_init_113 28 clX8 kd_58 (by decide) (by decide) (by decide) wm_fl_X8_49 rfl rfl rfl rfl rfl (fun _ _ _ _ _ _ _ _ _ hk => hk.2.2.2) (tyX8_ok 28 (by decide)) rfl rfl ?_
  refine z_mem zm_put ?_
  refine z_aload_n dX8_init_116 rfl rfl ?_
  refine z_bipush (v := 8) dX8_init_117 ib_8 ?_
  refine z_newi (N := 8) dX8_init_119 kd_73 rfl (by decide) (by decide) (by decide) (by decide) ?_
  refine z_mem (zm_arr (show 73 ≠ 58 by decide)) ?_
  refine z_putr dX8_init_121 29 clX8 kd_58 (by decide) (by decide) (by decide) wm_fl_X8_52 rfl rfl rfl rfl rfl (fun _ _ _ _ _ _ _ _ _ hk => hk.2.2.2) (tyX8_ok 29 (by decide)) rfl rfl ?_
  refine z_mem zm_put ?_
  refine z_aload_n dX8_init_124 rfl rfl ?_
  refine z_sipush (v := 3201) dX8_init_125 is_3201 ?_
  refine z_newz (N := 3201) dX8_init_128 kd_74 rfl (by decide) (by decide) (by decide) (by decide) ?_
  refine z_mem (zm_arr (show 74 ≠ 58 by decide)) ?_
  refine z_putr dX8_init_130 33 clX8 kd_58 (by decide) (by decide) (by decide) wm_fl_X8_55 rfl rfl rfl rfl rfl (fun _ _ _ _ _ _ _ _ _ hk => hk.2.2.2) (tyX8_ok 33 (by decide)) rfl rfl ?_
  refine z_mem zm_put ?_
  refine z_aload_n dX8_init_133 rfl rfl ?_
  refine z_sipush (v := 145) dX8_init_134 is_145 ?_
  refine z_newi (N := 145) dX8_init_137 kd_75 rfl (by decide) (by decide) (by decide) (by decide) ?_
  refine z_mem (zm_arr (show 75 ≠ 58 by decide)) ?_
  refine z_putr dX8_init_139 34 clX8 kd_58 (by decide) (by decide) (by decide) wm_fl_X8_59 rfl rfl rfl rfl rfl (fun _ _ _ _ _ _ _ _ _ hk => hk.2.2.2) (tyX8_ok 34 (by decide)) rfl rfl ?_
  refine z_mem zm_put ?_
  refine z_aload_n dX8_init_142 rfl rfl ?_
  refine z_sipush (v := 145) dX8_init_143 is_145 ?_
  refine z_newi (N := 145) dX8_init_146 kd_76 rfl (by decide) (by decide) (by decide) (by decide) ?_
  refine z_mem (zm_arr (show 76 ≠ 58 by decide)) ?_
  refine z_putr dX8_init_148 35 clX8 kd_58 (by decide) (by decide) (by decide) wm_fl_X8_62 rfl rfl rfl rfl rfl (fun _ _ _ _ _ _ _ _ _ hk => hk.2.2.2) (tyX8_ok 35 (by decide)) rfl rfl ?_
  refine z_mem zm_put ?_
  refine z_aload_n dX8_init_151 rfl rfl ?_
  refine z_sipush (v := 160) dX8_init_152 is_160 ?_
  refine z_newi (N := 160) dX8_init_155 kd_77 rfl (by decide) (by decide) (by decide) (by decide) ?_
  refine z_mem (zm_arr (show 77 ≠ 58 by decide)) ?_
  refine z_putr dX8_init_157 37 clX8 kd_58 (by decide) (by decide) (by decide) wm_fl_X8_65 rfl rfl rfl rfl rfl (fun _ _ _ _ _ _ _ _ _ hk => hk.2.2.2) (tyX8_ok 37 (by decide)) rfl rfl ?_
  refine z_mem zm_put ?_
  refine z_aload_n dX8_init_160 rfl rfl ?_
  refine z_iconst (v := 2) dX8_init_161 ic_2 ?_
  refine z_newz (N := 2) dX8_init_162 kd_78 rfl (by decide) (by decide) (by decide) (by decide) ?_
  refine z_mem (zm_arr (show 78 ≠ 58 by decide)) ?_
  refine z_putr dX8_init_164 38 clX8 kd_58 (by decide) (by decide) (by decide) wm_fl_X8_68 rfl rfl rfl rfl rfl (fun _ _ _ _ _ _ _ _ _ hk => hk.2.2.2) (tyX8_ok 38 (by decide)) rfl rfl ?_
  refine z_mem zm_put ?_
  refine z_aload_n dX8_init_167 rfl rfl ?_
  refine z_iconst (v := 5) dX8_init_168 ic_5 ?_
  refine z_puti dX8_init_169 2 clX8 kd_58 (by decide) (by decide) (by decide) wm_fl_X8_71 rfl rfl rfl rfl (tyX8_ok 2 (by decide)) rfl rfl ?_
  refine z_mem zm_put ?_
  refine z_iconst dX8_init_172 icn_0 ?_
  refine z_mem (μ2 := mset (mset (mset (mset (mset (mset (mset (mset (mset (mset (mset (mset (mset (mset (mset (mset (mset (mset (mset (mset (mset μ 59 z0) 60 z0) 61 z0) 62 z0) 63 z0) 64 z0) 65 z0) 66 z0) 67 z0) 68 z0) 69 z0) 70 z0) 71 z0) 72 z0) 73 z0) 74 z0) 75 z0) 76 z0) 77 z0) 78 z0) 58 rMd) rfl ?_
  have hpost : mdM μ = mset (mset (mset (mset (mset (mset (mset (mset (mset (mset (mset (mset (mset (mset (mset (mset (mset (mset (mset (mset (mset (mset μ 59 z0) 60 z0) 61 z0) 62 z0) 63 z0) 64 z0) 65 z0) 66 z0) 67 z0) 68 z0) 69 z0) 70 z0) 71 z0) 72 z0) 73 z0) 74 z0) 75 z0) 76 z0) 77 z0) 78 z0) 58 rMd) 62 (filF 8 (-6) z0) := by
    funext k
    rcases (show k = 58 ∨ k = 59 ∨ k = 60 ∨ k = 61 ∨ k = 62 ∨ k = 63 ∨ k = 64 ∨ k = 65 ∨ k = 66 ∨ k = 67 ∨ k = 68 ∨ k = 69 ∨ k = 70 ∨ k = 71 ∨ k = 72 ∨ k = 73 ∨ k = 74 ∨ k = 75 ∨ k = 76 ∨ k = 77 ∨ k = 78 ∨ (k ≠ 58 ∧ k ≠ 59 ∧ k ≠ 60 ∧ k ≠ 61 ∧ k ≠ 62 ∧ k ≠ 63 ∧ k ≠ 64 ∧ k ≠ 65 ∧ k ≠ 66 ∧ k ≠ 67 ∧ k ≠ 68 ∧ k ≠ 69 ∧ k ≠ 70 ∧ k ≠ 71 ∧ k ≠ 72 ∧ k ≠ 73 ∧ k ≠ 74 ∧ k ≠ 75 ∧ k ≠ 76 ∧ k ≠ 77 ∧ k ≠ 78) by omega) with rfl | rfl | rfl | rfl | rfl | rfl | rfl | rfl | rfl | rfl | rfl | rfl | rfl | rfl | rfl | rfl | rfl | rfl | rfl | rfl | rfl | h
    · rfl
    · rfl
    · rfl
    · rfl
    · rfl
    · rfl
    · rfl
    · rfl
    · rfl
    · rfl
    · rfl
    · rfl
    · rfl
    · rfl
    · rfl
    · rfl
    · rfl
    · rfl
    · rfl
    · rfl
    · rfl
    · simp [mdM, mset, h]
  rw [hpost]
  refine z_istore_n dX8_init_173 rfl rfl (by decide) ?_
  refine z_mem (μ2 := mset (mset (mset (mset (mset (mset (mset (mset (mset (mset (mset (mset (mset (mset (mset (mset (mset (mset (mset (mset (mset (mset μ 59 z0) 60 z0) 61 z0) 62 z0) 63 z0) 64 z0) 65 z0) 66 z0) 67 z0) 68 z0) 69 z0) 70 z0) 71 z0) 72 z0) 73 z0) 74 z0) 75 z0) 76 z0) 77 z0) 78 z0) 58 rMd) 62 (itr (fun j f => upd f j (-6)) 0 0 z0)) ?_ ?_
  · funext k
    by_cases h : k = 62
    · subst h; rfl
    · rw [mset_ne _ _ h]; rfl
  generalize (mset (mset (mset (mset (mset (mset (mset (mset (mset (mset (mset (mset (mset (mset (mset (mset (mset (mset (mset (mset μ 59 z0) 60 z0) 61 z0) 62 z0) 63 z0) 64 z0) 65 z0) 66 z0) 67 z0) 68 z0) 69 z0) 70 z0) 71 z0) 72 z0) 73 z0) 74 z0) 75 z0) 76 z0) 77 z0) 78 z0) = ν
  have key : ∀ (r j : Nat), j + r = 8 → Zj l G ({ frames := 1, cells := 20, slots := 4033, locals := 12 }) (zd_κ G yX8_init.name 20 4033 79 (mset (mset ν 58 rMd) 62 (filF 8 (-6) z0))) cX8_init 2 yX8_init.cls 20 4033 79 (mset (mset ν 58 rMd) 62 (itr (fun j f => upd f j (-6)) j 0 z0)) 174 [some (.ref (G.2.1 58)), some (.int (nI j))] [] := by
    intro r
    induction r with
    | zero =>
      intro j hj
      have : j = 8 := by omega
      subst this
      refine z_iload_n dX8_init_174 rfl rfl ?_
      refine z_bipush dX8_init_175 ibn_8 ?_
      refine z_icmp_ge 194 dX8_init_177 rfl (fun _ => ?_) (fun q => absurd (Int32.le_refl _) q)
      exact z_ret dX8_init_194
    | succ r ih =>
      intro j hj
      refine z_iload_n dX8_init_174 rfl rfl ?_
      refine z_bipush dX8_init_175 ibn_8 ?_
      refine z_icmp_ge 194 dX8_init_177 rfl (fun q => absurd q (nI_ge (b := 8) (by omega) (by decide))) (fun _ => ?_)
      refine z_aload_n dX8_init_180 rfl rfl ?_
      refine z_getr dX8_init_181 7 clX8 kd_58 (by decide) (by decide) wm_fl_X8_19 rfl rfl rfl ?_
      refine z_iload_n dX8_init_184 rfl rfl ?_
      refine z_bipush dX8_init_185 ib_m6 ?_
      refine z_iast dX8_init_187 j kd_62 (by decide) (by decide) rfl (by omega) (by decide) ?_
      refine z_iinc dX8_init_188 rfl (nI_i1 j) rfl (by decide) ?_
      refine z_goto 174 dX8_init_191 rfl ?_
      refine z_mem ?_ (ih (j + 1) (by omega))
      rw [mset_mset, mset_self, itr_lt, Nat.zero_add]
  exact key 8 0 rfl
def swM (μ : MemT) : MemT := mset (pf_6 (pf_0 (pf_5 (pf_3 (pf_1 (pf_2 (mset (mset (tn_34 (tn_26 (tn_18 μ))) 1 (upd (upd z0 0 1) 1 1)) 2 z0))))))) 0 (upd (upd (upd (upd (upd (upd (upd (upd (upd z0 0 1) 1 1) 2 1) 3 1) 4 1) 5 1) 6 1) 7 1) 8 1)
def zd_κ7 (G : GT) (nm : String) (mc ms n2 : Nat) (μ2 : MemT) : KZ := fun _ _ s _ args below meth _ Q => meth.sig.returnType = none ∧ meth.locks = false ∧ Q = MQ below (zd_Q G n2 μ2) args s mc ms (zd_A G) ∧ meth.name = nm ∧ va_AO RX4 s
def zd_Pc7 (G : GT) (av : List Value) (n : Nat) (μ : MemT) : Array Value → State → Prop := va_Pc av (fun U => zd_P G n μ U.heap ∧ sw_K G U ∧ va_AO RX4 U)
theorem zd_blind7 {G : GT} {av : List Value} {n : Nat} {μ : MemT} : FrameBlind (zd_Pc7 G av n μ) := fun a U g mk q => ⟨q.1, q.2.1, sw_K.same (s := U) (U := U.calling g mk a) rfl q.2.2.1, va_AO.moved (u := U) (U := U.calling g mk a) (Vm.Alike.refl U.vm) q.2.2.2⟩
def zd_Met7 (l : Launch) (G : GT) (y : MethodName) (bytes : ByteArray) (maxL : Nat) (rm : Room) (av : List Value) (mc ms n : Nat) (μ : MemT) (n2 : Nat) (μ2 : MemT) : Prop :=
  zd_ad G → Met l y (.code y bytes maxL none :: wL) rm (zd_Pc7 G av n μ) (zd_Q G n2 μ2) mc ms (zd_A G)
theorem zd_Met7.ofZ {l : Launch} {G : GT} {y : MethodName} {bytes : ByteArray} {maxL : Nat} {rm : Room} {av : List Value} {mc ms n n2 : Nat} {μ μ2 : MemT} {lv0 : List (Option Value)} (hy : plainName y.cls = true) (hlen : (lg_sl av).length ≤ maxL) (hlv : l_ent av maxL = lv0) (h : Zj l G rm (zd_κ7 G y.name mc ms n2 μ2) bytes maxL y.cls 0 0 n μ 0 lv0 []) : zd_Met7 l G y bytes maxL rm av mc ms n μ n2 μ2 := by
  intro hG
  subst hlv
  refine Met.ofW (cc := bytes) (maxL := maxL) (ret := none) hy rfl ?_
  intro p e s m args below meth c s₁ B hml hv
  obtain ⟨rfl, hP, hK, hA⟩ := hv
  have hts := atoms_spec (ws := Cond.code y bytes maxL none :: wL) B.pre
  rw [lg_entry_eq]
  exact h p e s m av.toArray below meth c _ ⟨B.returns, B.notSynchronized, rfl, (name_of_methodNamed B.named B.method).1, hA⟩ ⟨B.exec, B.bytes, hml, findClass_of_methodNamed B.named, fun w hw => hts w (List.mem_cons_of_mem _ hw), hK, hG⟩ s.heap [] _ hP va_S.rf (sw_L_ent (lv_entry av hlen))
theorem z_ret7 {l : Launch} {G : GT} {R : Room} {cc : ByteArray} {nl : Nat} {own nm : String} {cs sl n : Nat} {μ : MemT} {pc : Nat} {lv : List (Option Value)} (d : decode cc pc = .ok (.return_, 1)) : Zj l G R (zd_κ7 G nm cs sl n μ) cc nl own cs sl n μ pc lv [] := by
  intro p e s m args below meth c Q hk F H locs ls hP hS hl
  obtain ⟨hr, hlk, rfl, -⟩ := hk
  exact W.vret (hexec := F.1) (hb := F.2.1) (hr := hr) (hq := fun t ht hW => ⟨⟨rfl, by rw [ht]; exact hP, F.2.2.2.2.2.1.warm hW⟩, hS.F ht⟩) (hf := hS.2.2) (hdg := d) (hlocks := hlk)
theorem zX7 (l : Launch) (G : GT) (μ : MemT) : zd_Met7 l G yX7_init cX7_init 2 ({ frames := 3, cells := 57, slots := 4712, locals := 63 }) [.ref (G.2.1 0)] 57 4712 1 (mset μ 0 z0) 58 (swM μ) := by
  refine zd_Met7.ofZ (by decide) (Nat.le_of_ble_eq_true rfl) rfl ?_
  refine z_aload_n dX7_init_0 rfl rfl ?_
  refine z_obj dX7_init_1 wm_ml_X7_1 (by decide) (by decide) ?_
  refine z_aload_n dX7_init_4 rfl rfl ?_
  refine z_new dX7_init_5 clX4 kd_18 rfl wm_kl_X7_7 wm_it_X4 wm_ini_X4 (zf_18 G) (by decide) (by decide) ?_
  refine z_dup dX7_init_8 rfl ?_
  refine z_callI (zX4_18 l G _) wm_cd_X4_init wm_ini_X4 wm_ml_X7_9 wm_im_X4_init rfl (by decide +kernel) ⟨by decide, by decide⟩ ⟨rfl, rfl⟩ (Nat.le_of_ble_eq_true rfl) (Nat.le_of_ble_eq_true rfl) (Nat.le_of_ble_eq_true rfl) dX7_init_9 ?_
  refine z_mem (tn_18_cm _ _ (show 0 < 18 ∨ 26 ≤ 0 by decide)) ?_
  refine z_putr dX7_init_12 0 clX7 kd_0 (by decide) (by decide) (by decide) wm_fl_X7_10 rfl rfl rfl rfl rfl (fun _ _ _ _ _ _ _ _ _ hk => hk.2.2.2.1) (tyX7_ok 0 (by decide)) rfl rfl ?_
  refine z_mem zm_put ?_
  refine z_aload_n dX7_init_15 rfl rfl ?_
  refine z_iconst (v := 2) dX7_init_16 ic_2 ?_
  refine z_anew (fun _ _ _ _ _ _ _ _ _ hk => hk.2.2.2.2) dX7_init_17 wm_kl_X7_7 rfl (by decide) (by decide) ?_
  refine z_mem (zm_arr (show 1 ≠ 0 by decide)) ?_
  refine z_putr dX7_init_20 1 clX7 kd_0 (by decide) (by decide) (by decide) wm_fl_X7_16 rfl rfl rfl rfl rfl (fun _ _ _ _ _ _ _ _ _ hk => hk.2.2.2.1) (tyX7_ok 1 (by decide)) rfl rfl ?_
  refine z_mem zm_put ?_
  refine z_iconst (v := 0) dX7_init_23 ic_0 ?_
  refine z_istore_n dX7_init_24 rfl rfl (by decide) ?_
  refine z_iload_n dX7_init_25 rfl rfl ?_
  refine z_iconst (v := 2) dX7_init_26 ic_2 ?_
  refine z_icmp_ge 49 dX7_init_27 rfl (fun q => absurd q (by decide)) (fun _ => ?_)
  refine z_aload_n dX7_init_30 rfl rfl ?_
  refine z_getr dX7_init_31 1 clX7 kd_0 (by decide) (by decide) wm_fl_X7_16 rfl rfl rfl ?_
  refine z_iload_n dX7_init_34 rfl rfl ?_
  refine z_new dX7_init_35 clX4 kd_26 rfl wm_kl_X7_7 wm_it_X4 wm_ini_X4 (zf_26 G) (by decide) (by decide) ?_
  refine z_dup dX7_init_38 rfl ?_
  refine z_callI (zX4_26 l G _) wm_cd_X4_init wm_ini_X4 wm_ml_X7_9 wm_im_X4_init rfl (by decide +kernel) ⟨by decide, by decide⟩ ⟨rfl, rfl⟩ (Nat.le_of_ble_eq_true rfl) (Nat.le_of_ble_eq_true rfl) (Nat.le_of_ble_eq_true rfl) dX7_init_39 ?_
  refine z_mem (tn_26_cm _ _ (show 0 < 26 ∨ 34 ≤ 0 by decide)) ?_
  refine z_aast dX7_init_42 0 rfl (by decide) rfl (by decide) (by decide) (by decide) ?_
  refine z_mem (zm_arr (show 1 ≠ 0 by decide)) ?_
  refine z_iinc (v := 1) dX7_init_43 rfl (by decide) rfl (by decide) ?_
  refine z_goto 25 dX7_init_46 rfl ?_
  refine z_iload_n dX7_init_25 rfl rfl ?_
  refine z_iconst (v := 2) dX7_init_26 ic_2 ?_
  refine z_icmp_ge 49 dX7_init_27 rfl (fun q => absurd q (by decide)) (fun _ => ?_)
  refine z_aload_n dX7_init_30 rfl rfl ?_
  refine z_getr dX7_init_31 1 clX7 kd_0 (by decide) (by decide) wm_fl_X7_16 rfl rfl rfl ?_
  refine z_iload_n dX7_init_34 rfl rfl ?_
  refine z_new dX7_init_35 clX4 kd_34 rfl wm_kl_X7_7 wm_it_X4 wm_ini_X4 (zf_34 G) (by decide) (by decide) ?_
  refine z_dup dX7_init_38 rfl ?_
  refine z_callI (zX4_34 l G _) wm_cd_X4_init wm_ini_X4 wm_ml_X7_9 wm_im_X4_init rfl (by decide +kernel) ⟨by decide, by decide⟩ ⟨rfl, rfl⟩ (Nat.le_of_ble_eq_true rfl) (Nat.le_of_ble_eq_true rfl) (Nat.le_of_ble_eq_true rfl) dX7_init_39 ?_
  refine z_mem (tn_34_cm _ _ (show 0 < 34 ∨ 42 ≤ 0 by decide)) ?_
  refine z_aast dX7_init_42 1 rfl (by decide) rfl (by decide) (by decide) (by decide) ?_
  refine z_mem (zm_arr (show 1 ≠ 0 by decide)) ?_
  refine z_iinc (v := 2) dX7_init_43 rfl (by decide) rfl (by decide) ?_
  refine z_goto 25 dX7_init_46 rfl ?_
  refine z_iload_n dX7_init_25 rfl rfl ?_
  refine z_iconst (v := 2) dX7_init_26 ic_2 ?_
  refine z_icmp_ge 49 dX7_init_27 rfl (fun _ => ?_) (fun q => absurd (by decide) q)
  have eI : mset (tn_34 (mset (tn_26 (mset (tn_18 μ) 1 (fun _ => 0))) 1 (upd (mset (tn_26 (mset (tn_18 μ) 1 (fun _ => 0))) 0 (upd (upd z0 0 1) 1 1) 1) 0 1))) 1 (upd (mset (tn_34 (mset (tn_26 (mset (tn_18 μ) 1 (fun _ => 0))) 1 (upd (mset (tn_26 (mset (tn_18 μ) 1 (fun _ => 0))) 0 (upd (upd z0 0 1) 1 1) 1) 0 1))) 0 (upd (upd z0 0 1) 1 1) 1) 1 1) = mset (tn_34 (tn_26 (tn_18 μ))) 1 (upd (upd z0 0 1) 1 1) := by
    rw [tn_26_cm _ _ (show 1 < 26 ∨ 34 ≤ 1 by decide), mset_mset, tn_34_cm _ _ (show 1 < 34 ∨ 42 ≤ 1 by decide), mset_mset]
    rfl
  rw [eI]
  refine z_aload_n dX7_init_49 rfl rfl ?_
  refine z_iconst (v := 2) dX7_init_50 ic_2 ?_
  refine z_newz (N := 2) dX7_init_51 kd_2 rfl (by decide) (by decide) (by decide) (by decide) ?_
  refine z_mem (zm_arr (show 2 ≠ 0 by decide)) ?_
  refine z_putr dX7_init_53 2 clX7 kd_0 (by decide) (by decide) (by decide) wm_fl_X7_20 rfl rfl rfl rfl rfl (fun _ _ _ _ _ _ _ _ _ hk => hk.2.2.2.1) (tyX7_ok 2 (by decide)) rfl rfl ?_
  refine z_mem zm_put ?_
  refine z_aload_n dX7_init_56 rfl rfl ?_
  refine z_new dX7_init_57 clX2 kd_3 rfl wm_kl_X7_24 wm_it_X2 wm_ini_X2 (zf_3 G) (by decide) (by decide) ?_
  refine z_dup dX7_init_60 rfl ?_
  refine z_callIN (zX2 l G _) wm_cd_X2_init wm_ini_X2 wn_X7_26 wm_im_X2_init rfl (by decide +kernel) ⟨by decide, by decide⟩ ⟨rfl, rfl⟩ (Nat.le_of_ble_eq_true rfl) (Nat.le_of_ble_eq_true rfl) (Nat.le_of_ble_eq_true rfl) dX7_init_61 ?_
  refine z_mem (pf_2_cm _ _) ?_
  refine z_putr dX7_init_64 3 clX7 kd_0 (by decide) (by decide) (by decide) wm_fl_X7_27 rfl rfl rfl rfl rfl (fun _ _ _ _ _ _ _ _ _ hk => hk.2.2.2.1) (tyX7_ok 3 (by decide)) rfl rfl ?_
  refine z_mem zm_put ?_
  refine z_aload_n dX7_init_67 rfl rfl ?_
  refine z_new dX7_init_68 clX1 kd_5 rfl wm_kl_X7_31 wm_it_X1 wm_ini_X1 (zf_5 G) (by decide) (by decide) ?_
  refine z_dup dX7_init_71 rfl ?_
  refine z_callIN (zX1 l G _) wm_cd_X1_init wm_ini_X1 wn_X7_33 wm_im_X1_init rfl (by decide +kernel) ⟨by decide, by decide⟩ ⟨rfl, rfl⟩ (Nat.le_of_ble_eq_true rfl) (Nat.le_of_ble_eq_true rfl) (Nat.le_of_ble_eq_true rfl) dX7_init_72 ?_
  refine z_mem (pf_1_cm _ _) ?_
  refine z_putr dX7_init_75 4 clX7 kd_0 (by decide) (by decide) (by decide) wm_fl_X7_34 rfl rfl rfl rfl rfl (fun _ _ _ _ _ _ _ _ _ hk => hk.2.2.2.1) (tyX7_ok 4 (by decide)) rfl rfl ?_
  refine z_mem zm_put ?_
  refine z_aload_n dX7_init_78 rfl rfl ?_
  refine z_new dX7_init_79 clX3 kd_6 rfl wm_kl_X7_38 wm_it_X3 wm_ini_X3 (zf_6 G) (by decide) (by decide) ?_
  refine z_dup dX7_init_82 rfl ?_
  refine z_callIN (zX3 l G _) wm_cd_X3_init wm_ini_X3 wn_X7_40 wm_im_X3_init rfl (by decide +kernel) ⟨by decide, by decide⟩ ⟨rfl, rfl⟩ (Nat.le_of_ble_eq_true rfl) (Nat.le_of_ble_eq_true rfl) (Nat.le_of_ble_eq_true rfl) dX7_init_83 ?_
  refine z_mem (pf_3_cm _ _) ?_
  refine z_putr dX7_init_86 5 clX7 kd_0 (by decide) (by decide) (by decide) wm_fl_X7_41 rfl rfl rfl rfl rfl (fun _ _ _ _ _ _ _ _ _ hk => hk.2.2.2.1) (tyX7_ok 5 (by decide)) rfl rfl ?_
  refine z_mem zm_put ?_
  refine z_aload_n dX7_init_89 rfl rfl ?_
  refine z_new dX7_init_90 clX5 kd_11 rfl wm_kl_X7_45 wm_it_X5 wm_ini_X5 (zf_11 G) (by decide) (by decide) ?_
  refine z_dup dX7_init_93 rfl ?_
  refine z_callIN (zX5 l G _) wm_cd_X5_init wm_ini_X5 wn_X7_47 wm_im_X5_init rfl (by decide +kernel) ⟨by decide, by decide⟩ ⟨rfl, rfl⟩ (Nat.le_of_ble_eq_true rfl) (Nat.le_of_ble_eq_true rfl) (Nat.le_of_ble_eq_true rfl) dX7_init_94 ?_
  refine z_mem (pf_5_cm _ _) ?_
  refine z_putr dX7_init_97 6 clX7 kd_0 (by decide) (by decide) (by decide) wm_fl_X7_48 rfl rfl rfl rfl rfl (fun _ _ _ _ _ _ _ _ _ hk => hk.2.2.2.1) (tyX7_ok 6 (by decide)) rfl rfl ?_
  refine z_mem zm_put ?_
  refine z_aload_n dX7_init_100 rfl rfl ?_
  refine z_new dX7_init_101 clX0 kd_16 rfl wm_kl_X7_52 wm_it_X0 wm_ini_X0 (zf_16 G) (by decide) (by decide) ?_
  refine z_dup dX7_init_104 rfl ?_
  refine z_callIN (zX0 l G _) wm_cd_X0_init wm_ini_X0 wn_X7_54 wm_im_X0_init rfl (by decide +kernel) ⟨by decide, by decide⟩ ⟨rfl, rfl⟩ (Nat.le_of_ble_eq_true rfl) (Nat.le_of_ble_eq_true rfl) (Nat.le_of_ble_eq_true rfl) dX7_init_105 ?_
  refine z_mem (pf_0_cm _ _) ?_
  refine z_putr dX7_init_108 7 clX7 kd_0 (by decide) (by decide) (by decide) wm_fl_X7_55 rfl rfl rfl rfl rfl (fun _ _ _ _ _ _ _ _ _ hk => hk.2.2.2.1) (tyX7_ok 7 (by decide)) rfl rfl ?_
  refine z_mem zm_put ?_
  refine z_aload_n dX7_init_111 rfl rfl ?_
  refine z_new dX7_init_112 clX6 kd_17 rfl wm_kl_X7_59 wm_it_X6 wm_ini_X6 (zf_17 G) (by decide) (by decide) ?_
  refine z_dup dX7_init_115 rfl ?_
  refine z_callIN (zX6 l G _) wm_cd_X6_init wm_ini_X6 wn_X7_61 wm_im_X6_init rfl (by decide +kernel) ⟨by decide, by decide⟩ ⟨rfl, rfl⟩ (Nat.le_of_ble_eq_true rfl) (Nat.le_of_ble_eq_true rfl) (Nat.le_of_ble_eq_true rfl) dX7_init_116 ?_
  refine z_mem (pf_6_cm _ _) ?_
  refine z_putr dX7_init_119 8 clX7 kd_0 (by decide) (by decide) (by decide) wm_fl_X7_62 rfl rfl rfl rfl rfl (fun _ _ _ _ _ _ _ _ _ hk => hk.2.2.2.1) (tyX7_ok 8 (by decide)) rfl rfl ?_
  refine z_mem zm_put ?_
  exact z_ret7 dX7_init_122
/-! chance: sums and products of Ints, Euclid's walk, both sides -/
theorem cq_in {z : Int} (h1 : -2 ^ 63 < z) (h2 : z < 2 ^ 63) : (Int64.ofInt z).toInt = z := Int64.toInt_ofInt_of_le (by omega) h2
theorem cq_3264 {z : Int} (h1 : -2 ^ 31 ≤ z) (h2 : z < 2 ^ 31) : (Int32.ofInt z).toInt64 = Int64.ofInt z :=
  Int32.toInt64_ofInt (by rw [show Int32.minValue.toInt = -2147483648 from rfl]; omega) (by rw [show Int32.maxValue.toInt = 2147483647 from rfl]; omega)
theorem cq_nI (n : Nat) : nI n = Int32.ofInt (n : Int) := Int32.ofInt_eq_ofNat.symm
def cq_s (f : Nat → Int) : Nat → Int
  | 0 => 0
  | n + 1 => cq_s f n + f n
def cq_p (f : Nat → Int) : Nat → Int
  | 0 => 1
  | n + 1 => cq_p f n * f n
theorem cq_s_cg {f g : Nat → Int} : ∀ {n : Nat}, (∀ j, j < n → f j = g j) → cq_s f n = cq_s g n
  | 0, _ => rfl
  | n + 1, h => by
    rw [cq_s, cq_s, cq_s_cg (fun j hj => h j (by omega)), h n (by omega)]
theorem cq_p_cg {f g : Nat → Int} : ∀ {n : Nat}, (∀ j, j < n → f j = g j) → cq_p f n = cq_p g n
  | 0, _ => rfl
  | n + 1, h => by
    rw [cq_p, cq_p, cq_p_cg (fun j hj => h j (by omega)), h n (by omega)]
theorem cq_s_add (f : Nat → Int) (m : Nat) : ∀ n, cq_s f (m + n) = cq_s f m + cq_s (fun j => f (m + j)) n
  | 0 => by simp [cq_s]
  | n + 1 => by
    rw [← Nat.add_assoc, cq_s, cq_s_add f m n, cq_s, Int.add_assoc]
theorem cq_s_mul (f : Nat → Int) (c : Int) : ∀ n, cq_s (fun j => f j * c) n = cq_s f n * c
  | 0 => by simp [cq_s]
  | n + 1 => by rw [cq_s, cq_s, cq_s_mul f c n, Int.add_mul]
theorem cq_s_plus (f g : Nat → Int) : ∀ n, cq_s (fun j => f j + g j) n = cq_s f n + cq_s g n
  | 0 => by simp [cq_s]
  | n + 1 => by rw [cq_s, cq_s, cq_s, cq_s_plus f g n]; omega
theorem cq_s_bd {f : Nat → Int} {K : Nat} : ∀ {n : Nat}, (∀ j, j < n → -K ≤ f j ∧ f j ≤ K) → -(K * n : Nat) ≤ cq_s f n ∧ cq_s f n ≤ (K * n : Nat)
  | 0, _ => by simp [cq_s]
  | n + 1, h => by
    have h1 := cq_s_bd (n := n) (fun j hj => h j (by omega))
    have h2 := h n (by omega)
    rw [cq_s, Nat.mul_add, Nat.mul_one]
    omega
theorem cq_s_le {f g : Nat → Int} : ∀ {n : Nat}, (∀ j, j < n → 0 ≤ f j ∧ f j ≤ g j) → 0 ≤ cq_s f n ∧ cq_s f n ≤ cq_s g n
  | 0, _ => by simp [cq_s]
  | n + 1, h => by
    have h1 := cq_s_le (n := n) (fun j hj => h j (by omega))
    have h2 := h n (by omega)
    rw [cq_s, cq_s]
    omega
theorem cq_p_nn {f : Nat → Int} : ∀ {n : Nat}, (∀ j, j < n → 0 ≤ f j) → 0 ≤ cq_p f n
  | 0, _ => by simp [cq_p]
  | n + 1, h => by
    rw [cq_p]
    exact Int.mul_nonneg (cq_p_nn (fun j hj => h j (by omega))) (h n (by omega))
theorem cq_p_0 {f : Nat → Int} {p : Nat} (hf : f p = 0) : ∀ {n : Nat}, p < n → cq_p f n = 0
  | 0, h => absurd h (Nat.not_lt_zero _)
  | n + 1, h => by
    rw [cq_p]
    by_cases e : p = n
    · subst e; rw [hf, Int.mul_zero]
    · rw [cq_p_0 hf (by omega), Int.zero_mul]
/-- over all sets of the first n -/
theorem cq_hi {n j : Nat} (h : j < 2 ^ n) : j.testBit n = false ∧ (2 ^ n + j).testBit n = true ∧ ∀ p, p < n → (2 ^ n + j).testBit p = j.testBit p := by
  refine ⟨Nat.testBit_lt_two_pow h, ?_, fun p hp => Nat.testBit_two_pow_add_gt hp j⟩
  rw [Nat.testBit_two_pow_add_eq, Nat.testBit_lt_two_pow h]
  rfl
def cq_A (g : Nat → Bool → Int) (n : Nat) : Int := cq_s (fun j => cq_p (fun p => g p (j.testBit p)) n) (2 ^ n)
def cq_B (g d : Nat → Bool → Int) (n : Nat) : Int := cq_s (fun j => cq_p (fun p => g p (j.testBit p)) n * cq_s (fun p => d p (j.testBit p)) n) (2 ^ n)
theorem cq_A_S (g : Nat → Bool → Int) (n : Nat) : cq_A g (n + 1) = cq_A g n * (g n false + g n true) := by
  unfold cq_A
  rw [Nat.pow_succ, Nat.mul_two, cq_s_add]
  rw [cq_s_cg (f := fun j => cq_p (fun p => g p (j.testBit p)) (n + 1)) (g := fun j => cq_p (fun p => g p (j.testBit p)) n * g n false) (fun j hj => by
    show cq_p (fun p => g p (j.testBit p)) n * g n (j.testBit n) = _
    rw [(cq_hi hj).1])]
  rw [cq_s_cg (f := fun j => cq_p (fun p => g p ((2 ^ n + j).testBit p)) (n + 1)) (g := fun j => cq_p (fun p => g p (j.testBit p)) n * g n true) (fun j hj => by
    show cq_p (fun p => g p ((2 ^ n + j).testBit p)) n * g n ((2 ^ n + j).testBit n) = _
    rw [(cq_hi hj).2.1, cq_p_cg (fun p hp => by rw [(cq_hi hj).2.2 p hp])])]
  rw [cq_s_mul, cq_s_mul, Int.mul_add]
theorem cq_B_S (g d : Nat → Bool → Int) (n : Nat) : cq_B g d (n + 1) = cq_B g d n * (g n false + g n true) + cq_A g n * (g n false * d n false + g n true * d n true) := by
  have ring1 : ∀ P S x y : Int, P * x * (S + y) = P * S * x + P * (x * y) := fun P S x y => by
    rw [Int.mul_add, Int.mul_assoc P x S, Int.mul_comm x S, ← Int.mul_assoc, Int.mul_assoc P x y]
  unfold cq_B cq_A
  rw [Nat.pow_succ, Nat.mul_two, cq_s_add]
  rw [cq_s_cg (f := fun j => cq_p (fun p => g p (j.testBit p)) (n + 1) * cq_s (fun p => d p (j.testBit p)) (n + 1)) (g := fun j => cq_p (fun p => g p (j.testBit p)) n * cq_s (fun p => d p (j.testBit p)) n * g n false + cq_p (fun p => g p (j.testBit p)) n * (g n false * d n false)) (fun j hj => by
    show cq_p (fun p => g p (j.testBit p)) n * g n (j.testBit n) * (cq_s (fun p => d p (j.testBit p)) n + d n (j.testBit n)) = _
    rw [(cq_hi hj).1, ring1])]
  rw [cq_s_cg (f := fun j => cq_p (fun p => g p ((2 ^ n + j).testBit p)) (n + 1) * cq_s (fun p => d p ((2 ^ n + j).testBit p)) (n + 1)) (g := fun j => cq_p (fun p => g p (j.testBit p)) n * cq_s (fun p => d p (j.testBit p)) n * g n true + cq_p (fun p => g p (j.testBit p)) n * (g n true * d n true)) (fun j hj => by
    show cq_p (fun p => g p ((2 ^ n + j).testBit p)) n * g n ((2 ^ n + j).testBit n) * (cq_s (fun p => d p ((2 ^ n + j).testBit p)) n + d n ((2 ^ n + j).testBit n)) = _
    rw [(cq_hi hj).2.1, cq_p_cg (g := fun p => g p (j.testBit p)) (fun p hp => by rw [(cq_hi hj).2.2 p hp]), cq_s_cg (g := fun p => d p (j.testBit p)) (fun p hp => by rw [(cq_hi hj).2.2 p hp]), ring1])]
  rw [cq_s_plus, cq_s_plus, cq_s_mul, cq_s_mul, cq_s_mul, cq_s_mul, Int.mul_add, Int.mul_add]
  omega
def cq_n (s : Nat) : Nat → Nat
  | 0 => 0
  | n + 1 => cq_n s n + (if s.testBit n then 1 else 0)
theorem cq_pc (s : Nat) : pc s = cq_n s 8 := by
  have key : ∀ n, itr (fun p n => if s.testBit p then n + 1 else n) n 0 0 = cq_n s n := by
    intro n
    induction n with
    | zero => rfl
    | succ n ih =>
      rw [itr_lt, ih, Nat.zero_add, cq_n]
      split <;> rfl
  exact key 8
/-! the parts of a chance: who sits, his tenths, his pounds -/
def cq_g (W τ : Nat) (p : Nat) (c : Bool) : Int := if W.testBit p then (if c then (τ : Int) else 10 - τ) else (if c then 0 else 1)
def cq_d (a b κ : Nat) (u : Nat → Int) (p : Nat) (c : Bool) : Int := if a.testBit p then u p + (if c then (κ : Int) else 0) else if b.testBit p then -(u p + (if c then (κ : Int) else 0)) else 0
def cq_e (a b κ τ : Nat) (u : Nat → Int) (p : Nat) : Int := if a.testBit p then 10 * u p + τ * κ else if b.testBit p then -(10 * u p + τ * κ) else 0
theorem cq_AE (a b κ τ : Nat) (u : Nat → Int) : ∀ n, cq_A (cq_g (a ||| b) τ) n = 10 ^ cq_n (a ||| b) n ∧ 10 * cq_B (cq_g (a ||| b) τ) (cq_d a b κ u) n = 10 ^ cq_n (a ||| b) n * cq_s (cq_e a b κ τ u) n
  | 0 => by simp [cq_A, cq_B, cq_n, cq_s, cq_p]
  | n + 1 => by
    obtain ⟨hA, hB⟩ := cq_AE a b κ τ u n
    have hw : (a ||| b).testBit n = (a.testBit n || b.testBit n) := Nat.testBit_or a b n
    rw [cq_A_S, cq_B_S, hA, cq_n, cq_s]
    have ring2 : ∀ B P S : Int, 10 * B = P * S → ∀ x y : Int, 10 * (B * 10 + P * x) = P * 10 * (S + x) ∧ 10 * (B * 1 + P * 0) = P * S := fun B P S h x y => by
      refine ⟨?_, by omega⟩
      rw [Int.mul_add (P * 10), Int.mul_right_comm P 10 S, ← h, Int.mul_right_comm P 10 x]
      omega
    by_cases c : (a ||| b).testBit n = true
    · have g0 : cq_g (a ||| b) τ n false + cq_g (a ||| b) τ n true = 10 := by simp only [cq_g, c, if_true]; simp
      rw [g0, if_pos c, Int.pow_succ]
      refine ⟨rfl, ?_⟩
      have g1 : cq_g (a ||| b) τ n false * cq_d a b κ u n false + cq_g (a ||| b) τ n true * cq_d a b κ u n true = cq_e a b κ τ u n := by
        simp only [cq_g, cq_d, cq_e, c, if_true]
        by_cases ca : a.testBit n = true
        · simp only [ca, if_true]
          simp only [Bool.false_eq_true, if_false, Int.add_zero, Int.sub_mul, Int.mul_add]
          omega
        · have cb : b.testBit n = true := by simpa [hw, ca] using c
          simp only [ca, cb, if_true]
          simp only [Bool.false_eq_true, if_false, Int.add_zero, Int.sub_mul, Int.mul_add, Int.mul_neg, Int.neg_add]
          omega
      rw [g1]
      exact (ring2 _ _ _ hB _ 0).1
    · have g0 : cq_g (a ||| b) τ n false + cq_g (a ||| b) τ n true = 1 := by simp only [cq_g, c]; simp
      have ca : a.testBit n = false := by cases h : a.testBit n <;> simp_all
      have cb : b.testBit n = false := by cases h : b.testBit n <;> simp_all
      have g1 : cq_g (a ||| b) τ n false * cq_d a b κ u n false + cq_g (a ||| b) τ n true * cq_d a b κ u n true = 0 := by
        simp [cq_d, ca, cb]
      have g2 : cq_e a b κ τ u n = 0 := by simp [cq_e, ca, cb]
      rw [g0, g1, g2, if_neg c, Int.mul_one, Int.add_zero, Nat.add_zero]
      exact ⟨rfl, (ring2 _ _ _ hB 0 0).2⟩
def cq_u (a : Nat) (u : Nat → Int) (p : Nat) : Int := if a.testBit p then u p else 0
theorem cq_e_sum {a b : Nat} (hab : a &&& b = 0) (κ τ : Nat) (u : Nat → Int) : ∀ n, cq_s (cq_e a b κ τ u) n = 10 * (cq_s (cq_u a u) n - cq_s (cq_u b u) n) + τ * κ * ((cq_n a n : Int) - cq_n b n)
  | 0 => by simp [cq_s, cq_n]
  | n + 1 => by
    have hd : ¬ (a.testBit n = true ∧ b.testBit n = true) := fun ⟨h1, h2⟩ => by
      have := Nat.testBit_and a b n
      rw [hab, h1, h2, Nat.zero_testBit] at this
      exact absurd this (by decide)
    rw [cq_s, cq_s, cq_s, cq_n, cq_n, cq_e_sum hab κ τ u n]
    simp only [cq_e, cq_u]
    generalize (τ : Int) * κ = w
    by_cases ca : a.testBit n = true
    · have cb : ¬ b.testBit n = true := fun q => hd ⟨ca, q⟩
      rw [if_pos ca, if_pos ca, if_pos ca, if_neg cb, if_neg cb]
      simp only [Int.natCast_add, Int.mul_sub, Int.mul_add, Nat.add_zero, Int.natCast_one, Int.mul_one]
      omega
    · by_cases cb : b.testBit n = true
      · rw [if_neg ca, if_neg ca, if_neg ca, if_pos cb, if_pos cb, if_pos cb]
        simp only [Int.natCast_add, Int.mul_sub, Int.mul_add, Nat.add_zero, Int.natCast_one, Int.mul_one]
        omega
      · rw [if_neg ca, if_neg ca, if_neg ca, if_neg cb, if_neg cb, if_neg cb]
        simp only [Nat.add_zero]
        omega
theorem cq_d_sum {a b : Nat} (hab : a &&& b = 0) (κ s : Nat) (u : Nat → Int) : ∀ n, cq_s (fun p => cq_d a b κ u p (s.testBit p)) n = cq_s (cq_u a u) n - cq_s (cq_u b u) n + κ * ((cq_n (s &&& a) n : Int) - cq_n (s &&& b) n)
  | 0 => by simp [cq_s, cq_n]
  | n + 1 => by
    have hd : ¬ (a.testBit n = true ∧ b.testBit n = true) := fun ⟨h1, h2⟩ => by
      have := Nat.testBit_and a b n
      rw [hab, h1, h2, Nat.zero_testBit] at this
      exact absurd this (by decide)
    rw [cq_s, cq_s, cq_s, cq_n, cq_n, cq_d_sum hab κ s u n, Nat.testBit_and, Nat.testBit_and]
    simp only [cq_d, cq_u]
    by_cases ca : a.testBit n = true
    · have cb : b.testBit n = false := by cases h : b.testBit n <;> simp_all
      rw [ca, cb]
      cases s.testBit n <;> simp <;> simp only [Int.mul_sub, Int.mul_add, Int.mul_one] <;> omega
    · have ca' : a.testBit n = false := by simpa using ca
      rw [ca']
      cases b.testBit n <;> cases s.testBit n <;> simp <;> simp only [Int.mul_sub, Int.mul_add, Int.mul_one] <;> omega
theorem cq_g_0 {W s : Nat} (τ : Nat) (hW : W < 256) (hs : s < 256) (h : ¬ s &&& W = s) : cq_p (fun p => cq_g W τ p (s.testBit p)) 8 = 0 := by
  have : ∃ p, p < 8 ∧ s.testBit p = true ∧ W.testBit p = false := by
    refine Classical.byContradiction fun hn => h (Nat.eq_of_testBit_eq fun i => ?_)
    rw [Nat.testBit_and]
    by_cases hi : i < 8
    · cases h1 : s.testBit i
      · rfl
      · cases h2 : W.testBit i
        · exact absurd ⟨i, hi, h1, h2⟩ hn
        · rfl
    · rw [Nat.testBit_lt_two_pow (x := s) (Nat.lt_of_lt_of_le hs (Nat.pow_le_pow_right (n := 2) (by decide) (show 8 ≤ i by omega)))]
      rfl
  obtain ⟨p, hp, h1, h2⟩ := this
  refine cq_p_0 (p := p) ?_ hp
  show cq_g W τ p (s.testBit p) = 0
  rw [h1]
  simp [cq_g, h2]
theorem cq_sub {W s p : Nat} (h : s &&& W = s) (hb : W.testBit p = false) : s.testBit p = false := by
  have := Nat.testBit_and s W p
  rw [h, hb, Bool.and_false] at this
  exact this
theorem cq_g_pow {W s τ : Nat} (h : s &&& W = s) (hτ : τ ≤ 10) : ∀ n, cq_n s n ≤ cq_n W n ∧ cq_p (fun p => cq_g W τ p (s.testBit p)) n = (τ : Int) ^ cq_n s n * ((10 - τ : Nat) : Int) ^ (cq_n W n - cq_n s n)
  | 0 => by simp [cq_n, cq_p]
  | n + 1 => by
    obtain ⟨h1, h2⟩ := cq_g_pow h hτ n
    rw [cq_p, h2, cq_n, cq_n]
    simp only [cq_g]
    by_cases c : W.testBit n = true
    · rw [if_pos c]
      simp only [c, if_true]
      by_cases e : s.testBit n = true
      · rw [if_pos e]
        simp only [e, if_true]
        refine ⟨by omega, ?_⟩
        rw [Nat.add_sub_add_right, Int.pow_succ, Int.mul_right_comm]
      · simp only [e]
        refine ⟨by simp; omega, ?_⟩
        simp only [Bool.false_eq_true, if_false, Nat.add_zero]
        rw [show cq_n W n + 1 - cq_n s n = cq_n W n - cq_n s n + 1 by omega, Int.pow_succ, ← Int.mul_assoc, show ((10 - τ : Nat) : Int) = 10 - (τ : Int) by omega]
    · have e : s.testBit n = false := cq_sub h (by simpa using c)
      rw [e]
      simp only [c, Bool.false_eq_true, if_false, Nat.add_zero, Int.mul_one]
      exact ⟨h1, trivial⟩
/-! Euclid -/
abbrev cq_L (n : Nat) : Int64 := Int64.ofInt (n : Int)
theorem cq_L_in {n : Nat} (h : n < 2 ^ 63) : (cq_L n).toInt = n := cq_in (by omega) (by omega)
theorem cq_L_0 {n : Nat} (h : n < 2 ^ 63) : cq_L n = 0 ↔ n = 0 := by
  constructor
  · intro q
    have := congrArg Int64.toInt q
    rw [cq_L_in h, show (0 : Int64).toInt = 0 from rfl] at this
    omega
  · intro q; subst q; rfl
theorem cq_div {g : Nat} {q : Int} (h0 : 0 < g) (hg : g < 2 ^ 63) (h1 : -2 ^ 63 < (g : Int) * q) (h2 : (g : Int) * q < 2 ^ 63) : Int64.ofInt ((g : Int) * q) / cq_L g = Int64.ofInt q := by
  have hq : q.natAbs ≤ ((g : Int) * q).natAbs := by
    rw [Int.natAbs_mul]
    exact Nat.le_mul_of_pos_left _ (by omega)
  refine Int64.toInt_inj.mp ?_
  rw [Int64.toInt_div_of_ne_right _ _ (fun e => ?_), cq_in h1 h2, cq_L_in hg, cq_in (by omega) (by omega), Int.mul_tdiv_cancel_left q (by omega)]
  have := congrArg Int64.toInt e
  rw [cq_L_in hg, show (-1 : Int64).toInt = -1 from rfl] at this
  omega
theorem cq_mod {a b : Nat} (ha : a < 2 ^ 63) (hb : b < 2 ^ 63) (h0 : 0 < b) : cq_L a - cq_L a / cq_L b * cq_L b = cq_L (a % b) := by
  have e1 : cq_L a / cq_L b = cq_L (a / b) := by
    have hab : a / b < 2 ^ 63 := Nat.lt_of_le_of_lt (Nat.div_le_self _ _) ha
    refine Int64.toInt_inj.mp ?_
    rw [Int64.toInt_div_of_ne_right _ _ (fun q => ?_), cq_L_in ha, cq_L_in hb, cq_L_in hab, Int.tdiv_eq_ediv_of_nonneg (by omega)]
    · rfl
    · have := congrArg Int64.toInt q
      rw [cq_L_in hb, show (-1 : Int64).toInt = -1 from rfl] at this
      omega
  rw [e1]
  show Int64.ofInt (a : Int) - Int64.ofInt ((a / b : Nat) : Int) * Int64.ofInt (b : Int) = Int64.ofInt ((a % b : Nat) : Int)
  rw [← Int64.ofInt_mul, ← Int64.ofInt_sub]
  congr 1
  have := Nat.div_add_mod a b
  rw [Nat.mul_comm] at this
  rw [← Int.natCast_mul]
  omega
theorem cq_gr (a b : Nat) : Nat.gcd b (a % b) = Nat.gcd a b := by
  rw [Nat.gcd_comm a b, Nat.gcd_rec b a, Nat.gcd_comm]
theorem cq_half {b r : Nat} (h0 : 0 < r) (h : r < b) : 2 * (b % r) < b := by
  have h1 := Nat.mod_lt b h0
  by_cases c : r * 2 ≤ b
  · omega
  · rw [Nat.mod_eq_sub_mod (by omega), Nat.mod_eq_of_lt (by omega)]
    omega
theorem cq_gcL : ∀ (k a b : Nat), b < 2 ^ k → k ≤ 63 → a < 2 ^ 63 → ∀ m, 2 * k ≤ m → gcL m (cq_L a) (cq_L b) = cq_L (Nat.gcd a b) := by
  intro k
  induction k with
  | zero =>
    intro a b hb _ _ m _
    have : b = 0 := by simpa using hb
    subst this
    rw [Nat.gcd_zero_right]
    exact gcL_0 _ _
  | succ k ih =>
    intro a b hb hk ha m hm
    have hb63 : b < 2 ^ 63 := Nat.lt_of_lt_of_le hb (Nat.pow_le_pow_right (by decide) hk)
    by_cases h0 : b = 0
    · subst h0
      rw [Nat.gcd_zero_right]
      exact gcL_0 _ _
    · obtain ⟨m2, rfl⟩ : ∃ m2, m = m2 + 2 := ⟨m - 2, by omega⟩
      have hr := Nat.mod_lt a (show 0 < b by omega)
      rw [gcL, if_neg (fun q => h0 ((cq_L_0 hb63).mp q)), cq_mod ha hb63 (by omega), ← cq_gr a b]
      generalize a % b = r at hr
      by_cases hr0 : r = 0
      · subst hr0
        rw [Nat.gcd_zero_right]
        exact gcL_0 _ _
      · rw [gcL, if_neg (fun q => hr0 ((cq_L_0 (by omega)).mp q)), cq_mod hb63 (by omega) (by omega), ← cq_gr b r]
        have h2 := cq_half (show 0 < r by omega) hr
        have h3 : 2 ^ (k + 1) = 2 * 2 ^ k := by rw [Nat.pow_succ, Nat.mul_comm]
        exact ih r (b % r) (by omega) (by omega) (by omega) m2 (by omega)
theorem cq_EuN : ∀ (b a : Nat), a < 2 ^ 63 → b < 2 ^ 63 → ∃ n, EuN n (cq_L a) (cq_L b) (cq_L (Nat.gcd a b)) := by
  intro b
  induction b using Nat.strongRecOn with
  | ind b ih =>
    intro a ha hb
    by_cases h0 : b = 0
    · subst h0
      refine ⟨0, ?_⟩
      rw [Nat.gcd_zero_right]
      exact ⟨rfl, rfl⟩
    · obtain ⟨n, hn⟩ := ih (a % b) (Nat.mod_lt a (by omega)) b hb (Nat.lt_of_lt_of_le (Nat.mod_lt a (by omega)) (by omega))
      refine ⟨n + 1, fun q => h0 ((cq_L_0 hb).mp q), ?_⟩
      rw [cq_mod ha hb (by omega), ← cq_gr a b]
      exact hn
theorem cq_la {X : Int} (h1 : -2 ^ 63 < X) (h2 : X < 2 ^ 63) : la (Int64.ofInt X) = cq_L X.natAbs := by
  unfold la
  have e : (0 ≤ lg_cmp (Int64.ofInt X) 0) ↔ 0 ≤ X := by
    rw [lg_cmp_ge, Int64.le_iff_toInt_le, cq_in h1 h2]
    exact Iff.rfl
  by_cases c : 0 ≤ X
  · rw [if_pos (e.mpr c)]
    show Int64.ofInt X = Int64.ofInt _
    congr 1
    omega
  · rw [if_neg (fun q => c (e.mp q)), ← Int64.ofInt_neg]
    show Int64.ofInt _ = Int64.ofInt _
    congr 1
    omega
theorem cq_labs {X : Int} (h1 : -2 ^ 63 < X) (h2 : X < 2 ^ 63) : labs (Int64.ofInt X) = cq_L X.natAbs := by
  unfold labs
  have e : (0 < Int64.ofInt X) ↔ 0 < X := by
    rw [Int64.lt_iff_toInt_lt, cq_in h1 h2]
    exact Iff.rfl
  by_cases c : 0 < X
  · rw [if_pos (e.mpr c)]
    show Int64.ofInt X = Int64.ofInt _
    congr 1
    omega
  · rw [if_neg (fun q => c (e.mp q)), ← Int64.ofInt_neg]
    show Int64.ofInt _ = Int64.ofInt _
    congr 1
    omega
theorem cq_fr {X : Int} {Y : Nat} (hX1 : -2 ^ 63 < X) (hX2 : X < 2 ^ 63) (hY : Y < 2 ^ 63) (h0 : 0 < Y) : ∃ q : Int, X = (Nat.gcd X.natAbs Y : Nat) * q ∧ frU (Int64.ofInt X) (cq_L Y) = Int64.ofInt q ∧ ∃ r : Nat, Y = Nat.gcd X.natAbs Y * r ∧ frL (Int64.ofInt X) (cq_L Y) = cq_L r := by
  have hg : gcL 200 (labs (Int64.ofInt X)) (cq_L Y) = cq_L (Nat.gcd X.natAbs Y) := by
    rw [cq_labs hX1 hX2]
    exact cq_gcL 63 _ _ hY (Nat.le_refl _) (by omega) 200 (by decide)
  have g0 : 0 < Nat.gcd X.natAbs Y := Nat.gcd_pos_of_pos_right _ h0
  have g1 : Nat.gcd X.natAbs Y < 2 ^ 63 := Nat.lt_of_le_of_lt (Nat.gcd_le_right _ h0) hY
  obtain ⟨q, hq⟩ : ((Nat.gcd X.natAbs Y : Nat) : Int) ∣ X := Int.ofNat_dvd_left.mpr (Nat.gcd_dvd_left _ _)
  obtain ⟨r, hr⟩ : Nat.gcd X.natAbs Y ∣ Y := Nat.gcd_dvd_right _ _
  generalize Nat.gcd X.natAbs Y = g at *
  refine ⟨q, hq, ?_, r, hr, ?_⟩
  · unfold frU
    rw [hg]
    by_cases c : 1 < cq_L g
    · rw [if_pos c, hq]
      exact cq_div g0 g1 (by rw [← hq]; exact hX1) (by rw [← hq]; exact hX2)
    · rw [if_neg c]
      have : g = 1 := by
        rw [Int64.lt_iff_toInt_lt, cq_L_in g1, show (1 : Int64).toInt = 1 from rfl] at c
        omega
      subst this
      rw [hq]
      simp
  · unfold frL
    rw [hg]
    have hY2 : (Y : Int) = (g : Int) * (r : Int) := by rw [hr, Int.natCast_mul]
    by_cases c : 1 < cq_L g
    · rw [if_pos c]
      show Int64.ofInt (Y : Int) / _ = Int64.ofInt (r : Int)
      rw [hY2]
      exact cq_div g0 g1 (by rw [← hY2]; omega) (by rw [← hY2]; omega)
    · rw [if_neg c]
      have : g = 1 := by
        rw [Int64.lt_iff_toInt_lt, cq_L_in g1, show (1 : Int64).toInt = 1 from rfl] at c
        omega
      subst this
      rw [Nat.one_mul] at hr
      rw [hr]
theorem cq_low {X : Int} {Y M : Nat} (hM : 0 < M) (hX1 : -2 ^ 63 < X * M) (hX2 : X * M < 2 ^ 63) (hY : Y * M < 2 ^ 63) (h0 : 0 < Y) : ∃ g : Int64, gcL 200 (cq_L (Y * M)) (la (Int64.ofInt (X * M))) = g ∧ (∃ n, EuN n (cq_L (Y * M)) (la (Int64.ofInt (X * M))) g) ∧ g ≠ 0 ∧ Int64.ofInt (X * M) / g = frU (Int64.ofInt X) (cq_L Y) ∧ cq_L (Y * M) / g = frL (Int64.ofInt X) (cq_L Y) := by
  have hXn : (X * M).natAbs = X.natAbs * M := by rw [Int.natAbs_mul]; rfl
  have hx1 : X.natAbs ≤ X.natAbs * M := Nat.le_mul_of_pos_right _ hM
  have hy1 : Y ≤ Y * M := Nat.le_mul_of_pos_right _ hM
  obtain ⟨q, q1, q2, r, r1, r2⟩ := cq_fr (X := X) (Y := Y) (by omega) (by omega) (by omega) h0
  rw [q2, r2, cq_la hX1 hX2, hXn]
  have hY0 : 0 < Y * M := Nat.mul_pos h0 hM
  have e1 : Nat.gcd (Y * M) (X.natAbs * M) = Nat.gcd X.natAbs Y * M := by rw [Nat.gcd_mul_right, Nat.gcd_comm]
  have hG := cq_gcL 63 (Y * M) (X.natAbs * M) (by omega) (Nat.le_refl _) hY 200 (by decide)
  have hE := cq_EuN (X.natAbs * M) (Y * M) hY (by omega)
  have g0 : 0 < Nat.gcd (Y * M) (X.natAbs * M) := Nat.gcd_pos_of_pos_left _ hY0
  have g1 : Nat.gcd (Y * M) (X.natAbs * M) < 2 ^ 63 := Nat.lt_of_le_of_lt (Nat.gcd_le_left _ hY0) hY
  rw [e1] at hG hE g0 g1
  generalize Nat.gcd X.natAbs Y = d at *
  refine ⟨cq_L (d * M), hG, hE, fun q => by rw [cq_L_0 g1] at q; omega, ?_, ?_⟩
  · have : X * (M : Int) = ((d * M : Nat) : Int) * q := by rw [q1, Int.natCast_mul, Int.mul_right_comm]
    rw [this] at hX1 hX2 ⊢
    exact cq_div g0 g1 hX1 hX2
  · have : ((Y * M : Nat) : Int) = ((d * M : Nat) : Int) * (r : Int) := by rw [r1, Nat.mul_right_comm, Int.natCast_mul]
    show Int64.ofInt ((Y * M : Nat) : Int) / _ = Int64.ofInt (r : Int)
    rw [this]
    exact cq_div g0 g1 (by rw [← this]; omega) (by rw [← this]; omega)
/-! both sides of a chance -/
theorem cq_sum {a : Nat} (ha : a < 256) (f : Nat → Int32) : sumB (nI a) f = Int32.ofInt (cq_s (cq_u a (fun p => (f p).toInt)) 8) := by
  have key : ∀ n, n ≤ 8 → itr (fun p s => if bt (nI a) p then s + f p else s) n 0 0 = Int32.ofInt (cq_s (cq_u a (fun p => (f p).toInt)) n) := by
    intro n
    induction n with
    | zero => intro _; rfl
    | succ n ih =>
      intro hn
      rw [itr_lt, ih (by omega), Nat.zero_add, cq_s, mk_bt a ha n (by omega), Int32.ofInt_add]
      by_cases c : a.testBit n = true
      · rw [if_pos c, show cq_u a (fun p => (f p).toInt) n = (f n).toInt from if_pos c, Int32.ofInt_toInt]
      · rw [if_neg c, show cq_u a (fun p => (f p).toInt) n = 0 from if_neg c]
        exact (Int32.add_zero _).symm
  exact key 8 (Nat.le_refl _)
theorem cq_t64 {n : Nat} (h : n < 2 ^ 31) : (nI n).toInt64 = Int64.ofInt (n : Int) := by
  rw [cq_nI]
  exact cq_3264 (by omega) (by omega)
theorem cq_r64 {τ : Nat} (h : τ ≤ 10) : ((10 : Int32) - nI τ).toInt64 = Int64.ofInt (10 - (τ : Int)) := by
  rw [show (10 : Int32) = Int32.ofInt 10 from rfl, cq_nI, ← Int32.ofInt_sub]
  exact cq_3264 (by omega) (by omega)
theorem cq_pow {x : Int32} {z : Int} (h : x.toInt64 = Int64.ofInt z) : ∀ k, powL x k = Int64.ofInt (z ^ k) := by
  intro k
  induction k with
  | zero => rw [Int.pow_zero]; rfl
  | succ k ih =>
    unfold powL at ih ⊢
    rw [itr_lt, ih, Int.pow_succ, Int64.ofInt_mul, h]
def cq_P (W τ j : Nat) : Int := cq_p (fun p => cq_g W τ p (j.testBit p)) 8
def cq_D (a b κ : Nat) (u : Nat → Int) (j : Nat) : Int := cq_s (fun p => cq_d a b κ u p (j.testBit p)) 8
def cq_M (a b τ κ w : Nat) (u : Nat → Int) (j : Nat) : Int := if w = 1 then cq_P (a ||| b) τ j * cq_D a b κ u j else if Int32.ofInt (cq_D a b κ u j) ≤ 0 then 0 else cq_P (a ||| b) τ j
theorem cq_A8 (W τ : Nat) : cq_A (cq_g W τ) 8 = cq_s (cq_P W τ) 256 := by
  unfold cq_A
  rw [show (2 : Nat) ^ 8 = 256 from rfl]
  exact cq_s_cg (fun j _ => rfl)
theorem cq_B8 (a b τ κ : Nat) (u : Nat → Int) : cq_s (cq_M a b τ κ 1 u) 256 = cq_B (cq_g (a ||| b) τ) (cq_d a b κ u) 8 := by
  unfold cq_B
  rw [show (2 : Nat) ^ 8 = 256 from rfl]
  exact cq_s_cg (fun j _ => by unfold cq_M; rw [if_pos rfl]; rfl)
theorem cq_ci {a b τ κ j : Nat} (ha : a < 256) (hb : b < 256) (hτ : τ ≤ 10) (wt : Nat → Int32) (hj : j < 256) (hs : j &&& (a ||| b) = j) : ciR (nI a) (nI b) (nI τ) (nI κ) wt j = (Int64.ofInt (cq_P (a ||| b) τ j), Int32.ofInt (cq_D a b κ (fun p => (wt p).toInt) j)) := by
  have key : ∀ n, n ≤ 8 → itr (ciS (nI a) (nI b) (nI τ) (nI κ) wt j) n 0 (1, 0) = (Int64.ofInt (cq_p (fun p => cq_g (a ||| b) τ p (j.testBit p)) n), Int32.ofInt (cq_s (fun p => cq_d a b κ (fun p => (wt p).toInt) p (j.testBit p)) n)) := by
    intro n
    induction n with
    | zero => intro _; rfl
    | succ n ih =>
      intro hn
      have hn8 : n < 8 := by omega
      rw [itr_lt, ih (by omega), Nat.zero_add, cq_p, cq_s, Int64.ofInt_mul, Int32.ofInt_add]
      generalize Int64.ofInt (cq_p (fun p => cq_g (a ||| b) τ p (j.testBit p)) n) = P
      generalize Int32.ofInt (cq_s (fun p => cq_d a b κ (fun p => (wt p).toInt) p (j.testBit p)) n) = D
      have bw : bt (nI a ||| nI b) n = (a ||| b).testBit n := by rw [nI_or, mk_bt _ (or_lt ha hb) n hn8]
      have hw : (a ||| b).testBit n = (a.testBit n || b.testBit n) := Nat.testBit_or a b n
      refine Prod.ext ?_ ?_
      · show P * (if bt (nI a ||| nI b) n = false then 1 else if bt (nI j) n = true then (nI τ).toInt64 else (10 - nI τ).toInt64) = P * Int64.ofInt (cq_g (a ||| b) τ n (j.testBit n))
        rw [bw, mk_bt j hj n hn8]
        congr 1
        unfold cq_g
        by_cases c : (a ||| b).testBit n = true
        · rw [if_neg (by rw [c]; decide), if_pos c]
          by_cases e : j.testBit n = true
          · rw [if_pos e, if_pos e]
            exact cq_t64 (by omega)
          · rw [if_neg e, if_neg e]
            exact cq_r64 hτ
        · have c' : (a ||| b).testBit n = false := by simpa using c
          rw [if_pos c', if_neg c, cq_sub hs c']
          rfl
      · show D + (if bt (nI a ||| nI b) n = false then 0 else if bt (nI a) n = true then wt n + (if bt (nI j) n = true then nI κ else 0) else -(wt n + (if bt (nI j) n = true then nI κ else 0))) = D + Int32.ofInt (cq_d a b κ (fun p => (wt p).toInt) n (j.testBit n))
        rw [bw, mk_bt j hj n hn8, mk_bt a ha n hn8]
        congr 1
        have hk : ∀ e : Bool, wt n + (if e = true then nI κ else 0) = Int32.ofInt ((wt n).toInt + (if e = true then (κ : Int) else 0)) := by
          intro e
          rw [Int32.ofInt_add, Int32.ofInt_toInt]
          cases e
          · rfl
          · rw [if_pos rfl, if_pos rfl, cq_nI]
        unfold cq_d
        by_cases ca : a.testBit n = true
        · rw [if_neg (by rw [hw, ca]; simp), if_pos ca, if_pos ca]
          exact hk _
        · by_cases cb : b.testBit n = true
          · rw [if_neg (by rw [hw, cb]; simp), if_neg ca, if_neg ca, if_pos cb, Int32.ofInt_neg]
            exact congrArg (fun z => -z) (hk _)
          · rw [if_pos (by rw [hw]; simp [ca, cb]), if_neg ca, if_neg cb]
            rfl
  exact key 8 (Nat.le_refl _)
theorem cq_in8 {W j : Nat} (hW : W < 256) (hj : j < 256) : (nI j &&& (nI W ^^^ -1) = 0) ↔ j &&& W = j := by
  constructor
  · intro h
    exact (sub_inT hW hj (decide_eq_true h)).2
  · intro h
    exact of_decide_eq_true (inT_sub hW ⟨hj, h⟩)
theorem cq_co {a b τ κ w : Nat} (ha : a < 256) (hb : b < 256) (hτ : τ ≤ 10) (hw : w ≤ 1) (wt : Nat → Int32) (hD : ∀ j, -2 ^ 31 ≤ cq_D a b κ (fun p => (wt p).toInt) j ∧ cq_D a b κ (fun p => (wt p).toInt) j < 2 ^ 31) : coR (nI a) (nI b) (nI τ) (nI κ) (nI w) wt = (Int64.ofInt (cq_s (cq_M a b τ κ w (fun p => (wt p).toInt)) 256), Int64.ofInt (cq_s (cq_P (a ||| b) τ) 256)) := by
  have hW := or_lt ha hb
  have key : ∀ n, n ≤ 256 → itr (coS (nI a) (nI b) (nI τ) (nI κ) (nI w) wt) n 0 (0, 0) = (Int64.ofInt (cq_s (cq_M a b τ κ w (fun p => (wt p).toInt)) n), Int64.ofInt (cq_s (cq_P (a ||| b) τ) n)) := by
    intro n
    induction n with
    | zero => intro _; rfl
    | succ n ih =>
      intro hn
      have hn8 : n < 256 := by omega
      rw [itr_lt, ih (by omega), Nat.zero_add, cq_s, cq_s, Int64.ofInt_add, Int64.ofInt_add]
      generalize Int64.ofInt (cq_s (cq_M a b τ κ w (fun p => (wt p).toInt)) n) = Z1
      generalize Int64.ofInt (cq_s (cq_P (a ||| b) τ) n) = Z2
      unfold coS
      rw [nI_or]
      by_cases hs : n &&& (a ||| b) = n
      · rw [if_pos ((cq_in8 hW hn8).mpr hs), cq_ci ha hb hτ wt hn8 hs]
        refine Prod.ext ?_ rfl
        show Z1 + _ = Z1 + _
        congr 1
        show (if nI w = 1 then Int64.ofInt (cq_P (a ||| b) τ n) * (Int32.ofInt (cq_D a b κ (fun p => (wt p).toInt) n)).toInt64 else if Int32.ofInt (cq_D a b κ (fun p => (wt p).toInt) n) ≤ 0 then 0 else Int64.ofInt (cq_P (a ||| b) τ n)) = _
        unfold cq_M
        have hw1 : (nI w = 1) ↔ w = 1 := nI_eq (b := 1) (by omega) (by decide)
        by_cases c : w = 1
        · rw [if_pos (hw1.mpr c), if_pos c, Int64.ofInt_mul, cq_3264 (hD n).1 (hD n).2]
        · rw [if_neg (fun q => c (hw1.mp q)), if_neg c]
          by_cases e : Int32.ofInt (cq_D a b κ (fun p => (wt p).toInt) n) ≤ 0
          · rw [if_pos e, if_pos e]; rfl
          · rw [if_neg e, if_neg e]
      · rw [if_neg (fun q => hs ((cq_in8 hW hn8).mp q))]
        have h0 : cq_P (a ||| b) τ n = 0 := cq_g_0 τ hW hn8 hs
        have h1 : cq_M a b τ κ w (fun p => (wt p).toInt) n = 0 := by
          unfold cq_M
          rw [h0, Int.zero_mul]
          split
          · rfl
          · split <;> rfl
        rw [h0, h1]
        exact Prod.ext (Int64.add_zero _).symm (Int64.add_zero _).symm
  exact key 256 (Nat.le_refl _)
theorem cq_hv {a b τ κ : Nat} (ha : a < 256) (hb : b < 256) (hab : a &&& b = 0) (hτ : τ ≤ 10) (u : Nat → Int) {ah : Int32} (hah : ah = Int32.ofInt (cq_s (cq_u a u) 8 - cq_s (cq_u b u) 8)) : hvR a b (nI τ) (nI κ) ah = Int64.ofInt (cq_s (cq_M a b τ κ 0 u) 256) := by
  have hW := or_lt ha hb
  let F : Nat → Int64 → Int64 := fun s v => if ah + nI κ * (bcI (nI s &&& nI a) - bcI (nI s &&& nI b)) ≤ 0 then v else v + powL (nI τ) (pc s) * powL (10 - nI τ) (pc (a ||| b) - pc s)
  have e0 : hvR a b (nI τ) (nI κ) ah = itr (fun j v => F (sbs (a ||| b) j) v) (2 ^ pc (a ||| b)) 0 0 := rfl
  rw [e0, itr_sub F hW]
  have key : ∀ n, n ≤ 256 → itr (fun s v => if (s &&& (a ||| b) == s) = true then F s v else v) n 0 0 = Int64.ofInt (cq_s (cq_M a b τ κ 0 u) n) := by
    intro n
    induction n with
    | zero => intro _; rfl
    | succ n ih =>
      intro hn
      have hn8 : n < 256 := by omega
      rw [itr_lt, ih (by omega), Nat.zero_add, cq_s, Int64.ofInt_add]
      generalize Int64.ofInt (cq_s (cq_M a b τ κ 0 u) n) = Z1
      by_cases hs : n &&& (a ||| b) = n
      · rw [if_pos (by rw [hs]; exact beq_self_eq_true n)]
        have eD : ah + nI κ * (bcI (nI n &&& nI a) - bcI (nI n &&& nI b)) = Int32.ofInt (cq_D a b κ u n) := by
          unfold cq_D
          rw [cq_d_sum hab, hah, nI_and, nI_and, (mk_bc _ (Nat.and_lt_two_pow (n := 8) _ ha)).1, (mk_bc _ (Nat.and_lt_two_pow (n := 8) _ hb)).1, cq_pc, cq_pc, cq_nI, cq_nI, cq_nI, Int32.ofInt_add, Int32.ofInt_mul, Int32.ofInt_sub, Int32.ofInt_sub]
        have eP : powL (nI τ) (pc n) * powL (10 - nI τ) (pc (a ||| b) - pc n) = Int64.ofInt (cq_P (a ||| b) τ n) := by
          unfold cq_P
          rw [(cq_g_pow hs hτ 8).2, cq_pow (cq_t64 (by omega)), cq_pow (cq_r64 hτ), cq_pc, cq_pc, Int64.ofInt_mul, show ((10 - τ : Nat) : Int) = 10 - (τ : Int) by omega]
        show (if ah + nI κ * (bcI (nI n &&& nI a) - bcI (nI n &&& nI b)) ≤ 0 then Z1 else Z1 + powL (nI τ) (pc n) * powL (10 - nI τ) (pc (a ||| b) - pc n)) = Z1 + Int64.ofInt (cq_M a b τ κ 0 u n)
        rw [eD, eP]
        unfold cq_M
        rw [if_neg (show ¬ (0 : Nat) = 1 by decide)]
        by_cases e : Int32.ofInt (cq_D a b κ u n) ≤ 0
        · rw [if_pos e, if_pos e]; exact (Int64.add_zero _).symm
        · rw [if_neg e, if_neg e]
      · rw [if_neg (fun q => hs (by simpa using q))]
        have h0 : cq_P (a ||| b) τ n = 0 := cq_g_0 τ hW hn8 hs
        have h1 : cq_M a b τ κ 0 u n = 0 := by
          unfold cq_M
          rw [h0, if_neg (show ¬ (0 : Nat) = 1 by decide)]
          split <;> rfl
        rw [h1]
        exact (Int64.add_zero _).symm
  exact key 256 (Nat.le_refl _)
theorem cq_put (A B : Int64) (μ : MemT) : sw_jn (putF A B μ 16 0) (putF A B μ 16 1) = frU A B ∧ sw_jn (putF A B μ 16 2) (putF A B μ 16 3) = frL A B := ⟨sw_jn_hl _, sw_jn_hl _⟩
set_option maxRecDepth 100000 in
theorem cq_pc0 : ∀ s, s < 256 → pc s = 0 → s = 0 := by decide +kernel
theorem cq_10 (n : Nat) : ((10 : Int) ^ n) = ((10 ^ n : Nat) : Int) := by rw [Int.natCast_pow]; rfl
/-- the whole of a chance: what the reference has is what the class puts, told in lowest terms -/
theorem cq_all {t k c : Nat} {μ : MemT} (h : Rel t k c μ) {a b τ κ w : Nat} (hA : inT t a) (hB : inT t b) (hab : a &&& b = 0) (ha0 : a ≠ 0) (hτ : τ ≤ 10) (hκ : κ ≤ 50) (hw : w ≤ 1) : ∃ A B : Int64, chM (nI a) (nI b) (nI τ) (nI κ) (nI w) μ = putF A B μ ∧ (∃ n, EuN n (coR (nI a) (nI b) (nI τ) (nI κ) (nI w) (μ 60)).2 (la (coR (nI a) (nI b) (nI τ) (nI κ) (nI w) (μ 60)).1) (coG (nI a) (nI b) (nI τ) (nI κ) (nI w) (μ 60))) ∧ coG (nI a) (nI b) (nI τ) (nI κ) (nI w) (μ 60) ≠ 0 ∧ (coR (nI a) (nI b) (nI τ) (nI κ) (nI w) (μ 60)).1 / coG (nI a) (nI b) (nI τ) (nI κ) (nI w) (μ 60) = frU A B ∧ (coR (nI a) (nI b) (nI τ) (nI κ) (nI w) (μ 60)).2 / coG (nI a) (nI b) (nI τ) (nI κ) (nI w) (μ 60) = frL A B := by
  have ht := tr_ht (rl_tw h)
  have ha := hA.1
  have hb := hB.1
  have hW := or_lt ha hb
  have hwt : ∀ p, p < 8 → bt (nI t) p = true → μ 20 p = μ 60 p ∧ inR (μ 20 p) 1 400 = true := tr_wt (rl_tw h)
  generalize hu : (fun p => (μ 60 p).toInt) = u
  have hub : ∀ p, p < 8 → bt (nI t) p = true → 1 ≤ u p ∧ u p ≤ 400 := fun p hp hb => by
    have := hwt p hp hb
    rw [this.1] at this
    rw [← hu]
    exact of_decide_eq_true this.2
  have hua : ∀ s, inT t s → ∀ p, p < 8 → -(400 : Nat) ≤ cq_u s u p ∧ cq_u s u p ≤ (400 : Nat) := fun s hs p hp => by
    unfold cq_u
    split
    · rename_i e
      have := hub p hp (inT_bt ht hs hp e)
      omega
    · omega
  have hdb : ∀ j, -(450 : Nat) * 8 ≤ cq_D a b κ u j ∧ cq_D a b κ u j ≤ (450 : Nat) * 8 := fun j => by
    have := cq_s_bd (f := fun p => cq_d a b κ u p (j.testBit p)) (K := 450) (n := 8) (fun p hp => by
      show _ ≤ cq_d a b κ u p (j.testBit p) ∧ cq_d a b κ u p (j.testBit p) ≤ _
      unfold cq_d
      split
      · rename_i e
        have := hub p hp (inT_bt ht hA hp e)
        split <;> omega
      · split
        · rename_i e
          have := hub p hp (inT_bt ht hB hp e)
          split <;> omega
        · omega)
    unfold cq_D
    omega
  have hco := cq_co (κ := κ) ha hb hτ hw (μ 60) (fun j => by
    rw [hu]
    have := hdb j
    omega)
  rw [hu] at hco
  have hAE := cq_AE a b κ τ u 8
  have hpcW : pc (a ||| b) ≤ 8 := (mk_bc _ hW).2
  have hAA : cq_s (cq_P (a ||| b) τ) 256 = ((10 ^ pc (a ||| b) : Nat) : Int) := by
    rw [← cq_10, cq_pc, ← hAE.1, cq_A8]
  rw [hAA] at hco
  have hah : aheS (nI a) (nI b) 18 μ = Int32.ofInt (cq_s (cq_u a u) 8 - cq_s (cq_u b u) 8) := by
    have e7 : μ 18 7 = nI t := tr_aps (rl_tw h)
    have hz : ∀ s, inT t s → sumB (nI s &&& μ 18 7) (μ 20) = Int32.ofInt (cq_s (cq_u s u) 8) := fun s hs => by
      rw [e7, nI_and, hs.2, cq_sum hs.1]
      congr 1
      refine cq_s_cg (fun p hp => ?_)
      unfold cq_u
      split
      · rename_i e
        rw [(hwt p hp (inT_bt ht hs hp e)).1, ← hu]
      · rfl
    unfold aheS
    rw [hz a hA, hz b hB, Int32.ofInt_sub]
  unfold coG
  rw [hco]
  rcases (show w = 0 ∨ w = 1 by omega) with rfl | rfl
  · -- which is heavier
    have hb0 : 0 ≤ cq_s (cq_M a b τ κ 0 u) 256 ∧ cq_s (cq_M a b τ κ 0 u) 256 ≤ ((10 ^ pc (a ||| b) : Nat) : Int) := by
      rw [← hAA]
      refine cq_s_le (fun j _ => ?_)
      have hp : 0 ≤ cq_P (a ||| b) τ j := cq_p_nn (fun p _ => by
        show 0 ≤ cq_g (a ||| b) τ p (j.testBit p)
        unfold cq_g
        split
        · split <;> omega
        · split <;> omega)
      unfold cq_M
      rw [if_neg (show ¬ (0 : Nat) = 1 by decide)]
      split <;> omega
    have h8 : 10 ^ pc (a ||| b) ≤ 10 ^ 8 := Nat.pow_le_pow_right (by decide) hpcW
    have hpos : 0 < 10 ^ pc (a ||| b) := Nat.pow_pos (by decide)
    have hlow := cq_low (X := cq_s (cq_M a b τ κ 0 u) 256) (Y := 10 ^ pc (a ||| b)) (M := 1) (by decide) (by omega) (by omega) (by omega) hpos
    rw [Nat.mul_one, show cq_s (cq_M a b τ κ 0 u) 256 * ((1 : Nat) : Int) = cq_s (cq_M a b τ κ 0 u) 256 from Int.mul_one _] at hlow
    obtain ⟨g, g1, g2, g3, g4, g5⟩ := hlow
    refine ⟨Int64.ofInt (cq_s (cq_M a b τ κ 0 u) 256), cq_L (10 ^ pc (a ||| b)), ?_, ?_⟩
    · unfold chM
      rw [if_pos (by decide), show cl (nI a) = a from cl_n (by omega), show cl (nI b) = b from cl_n (by omega), heavM, cq_hv ha hb hab hτ u hah, cq_pow (show (10 : Int32).toInt64 = Int64.ofInt 10 from rfl), cq_10]
    · show (∃ n, EuN n (cq_L (10 ^ pc (a ||| b))) (la (Int64.ofInt (cq_s (cq_M a b τ κ 0 u) 256))) (gcL 200 (cq_L (10 ^ pc (a ||| b))) (la (Int64.ofInt (cq_s (cq_M a b τ κ 0 u) 256))))) ∧ gcL 200 (cq_L (10 ^ pc (a ||| b))) (la (Int64.ofInt (cq_s (cq_M a b τ κ 0 u) 256))) ≠ 0 ∧ Int64.ofInt (cq_s (cq_M a b τ κ 0 u) 256) / gcL 200 (cq_L (10 ^ pc (a ||| b))) (la (Int64.ofInt (cq_s (cq_M a b τ κ 0 u) 256))) = _ ∧ cq_L (10 ^ pc (a ||| b)) / gcL 200 (cq_L (10 ^ pc (a ||| b))) (la (Int64.ofInt (cq_s (cq_M a b τ κ 0 u) 256))) = _
      rw [g1]
      exact ⟨g2, g3, g4, g5⟩
  · -- the mean
    have hB1 : cq_s (cq_M a b τ κ 1 u) 256 = cq_B (cq_g (a ||| b) τ) (cq_d a b κ u) 8 := cq_B8 a b τ κ u
    obtain ⟨m, hm⟩ : ∃ m, pc (a ||| b) = m + 1 := by
      refine ⟨pc (a ||| b) - 1, ?_⟩
      have : pc (a ||| b) ≠ 0 := fun q => by
        have h1 := cq_pc0 _ hW q
        exact ha0 (Nat.le_zero.mp (h1 ▸ Nat.left_le_or))
      omega
    have hE := cq_e_sum hab κ τ u 8
    generalize hEE : cq_s (cq_e a b κ τ u) 8 = E at hE hAE
    have hS : cq_s (cq_M a b τ κ 1 u) 256 = E * ((10 ^ m : Nat) : Int) := by
      have h2 := hAE.2
      rw [← cq_pc, hm, Int.pow_succ, cq_10, Int.mul_right_comm, ← hB1, Int.mul_comm _ E] at h2
      omega
    have ba := cq_s_bd (f := cq_u a u) (K := 400) (n := 8) (hua a hA)
    have bb := cq_s_bd (f := cq_u b u) (K := 400) (n := 8) (hua b hB)
    have na : cq_n a 8 ≤ 8 := by rw [← cq_pc]; exact (mk_bc _ ha).2
    have nb : cq_n b 8 ≤ 8 := by rw [← cq_pc]; exact (mk_bc _ hb).2
    have hτκ : (τ : Int) * κ ≤ 500 ∧ 0 ≤ (τ : Int) * κ := by
      have : τ * κ ≤ 10 * 50 := Nat.mul_le_mul hτ hκ
      rw [← Int.natCast_mul]
      omega
    have hEb : E.natAbs ≤ 36000 := by
      have hz : ((τ : Int) * κ * ((cq_n a 8 : Int) - cq_n b 8)).natAbs ≤ 500 * 8 := by
        rw [Int.natAbs_mul]
        exact Nat.mul_le_mul (by omega) (by omega)
      generalize (τ : Int) * κ * ((cq_n a 8 : Int) - cq_n b 8) = w at hz hE
      omega
    have h7 : 10 ^ m ≤ 10 ^ 7 := Nat.pow_le_pow_right (by decide) (by omega)
    have hpos : 0 < 10 ^ m := Nat.pow_pos (by decide)
    have hEM : (E * ((10 ^ m : Nat) : Int)).natAbs ≤ 36000 * 10 ^ 7 := by
      rw [Int.natAbs_mul]
      exact Nat.mul_le_mul hEb h7
    have hlow := cq_low (X := E) (Y := 10) (M := 10 ^ m) hpos (by omega) (by omega) (by omega) (by decide)
    rw [show 10 * 10 ^ m = 10 ^ (m + 1) by rw [Nat.pow_succ, Nat.mul_comm], ← hS, ← hm] at hlow
    obtain ⟨g, g1, g2, g3, g4, g5⟩ := hlow
    refine ⟨Int64.ofInt E, cq_L 10, ?_, ?_⟩
    · unfold chM
      rw [if_neg (by decide), meanM, hah, cq_t64 (show τ < 2 ^ 31 by omega), cq_t64 (show κ < 2 ^ 31 by omega), (mk_bc _ ha).1, (mk_bc _ hb).1, cq_pc, cq_pc, cq_nI, cq_nI, ← Int32.ofInt_sub, cq_3264 (by omega) (by omega), cq_3264 (by omega) (by omega), show (10 : Int64) = Int64.ofInt 10 from rfl, ← Int64.ofInt_mul, ← Int64.ofInt_mul, ← Int64.ofInt_mul, ← Int64.ofInt_add, ← hE]
      rfl
    · show (∃ n, EuN n (cq_L (10 ^ pc (a ||| b))) (la (Int64.ofInt (cq_s (cq_M a b τ κ 1 u) 256))) (gcL 200 (cq_L (10 ^ pc (a ||| b))) (la (Int64.ofInt (cq_s (cq_M a b τ κ 1 u) 256))))) ∧ gcL 200 (cq_L (10 ^ pc (a ||| b))) (la (Int64.ofInt (cq_s (cq_M a b τ κ 1 u) 256))) ≠ 0 ∧ Int64.ofInt (cq_s (cq_M a b τ κ 1 u) 256) / gcL 200 (cq_L (10 ^ pc (a ||| b))) (la (Int64.ofInt (cq_s (cq_M a b τ κ 1 u) 256))) = _ ∧ cq_L (10 ^ pc (a ||| b)) / gcL 200 (cq_L (10 ^ pc (a ||| b))) (la (Int64.ofInt (cq_s (cq_M a b τ κ 1 u) 256))) = _
      rw [g1]
      exact ⟨g2, g3, g4, g5⟩
theorem rl_putF {t k c : Nat} {μ : MemT} (h : Rel t k c μ) (A B : Int64) : Rel t k c (putF A B μ) := rl_cong h rfl rfl rfl rfl rfl rfl (fun r h1 h2 => mset_ne _ _ (by omega)) (fun r h1 h2 p _ => by rw [putF, mset_ne _ _ (by omega)]) (fun f _ => rfl) (rl_z7 h) (rl_z8 h) (rl_z9 h)
theorem rl_chance {t k c : Nat} {μ : MemT} (h : Rel t k c μ) (x y z q w v : Int32) : ChOk x y z q w v (xChance x y z q w v μ).2 ∧ mChance x y z q w v (xChance x y z q w v μ).2 = (xChance x y z q w v μ).1 ∧ Rel t k c (xChance x y z q w v μ).2 := by
  have ht := tr_ht (rl_tw h)
  have e7 : μ 18 7 = nI t := tr_aps (rl_tw h)
  have e8 : μ 58 0 = nI t := (show mI μ 0 = nI t from tr_bps (rl_tw h))
  by_cases h1 : mbw x y (μ 18 7) = false
  · have h1' : arS x y (μ 58 0) = false := by rw [e8, ← mbw_ar ht, ← e7]; exact h1
    have ex : xChance x y z q w v μ = (-1000000000000000001, μ) := by rw [xChance, if_pos h1]
    rw [ex]
    refine ⟨fun g => ?_, ?_, h⟩
    · rw [h1'] at g; cases g
    · rw [mChance, if_pos h1']
  · have h1' : ¬ arS x y (μ 58 0) = false := by rw [e8, ← mbw_ar ht, ← e7]; exact h1
    by_cases h2 : (inR z 0 10 && (inR q 1 50 && (inR w 0 1 && inR v 0 1))) = false
    · have ex : xChance x y z q w v μ = (-1000000000000000002, μ) := by rw [xChance, if_neg h1, if_pos h2]
      rw [ex]
      refine ⟨fun g g1 g2 g3 g4 => ?_, ?_, h⟩
      · rw [g1, g2, g3, g4] at h2; cases h2
      · rw [mChance, if_neg h1', if_pos h2]
    · have ex : xChance x y z q w v μ = (if v = 0 then sw_jn (chM x y z q w μ 16 0) (chM x y z q w μ 16 1) else sw_jn (chM x y z q w μ 16 2) (chM x y z q w μ 16 3), chM x y z q w μ) := by rw [xChance, if_neg h1, if_neg h2]
      rw [ex]
      have h3 : mbw x y (nI t) = true := by rw [← e7]; simpa using h1
      unfold mbw at h3
      simp only [Bool.and_eq_true, Bool.not_eq_true', decide_eq_false_iff_not, decide_eq_true_eq] at h3
      obtain ⟨hx, hy, hx0, hy0, hxy⟩ := h3
      obtain ⟨a, ha, rfl, -⟩ := subI_ex ht hx
      obtain ⟨b, hb, rfl, -⟩ := subI_ex ht hy
      rw [Bool.not_eq_false, Bool.and_eq_true, Bool.and_eq_true, Bool.and_eq_true] at h2
      obtain ⟨z1, q1, w1, v1⟩ := h2
      obtain ⟨τ, hτ, rfl⟩ := inR_ex (n := 10) z1
      obtain ⟨κ, hκ, rfl⟩ : ∃ p : Nat, p ≤ 50 ∧ q = nI p := by
        have g : 1 ≤ q.toInt ∧ q.toInt ≤ 50 := of_decide_eq_true q1
        exact inR_ex (n := 50) (inR_t (by omega) g.2)
      obtain ⟨ω, hω, rfl⟩ := inR_ex (n := 1) w1
      have hab : a &&& b = 0 := by
        rw [nI_and] at hxy
        exact (nI_eq (b := 0) (Nat.lt_of_le_of_lt Nat.and_le_left (by omega)) (by decide)).mp hxy
      have ha0 : a ≠ 0 := fun g => hx0 (by rw [g]; rfl)
      obtain ⟨A, B, c1, c2, c3, c4, c5⟩ := cq_all h (sub_inT ht ha hx) (sub_inT ht hb hy) hab ha0 hτ hκ hω
      rw [c1]
      have e60 : putF A B μ 60 = μ 60 := rfl
      have e58 : putF A B μ 58 0 = μ 58 0 := rfl
      refine ⟨fun _ _ _ _ _ => ?_, ?_, rl_putF h A B⟩
      · rw [e60]
        obtain ⟨n, hn⟩ := c2
        exact ⟨n, hn, c3⟩
      · rw [mChance, e58, e60, if_neg h1', if_neg (by rw [z1, q1, w1, v1]; decide), c4, c5, (cq_put A B μ).1, (cq_put A B μ).2]
/-! THE CLAIM OUT OF ONE WALK OF THE LAW'S BODY. Your part is whole_start (and what it stands on); all else here is the same for every law, but numbers. -/
def R_law : String := "SwornPoundsLaw"
def lw_P (b : Addr) (xs : List Int32) (args : Array Value) (s : State) : Prop := args = #[.ref b] ∧ s.IntsAt b xs ∧ xs.length ≤ 448 ∧ (Jvm.Cond.and given_1 narrow_1).before args s = true
def lw_Q (_ : Array Value) (s : State) (o : Outcome) (t : State) : Prop := o = .returned (some (.int 1)) ∧ Framed s o t [] 600000 7302250
def lw_Z (below : List Frame) (a : Array Value) (s : State) : State → Prop := fun t => ∃ o, t.status = .running ∧ Ended t below o ∧ lw_Q a s o t
/-- the law's own end, with 1 on the stack, nothing written that was there before, its room as the claim has it -/
theorem lw_ret {p : Program} {l : Launch} {e : Env} {s : State} {m : MethodId} {below : List Frame} {meth : Method} {c : Code} {b : Nat} (hx : p.tables.exec = Jvm.exec) (hb : c.code = code) (hr : meth.sig.returnType = ret) (hlocks : meth.locks = false) {pc : Nat} {H : Heap} {ls : Array Slot} (hdg : decode code pc = .ok (.ireturn, 1)) : W p l e room_1 s m #[Value.ref b] below meth c H [] 600000 7302250 (lw_Z below #[Value.ref b] s) (F0 m pc ls [.int 1]) := by
  intro T hT X
  obtain ⟨fs, hret, hrun, hended, hW, hframe⟩ := X.leave (v := some (.int 1)) (hlocks := hlocks) (fun h => by rw [hr] at h; cases h)
  have hmeth' : T.vm.method? m = some meth := X.method'
  refine ⟨T.setFrames fs, ?_, .returned (some (.int 1)), hrun, hended, rfl, ⟨_, rfl⟩, hW, hframe⟩
  jvm_step X.here [X.here.top, hx, hb, hdg, hmeth', hr, ret, narrow_b1]
  (try refine ⟨rfl, ?_⟩); (try refine ⟨rfl, ?_⟩)
  first | (intro acts; rw [hret _ acts rfl rfl rfl]) | rw [hret _ _ rfl rfl rfl]
  exact Steps.refl _
/-- what holds at the law's entry: the machine, the code, the tables' words (any of lw_tbl by 'hts w (by decide +kernel)'), the script of L ints xs at the cell b, what the Statement gives of the start (any of its parts by flat_of_before) -/
def lw_At (p : Program) (s : State) (m : MethodId) (meth : Method) (c : Code) (b L : Nat) (xs : Nat → Int32) : Prop :=
  p.tables.exec = Jvm.exec ∧ c.code = code ∧ meth.sig.returnType = ret ∧ c.maxLocals = 4 ∧ s.vm.findClass R_law = some m.cls ∧ (∀ w ∈ lw_tbl, w.before #[Value.ref b] s = true) ∧ va_X b L xs s s.heap ∧ b < s.heap.size ∧ meth.locks = false ∧ (Jvm.Cond.and given_1 narrow_1).before #[Value.ref b] s = true
/-! the law's judgement: the script beside the cells -/
def la_κ (b L : Nat) (xs : Nat → Int32) : KT := fun _ _ s _ args below meth _ A cells slots Q => meth.sig.returnType = ret ∧ meth.locks = false ∧ cells = 600000 ∧ slots = 7302250 ∧ A = (fun q : Nat => s.heap.size ≤ q) ∧ Q = lw_Z below args s ∧ args = #[Value.ref b] ∧ va_X b L xs s s.heap ∧ b < s.heap.size
abbrev la_lv (G : GT) (b i : Nat) : List (Option Value) := [some (.ref b), some (.ref (G.2.1 0)), some (.ref (G.2.1 58)), some (.int (nI i))]
abbrev LY (l : Launch) (G : GT) (b L : Nat) (xs : Nat → Int32) (i : Nat) (μ : MemT) (pc : Nat) (st : List Value) : Prop := Yj l G room_1 (la_κ b L xs) cL_law 4 RL μ pc (la_lv G b i) st
abbrev RelE (μ : MemT) : Prop := ∃ t k c, Rel t k c μ
theorem la_ld {l : Launch} {G : GT} {b L : Nat} {xs : Nat → Int32} {μ : MemT} {pc : Nat} {lv : List (Option Value)} {st : List Value} {x : Int32} (d : decode cL_law pc = .ok (.iaload, 1)) (j : Nat) (hj : x = nI j) (hlt : j < L) (hL : L ≤ 448) (h : Yj l G room_1 (la_κ b L xs) cL_law 4 RL μ (pc + 1) lv (.int (xs j) :: st)) : Yj l G room_1 (la_κ b L xs) cL_law 4 RL μ pc lv (.int x :: .ref b :: st) := by
  intro p e s m args below meth c A cells slots Q hk F H locs ls hP hS hl
  obtain ⟨hr, hlk, hc1, hc2, hA, hQ, ha, hX, hbl⟩ := id hk
  have hcl : x.toNatClampNeg = j := by rw [hj]; exact nI_clamp (by omega)
  have hin : vp_in x L := by rw [hj]; exact vp_in_nI hlt (by omega)
  have h2 := h p e s m args below meth c A cells slots Q hk F H locs ls hP hS hl
  rw [← hcl] at h2
  exact va_sld F.1 F.2.1 hX hbl (by rw [hA]; exact Nat.not_le.mpr hbl) hS hin d h2
theorem la_len {l : Launch} {G : GT} {b L : Nat} {xs : Nat → Int32} {μ : MemT} {pc : Nat} {lv : List (Option Value)} {st : List Value} (d : decode cL_law pc = .ok (.arraylength, 1)) (h : Yj l G room_1 (la_κ b L xs) cL_law 4 RL μ (pc + 1) lv (.int (nI L) :: st)) : Yj l G room_1 (la_κ b L xs) cL_law 4 RL μ pc lv (.ref b :: st) := by
  intro p e s m args below meth c A cells slots Q hk F H locs ls hP hS hl
  obtain ⟨hr, hlk, hc1, hc2, hA, hQ, ha, hX, hbl⟩ := id hk
  exact va_slen F.1 F.2.1 hX hbl (by rw [hA]; exact Nat.not_le.mpr hbl) hS d (h p e s m args below meth c A cells slots Q hk F H locs ls hP hS hl)
theorem la_ret {l : Launch} {G : GT} {b L : Nat} {xs : Nat → Int32} {μ : MemT} {pc : Nat} {lv : List (Option Value)} (d : decode cL_law pc = .ok (.ireturn, 1)) : Yj l G room_1 (la_κ b L xs) cL_law 4 RL μ pc lv [.int 1] := by
  intro p e s m args below meth c A cells slots Q hk F H locs ls hP hS hl
  obtain ⟨hr, hlk, rfl, rfl, rfl, rfl, rfl, hX, hbl⟩ := hk
  exact va_forget (fun q hq => hS.2.2 q hq) (lw_ret F.1 F.2.1 hr hlk d)
/-! what the class leaves as it was -/
theorem hx_person (x s w d : Int32) (μ : MemT) : (xPerson x s w d μ).2 58 = μ 58 := by
  unfold xPerson
  split
  · rfl
  · split <;> rfl
theorem hx_leave (x : Int32) (μ : MemT) : (xLeave x μ).2 58 = μ 58 ∧ (xLeave x μ).2 62 = μ 62 := by
  unfold xLeave
  split <;> exact ⟨rfl, rfl⟩
theorem hx_marry (x y : Int32) (B : Bool) (μ : MemT) : (xMarry x y B μ).2 62 = μ 62 := by
  unfold xMarry
  split
  · rfl
  · split
    · split <;> rfl
    · split <;> rfl
theorem hx_say (c : Nat) (x : Int32) (μ : MemT) : (xSay c x μ).2 58 = μ 58 := by
  unfold xSay
  split
  · split <;> rfl
  · rfl
theorem hx_hold (c : Nat) (μ : MemT) : (xHold c μ).2 58 = μ 58 := by
  unfold xHold
  split
  · exact hold_58 c μ 58 (by decide)
  · rfl
theorem hx_judge (c : Nat) (w : Int32) (μ : MemT) : (xJudge c w μ).2 58 = μ 58 := by
  unfold xJudge
  split
  · split <;> exact hx_hold c μ
  · rfl
theorem hx_behind (c : Nat) (x w : Int32) (μ : MemT) : (xBehind c x w μ).2 58 = μ 58 := by
  unfold xBehind
  split
  · rfl
  · split
    · rfl
    · split <;> exact hx_hold c μ
theorem hx_done (c : Nat) (μ : MemT) : (xDone c μ).2 58 = μ 58 := by
  unfold xDone
  split
  · show mset (twCopy 18 42 (xHold c μ).2) 3 (upd ((xHold c μ).2 3) 1 0) 58 = μ 58
    rw [mset_ne _ _ (by decide), cp_ne (by decide)]
    exact hx_hold c μ
  · exact hx_hold c μ
theorem hx_seen (k : Nat) (x y z : Int32) (μ : MemT) : (xSeen k x y z μ).2 58 = μ 58 := by
  unfold xSeen
  split
  · rfl
  · split
    · rfl
    · split <;> rfl
theorem hx_airs (k : Nat) (w : Int32) (μ : MemT) : (xAirs k w μ).2 58 = μ 58 := by
  unfold xAirs
  split
  · exact find_ne (r := 58) (by decide) k μ
  · rfl
theorem hx_air (k : Nat) (x : Int32) (μ : MemT) : (xAir k x μ).2 58 = μ 58 := by
  unfold xAir
  split
  · exact find_ne (r := 58) (by decide) k μ
  · rfl
theorem hx_cpM (n : Nat) (m : MemT) {r : Nat} (h1 : r ≠ 11) (h2 : r ≠ 15) : cpM n m r = m r := by
  have tS : ∀ (T : Int32) (p q : Nat) (m : MemT), cpS n p T q m r = m r := fun T p q m => by
    unfold cpS
    split
    · exact tryM_ne n p q m h1 h2
    · rfl
  have tO : ∀ (T : Int32) (a j p : Nat) (m : MemT), itr (cpS n p T) a j m r = m r := by
    intro T a
    induction a with
    | zero => intro j p m; rfl
    | succ a ih => intro j p m; rw [itr_S, ih _ _ _, tS T p j m]
  have tA : ∀ (T : Int32) (a j : Nat) (m : MemT), itr (cpO n T) a j m r = m r := by
    intro T a
    induction a with
    | zero => intro j m; rfl
    | succ a ih => intro j m; rw [itr_S, ih _ _, cpO, tO]
  rw [cpM]
  split
  · exact mset_ne _ _ h1
  · rw [tA, mset_ne _ _ h1]
theorem hx_cross (k : Nat) (w : Int32) (μ : MemT) : (xCross k w μ).2 58 = μ 58 := by
  unfold xCross
  split
  · exact (hx_cpM _ _ (by decide) (by decide)).trans (find_ne (r := 58) (by decide) k μ)
  · rfl
theorem rl_p8 {t k c : Nat} {μ : MemT} (h : Rel t k c μ) : μ 58 0 = nI t := (show mI μ 0 = nI t from tr_bps (rl_tw h))
theorem rl_k8 {t k c : Nat} {μ : MemT} (h : Rel t k c μ) : μ 58 11 = nI k := (show mI μ 4 = nI k from tr_bsg (rl_tw h))
theorem hx_okM {t k c : Nat} {μ : MemT} (h : Rel t k c μ) : okM (μ 62) := by
  intro p hp
  have := tr_sp (rl_tw h) p hp
  have e : μ 22 p = μ 62 p := this.1
  have g : spOk t (μ 22) p := this.2
  rcases g with g | ⟨q, hq, -, g, -⟩
  · exact Or.inl (by rw [← e, g]; decide)
  · exact Or.inr ⟨q, hq, by rw [← e, g]⟩
set_option maxRecDepth 100000 in
set_option maxHeartbeats 4000000 in
theorem lc_person {l : Launch} {G : GT} {b L : Nat} {xs : Nat → Int32} {i t k c : Nat} {μ : MemT} (hL : L ≤ 448) (hi : i + 7 ≤ L) (h : Rel t k c μ) (nx : ∀ μ2, RelE μ2 → LY l G b L xs i μ2 1085 []) : LY l G b L xs i μ 168 [] := by
  have R := rl_person h (xs (i + 1)) (xs (i + 2)) (xs (i + 3)) (xs (i + 4))
  refine y_aload_n dL_law_168 rfl rfl ?_
  refine y_aload_n dL_law_169 rfl rfl ?_
  refine y_iload_n dL_law_170 rfl rfl ?_
  refine y_iconst dL_law_171 ic_1 ?_
  refine y_iadd dL_law_172 ?_
  refine la_ld dL_law_173 (i + 1) (nI_addN i 1) (by omega) hL ?_
  refine y_aload_n dL_law_174 rfl rfl ?_
  refine y_iload_n dL_law_175 rfl rfl ?_
  refine y_iconst dL_law_176 ic_2 ?_
  refine y_iadd dL_law_177 ?_
  refine la_ld dL_law_178 (i + 2) (nI_addN i 2) (by omega) hL ?_
  refine y_aload_n dL_law_179 rfl rfl ?_
  refine y_iload_n dL_law_180 rfl rfl ?_
  refine y_iconst dL_law_181 ic_3 ?_
  refine y_iadd dL_law_182 ?_
  refine la_ld dL_law_183 (i + 3) (nI_addN i 3) (by omega) hL ?_
  refine y_aload_n dL_law_184 rfl rfl ?_
  refine y_iload_n dL_law_185 rfl rfl ?_
  refine y_iconst dL_law_186 ic_4 ?_
  refine y_iadd dL_law_187 ?_
  refine la_ld dL_law_188 (i + 4) (nI_addN i 4) (by omega) hL ?_
  refine y_cV4 dL_law_189 meX7_person clX7 kd_0 wm_ml_L_13 (kX7_person) ⟨Nat.le_of_ble_eq_true rfl, Nat.le_of_ble_eq_true rfl⟩ ⟨rfl, rfl⟩ (Nat.le_of_ble_eq_true rfl) (fun v189 μ189 hp189 => ?_)
  obtain ⟨rfl, he189⟩ := hp189
  replace he189 := he189.symm
  subst he189
  refine y_ri ?_
  refine y_aload_n dL_law_192 rfl rfl ?_
  refine y_aload_n dL_law_193 rfl rfl ?_
  refine y_iload_n dL_law_194 rfl rfl ?_
  refine y_iconst dL_law_195 ic_1 ?_
  refine y_iadd dL_law_196 ?_
  refine la_ld dL_law_197 (i + 1) (nI_addN i 1) (by omega) hL ?_
  refine y_aload_n dL_law_198 rfl rfl ?_
  refine y_iload_n dL_law_199 rfl rfl ?_
  refine y_iconst dL_law_200 ic_2 ?_
  refine y_iadd dL_law_201 ?_
  refine la_ld dL_law_202 (i + 2) (nI_addN i 2) (by omega) hL ?_
  refine y_aload_n dL_law_203 rfl rfl ?_
  refine y_iload_n dL_law_204 rfl rfl ?_
  refine y_iconst dL_law_205 ic_3 ?_
  refine y_iadd dL_law_206 ?_
  refine la_ld dL_law_207 (i + 3) (nI_addN i 3) (by omega) hL ?_
  refine y_aload_n dL_law_208 rfl rfl ?_
  refine y_iload_n dL_law_209 rfl rfl ?_
  refine y_iconst dL_law_210 ic_4 ?_
  refine y_iadd dL_law_211 ?_
  refine la_ld dL_law_212 (i + 4) (nI_addN i 4) (by omega) hL ?_
  refine y_cV4 dL_law_213 meX8_person clX8 kd_58 wm_ml_L_17 (kX8_person (tr_ht (rl_tw h)) (by rw [hx_person]; exact rl_p8 h)) ⟨Nat.le_of_ble_eq_true rfl, Nat.le_of_ble_eq_true rfl⟩ ⟨rfl, rfl⟩ (Nat.le_of_ble_eq_true rfl) (fun v213 μ213 hp213 => ?_)
  obtain ⟨rfl, he213⟩ := hp213
  replace he213 := he213.symm
  subst he213
  refine y_ri ?_
  exact y_icmp_eq 1085 dL_law_216 (by decide) (fun _ => nx _ (R.2.elim (fun _ g => ⟨_, _, _, g⟩))) (fun hq => absurd (R.1).symm hq)
set_option maxRecDepth 100000 in
set_option maxHeartbeats 4000000 in
theorem lc_leave {l : Launch} {G : GT} {b L : Nat} {xs : Nat → Int32} {i t k c : Nat} {μ : MemT} (hL : L ≤ 448) (hi : i + 7 ≤ L) (h : Rel t k c μ) (nx : ∀ μ2, RelE μ2 → LY l G b L xs i μ2 1085 []) : LY l G b L xs i μ 221 [] := by
  have R := rl_leave h (xs (i + 1))
  refine y_aload_n dL_law_221 rfl rfl ?_
  refine y_aload_n dL_law_222 rfl rfl ?_
  refine y_iload_n dL_law_223 rfl rfl ?_
  refine y_iconst dL_law_224 ic_1 ?_
  refine y_iadd dL_law_225 ?_
  refine la_ld dL_law_226 (i + 1) (nI_addN i 1) (by omega) hL ?_
  refine y_cV1 dL_law_227 meX7_leave clX7 kd_0 wm_ml_L_18 (kX7_leave) ⟨Nat.le_of_ble_eq_true rfl, Nat.le_of_ble_eq_true rfl⟩ ⟨rfl, rfl⟩ (Nat.le_of_ble_eq_true rfl) (fun v227 μ227 hp227 => ?_)
  obtain ⟨rfl, he227⟩ := hp227
  replace he227 := he227.symm
  subst he227
  refine y_ri ?_
  refine y_aload_n dL_law_230 rfl rfl ?_
  refine y_aload_n dL_law_231 rfl rfl ?_
  refine y_iload_n dL_law_232 rfl rfl ?_
  refine y_iconst dL_law_233 ic_1 ?_
  refine y_iadd dL_law_234 ?_
  refine la_ld dL_law_235 (i + 1) (nI_addN i 1) (by omega) hL ?_
  refine y_cV1 dL_law_236 meX8_leave clX8 kd_58 wm_ml_L_22 (kX8_leave (tr_ht (rl_tw h)) (by rw [(hx_leave _ _).1]; exact rl_p8 h) (by rw [(hx_leave _ _).2]; exact hx_okM h)) ⟨Nat.le_of_ble_eq_true rfl, Nat.le_of_ble_eq_true rfl⟩ ⟨rfl, rfl⟩ (Nat.le_of_ble_eq_true rfl) (fun v236 μ236 hp236 => ?_)
  obtain ⟨rfl, he236⟩ := hp236
  replace he236 := he236.symm
  subst he236
  refine y_ri ?_
  exact y_icmp_eq 1085 dL_law_239 (by decide) (fun _ => nx _ (R.2.elim (fun _ g => ⟨_, _, _, g⟩))) (fun hq => absurd (R.1).symm hq)
set_option maxRecDepth 100000 in
set_option maxHeartbeats 4000000 in
theorem lc_marry {l : Launch} {G : GT} {b L : Nat} {xs : Nat → Int32} {i t k c : Nat} {μ : MemT} (hL : L ≤ 448) (hi : i + 7 ≤ L) (h : Rel t k c μ) (nx : ∀ μ2, RelE μ2 → LY l G b L xs i μ2 1085 []) : LY l G b L xs i μ 244 [] := by
  by_cases hB : xs (i + 3) = 0
  · have R := rl_marry h (xs (i + 1)) (xs (i + 2)) false
    refine y_aload_n dL_law_244 rfl rfl ?_
    refine y_aload_n dL_law_245 rfl rfl ?_
    refine y_iload_n dL_law_246 rfl rfl ?_
    refine y_iconst dL_law_247 ic_1 ?_
    refine y_iadd dL_law_248 ?_
    refine la_ld dL_law_249 (i + 1) (nI_addN i 1) (by omega) hL ?_
    refine y_aload_n dL_law_250 rfl rfl ?_
    refine y_iload_n dL_law_251 rfl rfl ?_
    refine y_iconst dL_law_252 ic_2 ?_
    refine y_iadd dL_law_253 ?_
    refine la_ld dL_law_254 (i + 2) (nI_addN i 2) (by omega) hL ?_
    refine y_aload_n dL_law_255 rfl rfl ?_
    refine y_iload_n dL_law_256 rfl rfl ?_
    refine y_iconst dL_law_257 ic_3 ?_
    refine y_iadd dL_law_258 ?_
    refine la_ld dL_law_259 (i + 3) (nI_addN i 3) (by omega) hL ?_
    refine y_if_eq 267 dL_law_260 (by decide) (fun _ => ?_) (fun hq => absurd hB hq)
    refine y_iconst dL_law_267 ic_0 ?_
    refine y_cV3 dL_law_268 meX7_marry clX7 kd_0 wm_ml_L_23 (kX7_marry (B := false)) ⟨Nat.le_of_ble_eq_true rfl, Nat.le_of_ble_eq_true rfl⟩ ⟨rfl, rfl⟩ (Nat.le_of_ble_eq_true rfl) (fun v268 μ268 hp268 => ?_)
    obtain ⟨rfl, he268⟩ := hp268
    replace he268 := he268.symm
    subst he268
    refine y_ri ?_
    refine y_aload_n dL_law_271 rfl rfl ?_
    refine y_aload_n dL_law_272 rfl rfl ?_
    refine y_iload_n dL_law_273 rfl rfl ?_
    refine y_iconst dL_law_274 ic_1 ?_
    refine y_iadd dL_law_275 ?_
    refine la_ld dL_law_276 (i + 1) (nI_addN i 1) (by omega) hL ?_
    refine y_aload_n dL_law_277 rfl rfl ?_
    refine y_iload_n dL_law_278 rfl rfl ?_
    refine y_iconst dL_law_279 ic_2 ?_
    refine y_iadd dL_law_280 ?_
    refine la_ld dL_law_281 (i + 2) (nI_addN i 2) (by omega) hL ?_
    refine y_aload_n dL_law_282 rfl rfl ?_
    refine y_iload_n dL_law_283 rfl rfl ?_
    refine y_iconst dL_law_284 ic_3 ?_
    refine y_iadd dL_law_285 ?_
    refine la_ld dL_law_286 (i + 3) (nI_addN i 3) (by omega) hL ?_
    refine y_if_eq 294 dL_law_287 (by decide) (fun _ => ?_) (fun hq => absurd hB hq)
    refine y_iconst dL_law_294 ic_0 ?_
    refine y_cV3 dL_law_295 meX8_marry clX8 kd_58 wm_ml_L_27 (kX8_marry (B := false) (by rw [hx_marry]; exact hx_okM h)) ⟨Nat.le_of_ble_eq_true rfl, Nat.le_of_ble_eq_true rfl⟩ ⟨rfl, rfl⟩ (Nat.le_of_ble_eq_true rfl) (fun v295 μ295 hp295 => ?_)
    obtain ⟨rfl, he295⟩ := hp295
    replace he295 := he295.symm
    subst he295
    refine y_ri ?_
    exact y_icmp_eq 1085 dL_law_298 (by decide) (fun _ => nx _ (⟨_, _, _, R.2⟩)) (fun hq => absurd (R.1).symm hq)
  · have R := rl_marry h (xs (i + 1)) (xs (i + 2)) true
    refine y_aload_n dL_law_244 rfl rfl ?_
    refine y_aload_n dL_law_245 rfl rfl ?_
    refine y_iload_n dL_law_246 rfl rfl ?_
    refine y_iconst dL_law_247 ic_1 ?_
    refine y_iadd dL_law_248 ?_
    refine la_ld dL_law_249 (i + 1) (nI_addN i 1) (by omega) hL ?_
    refine y_aload_n dL_law_250 rfl rfl ?_
    refine y_iload_n dL_law_251 rfl rfl ?_
    refine y_iconst dL_law_252 ic_2 ?_
    refine y_iadd dL_law_253 ?_
    refine la_ld dL_law_254 (i + 2) (nI_addN i 2) (by omega) hL ?_
    refine y_aload_n dL_law_255 rfl rfl ?_
    refine y_iload_n dL_law_256 rfl rfl ?_
    refine y_iconst dL_law_257 ic_3 ?_
    refine y_iadd dL_law_258 ?_
    refine la_ld dL_law_259 (i + 3) (nI_addN i 3) (by omega) hL ?_
    refine y_if_eq 267 dL_law_260 (by decide) (fun hq => absurd hq hB) (fun _ => ?_)
    refine y_iconst dL_law_263 ic_1 ?_
    refine y_goto 268 dL_law_264 (by decide) ?_
    refine y_cV3 dL_law_268 meX7_marry clX7 kd_0 wm_ml_L_23 (kX7_marry (B := true)) ⟨Nat.le_of_ble_eq_true rfl, Nat.le_of_ble_eq_true rfl⟩ ⟨rfl, rfl⟩ (Nat.le_of_ble_eq_true rfl) (fun v268 μ268 hp268 => ?_)
    obtain ⟨rfl, he268⟩ := hp268
    replace he268 := he268.symm
    subst he268
    refine y_ri ?_
    refine y_aload_n dL_law_271 rfl rfl ?_
    refine y_aload_n dL_law_272 rfl rfl ?_
    refine y_iload_n dL_law_273 rfl rfl ?_
    refine y_iconst dL_law_274 ic_1 ?_
    refine y_iadd dL_law_275 ?_
    refine la_ld dL_law_276 (i + 1) (nI_addN i 1) (by omega) hL ?_
    refine y_aload_n dL_law_277 rfl rfl ?_
    refine y_iload_n dL_law_278 rfl rfl ?_
    refine y_iconst dL_law_279 ic_2 ?_
    refine y_iadd dL_law_280 ?_
    refine la_ld dL_law_281 (i + 2) (nI_addN i 2) (by omega) hL ?_
    refine y_aload_n dL_law_282 rfl rfl ?_
    refine y_iload_n dL_law_283 rfl rfl ?_
    refine y_iconst dL_law_284 ic_3 ?_
    refine y_iadd dL_law_285 ?_
    refine la_ld dL_law_286 (i + 3) (nI_addN i 3) (by omega) hL ?_
    refine y_if_eq 294 dL_law_287 (by decide) (fun hq => absurd hq hB) (fun _ => ?_)
    refine y_iconst dL_law_290 ic_1 ?_
    refine y_goto 295 dL_law_291 (by decide) ?_
    refine y_cV3 dL_law_295 meX8_marry clX8 kd_58 wm_ml_L_27 (kX8_marry (B := true) (by rw [hx_marry]; exact hx_okM h)) ⟨Nat.le_of_ble_eq_true rfl, Nat.le_of_ble_eq_true rfl⟩ ⟨rfl, rfl⟩ (Nat.le_of_ble_eq_true rfl) (fun v295 μ295 hp295 => ?_)
    obtain ⟨rfl, he295⟩ := hp295
    replace he295 := he295.symm
    subst he295
    refine y_ri ?_
    exact y_icmp_eq 1085 dL_law_298 (by decide) (fun _ => nx _ (⟨_, _, _, R.2⟩)) (fun hq => absurd (R.1).symm hq)
set_option maxRecDepth 100000 in
set_option maxHeartbeats 4000000 in
theorem lc_limit {l : Launch} {G : GT} {b L : Nat} {xs : Nat → Int32} {i t k c : Nat} {μ : MemT} (hL : L ≤ 448) (hi : i + 7 ≤ L) (h : Rel t k c μ) (nx : ∀ μ2, RelE μ2 → LY l G b L xs i μ2 1085 []) : LY l G b L xs i μ 303 [] := by
  have R := rl_limit h (xs (i + 1))
  refine y_aload_n dL_law_303 rfl rfl ?_
  refine y_aload_n dL_law_304 rfl rfl ?_
  refine y_iload_n dL_law_305 rfl rfl ?_
  refine y_iconst dL_law_306 ic_1 ?_
  refine y_iadd dL_law_307 ?_
  refine la_ld dL_law_308 (i + 1) (nI_addN i 1) (by omega) hL ?_
  refine y_cV1 dL_law_309 meX7_limit clX7 kd_0 wm_ml_L_28 (kX7_limit) ⟨Nat.le_of_ble_eq_true rfl, Nat.le_of_ble_eq_true rfl⟩ ⟨rfl, rfl⟩ (Nat.le_of_ble_eq_true rfl) (fun v309 μ309 hp309 => ?_)
  obtain ⟨rfl, he309⟩ := hp309
  replace he309 := he309.symm
  subst he309
  refine y_ri ?_
  refine y_aload_n dL_law_312 rfl rfl ?_
  refine y_aload_n dL_law_313 rfl rfl ?_
  refine y_iload_n dL_law_314 rfl rfl ?_
  refine y_iconst dL_law_315 ic_1 ?_
  refine y_iadd dL_law_316 ?_
  refine la_ld dL_law_317 (i + 1) (nI_addN i 1) (by omega) hL ?_
  refine y_cV1 dL_law_318 meX8_limit clX8 kd_58 wm_ml_L_31 (kX8_limit) ⟨Nat.le_of_ble_eq_true rfl, Nat.le_of_ble_eq_true rfl⟩ ⟨rfl, rfl⟩ (Nat.le_of_ble_eq_true rfl) (fun v318 μ318 hp318 => ?_)
  obtain ⟨rfl, he318⟩ := hp318
  replace he318 := he318.symm
  subst he318
  refine y_ri ?_
  exact y_icmp_eq 1085 dL_law_321 (by decide) (fun _ => nx _ (⟨_, _, _, R.2⟩)) (fun hq => absurd (R.1).symm hq)
set_option maxRecDepth 100000 in
set_option maxHeartbeats 4000000 in
theorem lc_say {l : Launch} {G : GT} {b L : Nat} {xs : Nat → Int32} {i t k c : Nat} {μ : MemT} (hL : L ≤ 448) (hi : i + 7 ≤ L) (h : Rel t k c μ) (nx : ∀ μ2, RelE μ2 → LY l G b L xs i μ2 1085 []) : LY l G b L xs i μ 326 [] := by
  have R := rl_say h (xs (i + 1))
  refine y_aload_n dL_law_326 rfl rfl ?_
  refine y_aload_n dL_law_327 rfl rfl ?_
  refine y_iload_n dL_law_328 rfl rfl ?_
  refine y_iconst dL_law_329 ic_1 ?_
  refine y_iadd dL_law_330 ?_
  refine la_ld dL_law_331 (i + 1) (nI_addN i 1) (by omega) hL ?_
  refine y_cV1 dL_law_332 meX7_say clX7 kd_0 wm_ml_L_32 (kX7_say (pr_hc (rl_pd h)) (by exact pr_ac (rl_pd h))) ⟨Nat.le_of_ble_eq_true rfl, Nat.le_of_ble_eq_true rfl⟩ ⟨rfl, rfl⟩ (Nat.le_of_ble_eq_true rfl) (fun v332 μ332 hp332 => ?_)
  obtain ⟨rfl, he332⟩ := hp332
  replace he332 := he332.symm
  subst he332
  refine y_ri ?_
  refine y_aload_n dL_law_335 rfl rfl ?_
  refine y_aload_n dL_law_336 rfl rfl ?_
  refine y_iload_n dL_law_337 rfl rfl ?_
  refine y_iconst dL_law_338 ic_1 ?_
  refine y_iadd dL_law_339 ?_
  refine la_ld dL_law_340 (i + 1) (nI_addN i 1) (by omega) hL ?_
  refine y_cV1 dL_law_341 meX8_say clX8 kd_58 wm_ml_L_35 (kX8_say (pr_hc (rl_pd h)) (by rw [hx_say]; exact pr_bc (rl_pd h))) ⟨Nat.le_of_ble_eq_true rfl, Nat.le_of_ble_eq_true rfl⟩ ⟨rfl, rfl⟩ (Nat.le_of_ble_eq_true rfl) (fun v341 μ341 hp341 => ?_)
  obtain ⟨rfl, he341⟩ := hp341
  replace he341 := he341.symm
  subst he341
  refine y_ri ?_
  exact y_icmp_eq 1085 dL_law_344 (by decide) (fun _ => nx _ (R.2.elim (fun _ g => ⟨_, _, _, g⟩))) (fun hq => absurd (R.1).symm hq)
set_option maxRecDepth 100000 in
set_option maxHeartbeats 4000000 in
theorem lc_wipe {l : Launch} {G : GT} {b L : Nat} {xs : Nat → Int32} {i t k c : Nat} {μ : MemT} (hL : L ≤ 448) (hi : i + 7 ≤ L) (h : Rel t k c μ) (nx : ∀ μ2, RelE μ2 → LY l G b L xs i μ2 1085 []) : LY l G b L xs i μ 349 [] := by
  have R := rl_wipe h
  refine y_aload_n dL_law_349 rfl rfl ?_
  refine y_cV0 dL_law_350 meX7_wipe clX7 kd_0 wm_ml_L_36 (kX7_wipe) ⟨Nat.le_of_ble_eq_true rfl, Nat.le_of_ble_eq_true rfl⟩ ⟨rfl, rfl⟩ (Nat.le_of_ble_eq_true rfl) (fun v350 μ350 hp350 => ?_)
  obtain ⟨rfl, he350⟩ := hp350
  replace he350 := he350.symm
  subst he350
  refine y_ri ?_
  refine y_aload_n dL_law_353 rfl rfl ?_
  refine y_cV0 dL_law_354 meX8_wipe clX8 kd_58 wm_ml_L_40 (kX8_wipe) ⟨Nat.le_of_ble_eq_true rfl, Nat.le_of_ble_eq_true rfl⟩ ⟨rfl, rfl⟩ (Nat.le_of_ble_eq_true rfl) (fun v354 μ354 hp354 => ?_)
  obtain ⟨rfl, he354⟩ := hp354
  replace he354 := he354.symm
  subst he354
  refine y_ri ?_
  exact y_icmp_eq 1085 dL_law_357 (by decide) (fun _ => nx _ (⟨_, _, _, R.2⟩)) (fun hq => absurd (R.1).symm hq)
set_option maxRecDepth 100000 in
set_option maxHeartbeats 4000000 in
theorem lc_fault {l : Launch} {G : GT} {b L : Nat} {xs : Nat → Int32} {i t k c : Nat} {μ : MemT} (hL : L ≤ 448) (hi : i + 7 ≤ L) (h : Rel t k c μ) (nx : ∀ μ2, RelE μ2 → LY l G b L xs i μ2 1085 []) : LY l G b L xs i μ 362 [] := by
  have R := rl_fault h
  refine y_aload_n dL_law_362 rfl rfl ?_
  refine y_cV0 dL_law_363 meX7_fault clX7 kd_0 wm_ml_L_41 (kX7_fault (pr_hc (rl_pd h)) (by exact pr_ac (rl_pd h))) ⟨Nat.le_of_ble_eq_true rfl, Nat.le_of_ble_eq_true rfl⟩ ⟨rfl, rfl⟩ (Nat.le_of_ble_eq_true rfl) (fun v363 μ363 hp363 => ?_)
  obtain ⟨rfl, he363⟩ := hp363
  replace he363 := he363.symm
  subst he363
  refine y_ri ?_
  refine y_aload_n dL_law_366 rfl rfl ?_
  refine y_cV0 dL_law_367 meX8_fault clX8 kd_58 wm_ml_L_44 (kX8_fault (pr_hc (rl_pd h)) (by exact pr_bc (rl_pd h))) ⟨Nat.le_of_ble_eq_true rfl, Nat.le_of_ble_eq_true rfl⟩ ⟨rfl, rfl⟩ (Nat.le_of_ble_eq_true rfl) (fun v367 μ367 hp367 => ?_)
  obtain ⟨rfl, he367⟩ := hp367
  replace he367 := he367.symm
  subst he367
  refine y_ri ?_
  exact y_icmp_eq 1085 dL_law_370 (by decide) (fun _ => nx _ (⟨_, _, _, R.2⟩)) (fun hq => absurd (R.1).symm hq)
set_option maxRecDepth 100000 in
set_option maxHeartbeats 4000000 in
theorem lc_judge {l : Launch} {G : GT} {b L : Nat} {xs : Nat → Int32} {i t k c : Nat} {μ : MemT} (hL : L ≤ 448) (hi : i + 7 ≤ L) (h : Rel t k c μ) (nx : ∀ μ2, RelE μ2 → LY l G b L xs i μ2 1085 []) : LY l G b L xs i μ 375 [] := by
  have R := rl_judge h (xs (i + 1))
  refine y_aload_n dL_law_375 rfl rfl ?_
  refine y_aload_n dL_law_376 rfl rfl ?_
  refine y_iload_n dL_law_377 rfl rfl ?_
  refine y_iconst dL_law_378 ic_1 ?_
  refine y_iadd dL_law_379 ?_
  refine la_ld dL_law_380 (i + 1) (nI_addN i 1) (by omega) hL ?_
  refine y_cV1 dL_law_381 meX7_judge clX7 kd_0 wm_ml_L_45 (kX7_judge (pr_hc (rl_pd h)) (by exact pr_ac (rl_pd h))) ⟨Nat.le_of_ble_eq_true rfl, Nat.le_of_ble_eq_true rfl⟩ ⟨rfl, rfl⟩ (Nat.le_of_ble_eq_true rfl) (fun v381 μ381 hp381 => ?_)
  obtain ⟨rfl, he381⟩ := hp381
  replace he381 := he381.symm
  subst he381
  refine y_ri ?_
  refine y_aload_n dL_law_384 rfl rfl ?_
  refine y_aload_n dL_law_385 rfl rfl ?_
  refine y_iload_n dL_law_386 rfl rfl ?_
  refine y_iconst dL_law_387 ic_1 ?_
  refine y_iadd dL_law_388 ?_
  refine la_ld dL_law_389 (i + 1) (nI_addN i 1) (by omega) hL ?_
  refine y_cV1 dL_law_390 meX8_judge clX8 kd_58 wm_ml_L_48 (kX8_judge (pr_hc (rl_pd h)) (by rw [hx_judge]; exact pr_bc (rl_pd h))) ⟨Nat.le_of_ble_eq_true rfl, Nat.le_of_ble_eq_true rfl⟩ ⟨rfl, rfl⟩ (Nat.le_of_ble_eq_true rfl) (fun v390 μ390 hp390 => ?_)
  obtain ⟨rfl, he390⟩ := hp390
  replace he390 := he390.symm
  subst he390
  refine y_ri ?_
  exact y_icmp_eq 1085 dL_law_393 (by decide) (fun _ => nx _ (⟨_, _, _, R.2⟩)) (fun hq => absurd (R.1).symm hq)
set_option maxRecDepth 100000 in
set_option maxHeartbeats 4000000 in
theorem lc_behind {l : Launch} {G : GT} {b L : Nat} {xs : Nat → Int32} {i t k c : Nat} {μ : MemT} (hL : L ≤ 448) (hi : i + 7 ≤ L) (h : Rel t k c μ) (nx : ∀ μ2, RelE μ2 → LY l G b L xs i μ2 1085 []) : LY l G b L xs i μ 398 [] := by
  have R := rl_behind h (xs (i + 1)) (xs (i + 2))
  refine y_aload_n dL_law_398 rfl rfl ?_
  refine y_aload_n dL_law_399 rfl rfl ?_
  refine y_iload_n dL_law_400 rfl rfl ?_
  refine y_iconst dL_law_401 ic_1 ?_
  refine y_iadd dL_law_402 ?_
  refine la_ld dL_law_403 (i + 1) (nI_addN i 1) (by omega) hL ?_
  refine y_aload_n dL_law_404 rfl rfl ?_
  refine y_iload_n dL_law_405 rfl rfl ?_
  refine y_iconst dL_law_406 ic_2 ?_
  refine y_iadd dL_law_407 ?_
  refine la_ld dL_law_408 (i + 2) (nI_addN i 2) (by omega) hL ?_
  refine y_cV2 dL_law_409 meX7_behind clX7 kd_0 wm_ml_L_49 (kX7_behind (pr_hc (rl_pd h)) (by exact pr_ac (rl_pd h))) ⟨Nat.le_of_ble_eq_true rfl, Nat.le_of_ble_eq_true rfl⟩ ⟨rfl, rfl⟩ (Nat.le_of_ble_eq_true rfl) (fun v409 μ409 hp409 => ?_)
  obtain ⟨rfl, he409⟩ := hp409
  replace he409 := he409.symm
  subst he409
  refine y_ri ?_
  refine y_aload_n dL_law_412 rfl rfl ?_
  refine y_aload_n dL_law_413 rfl rfl ?_
  refine y_iload_n dL_law_414 rfl rfl ?_
  refine y_iconst dL_law_415 ic_1 ?_
  refine y_iadd dL_law_416 ?_
  refine la_ld dL_law_417 (i + 1) (nI_addN i 1) (by omega) hL ?_
  refine y_aload_n dL_law_418 rfl rfl ?_
  refine y_iload_n dL_law_419 rfl rfl ?_
  refine y_iconst dL_law_420 ic_2 ?_
  refine y_iadd dL_law_421 ?_
  refine la_ld dL_law_422 (i + 2) (nI_addN i 2) (by omega) hL ?_
  refine y_cV2 dL_law_423 meX8_behind clX8 kd_58 wm_ml_L_53 (kX8_behind (pr_hc (rl_pd h)) (by rw [hx_behind]; exact pr_bc (rl_pd h))) ⟨Nat.le_of_ble_eq_true rfl, Nat.le_of_ble_eq_true rfl⟩ ⟨rfl, rfl⟩ (Nat.le_of_ble_eq_true rfl) (fun v423 μ423 hp423 => ?_)
  obtain ⟨rfl, he423⟩ := hp423
  replace he423 := he423.symm
  subst he423
  refine y_ri ?_
  exact y_icmp_eq 1085 dL_law_426 (by decide) (fun _ => nx _ (⟨_, _, _, R.2⟩)) (fun hq => absurd (R.1).symm hq)
set_option maxRecDepth 100000 in
set_option maxHeartbeats 4000000 in
theorem lc_done {l : Launch} {G : GT} {b L : Nat} {xs : Nat → Int32} {i t k c : Nat} {μ : MemT} (hL : L ≤ 448) (hi : i + 7 ≤ L) (h : Rel t k c μ) (nx : ∀ μ2, RelE μ2 → LY l G b L xs i μ2 1085 []) : LY l G b L xs i μ 431 [] := by
  have R := rl_done h
  refine y_aload_n dL_law_431 rfl rfl ?_
  refine y_cV0 dL_law_432 meX7_done clX7 kd_0 wm_ml_L_54 (kX7_done (pr_hc (rl_pd h)) (by exact pr_ac (rl_pd h))) ⟨Nat.le_of_ble_eq_true rfl, Nat.le_of_ble_eq_true rfl⟩ ⟨rfl, rfl⟩ (Nat.le_of_ble_eq_true rfl) (fun v432 μ432 hp432 => ?_)
  obtain ⟨rfl, he432⟩ := hp432
  replace he432 := he432.symm
  subst he432
  refine y_ri ?_
  refine y_aload_n dL_law_435 rfl rfl ?_
  refine y_cV0 dL_law_436 meX8_done clX8 kd_58 wm_ml_L_57 (kX8_done (pr_hc (rl_pd h)) (by rw [hx_done]; exact pr_bc (rl_pd h))) ⟨Nat.le_of_ble_eq_true rfl, Nat.le_of_ble_eq_true rfl⟩ ⟨rfl, rfl⟩ (Nat.le_of_ble_eq_true rfl) (fun v436 μ436 hp436 => ?_)
  obtain ⟨rfl, he436⟩ := hp436
  replace he436 := he436.symm
  subst he436
  refine y_ri ?_
  exact y_icmp_eq 1085 dL_law_439 (by decide) (fun _ => nx _ (R.2.elim (fun _ g => ⟨_, _, _, g⟩))) (fun hq => absurd (R.1).symm hq)
set_option maxRecDepth 100000 in
set_option maxHeartbeats 4000000 in
theorem lc_weighs {l : Launch} {G : GT} {b L : Nat} {xs : Nat → Int32} {i t k c : Nat} {μ : MemT} (hL : L ≤ 448) (hi : i + 7 ≤ L) (h : Rel t k c μ) (nx : ∀ μ2, RelE μ2 → LY l G b L xs i μ2 1085 []) : LY l G b L xs i μ 444 [] := by
  have R := rl_weighs h (xs (i + 1))
  refine y_aload_n dL_law_444 rfl rfl ?_
  refine y_aload_n dL_law_445 rfl rfl ?_
  refine y_iload_n dL_law_446 rfl rfl ?_
  refine y_iconst dL_law_447 ic_1 ?_
  refine y_iadd dL_law_448 ?_
  refine la_ld dL_law_449 (i + 1) (nI_addN i 1) (by omega) hL ?_
  refine y_cV1 dL_law_450 meX7_weighs clX7 kd_0 wm_ml_L_58 (kX7_weighs) ⟨Nat.le_of_ble_eq_true rfl, Nat.le_of_ble_eq_true rfl⟩ ⟨rfl, rfl⟩ (Nat.le_of_ble_eq_true rfl) (fun v450 μ450 hp450 => ?_)
  obtain ⟨rfl, he450⟩ := hp450
  replace he450 := he450.symm
  subst he450
  refine y_ri ?_
  refine y_aload_n dL_law_453 rfl rfl ?_
  refine y_aload_n dL_law_454 rfl rfl ?_
  refine y_iload_n dL_law_455 rfl rfl ?_
  refine y_iconst dL_law_456 ic_1 ?_
  refine y_iadd dL_law_457 ?_
  refine la_ld dL_law_458 (i + 1) (nI_addN i 1) (by omega) hL ?_
  refine y_cV1 dL_law_459 meX8_weighs clX8 kd_58 wm_ml_L_61 (kX8_weighs) ⟨Nat.le_of_ble_eq_true rfl, Nat.le_of_ble_eq_true rfl⟩ ⟨rfl, rfl⟩ (Nat.le_of_ble_eq_true rfl) (fun v459 μ459 hp459 => ?_)
  obtain ⟨rfl, he459⟩ := hp459
  replace he459 := he459.symm
  subst he459
  refine y_ri ?_
  exact y_icmp_eq 1085 dL_law_462 (by decide) (fun _ => nx _ (⟨_, _, _, h⟩)) (fun hq => absurd (R).symm hq)
set_option maxRecDepth 100000 in
set_option maxHeartbeats 4000000 in
theorem lc_off {l : Launch} {G : GT} {b L : Nat} {xs : Nat → Int32} {i t k c : Nat} {μ : MemT} (hL : L ≤ 448) (hi : i + 7 ≤ L) (h : Rel t k c μ) (nx : ∀ μ2, RelE μ2 → LY l G b L xs i μ2 1085 []) : LY l G b L xs i μ 467 [] := by
  have R := rl_off h (xs (i + 1))
  refine y_aload_n dL_law_467 rfl rfl ?_
  refine y_aload_n dL_law_468 rfl rfl ?_
  refine y_iload_n dL_law_469 rfl rfl ?_
  refine y_iconst dL_law_470 ic_1 ?_
  refine y_iadd dL_law_471 ?_
  refine la_ld dL_law_472 (i + 1) (nI_addN i 1) (by omega) hL ?_
  refine y_cV1 dL_law_473 meX7_off clX7 kd_0 wm_ml_L_62 (kX7_off) ⟨Nat.le_of_ble_eq_true rfl, Nat.le_of_ble_eq_true rfl⟩ ⟨rfl, rfl⟩ (Nat.le_of_ble_eq_true rfl) (fun v473 μ473 hp473 => ?_)
  obtain ⟨rfl, he473⟩ := hp473
  replace he473 := he473.symm
  subst he473
  refine y_ri ?_
  refine y_aload_n dL_law_476 rfl rfl ?_
  refine y_aload_n dL_law_477 rfl rfl ?_
  refine y_iload_n dL_law_478 rfl rfl ?_
  refine y_iconst dL_law_479 ic_1 ?_
  refine y_iadd dL_law_480 ?_
  refine la_ld dL_law_481 (i + 1) (nI_addN i 1) (by omega) hL ?_
  refine y_cV1 dL_law_482 meX8_off clX8 kd_58 wm_ml_L_65 (kX8_off) ⟨Nat.le_of_ble_eq_true rfl, Nat.le_of_ble_eq_true rfl⟩ ⟨rfl, rfl⟩ (Nat.le_of_ble_eq_true rfl) (fun v482 μ482 hp482 => ?_)
  obtain ⟨rfl, he482⟩ := hp482
  replace he482 := he482.symm
  subst he482
  refine y_ri ?_
  exact y_icmp_eq 1085 dL_law_485 (by decide) (fun _ => nx _ (⟨_, _, _, h⟩)) (fun hq => absurd (R).symm hq)
set_option maxRecDepth 100000 in
set_option maxHeartbeats 4000000 in
theorem lc_out {l : Launch} {G : GT} {b L : Nat} {xs : Nat → Int32} {i t k c : Nat} {μ : MemT} (hL : L ≤ 448) (hi : i + 7 ≤ L) (h : Rel t k c μ) (nx : ∀ μ2, RelE μ2 → LY l G b L xs i μ2 1085 []) : LY l G b L xs i μ 490 [] := by
  have R := rl_out h (xs (i + 1))
  refine y_aload_n dL_law_490 rfl rfl ?_
  refine y_aload_n dL_law_491 rfl rfl ?_
  refine y_iload_n dL_law_492 rfl rfl ?_
  refine y_iconst dL_law_493 ic_1 ?_
  refine y_iadd dL_law_494 ?_
  refine la_ld dL_law_495 (i + 1) (nI_addN i 1) (by omega) hL ?_
  refine y_cV1 dL_law_496 meX7_out clX7 kd_0 wm_ml_L_66 (kX7_out) ⟨Nat.le_of_ble_eq_true rfl, Nat.le_of_ble_eq_true rfl⟩ ⟨rfl, rfl⟩ (Nat.le_of_ble_eq_true rfl) (fun v496 μ496 hp496 => ?_)
  obtain ⟨rfl, he496⟩ := hp496
  replace he496 := he496.symm
  subst he496
  refine y_ri ?_
  refine y_aload_n dL_law_499 rfl rfl ?_
  refine y_aload_n dL_law_500 rfl rfl ?_
  refine y_iload_n dL_law_501 rfl rfl ?_
  refine y_iconst dL_law_502 ic_1 ?_
  refine y_iadd dL_law_503 ?_
  refine la_ld dL_law_504 (i + 1) (nI_addN i 1) (by omega) hL ?_
  refine y_cV1 dL_law_505 meX8_out clX8 kd_58 wm_ml_L_69 (kX8_out) ⟨Nat.le_of_ble_eq_true rfl, Nat.le_of_ble_eq_true rfl⟩ ⟨rfl, rfl⟩ (Nat.le_of_ble_eq_true rfl) (fun v505 μ505 hp505 => ?_)
  obtain ⟨rfl, he505⟩ := hp505
  replace he505 := he505.symm
  subst he505
  refine y_ri ?_
  exact y_icmp_eq 1085 dL_law_508 (by decide) (fun _ => nx _ (⟨_, _, _, R.2⟩)) (fun hq => absurd (R.1).symm hq)
set_option maxRecDepth 100000 in
set_option maxHeartbeats 4000000 in
theorem lc_even {l : Launch} {G : GT} {b L : Nat} {xs : Nat → Int32} {i t k c : Nat} {μ : MemT} (hL : L ≤ 448) (hi : i + 7 ≤ L) (h : Rel t k c μ) (nx : ∀ μ2, RelE μ2 → LY l G b L xs i μ2 1085 []) : LY l G b L xs i μ 513 [] := by
  have R := rl_even h (xs (i + 1)) (xs (i + 2))
  refine y_aload_n dL_law_513 rfl rfl ?_
  refine y_aload_n dL_law_514 rfl rfl ?_
  refine y_iload_n dL_law_515 rfl rfl ?_
  refine y_iconst dL_law_516 ic_1 ?_
  refine y_iadd dL_law_517 ?_
  refine la_ld dL_law_518 (i + 1) (nI_addN i 1) (by omega) hL ?_
  refine y_aload_n dL_law_519 rfl rfl ?_
  refine y_iload_n dL_law_520 rfl rfl ?_
  refine y_iconst dL_law_521 ic_2 ?_
  refine y_iadd dL_law_522 ?_
  refine la_ld dL_law_523 (i + 2) (nI_addN i 2) (by omega) hL ?_
  refine y_cV2 dL_law_524 meX7_even clX7 kd_0 wm_ml_L_70 (kX7_even) ⟨Nat.le_of_ble_eq_true rfl, Nat.le_of_ble_eq_true rfl⟩ ⟨rfl, rfl⟩ (Nat.le_of_ble_eq_true rfl) (fun v524 μ524 hp524 => ?_)
  obtain ⟨rfl, he524⟩ := hp524
  replace he524 := he524.symm
  subst he524
  refine y_ri ?_
  refine y_aload_n dL_law_527 rfl rfl ?_
  refine y_aload_n dL_law_528 rfl rfl ?_
  refine y_iload_n dL_law_529 rfl rfl ?_
  refine y_iconst dL_law_530 ic_1 ?_
  refine y_iadd dL_law_531 ?_
  refine la_ld dL_law_532 (i + 1) (nI_addN i 1) (by omega) hL ?_
  refine y_aload_n dL_law_533 rfl rfl ?_
  refine y_iload_n dL_law_534 rfl rfl ?_
  refine y_iconst dL_law_535 ic_2 ?_
  refine y_iadd dL_law_536 ?_
  refine la_ld dL_law_537 (i + 2) (nI_addN i 2) (by omega) hL ?_
  refine y_cV2 dL_law_538 meX8_even clX8 kd_58 wm_ml_L_73 (kX8_even) ⟨Nat.le_of_ble_eq_true rfl, Nat.le_of_ble_eq_true rfl⟩ ⟨rfl, rfl⟩ (Nat.le_of_ble_eq_true rfl) (fun v538 μ538 hp538 => ?_)
  obtain ⟨rfl, he538⟩ := hp538
  replace he538 := he538.symm
  subst he538
  refine y_ri ?_
  exact y_icmp_eq 1085 dL_law_541 (by decide) (fun _ => nx _ (⟨_, _, _, R.2⟩)) (fun hq => absurd (R.1).symm hq)
set_option maxRecDepth 100000 in
set_option maxHeartbeats 4000000 in
theorem lc_make {l : Launch} {G : GT} {b L : Nat} {xs : Nat → Int32} {i t k c : Nat} {μ : MemT} (hL : L ≤ 448) (hi : i + 7 ≤ L) (h : Rel t k c μ) (nx : ∀ μ2, RelE μ2 → LY l G b L xs i μ2 1085 []) : LY l G b L xs i μ 546 [] := by
  by_cases hB : xs (i + 2) = 0
  · have R := rl_make h (xs (i + 1)) (xs (i + 3)) false
    refine y_aload_n dL_law_546 rfl rfl ?_
    refine y_aload_n dL_law_547 rfl rfl ?_
    refine y_iload_n dL_law_548 rfl rfl ?_
    refine y_iconst dL_law_549 ic_1 ?_
    refine y_iadd dL_law_550 ?_
    refine la_ld dL_law_551 (i + 1) (nI_addN i 1) (by omega) hL ?_
    refine y_aload_n dL_law_552 rfl rfl ?_
    refine y_iload_n dL_law_553 rfl rfl ?_
    refine y_iconst dL_law_554 ic_2 ?_
    refine y_iadd dL_law_555 ?_
    refine la_ld dL_law_556 (i + 2) (nI_addN i 2) (by omega) hL ?_
    refine y_if_eq 564 dL_law_557 (by decide) (fun _ => ?_) (fun hq => absurd hB hq)
    refine y_iconst dL_law_564 ic_0 ?_
    refine y_aload_n dL_law_565 rfl rfl ?_
    refine y_iload_n dL_law_566 rfl rfl ?_
    refine y_iconst dL_law_567 ic_3 ?_
    refine y_iadd dL_law_568 ?_
    refine la_ld dL_law_569 (i + 3) (nI_addN i 3) (by omega) hL ?_
    refine y_cV3 dL_law_570 meX7_make clX7 kd_0 wm_ml_L_74 (kX7_make (B := false) (tr_ht (rl_tw h)) (by exact tr_aps (rl_tw h))) ⟨Nat.le_of_ble_eq_true rfl, Nat.le_of_ble_eq_true rfl⟩ ⟨rfl, rfl⟩ (Nat.le_of_ble_eq_true rfl) (fun v570 μ570 hp570 => ?_)
    obtain ⟨rfl, he570⟩ := hp570
    replace he570 := he570.symm
    subst he570
    refine y_ri ?_
    refine y_aload_n dL_law_573 rfl rfl ?_
    refine y_aload_n dL_law_574 rfl rfl ?_
    refine y_iload_n dL_law_575 rfl rfl ?_
    refine y_iconst dL_law_576 ic_1 ?_
    refine y_iadd dL_law_577 ?_
    refine la_ld dL_law_578 (i + 1) (nI_addN i 1) (by omega) hL ?_
    refine y_aload_n dL_law_579 rfl rfl ?_
    refine y_iload_n dL_law_580 rfl rfl ?_
    refine y_iconst dL_law_581 ic_2 ?_
    refine y_iadd dL_law_582 ?_
    refine la_ld dL_law_583 (i + 2) (nI_addN i 2) (by omega) hL ?_
    refine y_if_eq 591 dL_law_584 (by decide) (fun _ => ?_) (fun hq => absurd hB hq)
    refine y_iconst dL_law_591 ic_0 ?_
    refine y_aload_n dL_law_592 rfl rfl ?_
    refine y_iload_n dL_law_593 rfl rfl ?_
    refine y_iconst dL_law_594 ic_3 ?_
    refine y_iadd dL_law_595 ?_
    refine la_ld dL_law_596 (i + 3) (nI_addN i 3) (by omega) hL ?_
    refine y_cV3 dL_law_597 meX8_make clX8 kd_58 wm_ml_L_78 (kX8_make (B := false) (tr_ht (rl_tw h)) (by exact rl_p8 R.2)) ⟨Nat.le_of_ble_eq_true rfl, Nat.le_of_ble_eq_true rfl⟩ ⟨rfl, rfl⟩ (Nat.le_of_ble_eq_true rfl) (fun v597 μ597 hp597 => ?_)
    obtain ⟨rfl, f597, g597, he597⟩ := hp597
    replace he597 := he597.symm
    subst he597
    refine y_ri ?_
    exact y_icmp_eq 1085 dL_law_600 (by decide) (fun _ => nx _ (⟨_, _, _, rl_seF R.2 _ _⟩)) (fun hq => absurd (R.1).symm hq)
  · have R := rl_make h (xs (i + 1)) (xs (i + 3)) true
    refine y_aload_n dL_law_546 rfl rfl ?_
    refine y_aload_n dL_law_547 rfl rfl ?_
    refine y_iload_n dL_law_548 rfl rfl ?_
    refine y_iconst dL_law_549 ic_1 ?_
    refine y_iadd dL_law_550 ?_
    refine la_ld dL_law_551 (i + 1) (nI_addN i 1) (by omega) hL ?_
    refine y_aload_n dL_law_552 rfl rfl ?_
    refine y_iload_n dL_law_553 rfl rfl ?_
    refine y_iconst dL_law_554 ic_2 ?_
    refine y_iadd dL_law_555 ?_
    refine la_ld dL_law_556 (i + 2) (nI_addN i 2) (by omega) hL ?_
    refine y_if_eq 564 dL_law_557 (by decide) (fun hq => absurd hq hB) (fun _ => ?_)
    refine y_iconst dL_law_560 ic_1 ?_
    refine y_goto 565 dL_law_561 (by decide) ?_
    refine y_aload_n dL_law_565 rfl rfl ?_
    refine y_iload_n dL_law_566 rfl rfl ?_
    refine y_iconst dL_law_567 ic_3 ?_
    refine y_iadd dL_law_568 ?_
    refine la_ld dL_law_569 (i + 3) (nI_addN i 3) (by omega) hL ?_
    refine y_cV3 dL_law_570 meX7_make clX7 kd_0 wm_ml_L_74 (kX7_make (B := true) (tr_ht (rl_tw h)) (by exact tr_aps (rl_tw h))) ⟨Nat.le_of_ble_eq_true rfl, Nat.le_of_ble_eq_true rfl⟩ ⟨rfl, rfl⟩ (Nat.le_of_ble_eq_true rfl) (fun v570 μ570 hp570 => ?_)
    obtain ⟨rfl, he570⟩ := hp570
    replace he570 := he570.symm
    subst he570
    refine y_ri ?_
    refine y_aload_n dL_law_573 rfl rfl ?_
    refine y_aload_n dL_law_574 rfl rfl ?_
    refine y_iload_n dL_law_575 rfl rfl ?_
    refine y_iconst dL_law_576 ic_1 ?_
    refine y_iadd dL_law_577 ?_
    refine la_ld dL_law_578 (i + 1) (nI_addN i 1) (by omega) hL ?_
    refine y_aload_n dL_law_579 rfl rfl ?_
    refine y_iload_n dL_law_580 rfl rfl ?_
    refine y_iconst dL_law_581 ic_2 ?_
    refine y_iadd dL_law_582 ?_
    refine la_ld dL_law_583 (i + 2) (nI_addN i 2) (by omega) hL ?_
    refine y_if_eq 591 dL_law_584 (by decide) (fun hq => absurd hq hB) (fun _ => ?_)
    refine y_iconst dL_law_587 ic_1 ?_
    refine y_goto 592 dL_law_588 (by decide) ?_
    refine y_aload_n dL_law_592 rfl rfl ?_
    refine y_iload_n dL_law_593 rfl rfl ?_
    refine y_iconst dL_law_594 ic_3 ?_
    refine y_iadd dL_law_595 ?_
    refine la_ld dL_law_596 (i + 3) (nI_addN i 3) (by omega) hL ?_
    refine y_cV3 dL_law_597 meX8_make clX8 kd_58 wm_ml_L_78 (kX8_make (B := true) (tr_ht (rl_tw h)) (by exact rl_p8 R.2)) ⟨Nat.le_of_ble_eq_true rfl, Nat.le_of_ble_eq_true rfl⟩ ⟨rfl, rfl⟩ (Nat.le_of_ble_eq_true rfl) (fun v597 μ597 hp597 => ?_)
    obtain ⟨rfl, f597, g597, he597⟩ := hp597
    replace he597 := he597.symm
    subst he597
    refine y_ri ?_
    exact y_icmp_eq 1085 dL_law_600 (by decide) (fun _ => nx _ (⟨_, _, _, rl_seF R.2 _ _⟩)) (fun hq => absurd (R.1).symm hq)
set_option maxRecDepth 100000 in
set_option maxHeartbeats 4000000 in
theorem lc_near {l : Launch} {G : GT} {b L : Nat} {xs : Nat → Int32} {i t k c : Nat} {μ : MemT} (hL : L ≤ 448) (hi : i + 7 ≤ L) (h : Rel t k c μ) (nx : ∀ μ2, RelE μ2 → LY l G b L xs i μ2 1085 []) : LY l G b L xs i μ 605 [] := by
  by_cases hB : xs (i + 2) = 0
  · have R := rl_near h (xs (i + 1)) false
    refine y_aload_n dL_law_605 rfl rfl ?_
    refine y_aload_n dL_law_606 rfl rfl ?_
    refine y_iload_n dL_law_607 rfl rfl ?_
    refine y_iconst dL_law_608 ic_1 ?_
    refine y_iadd dL_law_609 ?_
    refine la_ld dL_law_610 (i + 1) (nI_addN i 1) (by omega) hL ?_
    refine y_aload_n dL_law_611 rfl rfl ?_
    refine y_iload_n dL_law_612 rfl rfl ?_
    refine y_iconst dL_law_613 ic_2 ?_
    refine y_iadd dL_law_614 ?_
    refine la_ld dL_law_615 (i + 2) (nI_addN i 2) (by omega) hL ?_
    refine y_if_eq 623 dL_law_616 (by decide) (fun _ => ?_) (fun hq => absurd hB hq)
    refine y_iconst dL_law_623 ic_0 ?_
    refine y_cV2 dL_law_624 meX7_near clX7 kd_0 wm_ml_L_79 (kX7_near (B := false) (tr_ht (rl_tw h)) (by exact tr_aps (rl_tw h))) ⟨Nat.le_of_ble_eq_true rfl, Nat.le_of_ble_eq_true rfl⟩ ⟨rfl, rfl⟩ (Nat.le_of_ble_eq_true rfl) (fun v624 μ624 hp624 => ?_)
    obtain ⟨rfl, he624⟩ := hp624
    replace he624 := he624.symm
    subst he624
    refine y_ri ?_
    refine y_aload_n dL_law_627 rfl rfl ?_
    refine y_aload_n dL_law_628 rfl rfl ?_
    refine y_iload_n dL_law_629 rfl rfl ?_
    refine y_iconst dL_law_630 ic_1 ?_
    refine y_iadd dL_law_631 ?_
    refine la_ld dL_law_632 (i + 1) (nI_addN i 1) (by omega) hL ?_
    refine y_aload_n dL_law_633 rfl rfl ?_
    refine y_iload_n dL_law_634 rfl rfl ?_
    refine y_iconst dL_law_635 ic_2 ?_
    refine y_iadd dL_law_636 ?_
    refine la_ld dL_law_637 (i + 2) (nI_addN i 2) (by omega) hL ?_
    refine y_if_eq 645 dL_law_638 (by decide) (fun _ => ?_) (fun hq => absurd hB hq)
    refine y_iconst dL_law_645 ic_0 ?_
    refine y_cV2 dL_law_646 meX8_near clX8 kd_58 wm_ml_L_83 (kX8_near (B := false)) ⟨Nat.le_of_ble_eq_true rfl, Nat.le_of_ble_eq_true rfl⟩ ⟨rfl, rfl⟩ (Nat.le_of_ble_eq_true rfl) (fun v646 μ646 hp646 => ?_)
    obtain ⟨rfl, f646, g646, he646⟩ := hp646
    replace he646 := he646.symm
    subst he646
    refine y_ri ?_
    exact y_icmp_eq 1085 dL_law_649 (by decide) (fun _ => nx _ (⟨_, _, _, rl_seF R.2 _ _⟩)) (fun hq => absurd (R.1).symm hq)
  · have R := rl_near h (xs (i + 1)) true
    refine y_aload_n dL_law_605 rfl rfl ?_
    refine y_aload_n dL_law_606 rfl rfl ?_
    refine y_iload_n dL_law_607 rfl rfl ?_
    refine y_iconst dL_law_608 ic_1 ?_
    refine y_iadd dL_law_609 ?_
    refine la_ld dL_law_610 (i + 1) (nI_addN i 1) (by omega) hL ?_
    refine y_aload_n dL_law_611 rfl rfl ?_
    refine y_iload_n dL_law_612 rfl rfl ?_
    refine y_iconst dL_law_613 ic_2 ?_
    refine y_iadd dL_law_614 ?_
    refine la_ld dL_law_615 (i + 2) (nI_addN i 2) (by omega) hL ?_
    refine y_if_eq 623 dL_law_616 (by decide) (fun hq => absurd hq hB) (fun _ => ?_)
    refine y_iconst dL_law_619 ic_1 ?_
    refine y_goto 624 dL_law_620 (by decide) ?_
    refine y_cV2 dL_law_624 meX7_near clX7 kd_0 wm_ml_L_79 (kX7_near (B := true) (tr_ht (rl_tw h)) (by exact tr_aps (rl_tw h))) ⟨Nat.le_of_ble_eq_true rfl, Nat.le_of_ble_eq_true rfl⟩ ⟨rfl, rfl⟩ (Nat.le_of_ble_eq_true rfl) (fun v624 μ624 hp624 => ?_)
    obtain ⟨rfl, he624⟩ := hp624
    replace he624 := he624.symm
    subst he624
    refine y_ri ?_
    refine y_aload_n dL_law_627 rfl rfl ?_
    refine y_aload_n dL_law_628 rfl rfl ?_
    refine y_iload_n dL_law_629 rfl rfl ?_
    refine y_iconst dL_law_630 ic_1 ?_
    refine y_iadd dL_law_631 ?_
    refine la_ld dL_law_632 (i + 1) (nI_addN i 1) (by omega) hL ?_
    refine y_aload_n dL_law_633 rfl rfl ?_
    refine y_iload_n dL_law_634 rfl rfl ?_
    refine y_iconst dL_law_635 ic_2 ?_
    refine y_iadd dL_law_636 ?_
    refine la_ld dL_law_637 (i + 2) (nI_addN i 2) (by omega) hL ?_
    refine y_if_eq 645 dL_law_638 (by decide) (fun hq => absurd hq hB) (fun _ => ?_)
    refine y_iconst dL_law_641 ic_1 ?_
    refine y_goto 646 dL_law_642 (by decide) ?_
    refine y_cV2 dL_law_646 meX8_near clX8 kd_58 wm_ml_L_83 (kX8_near (B := true)) ⟨Nat.le_of_ble_eq_true rfl, Nat.le_of_ble_eq_true rfl⟩ ⟨rfl, rfl⟩ (Nat.le_of_ble_eq_true rfl) (fun v646 μ646 hp646 => ?_)
    obtain ⟨rfl, f646, g646, he646⟩ := hp646
    replace he646 := he646.symm
    subst he646
    refine y_ri ?_
    exact y_icmp_eq 1085 dL_law_649 (by decide) (fun _ => nx _ (⟨_, _, _, rl_seF R.2 _ _⟩)) (fun hq => absurd (R.1).symm hq)
set_option maxRecDepth 100000 in
set_option maxHeartbeats 4000000 in
theorem lc_gap {l : Launch} {G : GT} {b L : Nat} {xs : Nat → Int32} {i t k c : Nat} {μ : MemT} (hL : L ≤ 448) (hi : i + 7 ≤ L) (h : Rel t k c μ) (nx : ∀ μ2, RelE μ2 → LY l G b L xs i μ2 1085 []) : LY l G b L xs i μ 654 [] := by
  by_cases hB : xs (i + 1) = 0
  · have R := rl_gap h false
    refine y_aload_n dL_law_654 rfl rfl ?_
    refine y_aload_n dL_law_655 rfl rfl ?_
    refine y_iload_n dL_law_656 rfl rfl ?_
    refine y_iconst dL_law_657 ic_1 ?_
    refine y_iadd dL_law_658 ?_
    refine la_ld dL_law_659 (i + 1) (nI_addN i 1) (by omega) hL ?_
    refine y_if_eq 667 dL_law_660 (by decide) (fun _ => ?_) (fun hq => absurd hB hq)
    refine y_iconst dL_law_667 ic_0 ?_
    refine y_cV1 dL_law_668 meX7_gap clX7 kd_0 wm_ml_L_84 (kX7_gap (B := false) (tr_ht (rl_tw h)) (by exact tr_aps (rl_tw h))) ⟨Nat.le_of_ble_eq_true rfl, Nat.le_of_ble_eq_true rfl⟩ ⟨rfl, rfl⟩ (Nat.le_of_ble_eq_true rfl) (fun v668 μ668 hp668 => ?_)
    obtain ⟨rfl, he668⟩ := hp668
    replace he668 := he668.symm
    subst he668
    refine y_ri ?_
    refine y_aload_n dL_law_671 rfl rfl ?_
    refine y_aload_n dL_law_672 rfl rfl ?_
    refine y_iload_n dL_law_673 rfl rfl ?_
    refine y_iconst dL_law_674 ic_1 ?_
    refine y_iadd dL_law_675 ?_
    refine la_ld dL_law_676 (i + 1) (nI_addN i 1) (by omega) hL ?_
    refine y_if_eq 684 dL_law_677 (by decide) (fun _ => ?_) (fun hq => absurd hB hq)
    refine y_iconst dL_law_684 ic_0 ?_
    refine y_cV1 dL_law_685 meX8_gap clX8 kd_58 wm_ml_L_88 (kX8_gap (B := false) (by exact gapB_ok R.2 false)) ⟨Nat.le_of_ble_eq_true rfl, Nat.le_of_ble_eq_true rfl⟩ ⟨rfl, rfl⟩ (Nat.le_of_ble_eq_true rfl) (fun v685 μ685 hp685 => ?_)
    obtain ⟨rfl, f685, g685, he685⟩ := hp685
    replace he685 := he685.symm
    subst he685
    refine y_ri ?_
    exact y_icmp_eq 1085 dL_law_688 (by decide) (fun _ => nx _ (⟨_, _, _, rl_seF (rl_74 R.2 _) _ _⟩)) (fun hq => absurd (R.1).symm hq)
  · have R := rl_gap h true
    refine y_aload_n dL_law_654 rfl rfl ?_
    refine y_aload_n dL_law_655 rfl rfl ?_
    refine y_iload_n dL_law_656 rfl rfl ?_
    refine y_iconst dL_law_657 ic_1 ?_
    refine y_iadd dL_law_658 ?_
    refine la_ld dL_law_659 (i + 1) (nI_addN i 1) (by omega) hL ?_
    refine y_if_eq 667 dL_law_660 (by decide) (fun hq => absurd hq hB) (fun _ => ?_)
    refine y_iconst dL_law_663 ic_1 ?_
    refine y_goto 668 dL_law_664 (by decide) ?_
    refine y_cV1 dL_law_668 meX7_gap clX7 kd_0 wm_ml_L_84 (kX7_gap (B := true) (tr_ht (rl_tw h)) (by exact tr_aps (rl_tw h))) ⟨Nat.le_of_ble_eq_true rfl, Nat.le_of_ble_eq_true rfl⟩ ⟨rfl, rfl⟩ (Nat.le_of_ble_eq_true rfl) (fun v668 μ668 hp668 => ?_)
    obtain ⟨rfl, he668⟩ := hp668
    replace he668 := he668.symm
    subst he668
    refine y_ri ?_
    refine y_aload_n dL_law_671 rfl rfl ?_
    refine y_aload_n dL_law_672 rfl rfl ?_
    refine y_iload_n dL_law_673 rfl rfl ?_
    refine y_iconst dL_law_674 ic_1 ?_
    refine y_iadd dL_law_675 ?_
    refine la_ld dL_law_676 (i + 1) (nI_addN i 1) (by omega) hL ?_
    refine y_if_eq 684 dL_law_677 (by decide) (fun hq => absurd hq hB) (fun _ => ?_)
    refine y_iconst dL_law_680 ic_1 ?_
    refine y_goto 685 dL_law_681 (by decide) ?_
    refine y_cV1 dL_law_685 meX8_gap clX8 kd_58 wm_ml_L_88 (kX8_gap (B := true) (by exact gapB_ok R.2 true)) ⟨Nat.le_of_ble_eq_true rfl, Nat.le_of_ble_eq_true rfl⟩ ⟨rfl, rfl⟩ (Nat.le_of_ble_eq_true rfl) (fun v685 μ685 hp685 => ?_)
    obtain ⟨rfl, f685, g685, he685⟩ := hp685
    replace he685 := he685.symm
    subst he685
    refine y_ri ?_
    exact y_icmp_eq 1085 dL_law_688 (by decide) (fun _ => nx _ (⟨_, _, _, rl_seF (rl_74 R.2 _) _ _⟩)) (fun hq => absurd (R.1).symm hq)
set_option maxRecDepth 100000 in
set_option maxHeartbeats 4000000 in
theorem lc_assize {l : Launch} {G : GT} {b L : Nat} {xs : Nat → Int32} {i t k c : Nat} {μ : MemT} (hL : L ≤ 448) (hi : i + 7 ≤ L) (h : Rel t k c μ) (nx : ∀ μ2, RelE μ2 → LY l G b L xs i μ2 1085 []) : LY l G b L xs i μ 693 [] := by
  have R := rl_assize h (xs (i + 1))
  refine y_aload_n dL_law_693 rfl rfl ?_
  refine y_aload_n dL_law_694 rfl rfl ?_
  refine y_iload_n dL_law_695 rfl rfl ?_
  refine y_iconst dL_law_696 ic_1 ?_
  refine y_iadd dL_law_697 ?_
  refine la_ld dL_law_698 (i + 1) (nI_addN i 1) (by omega) hL ?_
  refine y_cV1 dL_law_699 meX7_assize clX7 kd_0 wm_ml_L_89 (kX7_assize) ⟨Nat.le_of_ble_eq_true rfl, Nat.le_of_ble_eq_true rfl⟩ ⟨rfl, rfl⟩ (Nat.le_of_ble_eq_true rfl) (fun v699 μ699 hp699 => ?_)
  obtain ⟨rfl, he699⟩ := hp699
  replace he699 := he699.symm
  subst he699
  refine y_ri ?_
  refine y_aload_n dL_law_702 rfl rfl ?_
  refine y_aload_n dL_law_703 rfl rfl ?_
  refine y_iload_n dL_law_704 rfl rfl ?_
  refine y_iconst dL_law_705 ic_1 ?_
  refine y_iadd dL_law_706 ?_
  refine la_ld dL_law_707 (i + 1) (nI_addN i 1) (by omega) hL ?_
  refine y_cV1 dL_law_708 meX8_assize clX8 kd_58 wm_ml_L_92 (kX8_assize) ⟨Nat.le_of_ble_eq_true rfl, Nat.le_of_ble_eq_true rfl⟩ ⟨rfl, rfl⟩ (Nat.le_of_ble_eq_true rfl) (fun v708 μ708 hp708 => ?_)
  obtain ⟨rfl, he708⟩ := hp708
  replace he708 := he708.symm
  subst he708
  refine y_ri ?_
  exact y_icmp_eq 1085 dL_law_711 (by decide) (fun _ => nx _ (⟨_, _, _, h⟩)) (fun hq => absurd (R).symm hq)
set_option maxRecDepth 100000 in
set_option maxHeartbeats 4000000 in
theorem lc_just {l : Launch} {G : GT} {b L : Nat} {xs : Nat → Int32} {i t k c : Nat} {μ : MemT} (hL : L ≤ 448) (hi : i + 7 ≤ L) (h : Rel t k c μ) (nx : ∀ μ2, RelE μ2 → LY l G b L xs i μ2 1085 []) : LY l G b L xs i μ 716 [] := by
  have R := rl_just h
  refine y_aload_n dL_law_716 rfl rfl ?_
  refine y_cV0 dL_law_717 meX7_just clX7 kd_0 wm_ml_L_93 (kX7_just) ⟨Nat.le_of_ble_eq_true rfl, Nat.le_of_ble_eq_true rfl⟩ ⟨rfl, rfl⟩ (Nat.le_of_ble_eq_true rfl) (fun v717 μ717 hp717 => ?_)
  obtain ⟨rfl, he717⟩ := hp717
  replace he717 := he717.symm
  subst he717
  refine y_ri ?_
  refine y_aload_n dL_law_720 rfl rfl ?_
  refine y_cV0 dL_law_721 meX8_just clX8 kd_58 wm_ml_L_96 (kX8_just) ⟨Nat.le_of_ble_eq_true rfl, Nat.le_of_ble_eq_true rfl⟩ ⟨rfl, rfl⟩ (Nat.le_of_ble_eq_true rfl) (fun v721 μ721 hp721 => ?_)
  obtain ⟨rfl, he721⟩ := hp721
  replace he721 := he721.symm
  subst he721
  refine y_ri ?_
  exact y_icmp_eq 1085 dL_law_724 (by decide) (fun _ => nx _ (⟨_, _, _, h⟩)) (fun hq => absurd (R).symm hq)
set_option maxRecDepth 100000 in
set_option maxHeartbeats 4000000 in
theorem lc_price {l : Launch} {G : GT} {b L : Nat} {xs : Nat → Int32} {i t k c : Nat} {μ : MemT} (hL : L ≤ 448) (hi : i + 7 ≤ L) (h : Rel t k c μ) (nx : ∀ μ2, RelE μ2 → LY l G b L xs i μ2 1085 []) : LY l G b L xs i μ 729 [] := by
  have R := rl_price h (xs (i + 1)) (xs (i + 2)) (xs (i + 3))
  refine y_aload_n dL_law_729 rfl rfl ?_
  refine y_aload_n dL_law_730 rfl rfl ?_
  refine y_iload_n dL_law_731 rfl rfl ?_
  refine y_iconst dL_law_732 ic_1 ?_
  refine y_iadd dL_law_733 ?_
  refine la_ld dL_law_734 (i + 1) (nI_addN i 1) (by omega) hL ?_
  refine y_aload_n dL_law_735 rfl rfl ?_
  refine y_iload_n dL_law_736 rfl rfl ?_
  refine y_iconst dL_law_737 ic_2 ?_
  refine y_iadd dL_law_738 ?_
  refine la_ld dL_law_739 (i + 2) (nI_addN i 2) (by omega) hL ?_
  refine y_aload_n dL_law_740 rfl rfl ?_
  refine y_iload_n dL_law_741 rfl rfl ?_
  refine y_iconst dL_law_742 ic_3 ?_
  refine y_iadd dL_law_743 ?_
  refine la_ld dL_law_744 (i + 3) (nI_addN i 3) (by omega) hL ?_
  refine y_cV3 dL_law_745 meX7_price clX7 kd_0 wm_ml_L_97 (kX7_price (tr_ht (rl_tw h)) (by exact tr_aps (rl_tw h))) ⟨Nat.le_of_ble_eq_true rfl, Nat.le_of_ble_eq_true rfl⟩ ⟨rfl, rfl⟩ (Nat.le_of_ble_eq_true rfl) (fun v745 μ745 hp745 => ?_)
  obtain ⟨rfl, he745⟩ := hp745
  replace he745 := he745.symm
  subst he745
  refine y_ri ?_
  refine y_aload_n dL_law_748 rfl rfl ?_
  refine y_aload_n dL_law_749 rfl rfl ?_
  refine y_iload_n dL_law_750 rfl rfl ?_
  refine y_iconst dL_law_751 ic_1 ?_
  refine y_iadd dL_law_752 ?_
  refine la_ld dL_law_753 (i + 1) (nI_addN i 1) (by omega) hL ?_
  refine y_aload_n dL_law_754 rfl rfl ?_
  refine y_iload_n dL_law_755 rfl rfl ?_
  refine y_iconst dL_law_756 ic_2 ?_
  refine y_iadd dL_law_757 ?_
  refine la_ld dL_law_758 (i + 2) (nI_addN i 2) (by omega) hL ?_
  refine y_aload_n dL_law_759 rfl rfl ?_
  refine y_iload_n dL_law_760 rfl rfl ?_
  refine y_iconst dL_law_761 ic_3 ?_
  refine y_iadd dL_law_762 ?_
  refine la_ld dL_law_763 (i + 3) (nI_addN i 3) (by omega) hL ?_
  refine y_cV3 dL_law_764 meX8_price clX8 kd_58 wm_ml_L_101 (kX8_price) ⟨Nat.le_of_ble_eq_true rfl, Nat.le_of_ble_eq_true rfl⟩ ⟨rfl, rfl⟩ (Nat.le_of_ble_eq_true rfl) (fun v764 μ764 hp764 => ?_)
  obtain ⟨rfl, he764⟩ := hp764
  replace he764 := he764.symm
  subst he764
  refine y_ri ?_
  exact y_icmp_eq 1085 dL_law_767 (by decide) (fun _ => nx _ (⟨_, _, _, R.2⟩)) (fun hq => absurd (R.1).symm hq)
set_option maxRecDepth 100000 in
set_option maxHeartbeats 4000000 in
theorem lc_seen {l : Launch} {G : GT} {b L : Nat} {xs : Nat → Int32} {i t k c : Nat} {μ : MemT} (hL : L ≤ 448) (hi : i + 7 ≤ L) (h : Rel t k c μ) (nx : ∀ μ2, RelE μ2 → LY l G b L xs i μ2 1085 []) : LY l G b L xs i μ 772 [] := by
  have R := rl_seen h (xs (i + 1)) (xs (i + 2)) (xs (i + 3))
  refine y_aload_n dL_law_772 rfl rfl ?_
  refine y_aload_n dL_law_773 rfl rfl ?_
  refine y_iload_n dL_law_774 rfl rfl ?_
  refine y_iconst dL_law_775 ic_1 ?_
  refine y_iadd dL_law_776 ?_
  refine la_ld dL_law_777 (i + 1) (nI_addN i 1) (by omega) hL ?_
  refine y_aload_n dL_law_778 rfl rfl ?_
  refine y_iload_n dL_law_779 rfl rfl ?_
  refine y_iconst dL_law_780 ic_2 ?_
  refine y_iadd dL_law_781 ?_
  refine la_ld dL_law_782 (i + 2) (nI_addN i 2) (by omega) hL ?_
  refine y_aload_n dL_law_783 rfl rfl ?_
  refine y_iload_n dL_law_784 rfl rfl ?_
  refine y_iconst dL_law_785 ic_3 ?_
  refine y_iadd dL_law_786 ?_
  refine la_ld dL_law_787 (i + 3) (nI_addN i 3) (by omega) hL ?_
  refine y_cV3 dL_law_788 meX7_seen clX7 kd_0 wm_ml_L_102 (kX7_seen (tr_hk (rl_tw h)) (by exact tr_asg (rl_tw h))) ⟨Nat.le_of_ble_eq_true rfl, Nat.le_of_ble_eq_true rfl⟩ ⟨rfl, rfl⟩ (Nat.le_of_ble_eq_true rfl) (fun v788 μ788 hp788 => ?_)
  obtain ⟨rfl, he788⟩ := hp788
  replace he788 := he788.symm
  subst he788
  refine y_ri ?_
  refine y_aload_n dL_law_791 rfl rfl ?_
  refine y_aload_n dL_law_792 rfl rfl ?_
  refine y_iload_n dL_law_793 rfl rfl ?_
  refine y_iconst dL_law_794 ic_1 ?_
  refine y_iadd dL_law_795 ?_
  refine la_ld dL_law_796 (i + 1) (nI_addN i 1) (by omega) hL ?_
  refine y_aload_n dL_law_797 rfl rfl ?_
  refine y_iload_n dL_law_798 rfl rfl ?_
  refine y_iconst dL_law_799 ic_2 ?_
  refine y_iadd dL_law_800 ?_
  refine la_ld dL_law_801 (i + 2) (nI_addN i 2) (by omega) hL ?_
  refine y_aload_n dL_law_802 rfl rfl ?_
  refine y_iload_n dL_law_803 rfl rfl ?_
  refine y_iconst dL_law_804 ic_3 ?_
  refine y_iadd dL_law_805 ?_
  refine la_ld dL_law_806 (i + 3) (nI_addN i 3) (by omega) hL ?_
  refine y_cV3 dL_law_807 meX8_seen clX8 kd_58 wm_ml_L_105 (kX8_seen (tr_hk (rl_tw h)) (by rw [hx_seen]; exact rl_k8 h)) ⟨Nat.le_of_ble_eq_true rfl, Nat.le_of_ble_eq_true rfl⟩ ⟨rfl, rfl⟩ (Nat.le_of_ble_eq_true rfl) (fun v807 μ807 hp807 => ?_)
  obtain ⟨rfl, he807⟩ := hp807
  replace he807 := he807.symm
  subst he807
  refine y_ri ?_
  exact y_icmp_eq 1085 dL_law_810 (by decide) (fun _ => nx _ (R.2.elim (fun _ g => ⟨_, _, _, g⟩))) (fun hq => absurd (R.1).symm hq)
set_option maxRecDepth 100000 in
set_option maxHeartbeats 4000000 in
theorem lc_forget {l : Launch} {G : GT} {b L : Nat} {xs : Nat → Int32} {i t k c : Nat} {μ : MemT} (hL : L ≤ 448) (hi : i + 7 ≤ L) (h : Rel t k c μ) (nx : ∀ μ2, RelE μ2 → LY l G b L xs i μ2 1085 []) : LY l G b L xs i μ 815 [] := by
  have R := rl_forget h
  refine y_aload_n dL_law_815 rfl rfl ?_
  refine y_cV0 dL_law_816 meX7_forget clX7 kd_0 wm_ml_L_106 (kX7_forget) ⟨Nat.le_of_ble_eq_true rfl, Nat.le_of_ble_eq_true rfl⟩ ⟨rfl, rfl⟩ (Nat.le_of_ble_eq_true rfl) (fun v816 μ816 hp816 => ?_)
  obtain ⟨rfl, he816⟩ := hp816
  replace he816 := he816.symm
  subst he816
  refine y_ri ?_
  refine y_aload_n dL_law_819 rfl rfl ?_
  refine y_cV0 dL_law_820 meX8_forget clX8 kd_58 wm_ml_L_109 (kX8_forget) ⟨Nat.le_of_ble_eq_true rfl, Nat.le_of_ble_eq_true rfl⟩ ⟨rfl, rfl⟩ (Nat.le_of_ble_eq_true rfl) (fun v820 μ820 hp820 => ?_)
  obtain ⟨rfl, he820⟩ := hp820
  replace he820 := he820.symm
  subst he820
  refine y_ri ?_
  exact y_icmp_eq 1085 dL_law_823 (by decide) (fun _ => nx _ (⟨_, _, _, R.2⟩)) (fun hq => absurd (R.1).symm hq)
set_option maxRecDepth 100000 in
set_option maxHeartbeats 4000000 in
theorem lc_airs {l : Launch} {G : GT} {b L : Nat} {xs : Nat → Int32} {i t k c : Nat} {μ : MemT} (hL : L ≤ 448) (hi : i + 7 ≤ L) (h : Rel t k c μ) (nx : ∀ μ2, RelE μ2 → LY l G b L xs i μ2 1085 []) : LY l G b L xs i μ 828 [] := by
  have R := rl_airs h (xs (i + 1))
  refine y_aload_n dL_law_828 rfl rfl ?_
  refine y_aload_n dL_law_829 rfl rfl ?_
  refine y_iload_n dL_law_830 rfl rfl ?_
  refine y_iconst dL_law_831 ic_1 ?_
  refine y_iadd dL_law_832 ?_
  refine la_ld dL_law_833 (i + 1) (nI_addN i 1) (by omega) hL ?_
  refine y_cV1 dL_law_834 meX7_airs clX7 kd_0 wm_ml_L_110 (kX7_airs (tr_hk (rl_tw h)) (by exact tr_asg (rl_tw h))) ⟨Nat.le_of_ble_eq_true rfl, Nat.le_of_ble_eq_true rfl⟩ ⟨rfl, rfl⟩ (Nat.le_of_ble_eq_true rfl) (fun v834 μ834 hp834 => ?_)
  obtain ⟨rfl, he834⟩ := hp834
  replace he834 := he834.symm
  subst he834
  refine y_ri ?_
  refine y_aload_n dL_law_837 rfl rfl ?_
  refine y_aload_n dL_law_838 rfl rfl ?_
  refine y_iload_n dL_law_839 rfl rfl ?_
  refine y_iconst dL_law_840 ic_1 ?_
  refine y_iadd dL_law_841 ?_
  refine la_ld dL_law_842 (i + 1) (nI_addN i 1) (by omega) hL ?_
  refine y_cV1 dL_law_843 meX8_airs clX8 kd_58 wm_ml_L_113 (kX8_airs (tr_hk (rl_tw h)) (by rw [hx_airs]; exact rl_k8 h)) ⟨Nat.le_of_ble_eq_true rfl, Nat.le_of_ble_eq_true rfl⟩ ⟨rfl, rfl⟩ (Nat.le_of_ble_eq_true rfl) (fun v843 μ843 hp843 => ?_)
  obtain ⟨rfl, he843⟩ := hp843
  replace he843 := he843.symm
  subst he843
  refine y_ri ?_
  exact y_icmp_eq 1085 dL_law_846 (by decide) (fun _ => nx _ (⟨_, _, _, R.2⟩)) (fun hq => absurd (R.1).symm hq)
set_option maxRecDepth 100000 in
set_option maxHeartbeats 4000000 in
theorem lc_air {l : Launch} {G : GT} {b L : Nat} {xs : Nat → Int32} {i t k c : Nat} {μ : MemT} (hL : L ≤ 448) (hi : i + 7 ≤ L) (h : Rel t k c μ) (nx : ∀ μ2, RelE μ2 → LY l G b L xs i μ2 1085 []) : LY l G b L xs i μ 851 [] := by
  have R := rl_air h (xs (i + 1))
  refine y_aload_n dL_law_851 rfl rfl ?_
  refine y_aload_n dL_law_852 rfl rfl ?_
  refine y_iload_n dL_law_853 rfl rfl ?_
  refine y_iconst dL_law_854 ic_1 ?_
  refine y_iadd dL_law_855 ?_
  refine la_ld dL_law_856 (i + 1) (nI_addN i 1) (by omega) hL ?_
  refine y_cV1 dL_law_857 meX7_air clX7 kd_0 wm_ml_L_114 (kX7_air (tr_hk (rl_tw h)) (by exact tr_asg (rl_tw h))) ⟨Nat.le_of_ble_eq_true rfl, Nat.le_of_ble_eq_true rfl⟩ ⟨rfl, rfl⟩ (Nat.le_of_ble_eq_true rfl) (fun v857 μ857 hp857 => ?_)
  obtain ⟨rfl, he857⟩ := hp857
  replace he857 := he857.symm
  subst he857
  refine y_ri ?_
  refine y_aload_n dL_law_860 rfl rfl ?_
  refine y_aload_n dL_law_861 rfl rfl ?_
  refine y_iload_n dL_law_862 rfl rfl ?_
  refine y_iconst dL_law_863 ic_1 ?_
  refine y_iadd dL_law_864 ?_
  refine la_ld dL_law_865 (i + 1) (nI_addN i 1) (by omega) hL ?_
  refine y_cV1 dL_law_866 meX8_air clX8 kd_58 wm_ml_L_117 (kX8_air (tr_hk (rl_tw h)) (by rw [hx_air]; exact rl_k8 h)) ⟨Nat.le_of_ble_eq_true rfl, Nat.le_of_ble_eq_true rfl⟩ ⟨rfl, rfl⟩ (Nat.le_of_ble_eq_true rfl) (fun v866 μ866 hp866 => ?_)
  obtain ⟨rfl, he866⟩ := hp866
  replace he866 := he866.symm
  subst he866
  refine y_ri ?_
  exact y_icmp_eq 1085 dL_law_869 (by decide) (fun _ => nx _ (⟨_, _, _, R.2⟩)) (fun hq => absurd (R.1).symm hq)
set_option maxRecDepth 100000 in
set_option maxHeartbeats 4000000 in
theorem lc_cross {l : Launch} {G : GT} {b L : Nat} {xs : Nat → Int32} {i t k c : Nat} {μ : MemT} (hL : L ≤ 448) (hi : i + 7 ≤ L) (h : Rel t k c μ) (nx : ∀ μ2, RelE μ2 → LY l G b L xs i μ2 1085 []) : LY l G b L xs i μ 874 [] := by
  have R := rl_cross h (xs (i + 1))
  refine y_aload_n dL_law_874 rfl rfl ?_
  refine y_aload_n dL_law_875 rfl rfl ?_
  refine y_iload_n dL_law_876 rfl rfl ?_
  refine y_iconst dL_law_877 ic_1 ?_
  refine y_iadd dL_law_878 ?_
  refine la_ld dL_law_879 (i + 1) (nI_addN i 1) (by omega) hL ?_
  refine y_cV1 dL_law_880 meX7_cross clX7 kd_0 wm_ml_L_118 (kX7_cross (tr_hk (rl_tw h)) (by exact tr_asg (rl_tw h))) ⟨Nat.le_of_ble_eq_true rfl, Nat.le_of_ble_eq_true rfl⟩ ⟨rfl, rfl⟩ (Nat.le_of_ble_eq_true rfl) (fun v880 μ880 hp880 => ?_)
  obtain ⟨rfl, he880⟩ := hp880
  replace he880 := he880.symm
  subst he880
  refine y_ri ?_
  refine y_aload_n dL_law_883 rfl rfl ?_
  refine y_aload_n dL_law_884 rfl rfl ?_
  refine y_iload_n dL_law_885 rfl rfl ?_
  refine y_iconst dL_law_886 ic_1 ?_
  refine y_iadd dL_law_887 ?_
  refine la_ld dL_law_888 (i + 1) (nI_addN i 1) (by omega) hL ?_
  refine y_cV1 dL_law_889 meX8_cross clX8 kd_58 wm_ml_L_121 (kX8_cross (tr_hk (rl_tw h)) (by rw [hx_cross]; exact rl_k8 h)) ⟨Nat.le_of_ble_eq_true rfl, Nat.le_of_ble_eq_true rfl⟩ ⟨rfl, rfl⟩ (Nat.le_of_ble_eq_true rfl) (fun v889 μ889 hp889 => ?_)
  obtain ⟨rfl, he889⟩ := hp889
  replace he889 := he889.symm
  subst he889
  refine y_ri ?_
  exact y_icmp_eq 1085 dL_law_892 (by decide) (fun _ => nx _ (⟨_, _, _, R.2⟩)) (fun hq => absurd (R.1).symm hq)
set_option maxRecDepth 100000 in
set_option maxHeartbeats 4000000 in
theorem lc_chance {l : Launch} {G : GT} {b L : Nat} {xs : Nat → Int32} {i t k c : Nat} {μ : MemT} (hL : L ≤ 448) (hi : i + 7 ≤ L) (h : Rel t k c μ) (nx : ∀ μ2, RelE μ2 → LY l G b L xs i μ2 1085 []) : LY l G b L xs i μ 897 [] := by
  have R := rl_chance h (xs (i + 1)) (xs (i + 2)) (xs (i + 3)) (xs (i + 4)) (xs (i + 5)) (xs (i + 6))
  refine y_aload_n dL_law_897 rfl rfl ?_
  refine y_aload_n dL_law_898 rfl rfl ?_
  refine y_iload_n dL_law_899 rfl rfl ?_
  refine y_iconst dL_law_900 ic_1 ?_
  refine y_iadd dL_law_901 ?_
  refine la_ld dL_law_902 (i + 1) (nI_addN i 1) (by omega) hL ?_
  refine y_aload_n dL_law_903 rfl rfl ?_
  refine y_iload_n dL_law_904 rfl rfl ?_
  refine y_iconst dL_law_905 ic_2 ?_
  refine y_iadd dL_law_906 ?_
  refine la_ld dL_law_907 (i + 2) (nI_addN i 2) (by omega) hL ?_
  refine y_aload_n dL_law_908 rfl rfl ?_
  refine y_iload_n dL_law_909 rfl rfl ?_
  refine y_iconst dL_law_910 ic_3 ?_
  refine y_iadd dL_law_911 ?_
  refine la_ld dL_law_912 (i + 3) (nI_addN i 3) (by omega) hL ?_
  refine y_aload_n dL_law_913 rfl rfl ?_
  refine y_iload_n dL_law_914 rfl rfl ?_
  refine y_iconst dL_law_915 ic_4 ?_
  refine y_iadd dL_law_916 ?_
  refine la_ld dL_law_917 (i + 4) (nI_addN i 4) (by omega) hL ?_
  refine y_aload_n dL_law_918 rfl rfl ?_
  refine y_iload_n dL_law_919 rfl rfl ?_
  refine y_iconst dL_law_920 ic_5 ?_
  refine y_iadd dL_law_921 ?_
  refine la_ld dL_law_922 (i + 5) (nI_addN i 5) (by omega) hL ?_
  refine y_aload_n dL_law_923 rfl rfl ?_
  refine y_iload_n dL_law_924 rfl rfl ?_
  refine y_bipush dL_law_925 ib_6 ?_
  refine y_iadd dL_law_927 ?_
  refine la_ld dL_law_928 (i + 6) (nI_addN i 6) (by omega) hL ?_
  refine y_cV6 dL_law_929 meX7_chance clX7 kd_0 wm_ml_L_122 (kX7_chance (tr_ht (rl_tw h)) (by exact tr_aps (rl_tw h))) ⟨Nat.le_of_ble_eq_true rfl, Nat.le_of_ble_eq_true rfl⟩ ⟨rfl, rfl⟩ (Nat.le_of_ble_eq_true rfl) (fun v929 μ929 hp929 => ?_)
  obtain ⟨rfl, he929⟩ := hp929
  replace he929 := he929.symm
  subst he929
  refine y_rl ?_
  refine y_aload_n dL_law_932 rfl rfl ?_
  refine y_aload_n dL_law_933 rfl rfl ?_
  refine y_iload_n dL_law_934 rfl rfl ?_
  refine y_iconst dL_law_935 ic_1 ?_
  refine y_iadd dL_law_936 ?_
  refine la_ld dL_law_937 (i + 1) (nI_addN i 1) (by omega) hL ?_
  refine y_aload_n dL_law_938 rfl rfl ?_
  refine y_iload_n dL_law_939 rfl rfl ?_
  refine y_iconst dL_law_940 ic_2 ?_
  refine y_iadd dL_law_941 ?_
  refine la_ld dL_law_942 (i + 2) (nI_addN i 2) (by omega) hL ?_
  refine y_aload_n dL_law_943 rfl rfl ?_
  refine y_iload_n dL_law_944 rfl rfl ?_
  refine y_iconst dL_law_945 ic_3 ?_
  refine y_iadd dL_law_946 ?_
  refine la_ld dL_law_947 (i + 3) (nI_addN i 3) (by omega) hL ?_
  refine y_aload_n dL_law_948 rfl rfl ?_
  refine y_iload_n dL_law_949 rfl rfl ?_
  refine y_iconst dL_law_950 ic_4 ?_
  refine y_iadd dL_law_951 ?_
  refine la_ld dL_law_952 (i + 4) (nI_addN i 4) (by omega) hL ?_
  refine y_aload_n dL_law_953 rfl rfl ?_
  refine y_iload_n dL_law_954 rfl rfl ?_
  refine y_iconst dL_law_955 ic_5 ?_
  refine y_iadd dL_law_956 ?_
  refine la_ld dL_law_957 (i + 5) (nI_addN i 5) (by omega) hL ?_
  refine y_aload_n dL_law_958 rfl rfl ?_
  refine y_iload_n dL_law_959 rfl rfl ?_
  refine y_bipush dL_law_960 ib_6 ?_
  refine y_iadd dL_law_962 ?_
  refine la_ld dL_law_963 (i + 6) (nI_addN i 6) (by omega) hL ?_
  refine y_cV6 dL_law_964 meX8_chance clX8 kd_58 wm_ml_L_126 (kX8_chance (by exact R.1)) ⟨Nat.le_of_ble_eq_true rfl, Nat.le_of_ble_eq_true rfl⟩ ⟨rfl, rfl⟩ (Nat.le_of_ble_eq_true rfl) (fun v964 μ964 hp964 => ?_)
  obtain ⟨rfl, he964⟩ := hp964
  replace he964 := he964.symm
  subst he964
  refine y_rl ?_
  refine y_lcmp dL_law_967 ?_
  exact y_if_eq 1085 dL_law_968 (by decide) (fun _ => nx _ (⟨_, _, _, R.2.2⟩)) (fun hq => absurd ((lg0 _ _).mpr (R.2.1).symm) hq)
set_option maxRecDepth 100000 in
set_option maxHeartbeats 4000000 in
theorem lc_year {l : Launch} {G : GT} {b L : Nat} {xs : Nat → Int32} {i t k c : Nat} {μ : MemT} (hL : L ≤ 448) (hi : i + 7 ≤ L) (h : Rel t k c μ) (nx : ∀ μ2, RelE μ2 → LY l G b L xs i μ2 1085 []) : LY l G b L xs i μ 973 [] := by
  have R := rl_year h (xs (i + 1)) (xs (i + 2)) (xs (i + 3))
  refine y_aload_n dL_law_973 rfl rfl ?_
  refine y_aload_n dL_law_974 rfl rfl ?_
  refine y_iload_n dL_law_975 rfl rfl ?_
  refine y_iconst dL_law_976 ic_1 ?_
  refine y_iadd dL_law_977 ?_
  refine la_ld dL_law_978 (i + 1) (nI_addN i 1) (by omega) hL ?_
  refine y_aload_n dL_law_979 rfl rfl ?_
  refine y_iload_n dL_law_980 rfl rfl ?_
  refine y_iconst dL_law_981 ic_2 ?_
  refine y_iadd dL_law_982 ?_
  refine la_ld dL_law_983 (i + 2) (nI_addN i 2) (by omega) hL ?_
  refine y_aload_n dL_law_984 rfl rfl ?_
  refine y_iload_n dL_law_985 rfl rfl ?_
  refine y_iconst dL_law_986 ic_3 ?_
  refine y_iadd dL_law_987 ?_
  refine la_ld dL_law_988 (i + 3) (nI_addN i 3) (by omega) hL ?_
  refine y_cV3 dL_law_989 meX7_year clX7 kd_0 wm_ml_L_127 (kX7_year) ⟨Nat.le_of_ble_eq_true rfl, Nat.le_of_ble_eq_true rfl⟩ ⟨rfl, rfl⟩ (Nat.le_of_ble_eq_true rfl) (fun v989 μ989 hp989 => ?_)
  obtain ⟨rfl, he989⟩ := hp989
  replace he989 := he989.symm
  subst he989
  refine y_ri ?_
  refine y_aload_n dL_law_992 rfl rfl ?_
  refine y_aload_n dL_law_993 rfl rfl ?_
  refine y_iload_n dL_law_994 rfl rfl ?_
  refine y_iconst dL_law_995 ic_1 ?_
  refine y_iadd dL_law_996 ?_
  refine la_ld dL_law_997 (i + 1) (nI_addN i 1) (by omega) hL ?_
  refine y_aload_n dL_law_998 rfl rfl ?_
  refine y_iload_n dL_law_999 rfl rfl ?_
  refine y_iconst dL_law_1000 ic_2 ?_
  refine y_iadd dL_law_1001 ?_
  refine la_ld dL_law_1002 (i + 2) (nI_addN i 2) (by omega) hL ?_
  refine y_aload_n dL_law_1003 rfl rfl ?_
  refine y_iload_n dL_law_1004 rfl rfl ?_
  refine y_iconst dL_law_1005 ic_3 ?_
  refine y_iadd dL_law_1006 ?_
  refine la_ld dL_law_1007 (i + 3) (nI_addN i 3) (by omega) hL ?_
  refine y_cV3 dL_law_1008 meX8_year clX8 kd_58 wm_ml_L_130 (kX8_year) ⟨Nat.le_of_ble_eq_true rfl, Nat.le_of_ble_eq_true rfl⟩ ⟨rfl, rfl⟩ (Nat.le_of_ble_eq_true rfl) (fun v1008 μ1008 hp1008 => ?_)
  obtain ⟨rfl, he1008⟩ := hp1008
  replace he1008 := he1008.symm
  subst he1008
  refine y_ri ?_
  exact y_icmp_eq 1085 dL_law_1011 (by decide) (fun _ => nx _ (⟨_, _, _, R.2⟩)) (fun hq => absurd (R.1).symm hq)
set_option maxRecDepth 100000 in
set_option maxHeartbeats 4000000 in
theorem lc_image {l : Launch} {G : GT} {b L : Nat} {xs : Nat → Int32} {i t k c : Nat} {μ : MemT} (hL : L ≤ 448) (hi : i + 7 ≤ L) (h : Rel t k c μ) (nx : ∀ μ2, RelE μ2 → LY l G b L xs i μ2 1085 []) : LY l G b L xs i μ 1016 [] := by
  have R := rl_image h (xs (i + 1))
  refine y_aload_n dL_law_1016 rfl rfl ?_
  refine y_aload_n dL_law_1017 rfl rfl ?_
  refine y_iload_n dL_law_1018 rfl rfl ?_
  refine y_iconst dL_law_1019 ic_1 ?_
  refine y_iadd dL_law_1020 ?_
  refine la_ld dL_law_1021 (i + 1) (nI_addN i 1) (by omega) hL ?_
  refine y_cV1 dL_law_1022 meX7_image clX7 kd_0 wm_ml_L_131 (kX7_image) ⟨Nat.le_of_ble_eq_true rfl, Nat.le_of_ble_eq_true rfl⟩ ⟨rfl, rfl⟩ (Nat.le_of_ble_eq_true rfl) (fun v1022 μ1022 hp1022 => ?_)
  obtain ⟨rfl, he1022⟩ := hp1022
  replace he1022 := he1022.symm
  subst he1022
  refine y_ri ?_
  refine y_aload_n dL_law_1025 rfl rfl ?_
  refine y_aload_n dL_law_1026 rfl rfl ?_
  refine y_iload_n dL_law_1027 rfl rfl ?_
  refine y_iconst dL_law_1028 ic_1 ?_
  refine y_iadd dL_law_1029 ?_
  refine la_ld dL_law_1030 (i + 1) (nI_addN i 1) (by omega) hL ?_
  refine y_cV1 dL_law_1031 meX8_image clX8 kd_58 wm_ml_L_134 (kX8_image) ⟨Nat.le_of_ble_eq_true rfl, Nat.le_of_ble_eq_true rfl⟩ ⟨rfl, rfl⟩ (Nat.le_of_ble_eq_true rfl) (fun v1031 μ1031 hp1031 => ?_)
  obtain ⟨rfl, he1031⟩ := hp1031
  replace he1031 := he1031.symm
  subst he1031
  refine y_ri ?_
  exact y_icmp_eq 1085 dL_law_1034 (by decide) (fun _ => nx _ (⟨_, _, _, R.2⟩)) (fun hq => absurd (R.1).symm hq)
set_option maxRecDepth 100000 in
set_option maxHeartbeats 4000000 in
theorem lc_restore {l : Launch} {G : GT} {b L : Nat} {xs : Nat → Int32} {i t k c : Nat} {μ : MemT} (hL : L ≤ 448) (hi : i + 7 ≤ L) (h : Rel t k c μ) (nx : ∀ μ2, RelE μ2 → LY l G b L xs i μ2 1085 []) : LY l G b L xs i μ 1039 [] := by
  have R := rl_restore h (xs (i + 1))
  refine y_aload_n dL_law_1039 rfl rfl ?_
  refine y_aload_n dL_law_1040 rfl rfl ?_
  refine y_iload_n dL_law_1041 rfl rfl ?_
  refine y_iconst dL_law_1042 ic_1 ?_
  refine y_iadd dL_law_1043 ?_
  refine la_ld dL_law_1044 (i + 1) (nI_addN i 1) (by omega) hL ?_
  refine y_cV1 dL_law_1045 meX7_restore clX7 kd_0 wm_ml_L_135 (kX7_restore) ⟨Nat.le_of_ble_eq_true rfl, Nat.le_of_ble_eq_true rfl⟩ ⟨rfl, rfl⟩ (Nat.le_of_ble_eq_true rfl) (fun v1045 μ1045 hp1045 => ?_)
  obtain ⟨rfl, he1045⟩ := hp1045
  replace he1045 := he1045.symm
  subst he1045
  refine y_ri ?_
  refine y_aload_n dL_law_1048 rfl rfl ?_
  refine y_aload_n dL_law_1049 rfl rfl ?_
  refine y_iload_n dL_law_1050 rfl rfl ?_
  refine y_iconst dL_law_1051 ic_1 ?_
  refine y_iadd dL_law_1052 ?_
  refine la_ld dL_law_1053 (i + 1) (nI_addN i 1) (by omega) hL ?_
  refine y_cV1 dL_law_1054 meX8_restore clX8 kd_58 wm_ml_L_138 (kX8_restore) ⟨Nat.le_of_ble_eq_true rfl, Nat.le_of_ble_eq_true rfl⟩ ⟨rfl, rfl⟩ (Nat.le_of_ble_eq_true rfl) (fun v1054 μ1054 hp1054 => ?_)
  obtain ⟨rfl, he1054⟩ := hp1054
  replace he1054 := he1054.symm
  subst he1054
  refine y_ri ?_
  exact y_icmp_eq 1085 dL_law_1057 (by decide) (fun _ => nx _ (R.2.elim (fun _ g => g.elim (fun _ g => ⟨_, _, _, g⟩)))) (fun hq => absurd (R.1).symm hq)
set_option maxRecDepth 100000 in
set_option maxHeartbeats 4000000 in
theorem lc_told {l : Launch} {G : GT} {b L : Nat} {xs : Nat → Int32} {i t k c : Nat} {μ : MemT} (hL : L ≤ 448) (hi : i + 7 ≤ L) (h : Rel t k c μ) (nx : ∀ μ2, RelE μ2 → LY l G b L xs i μ2 1085 []) : LY l G b L xs i μ 1062 [] := by
  have R := rl_told h (xs (i + 1))
  refine y_aload_n dL_law_1062 rfl rfl ?_
  refine y_aload_n dL_law_1063 rfl rfl ?_
  refine y_iload_n dL_law_1064 rfl rfl ?_
  refine y_iconst dL_law_1065 ic_1 ?_
  refine y_iadd dL_law_1066 ?_
  refine la_ld dL_law_1067 (i + 1) (nI_addN i 1) (by omega) hL ?_
  refine y_cV1 dL_law_1068 meX7_told clX7 kd_0 wm_ml_L_139 (kX7_told) ⟨Nat.le_of_ble_eq_true rfl, Nat.le_of_ble_eq_true rfl⟩ ⟨rfl, rfl⟩ (Nat.le_of_ble_eq_true rfl) (fun v1068 μ1068 hp1068 => ?_)
  obtain ⟨rfl, he1068⟩ := hp1068
  replace he1068 := he1068.symm
  subst he1068
  refine y_ri ?_
  refine y_aload_n dL_law_1071 rfl rfl ?_
  refine y_aload_n dL_law_1072 rfl rfl ?_
  refine y_iload_n dL_law_1073 rfl rfl ?_
  refine y_iconst dL_law_1074 ic_1 ?_
  refine y_iadd dL_law_1075 ?_
  refine la_ld dL_law_1076 (i + 1) (nI_addN i 1) (by omega) hL ?_
  refine y_cV1 dL_law_1077 meX8_told clX8 kd_58 wm_ml_L_142 (kX8_told) ⟨Nat.le_of_ble_eq_true rfl, Nat.le_of_ble_eq_true rfl⟩ ⟨rfl, rfl⟩ (Nat.le_of_ble_eq_true rfl) (fun v1077 μ1077 hp1077 => ?_)
  obtain ⟨rfl, he1077⟩ := hp1077
  replace he1077 := he1077.symm
  subst he1077
  refine y_ri ?_
  exact y_icmp_eq 1085 dL_law_1080 (by decide) (fun _ => nx _ (⟨_, _, _, h⟩)) (fun hq => absurd (R).symm hq)
set_option maxRecDepth 100000 in
set_option maxHeartbeats 4000000 in
theorem la_sub7 {L : Nat} (hL : L ≤ 448) : (nI L - 7).toInt = (L : Int) - 7 := by
  rw [show (7 : Int32) = nI 7 from rfl, sub_nI (by omega) (by omega)]
  rfl
theorem la_step {l : Launch} {G : GT} {b L : Nat} {xs : Nat → Int32} {i : Nat} {μ : MemT} (hL : L ≤ 448) (hi : i + 7 ≤ L) (hE : RelE μ) (nx : ∀ μ2, RelE μ2 → LY l G b L xs i μ2 1085 []) : LY l G b L xs i μ 27 [] := by
  obtain ⟨t, k, c, h⟩ := hE
  refine y_aload_n dL_law_27 rfl rfl ?_
  refine y_iload_n dL_law_28 rfl rfl ?_
  refine la_ld dL_law_29 i rfl (by omega) hL ?_
  refine y_bipush dL_law_30 ib_31 ?_
  refine y_iand dL_law_32 ?_
  refine y_case 0 (fun _ => ?_) (fun n0 => ?_)
  · refine y_tableIn 168 dL_law_33 (by decide) (by decide) rfl (by decide) ?_
    exact lc_person hL hi h nx
  refine y_case 1 (fun _ => ?_) (fun n1 => ?_)
  · refine y_tableIn 221 dL_law_33 (by decide) (by decide) rfl (by decide) ?_
    exact lc_leave hL hi h nx
  refine y_case 2 (fun _ => ?_) (fun n2 => ?_)
  · refine y_tableIn 244 dL_law_33 (by decide) (by decide) rfl (by decide) ?_
    exact lc_marry hL hi h nx
  refine y_case 3 (fun _ => ?_) (fun n3 => ?_)
  · refine y_tableIn 303 dL_law_33 (by decide) (by decide) rfl (by decide) ?_
    exact lc_limit hL hi h nx
  refine y_case 4 (fun _ => ?_) (fun n4 => ?_)
  · refine y_tableIn 326 dL_law_33 (by decide) (by decide) rfl (by decide) ?_
    exact lc_say hL hi h nx
  refine y_case 5 (fun _ => ?_) (fun n5 => ?_)
  · refine y_tableIn 349 dL_law_33 (by decide) (by decide) rfl (by decide) ?_
    exact lc_wipe hL hi h nx
  refine y_case 6 (fun _ => ?_) (fun n6 => ?_)
  · refine y_tableIn 362 dL_law_33 (by decide) (by decide) rfl (by decide) ?_
    exact lc_fault hL hi h nx
  refine y_case 7 (fun _ => ?_) (fun n7 => ?_)
  · refine y_tableIn 375 dL_law_33 (by decide) (by decide) rfl (by decide) ?_
    exact lc_judge hL hi h nx
  refine y_case 8 (fun _ => ?_) (fun n8 => ?_)
  · refine y_tableIn 398 dL_law_33 (by decide) (by decide) rfl (by decide) ?_
    exact lc_behind hL hi h nx
  refine y_case 9 (fun _ => ?_) (fun n9 => ?_)
  · refine y_tableIn 431 dL_law_33 (by decide) (by decide) rfl (by decide) ?_
    exact lc_done hL hi h nx
  refine y_case 10 (fun _ => ?_) (fun n10 => ?_)
  · refine y_tableIn 444 dL_law_33 (by decide) (by decide) rfl (by decide) ?_
    exact lc_weighs hL hi h nx
  refine y_case 11 (fun _ => ?_) (fun n11 => ?_)
  · refine y_tableIn 467 dL_law_33 (by decide) (by decide) rfl (by decide) ?_
    exact lc_off hL hi h nx
  refine y_case 12 (fun _ => ?_) (fun n12 => ?_)
  · refine y_tableIn 490 dL_law_33 (by decide) (by decide) rfl (by decide) ?_
    exact lc_out hL hi h nx
  refine y_case 13 (fun _ => ?_) (fun n13 => ?_)
  · refine y_tableIn 513 dL_law_33 (by decide) (by decide) rfl (by decide) ?_
    exact lc_even hL hi h nx
  refine y_case 14 (fun _ => ?_) (fun n14 => ?_)
  · refine y_tableIn 546 dL_law_33 (by decide) (by decide) rfl (by decide) ?_
    exact lc_make hL hi h nx
  refine y_case 15 (fun _ => ?_) (fun n15 => ?_)
  · refine y_tableIn 605 dL_law_33 (by decide) (by decide) rfl (by decide) ?_
    exact lc_near hL hi h nx
  refine y_case 16 (fun _ => ?_) (fun n16 => ?_)
  · refine y_tableIn 654 dL_law_33 (by decide) (by decide) rfl (by decide) ?_
    exact lc_gap hL hi h nx
  refine y_case 17 (fun _ => ?_) (fun n17 => ?_)
  · refine y_tableIn 693 dL_law_33 (by decide) (by decide) rfl (by decide) ?_
    exact lc_assize hL hi h nx
  refine y_case 18 (fun _ => ?_) (fun n18 => ?_)
  · refine y_tableIn 716 dL_law_33 (by decide) (by decide) rfl (by decide) ?_
    exact lc_just hL hi h nx
  refine y_case 19 (fun _ => ?_) (fun n19 => ?_)
  · refine y_tableIn 729 dL_law_33 (by decide) (by decide) rfl (by decide) ?_
    exact lc_price hL hi h nx
  refine y_case 20 (fun _ => ?_) (fun n20 => ?_)
  · refine y_tableIn 772 dL_law_33 (by decide) (by decide) rfl (by decide) ?_
    exact lc_seen hL hi h nx
  refine y_case 21 (fun _ => ?_) (fun n21 => ?_)
  · refine y_tableIn 815 dL_law_33 (by decide) (by decide) rfl (by decide) ?_
    exact lc_forget hL hi h nx
  refine y_case 22 (fun _ => ?_) (fun n22 => ?_)
  · refine y_tableIn 828 dL_law_33 (by decide) (by decide) rfl (by decide) ?_
    exact lc_airs hL hi h nx
  refine y_case 23 (fun _ => ?_) (fun n23 => ?_)
  · refine y_tableIn 851 dL_law_33 (by decide) (by decide) rfl (by decide) ?_
    exact lc_air hL hi h nx
  refine y_case 24 (fun _ => ?_) (fun n24 => ?_)
  · refine y_tableIn 874 dL_law_33 (by decide) (by decide) rfl (by decide) ?_
    exact lc_cross hL hi h nx
  refine y_case 25 (fun _ => ?_) (fun n25 => ?_)
  · refine y_tableIn 897 dL_law_33 (by decide) (by decide) rfl (by decide) ?_
    exact lc_chance hL hi h nx
  refine y_case 26 (fun _ => ?_) (fun n26 => ?_)
  · refine y_tableIn 973 dL_law_33 (by decide) (by decide) rfl (by decide) ?_
    exact lc_year hL hi h nx
  refine y_case 27 (fun _ => ?_) (fun n27 => ?_)
  · refine y_tableIn 1016 dL_law_33 (by decide) (by decide) rfl (by decide) ?_
    exact lc_image hL hi h nx
  refine y_case 28 (fun _ => ?_) (fun n28 => ?_)
  · refine y_tableIn 1039 dL_law_33 (by decide) (by decide) rfl (by decide) ?_
    exact lc_restore hL hi h nx
  refine y_case 29 (fun _ => ?_) (fun n29 => ?_)
  · refine y_tableIn 1062 dL_law_33 (by decide) (by decide) rfl (by decide) ?_
    exact lc_told hL hi h nx
  refine y_tableOut 1085 dL_law_33 (sw_out30 n0 n1 n2 n3 n4 n5 n6 n7 n8 n9 n10 n11 n12 n13 n14 n15 n16 n17 n18 n19 n20 n21 n22 n23 n24 n25 n26 n27 n28 n29) (by decide) ?_
  exact nx _ ⟨_, _, _, h⟩
theorem la_loop {l : Launch} {G : GT} {b L : Nat} {xs : Nat → Int32} (hL : L ≤ 448) : ∀ (r i : Nat) (μ : MemT), RelE μ → L < i + 7 * r + 7 → i < 1000 → LY l G b L xs i μ 18 [] := by
  intro r
  induction r with
  | zero =>
    intro i μ hE hb hi
    refine y_iload_n dL_law_18 rfl rfl ?_
    refine y_aload_n dL_law_19 rfl rfl ?_
    refine la_len dL_law_20 ?_
    refine y_bipush dL_law_21 ib_7 ?_
    refine y_isub dL_law_23 ?_
    refine y_icmp_gt 1091 dL_law_24 (by decide) (fun _ => ?_) (fun hq => ?_)
    · refine y_iconst dL_law_1091 ic_1 ?_
      exact la_ret dL_law_1092
    · exfalso
      rw [lt_toInt, la_sub7 hL, nI_toInt (by omega)] at hq
      omega
  | succ r ih =>
    intro i μ hE hb hi
    refine y_iload_n dL_law_18 rfl rfl ?_
    refine y_aload_n dL_law_19 rfl rfl ?_
    refine la_len dL_law_20 ?_
    refine y_bipush dL_law_21 ib_7 ?_
    refine y_isub dL_law_23 ?_
    refine y_icmp_gt 1091 dL_law_24 (by decide) (fun _ => ?_) (fun hq => ?_)
    · refine y_iconst dL_law_1091 ic_1 ?_
      exact la_ret dL_law_1092
    · rw [lt_toInt, la_sub7 hL, nI_toInt (by omega)] at hq
      refine la_step hL (by omega) hE (fun μ2 h2 => ?_)
      refine y_iinc (v := nI (i + 7)) dL_law_1085 rfl (nI_addN i 7) rfl (by decide) ?_
      refine y_goto 18 dL_law_1088 (by decide) ?_
      exact ih (i + 7) μ2 h2 (by omega) (by omega)
/-! from the entry to the loop -/
def la_z (G : GT) (b L : Nat) (xs : Nat → Int32) : KZ := fun _ _ s _ args below meth _ Q => meth.sig.returnType = ret ∧ meth.locks = false ∧ Q = lw_Z below args s ∧ args = #[Value.ref b] ∧ va_X b L xs s s.heap ∧ b < s.heap.size ∧ G.2.1 0 = s.heap.size ∧ va_AO RX4 s
theorem z_astore_n {l : Launch} {G : GT} {R : Room} {κ : KZ} {cc : ByteArray} {nl : Nat} {own : String} {cs sl n : Nat} {μ : MemT} {pc : Nat} {lv : List (Option Value)} {st : List Value} {k : Fin 4} {i : Nat} {x : Nat} (d : decode cc pc = .ok (.astore_n k, 1)) (hi : (k : Nat) = i) (hok : okS lv i = true) (hn : i < nl) (h : Zj l G R κ cc nl own cs sl n μ (pc + 1) (lv.set i (some (.ref x))) st) : Zj l G R κ cc nl own cs sl n μ pc lv (.ref x :: st) := fun p e s m args below meth c Q hk F H locs ls hP hS hl => lv_astore_n F.1 F.2.1 d hi hl.has hn rfl (fun ls2 hl2 => h p e s m args below meth c Q hk F H locs ls2 hP hS (sw_L.st1 hok hl2))
theorem z_callI7 {l : Launch} {G : GT} {R : Room} {κ : KZ} {cc : ByteArray} {nl : Nat} {own : String} {cs sl n : Nat} {μ : MemT} {pc : Nat} {lv : List (Option Value)} {st : List Value} {y : MethodName} {bytes : ByteArray} {maxL index : Nat} {rm : Room} {n2 mc ms x : Nat} {μ2 : MemT} (hAO : ∀ p e s m args below meth c Q, κ p e s m args below meth c Q → va_AO RX4 s) (hM : zd_Met7 l G y bytes maxL rm [.ref x] mc ms n μ n2 μ2) (hcd : Cond.code y bytes maxL none ∈ wL) (hini : Cond.initialized y.cls ∈ wL) (hw : Cond.methodLink own index y ∈ wL) (him : Cond.instanceMethod y ∈ wL) (hy1 : y.name = "<init>") (hd : y.cls ≠ "java/lang/invoke/MethodHandle" ∧ y.cls ≠ "java/lang/invoke/VarHandle" ∧ (parseMethodDescriptor y.desc).map (fun d => d.parameters.length) = some 0) (hR : rm.frames + 1 ≤ R.frames ∧ 8 + (maxL + 11) + rm.locals ≤ R.locals) (hrm : rm.cells = mc ∧ rm.slots = ms) (hroom : (st.map fun v => v.category).sum ≤ 8) (hc : cs + mc ≤ R.cells) (hs : sl + ms ≤ R.slots) (d : decode cc pc = .ok (.invokespecial index, 3)) (h : Zj l G R κ cc nl own (cs + mc) (sl + ms) n2 μ2 (pc + 3) lv st) : Zj l G R κ cc nl own cs sl n μ pc lv (.ref x :: st) := by
  intro p e s m args below meth c Q hk F H locs ls hP hS hl
  exact zd_go (va_runI (As := []) (rest := st) ⟨F.1, F.2.1, F.2.2.1, F.2.2.2.1, F.2.2.2.2.1⟩ (hM F.2.2.2.2.2.2) (cwI 0 F.2.2.2.2.1 (wL_callee hcd) rfl hrm.1 hrm.2 (F.2.2.2.2.1 _ hini) (F.2.2.2.2.1 _ hw) (F.2.2.2.2.1 _ him) hy1 hd hR) ⟨zd_blind7, fun U hU hW => ⟨rfl, by rw [hU]; exact hP, F.2.2.2.2.2.1.warm hW, va_AO.moved hW.alike (hAO p e s m args below meth c Q hk)⟩⟩ rfl rfl hl.1 rfl (lv_room hroom) d ⟨hc, hs⟩) hS (fun H1 locs1 hP1 hS1 => h p e s m args below meth c Q hk F H1 locs1 ls hP1 hS1 hl)
/-! the memory at the loop's first turn -/
def la_μ : MemT := mdM (swM (fun _ => z0))
def la_in (k : Nat) : Bool := k == 0 || k == 1 || k == 3 || k == 5 || k == 6 || k == 11 || k == 16 || k == 17 || k == 18 || k == 26 || k == 34 || k == 42 || k == 50 || k == 58
def la_ar : KdT → Bool
  | .inl _ => false
  | .inr (q, _) => q < 3
theorem la_kd : ∀ k, k < 79 → la_in k = true ∨ (kdL[k]?.map la_ar) = some true := by decide
theorem la_e {ad : Nat → Nat} {ar : Nat → ClassId} {r : Nat → Int32} {kd : KdT} (h : la_ar kd = true) : sw_e ad ar r kd = zd_e ad ar r kd := by
  obtain ⟨ci, tm⟩ | ⟨q, n⟩ := kd
  · cases h
  · have hq : q < 3 := of_decide_eq_true h
    rcases (show q = 0 ∨ q = 1 ∨ q = 2 by omega) with rfl | rfl | rfl <;> rfl
theorem la_cell (ad : Nat → Nat) (ar : Nat → ClassId) : ∀ k, k < 79 → k ≠ 1 → sw_cell ad ar la_μ k = zd_cell ad ar la_μ k := by
  intro k hk hk1
  rcases la_kd k hk with h | h
  · simp only [la_in, Bool.or_eq_true, beq_iff_eq] at h
    rcases h with ((((((((((((rfl | rfl) | rfl) | rfl) | rfl) | rfl) | rfl) | rfl) | rfl) | rfl) | rfl) | rfl) | rfl) | rfl
    · rfl
    · exact absurd rfl hk1
    · rfl
    · rfl
    · rfl
    · rfl
    · rfl
    · rfl
    · rfl
    · rfl
    · rfl
    · rfl
    · rfl
    · rfl
  · cases e : kdL[k]? with
    | none => rw [e] at h; cases h
    | some kd =>
      rw [e] at h
      rw [sw_cell_of e, zd_cell_of e]
      exact la_e (Option.some.inj h)
theorem la_arrV {c : ClassId} {n : Nat} {f g : Nat → Value} (h : ∀ j, j < n → f j = g j) : arrV c n f = arrV c n g := by
  have e : (fun j : Fin n => f j.val) = fun j => g j.val := funext fun j => h j.val j.isLt
  unfold arrV
  rw [e]
theorem la_P {G : GT} {H : Heap} (h : zd_P G 79 la_μ H) : sw_P G la_μ H := by
  intro k q hq
  have hk : k < 79 := by
    have := (List.getElem?_eq_some_iff.mp hq).1
    rwa [sw_ws_len] at this
  have e1 : (sw_ws G.2.1 G.2.2 la_μ)[k]? = some (G.2.1 k, sw_cell G.2.1 G.2.2 la_μ k) := by
    unfold sw_ws
    rw [List.getElem?_map, List.getElem?_range hk]
    rfl
  rw [e1] at hq
  have e2 : (zd_ws G.2.1 G.2.2 la_μ 79)[poz k]? = some (G.2.1 k, zd_cell G.2.1 G.2.2 la_μ k) := by
    rw [zd_ws_ix (oz_poz k hk).2, (oz_poz k hk).1]
  by_cases hk1 : k = 1
  · subst hk1
    have h2 := h.2 (poz 1) _ e2
    have h3 : H[G.2.1 1]? = some (vp_cell (G.2.2 3) (2, .inr (.inr (.inr (.inr (fun j => if la_μ 1 j = 0 then none else sw_img G.2.1 j)))))) := h2
    have h4 : q = (G.2.1 1, .inl (G.2.2 3, 2, .inr (.inr (.inr (.inr (sw_img G.2.1)))))) := (Option.some.inj hq).symm
    rw [h4]
    show H[G.2.1 1]? = some (vp_cell (G.2.2 3) (2, .inr (.inr (.inr (.inr (sw_img G.2.1))))))
    exact h3.trans (congrArg some (la_arrV (c := G.2.2 3) (n := 2) (f := fun j => va_rf (if la_μ 1 j = 0 then none else sw_img G.2.1 j)) (g := fun j => va_rf (sw_img G.2.1 j)) (fun j hj => by rcases (show j = 0 ∨ j = 1 by omega) with rfl | rfl <;> rfl)))
  · rw [← la_cell G.2.1 G.2.2 k hk hk1, hq] at e2
    exact h.2 (poz k) q e2
theorem la_rel : Rel 0 0 0 la_μ := by
  have nb : ∀ p, p < 8 → bt (nI 0) p = true → False := by decide
  have e62 : ∀ p, p < 8 → filF 8 (-6) z0 p = -6 := fun p hp => filF_in (-6) z0 hp
  refine ⟨⟨by decide, by decide, rfl, rfl, rfl, rfl, by decide +kernel, rfl, rfl, rfl, fun p hp q => (nb p hp q).elim, fun p hp q => (nb p hp q).elim, fun p hp q => (nb p hp q).elim, fun p hp => ⟨rfl, Or.inl (e62 p hp)⟩, fun j hj => ⟨rfl, rfl, rfl⟩, fun j hj => absurd hj (Nat.not_lt_zero j)⟩, ⟨by decide, rfl, rfl, fun j hj => absurd hj (Nat.not_lt_zero j)⟩, ⟨rfl, fun q => absurd rfl q⟩, ⟨rfl, fun q => absurd rfl q⟩, rfl, rfl, rfl⟩
theorem la_tysA {s : State} {A : Array Value} (h : ∀ w ∈ lw_tbl, w.before A s = true) : ∃ ar : Nat → ClassId, ∀ (k : Nat) (q : ClassId × FieldType), (sw_tys ar)[k]? = some q → ArrOfT s q.1 q.2 ∧ va_RA s q.1 q.2 := by
  obtain ⟨c0, k0, m0, a1, a2, a3⟩ := Cond.arrayClass_spec (h (.arrayClass .int) (wL_tbl _ wm_ac_int))
  obtain ⟨c1, k1, m1, b1, b2, b3⟩ := Cond.arrayClass_spec (h (.arrayClass .byte) (wL_tbl _ wm_ac_byte))
  obtain ⟨c2, k2, m2, d1, d2, d3⟩ := Cond.arrayClass_spec (h (.arrayClass .boolean) (wL_tbl _ wm_ac_boolean))
  obtain ⟨m3, c3, k3, f1, f2, f3, f4, f5⟩ := Cond.arrayOver_spec (h (.arrayOver (.object "SwornPounds$Town")) (wL_t1 _ (List.mem_of_getElem? (i := 90) rfl)))
  refine ⟨fun k => if k = 0 then c0 else if k = 1 then c1 else if k = 2 then c2 else c3, fun k q hq => ?_⟩
  match k, hq with
  | 0, hq => cases hq; exact ⟨fun n z => ⟨fun k h => (by cases h), k0, a2, m0, a3⟩, a1⟩
  | 1, hq => cases hq; exact ⟨fun n z => ⟨fun k h => (by cases h), k1, b2, m1, b3⟩, b1⟩
  | 2, hq => cases hq; exact ⟨fun n z => ⟨fun k h => (by cases h), k2, d2, m2, d3⟩, d1⟩
  | 3, hq => cases hq; exact ⟨fun n z => ⟨fun k h => (by cases h), k3, f3, m3, f4⟩, k3, m3, f3, f4, f1, f5⟩
  | k + 4, hq => simp [sw_tys] at hq
theorem la_known {s : State} {A : Array Value} (h : ∀ w ∈ lw_tbl, w.before A s = true) : ∃ D : va_G, ∀ (k : Nat) (q : vw_C), vwCl[k]? = some q → u_Kn s q.1 q.2.1 q.2.2 (D.1 k) (D.2 k) := by
  obtain ⟨c0, i0, k0⟩ := u_known (C := RX0) (T := TX0) (N := 2) (n := 2) (args := A) (fun w hw => h w (wL_tbl _ hw)) clX0.2.1 (h _ (wL_tbl _ wm_it_X0))
  obtain ⟨c1, i1, k1⟩ := u_known (C := RX1) (T := TX1) (N := 13) (n := 13) (args := A) (fun w hw => h w (wL_tbl _ hw)) clX1.2.1 (h _ (wL_tbl _ wm_it_X1))
  obtain ⟨c2, i2, k2⟩ := u_known (C := RX2) (T := TX2) (N := 2) (n := 2) (args := A) (fun w hw => h w (wL_tbl _ hw)) clX2.2.1 (h _ (wL_tbl _ wm_it_X2))
  obtain ⟨c3, i3, k3⟩ := u_known (C := RX3) (T := TX3) (N := 10) (n := 10) (args := A) (fun w hw => h w (wL_tbl _ hw)) clX3.2.1 (h _ (wL_tbl _ wm_it_X3))
  obtain ⟨c4, i4, k4⟩ := u_known (C := RX4) (T := TX4) (N := 12) (n := 12) (args := A) (fun w hw => h w (wL_tbl _ hw)) clX4.2.1 (h _ (wL_tbl _ wm_it_X4))
  obtain ⟨c5, i5, k5⟩ := u_known (C := RX5) (T := TX5) (N := 7) (n := 7) (args := A) (fun w hw => h w (wL_tbl _ hw)) clX5.2.1 (h _ (wL_tbl _ wm_it_X5))
  obtain ⟨c6, i6, k6⟩ := u_known (C := RX6) (T := TX6) (N := 4) (n := 4) (args := A) (fun w hw => h w (wL_tbl _ hw)) clX6.2.1 (h _ (wL_tbl _ wm_it_X6))
  obtain ⟨c7, i7, k7⟩ := u_known (C := RX7) (T := TX7) (N := 9) (n := 9) (args := A) (fun w hw => h w (wL_tbl _ hw)) clX7.2.1 (h _ (wL_tbl _ wm_it_X7))
  obtain ⟨c8, i8, k8⟩ := u_known (C := RX8) (T := TX8) (N := 41) (n := 41) (args := A) (fun w hw => h w (wL_tbl _ hw)) clX8.2.1 (h _ (wL_tbl _ wm_it_X8))
  refine ⟨(fun k => if k = 0 then c0 else if k = 1 then c1 else if k = 2 then c2 else if k = 3 then c3 else if k = 4 then c4 else if k = 5 then c5 else if k = 6 then c6 else if k = 7 then c7 else c8, fun k => if k = 0 then i0 else if k = 1 then i1 else if k = 2 then i2 else if k = 3 then i3 else if k = 4 then i4 else if k = 5 then i5 else if k = 6 then i6 else if k = 7 then i7 else i8), fun k q hq => ?_⟩
  match k, hq with
  | 0, hq => cases hq; exact k0
  | 1, hq => cases hq; exact k1
  | 2, hq => cases hq; exact k2
  | 3, hq => cases hq; exact k3
  | 4, hq => cases hq; exact k4
  | 5, hq => cases hq; exact k5
  | 6, hq => cases hq; exact k6
  | 7, hq => cases hq; exact k7
  | 8, hq => cases hq; exact k8
  | k + 9, hq => simp [vwCl] at hq
set_option maxRecDepth 100000 in
set_option maxHeartbeats 4000000 in
theorem la_enter {l : Launch} {G : GT} {b L : Nat} {xs : Nat → Int32} (hL : L ≤ 448) : Zj l G room_1 (la_z G b L xs) cL_law 4 RL 0 0 0 (fun _ => z0) 0 [some (.ref b), none, none, none] [] := by
  refine z_new dL_law_0 clX7 kd_0 rfl wm_kl_L_7 wm_it_X7 wm_ini_X7 (zf_0 G) (Nat.le_of_ble_eq_true rfl) (Nat.le_of_ble_eq_true rfl) ?_
  refine z_dup dL_law_3 rfl ?_
  refine z_callI7 (fun _ _ _ _ _ _ _ _ _ hk => hk.2.2.2.2.2.2.2) (zX7 l G _) wm_cd_X7_init wm_ini_X7 wm_ml_L_9 wm_im_X7_init rfl (by decide +kernel) ⟨Nat.le_of_ble_eq_true rfl, Nat.le_of_ble_eq_true rfl⟩ ⟨rfl, rfl⟩ (Nat.le_of_ble_eq_true rfl) (Nat.le_of_ble_eq_true rfl) (Nat.le_of_ble_eq_true rfl) dL_law_4 ?_
  refine z_astore_n dL_law_7 rfl rfl (by decide) ?_
  refine z_new dL_law_8 clX8 kd_58 rfl wm_kl_L_10 wm_it_X8 wm_ini_X8 (zf_58 G) (Nat.le_of_ble_eq_true rfl) (Nat.le_of_ble_eq_true rfl) ?_
  refine z_dup dL_law_11 rfl ?_
  refine z_callI (zX8 l G _) wm_cd_X8_init wm_ini_X8 wm_ml_L_12 wm_im_X8_init rfl (by decide +kernel) ⟨Nat.le_of_ble_eq_true rfl, Nat.le_of_ble_eq_true rfl⟩ ⟨rfl, rfl⟩ (Nat.le_of_ble_eq_true rfl) (Nat.le_of_ble_eq_true rfl) (Nat.le_of_ble_eq_true rfl) dL_law_12 ?_
  refine z_astore_n dL_law_15 rfl rfl (by decide) ?_
  refine z_iconst (v := 0) dL_law_16 ic_0 ?_
  refine z_istore_n dL_law_17 rfl rfl (by decide) ?_
  intro p e s m args below meth c Q hk F H locs ls hP hS hl
  obtain ⟨hr, hlk, hQ, ha, hX, hbl, hG, hAO⟩ := id hk
  have hA : zd_A G = (fun q : Nat => s.heap.size ≤ q) := by unfold zd_A; rw [hG]
  rw [hA] at hS
  refine W.widen (k := 600000) (n := 7302250) (Nat.le_of_ble_eq_true rfl) (Nat.le_of_ble_eq_true rfl) ?_
  refine la_loop (l := l) (G := G) (b := b) (xs := xs) hL 100 0 la_μ ⟨0, 0, 0, la_rel⟩ (by omega) (by decide) p e s m args below meth c _ 600000 7302250 Q ⟨hr, hlk, rfl, rfl, rfl, hQ, ha, hX, hbl⟩ ⟨F.1, F.2.1, F.2.2.1, F.2.2.2.1, F.2.2.2.2.1, F.2.2.2.2.2.1, Nat.le_refl _, Nat.le_refl _, fun k hk => ?_, zd_sw_D F.2.2.2.2.2.2⟩ H locs ls (la_P hP) hS hl
  show s.heap.size ≤ G.2.1 k
  rw [F.2.2.2.2.2.2 k hk, hG]
  exact Nat.le_add_right _ _
/-- from the entry, for every script of at most 448 ints, the law comes to its end with true -/
theorem whole_start {p : Program} {e : Env} {s : State} {m : MethodId} {below : List Frame} {meth : Method} {c : Code} (l : Launch) (hflags : l.flags = flags0) {b L : Nat} {xs : Nat → Int32} (hL : L ≤ 448) (C0 : lw_At p s m meth c b L xs) : W p l e room_1 s m #[Value.ref b] below meth c s.heap [] 0 0 (lw_Z below #[Value.ref b] s) (entryFrame m ([Value.ref b] : List Value).toArray 4) := by
  obtain ⟨hx, hb, hr, hml, hown, hts, hX, hbl, hlocks, hgv⟩ := id C0
  obtain ⟨D, hD⟩ := la_known hts
  obtain ⟨ar, har⟩ := la_tysA hts
  have hAO : va_AO RX4 s := va_AO.of (hts (.arrayOver (.object "SwornPounds$Town")) (wL_t1 _ (List.mem_of_getElem? (i := 90) rfl)))
  have hK : sw_K (D, (fun k => s.heap.size + poz k), ar) s := ⟨⟨hD, har⟩, fun w hw => by
    obtain ⟨a, i, x, h2, rfl⟩ := wL_nest_form w hw
    exact va_Nw.of rfl (hts _ (wL_nest_in _ hw))⟩
  have hG0 : (fun k => s.heap.size + poz k) 0 = s.heap.size := rfl
  have had : zd_ad (D, (fun k => s.heap.size + poz k), ar) := fun k _ => rfl
  rw [lg_entry_eq]
  exact la_enter (l := l) (G := (D, (fun k => s.heap.size + poz k), ar)) (b := b) (xs := xs) hL p e s m #[Value.ref b] below meth c _ ⟨hr, hlocks, rfl, rfl, hX, hbl, hG0, hAO⟩ ⟨hx, hb, hml, hown, fun w hw => hts w (wL_tbl _ hw), hK, had⟩ s.heap [] _ ⟨rfl, fun k q h => by simp [zd_ws] at h⟩ va_S.rf (sw_L_ent (lv_entry [.ref b] (Nat.le_of_ble_eq_true rfl)))
set_option maxHeartbeats 4000000 in
theorem lw_walk (l : Launch) (hflags : l.flags = flags0) (b : Addr) (xs : List Int32) : MetFree l x (headSpec (Jvm.Cond.code x code maxLocals ret :: tables_1) room_1) (lw_P b xs) (fun _ _ _ _ _ => True) lw_Q := by
  refine MetFree.of_bodyS (code := code) (maxLocals := maxLocals) (ret := ret) (by decide) ?_ ?_
  · intro args s m h hn
    obtain ⟨meth, c, h1, h2, h3, h4, h5, h6, -, -⟩ := Cond.code_spec hn (atoms_spec (ws := Jvm.Cond.code x code maxLocals ret :: tables_1) h _ List.mem_cons_self)
    exact ⟨meth, c, h1, h2, h3, h4, h5, h6⟩
  · intro p e s m args below meth c s₁ B hml0 hP _
    obtain ⟨rfl, hx, hbd, hgv⟩ := hP
    obtain ⟨scr, harrAt, hlist, hof, hsmall⟩ := hx
    obtain ⟨hcb, hkn, -, -⟩ := State.arrayAt?_spec harrAt
    have hown : s.vm.findClass R_law = some m.cls := findClass_of_methodNamed B.named
    have hts0 : ∀ c ∈ (Jvm.Cond.code x code maxLocals ret :: tables_1), c.before #[Value.ref b] s = true := atoms_spec (ws := Jvm.Cond.code x code maxLocals ret :: tables_1) B.pre
    have hts : ∀ w ∈ lw_tbl, w.before #[Value.ref b] s = true := k2_hts_sels lw_privs (fun w hw => hts0 w (List.mem_cons_of_mem _ hw)) lw_privs_ok
    have hml : c.maxLocals = 4 := B.maxLocals_eq (hts0 _ List.mem_cons_self)
    have X₀ : Stand p l e room_1 s m #[Value.ref b] below meth c s₁ [] 0 0 := Stand.of_body B
    have hh0 : s₁.heap = s.heap := by rw [B.state]; rfl
    have hsz : scr.slots.size = xs.length := by rw [← Array.length_toList, hlist, List.length_map]
    have hval : ∀ j : Nat, j < xs.length → scr.slots[j]? = some (.int (xs.getD j 0)) := fun j hj => by
      rw [← Array.getElem?_toList, hlist]
      simp [hj]
    have hbl : b < s.heap.size := (Array.getElem?_eq_some_iff.mp hcb).1
    have hX : va_X b xs.length (fun j => xs.getD j 0) s s.heap := ⟨scr, hcb, hof, hkn, hsz, hval⟩
    have K : W p l e room_1 s m #[Value.ref b] below meth c s₁.heap [] 0 0 (lw_Z below #[Value.ref b] s) (entryFrame m ([Value.ref b] : List Value).toArray 4) := by
      rw [hh0]
      exact whole_start l hflags hbd ⟨B.exec, B.bytes, B.returns, hml, hown, hts, hX, hbl, B.notSynchronized, hgv⟩
    obtain ⟨t, a1, o, b1, b2, b3⟩ := K s₁ rfl X₀
    exact ⟨t, o, a1, b1, b2, b3⟩
theorem lw_pre_spec {args : Array Value} {s : State} (h : (Jvm.Cond.and given_1 narrow_1).before args s = true) (hr : rest_1_c.before args s = true) : ∃ (b : Addr) (xs : List Int32), lw_P b xs args s := by
  have hs := flat_of_before _ h
  have hq := flat_of_before _ hr
  have hc : (Cond.count 1).before args s = true := hs _ (by decide +kernel)
  have harr : (Cond.arrayOf (.arg 0) .int).before args s = true := hs _ (by decide +kernel)
  have hle : (Cond.le (.length (.arg 0)) (.int 448)).before args s = true := hs _ (by decide +kernel)
  have hlen : (Cond.isInt (.length (.arg 0))).before args s = true := hq _ (by decide +kernel)
  have hall : (Cond.all (.arg 0) (.isInt (.elem (.arg 0) (.index 0)))).before args s = true := hq _ (by decide +kernel)
  obtain ⟨b, xs, hb, hx⟩ := State.ints_of_pre rfl harr hlen hall
  have hsm : xs.length < 2 ^ 31 := hx.choose_spec.2.2.2
  have hev : (Term.length (.arg 0)).eval args s none [] s = some (.int xs.length.toInt32) := hx.length_eval hb
  have hv := Cond.le_ints hev (show (Term.int 448).eval args s none [] s = some (.int 448) from rfl)
  have hd : xs.length.toInt32 ≤ 448 := by
    simpa [Cond.before, Cond.holds, hv] using hle
  have hN : xs.length ≤ 448 := (Int32.ofNat_le_ofNat hsm (by decide)).mp (show Int32.ofNat xs.length ≤ Int32.ofNat 448 from hd)
  exact ⟨b, xs, Cond.one_arg hc (show args[0]? = some (.ref b) from hb), hx, hN, h⟩
theorem lw_comes (l : Launch) (hflags : l.flags = flags0) : Comes l x (Jvm.Cond.code x code maxLocals ret :: tables_1) room_1 (fun tb e args s => Calls_1 tb e args s ∧ rest_1 tb e args s ∧ Pre_1 tb e args s)
    (fun _ _ args s o t => lw_Q args s o t) := by
  intro p e ha hc hk s m args below hf hfit hheap happ hpre
  obtain ⟨b, xs, hP⟩ := lw_pre_spec hpre.2.2 hpre.2.1
  obtain ⟨k, o, h1, h2, h3, hQ⟩ := lw_walk l hflags b xs p e ha hc hk s m args below hf ((Spec.applies_iff_loose hf).mp happ).1 hP trivial
  exact ⟨k, o, h1, h2, h3, hQ⟩
theorem lw_frame {s t : State} {o : Outcome} {args : Array Value} (h : Framed s o t [] 600000 7302250) :
    Framed s o t (fieldLocs frame_1_writes args s ++ arrayLocs frame_1_arrays args s ++ staticLocs frame_1_statics s) 600000 7302250 := h
theorem lw_limb (L : Cond) (hL : ∀ (args : Array Value) (s t : State), L.after args s (.returned (some (.int 1))) t = true) :
    ArmFor flags0 classFile x code maxLocals ret World_1 tables_1 room_1 Calls_1 rest_1 Pre_1
      (fun tb e a s o t => postC L tb e a s o t ∧ Framed s o t (fieldLocs frame_1_writes a s ++ arrayLocs frame_1_arrays a s ++ staticLocs frame_1_statics s) 600000 7302250) := by
  intro l hflags _ _ p e ha hc hk s m args below hf hfit hheap happ hpre
  obtain ⟨k, o, h1, h2, h3, rfl, hF⟩ := lw_comes l hflags p e ha hc hk s m args below hf hfit hheap happ hpre
  exact ⟨k, _, h1, h2, h3, hL args s _, lw_frame hF⟩
theorem i_vc : Claimed_1_1 ∧ Claimed_1_2 := ⟨lw_limb limb_1_1 (fun args s t => by simp [limb_1_1, Cond.after, Cond.holds, Cond.value]), lw_limb limb_1_2 (fun args s t => Cond.after_iff.mpr (by
  first | (rw [show limb_1_2 = Cond.eq .result (.int 1) from rfl, Cond.eq_ints (x := 1) (y := 1) rfl rfl]; simp; done) | (simp [limb_1_2, Cond.value, Term.eval]; done)))⟩
