/-! from the entry to the loop -/
def la_z (G : GT) (b L : Nat) (xs : Nat → Int32) : KZ := fun _ _ s _ args below meth _ Q => meth.sig.returnType = ret ∧ meth.locks = false ∧ Q = lw_Z below args s ∧ args = #[Value.ref b] ∧ va_X b L xs s s.heap ∧ b < s.heap.size ∧ G.2.1 0 = s.heap.size ∧ va_AO RX4 s
theorem z_astore_n {l : Launch} {G : GT} {R : Room} {κ : KZ} {cc : ByteArray} {nl : Nat} {own : String} {cs sl n : Nat} {μ : MemT} {pc : Nat} {lv : List (Option Value)} {st : List Value} {k : Fin 4} {i : Nat} {x : Nat} (d : decode cc pc = .ok (.astore_n k, 1)) (hi : (k : Nat) = i) (hok : okS lv i = true) (hn : i < nl) (h : Zj l G R κ cc nl own cs sl n μ (pc + 1) (lv.set i (some (.ref x))) st) : Zj l G R κ cc nl own cs sl n μ pc lv (.ref x :: st) := fun p e s m args below meth c Q hk F H locs ls hP hS hl => lv_astore_n F.1 F.2.1 d hi hl.has hn rfl (fun ls2 hl2 => h p e s m args below meth c Q hk F H locs ls2 hP hS (sw_L.st1 hok hl2))
theorem z_callI7 {l : Launch} {G : GT} {R : Room} {κ : KZ} {cc : ByteArray} {nl : Nat} {own : String} {cs sl n : Nat} {μ : MemT} {pc : Nat} {lv : List (Option Value)} {st : List Value} {y : MethodName} {bytes : ByteArray} {maxL index : Nat} {rm : Room} {n2 mc ms x : Nat} {μ2 : MemT} (hAO : ∀ p e s m args below meth c Q, κ p e s m args below meth c Q → va_AO RX4 s) (hM : zd_Met7 l G y bytes maxL rm [.ref x] mc ms n μ n2 μ2) (hcd : Cond.code y bytes maxL none ∈ wL) (hini : Cond.initialized y.cls ∈ wL) (hw : Cond.methodLink own index y ∈ wL) (him : Cond.instanceMethod y ∈ wL) (hy1 : y.name = "<init>") (hd : y.cls ≠ "java/lang/invoke/MethodHandle" ∧ y.cls ≠ "java/lang/invoke/VarHandle" ∧ (parseMethodDescriptor y.desc).map (fun d => d.parameters.length) = some 0) (hR : rm.frames + 1 ≤ R.frames ∧ 8 + (maxL + 11) + rm.locals ≤ R.locals) (hrm : rm.cells = mc ∧ rm.slots = ms) (hroom : (st.map fun v => v.category).sum ≤ 8) (hc : cs + mc ≤ R.cells) (hs : sl + ms ≤ R.slots) (d : decode cc pc = .ok (.invokespecial index, 3)) (h : Zj l G R κ cc nl own (cs + mc) (sl + ms) n2 μ2 (pc + 3) lv st) : Zj l G R κ cc nl own cs sl n μ pc lv (.ref x :: st) := by
  intro p e s m args below meth c Q hk F H locs ls hP hS hl
  exact zd_go (va_runI (As := []) (rest := st) ⟨F.1, F.2.1, F.2.2.1, F.2.2.2.1, F.2.2.2.2.1⟩ (hM F.2.2.2.2.2.2) (cwI 0 F.2.2.2.2.1 (wL_callee hcd) rfl hrm.1 hrm.2 (F.2.2.2.2.1 _ hini) (F.2.2.2.2.1 _ hw) (F.2.2.2.2.1 _ him) hy1 hd hR) ⟨zd_blind7, fun U hU hW => ⟨rfl, by rw [hU]; exact hP, F.2.2.2.2.2.1.warm hW, va_AO.moved hW.alike (hAO p e s m args below meth c Q hk)⟩⟩ rfl rfl hl.1 rfl (lv_room hroom) d ⟨hc, hs⟩) hS (fun H1 locs1 hP1 hS1 => h p e s m args below meth c Q hk F H1 locs1 ls hP1 hS1 hl)
/-! the memory at the loop's first turn -/
def la_μ : MemT := mdM (swM (fun _ => z0))
def la_in (k : Nat) : Bool := k == 0 || k == 1 || k == 3 || k == 5 || k == 6 || k == 11 || k == 16 || k == 17 || k == 18 || k == 26 || k == 34 || k == 42 || k == 50 || k == 58
def la_ar : KdT → Bool
  | .inl _ => false
  | .inr (q, _) => q < 3
theorem la_kd : ∀ k, k < 79 → la_in k = true ∨ (kdL[k]?.map la_ar) = some true := by decide
theorem la_e {ad : Nat → Nat} {ar : Nat → ClassId} {r : Nat → Int32} {kd : KdT} (h : la_ar kd = true) : sw_e ad ar r kd = zd_e ad ar r kd := by
  obtain ⟨ci, tm⟩ | ⟨q, n⟩ := kd
  · cases h
  · have hq : q < 3 := of_decide_eq_true h
    rcases (show q = 0 ∨ q = 1 ∨ q = 2 by omega) with rfl | rfl | rfl <;> rfl
theorem la_cell (ad : Nat → Nat) (ar : Nat → ClassId) : ∀ k, k < 79 → k ≠ 1 → sw_cell ad ar la_μ k = zd_cell ad ar la_μ k := by
  intro k hk hk1
  rcases la_kd k hk with h | h
  · simp only [la_in, Bool.or_eq_true, beq_iff_eq] at h
    rcases h with ((((((((((((rfl | rfl) | rfl) | rfl) | rfl) | rfl) | rfl) | rfl) | rfl) | rfl) | rfl) | rfl) | rfl) | rfl
    · rfl
    · exact absurd rfl hk1
    · rfl
    · rfl
    · rfl
    · rfl
    · rfl
    · rfl
    · rfl
    · rfl
    · rfl
    · rfl
    · rfl
    · rfl
  · cases e : kdL[k]? with
    | none => rw [e] at h; cases h
    | some kd =>
      rw [e] at h
      rw [sw_cell_of e, zd_cell_of e]
      exact la_e (Option.some.inj h)
theorem la_arrV {c : ClassId} {n : Nat} {f g : Nat → Value} (h : ∀ j, j < n → f j = g j) : arrV c n f = arrV c n g := by
  have e : (fun j : Fin n => f j.val) = fun j => g j.val := funext fun j => h j.val j.isLt
  unfold arrV
  rw [e]
theorem la_P {G : GT} {H : Heap} (h : zd_P G 79 la_μ H) : sw_P G la_μ H := by
  intro k q hq
  have hk : k < 79 := by
    have := (List.getElem?_eq_some_iff.mp hq).1
    rwa [sw_ws_len] at this
  have e1 : (sw_ws G.2.1 G.2.2 la_μ)[k]? = some (G.2.1 k, sw_cell G.2.1 G.2.2 la_μ k) := by
    unfold sw_ws
    rw [List.getElem?_map, List.getElem?_range hk]
    rfl
  rw [e1] at hq
  have e2 : (zd_ws G.2.1 G.2.2 la_μ 79)[poz k]? = some (G.2.1 k, zd_cell G.2.1 G.2.2 la_μ k) := by
    rw [zd_ws_ix (oz_poz k hk).2, (oz_poz k hk).1]
  by_cases hk1 : k = 1
  · subst hk1
    have h2 := h.2 (poz 1) _ e2
    have h3 : H[G.2.1 1]? = some (vp_cell (G.2.2 3) (2, .inr (.inr (.inr (.inr (fun j => if la_μ 1 j = 0 then none else sw_img G.2.1 j)))))) := h2
    have h4 : q = (G.2.1 1, .inl (G.2.2 3, 2, .inr (.inr (.inr (.inr (sw_img G.2.1)))))) := (Option.some.inj hq).symm
    rw [h4]
    show H[G.2.1 1]? = some (vp_cell (G.2.2 3) (2, .inr (.inr (.inr (.inr (sw_img G.2.1))))))
    exact h3.trans (congrArg some (la_arrV (c := G.2.2 3) (n := 2) (f := fun j => va_rf (if la_μ 1 j = 0 then none else sw_img G.2.1 j)) (g := fun j => va_rf (sw_img G.2.1 j)) (fun j hj => by rcases (show j = 0 ∨ j = 1 by omega) with rfl | rfl <;> rfl)))
  · rw [← la_cell G.2.1 G.2.2 k hk hk1, hq] at e2
    exact h.2 (poz k) q e2
theorem la_rel : Rel 0 0 0 la_μ := by
  have nb : ∀ p, p < 8 → bt (nI 0) p = true → False := by decide
  have e62 : ∀ p, p < 8 → filF 8 (-6) z0 p = -6 := fun p hp => filF_in (-6) z0 hp
  refine ⟨⟨by decide, by decide, rfl, rfl, rfl, rfl, by decide +kernel, rfl, rfl, rfl, fun p hp q => (nb p hp q).elim, fun p hp q => (nb p hp q).elim, fun p hp q => (nb p hp q).elim, fun p hp => ⟨rfl, Or.inl (e62 p hp)⟩, fun j hj => ⟨rfl, rfl, rfl⟩, fun j hj => absurd hj (Nat.not_lt_zero j)⟩, ⟨by decide, rfl, rfl, fun j hj => absurd hj (Nat.not_lt_zero j)⟩, ⟨rfl, fun q => absurd rfl q⟩, ⟨rfl, fun q => absurd rfl q⟩, rfl, rfl, rfl⟩
theorem la_tysA {s : State} {A : Array Value} (h : ∀ w ∈ lw_tbl, w.before A s = true) : ∃ ar : Nat → ClassId, ∀ (k : Nat) (q : ClassId × FieldType), (sw_tys ar)[k]? = some q → ArrOfT s q.1 q.2 ∧ va_RA s q.1 q.2 := by
  obtain ⟨c0, k0, m0, a1, a2, a3⟩ := Cond.arrayClass_spec (h (.arrayClass .int) (wL_tbl _ wm_ac_int))
  obtain ⟨c1, k1, m1, b1, b2, b3⟩ := Cond.arrayClass_spec (h (.arrayClass .byte) (wL_tbl _ wm_ac_byte))
  obtain ⟨c2, k2, m2, d1, d2, d3⟩ := Cond.arrayClass_spec (h (.arrayClass .boolean) (wL_tbl _ wm_ac_boolean))
  obtain ⟨m3, c3, k3, f1, f2, f3, f4, f5⟩ := Cond.arrayOver_spec (h (.arrayOver (.object "SwornPounds$Town")) (wL_t1 _ (List.mem_of_getElem? (i := 90) rfl)))
  refine ⟨fun k => if k = 0 then c0 else if k = 1 then c1 else if k = 2 then c2 else c3, fun k q hq => ?_⟩
  match k, hq with
  | 0, hq => cases hq; exact ⟨fun n z => ⟨fun k h => (by cases h), k0, a2, m0, a3⟩, a1⟩
  | 1, hq => cases hq; exact ⟨fun n z => ⟨fun k h => (by cases h), k1, b2, m1, b3⟩, b1⟩
  | 2, hq => cases hq; exact ⟨fun n z => ⟨fun k h => (by cases h), k2, d2, m2, d3⟩, d1⟩
  | 3, hq => cases hq; exact ⟨fun n z => ⟨fun k h => (by cases h), k3, f3, m3, f4⟩, k3, m3, f3, f4, f1, f5⟩
  | k + 4, hq => simp [sw_tys] at hq
theorem la_known {s : State} {A : Array Value} (h : ∀ w ∈ lw_tbl, w.before A s = true) : ∃ D : va_G, ∀ (k : Nat) (q : vw_C), vwCl[k]? = some q → u_Kn s q.1 q.2.1 q.2.2 (D.1 k) (D.2 k) := by
  obtain ⟨c0, i0, k0⟩ := u_known (C := RX0) (T := TX0) (N := 2) (n := 2) (args := A) (fun w hw => h w (wL_tbl _ hw)) clX0.2.1 (h _ (wL_tbl _ wm_it_X0))
  obtain ⟨c1, i1, k1⟩ := u_known (C := RX1) (T := TX1) (N := 13) (n := 13) (args := A) (fun w hw => h w (wL_tbl _ hw)) clX1.2.1 (h _ (wL_tbl _ wm_it_X1))
  obtain ⟨c2, i2, k2⟩ := u_known (C := RX2) (T := TX2) (N := 2) (n := 2) (args := A) (fun w hw => h w (wL_tbl _ hw)) clX2.2.1 (h _ (wL_tbl _ wm_it_X2))
  obtain ⟨c3, i3, k3⟩ := u_known (C := RX3) (T := TX3) (N := 10) (n := 10) (args := A) (fun w hw => h w (wL_tbl _ hw)) clX3.2.1 (h _ (wL_tbl _ wm_it_X3))
  obtain ⟨c4, i4, k4⟩ := u_known (C := RX4) (T := TX4) (N := 12) (n := 12) (args := A) (fun w hw => h w (wL_tbl _ hw)) clX4.2.1 (h _ (wL_tbl _ wm_it_X4))
  obtain ⟨c5, i5, k5⟩ := u_known (C := RX5) (T := TX5) (N := 7) (n := 7) (args := A) (fun w hw => h w (wL_tbl _ hw)) clX5.2.1 (h _ (wL_tbl _ wm_it_X5))
  obtain ⟨c6, i6, k6⟩ := u_known (C := RX6) (T := TX6) (N := 4) (n := 4) (args := A) (fun w hw => h w (wL_tbl _ hw)) clX6.2.1 (h _ (wL_tbl _ wm_it_X6))
  obtain ⟨c7, i7, k7⟩ := u_known (C := RX7) (T := TX7) (N := 9) (n := 9) (args := A) (fun w hw => h w (wL_tbl _ hw)) clX7.2.1 (h _ (wL_tbl _ wm_it_X7))
  obtain ⟨c8, i8, k8⟩ := u_known (C := RX8) (T := TX8) (N := 41) (n := 41) (args := A) (fun w hw => h w (wL_tbl _ hw)) clX8.2.1 (h _ (wL_tbl _ wm_it_X8))
  refine ⟨(fun k => if k = 0 then c0 else if k = 1 then c1 else if k = 2 then c2 else if k = 3 then c3 else if k = 4 then c4 else if k = 5 then c5 else if k = 6 then c6 else if k = 7 then c7 else c8, fun k => if k = 0 then i0 else if k = 1 then i1 else if k = 2 then i2 else if k = 3 then i3 else if k = 4 then i4 else if k = 5 then i5 else if k = 6 then i6 else if k = 7 then i7 else i8), fun k q hq => ?_⟩
  match k, hq with
  | 0, hq => cases hq; exact k0
  | 1, hq => cases hq; exact k1
  | 2, hq => cases hq; exact k2
  | 3, hq => cases hq; exact k3
  | 4, hq => cases hq; exact k4
  | 5, hq => cases hq; exact k5
  | 6, hq => cases hq; exact k6
  | 7, hq => cases hq; exact k7
  | 8, hq => cases hq; exact k8
  | k + 9, hq => simp [vwCl] at hq
set_option maxRecDepth 100000 in
set_option maxHeartbeats 4000000 in
theorem la_enter {l : Launch} {G : GT} {b L : Nat} {xs : Nat → Int32} (hL : L ≤ 448) : Zj l G room_1 (la_z G b L xs) cL_law 4 RL 0 0 0 (fun _ => z0) 0 [some (.ref b), none, none, none] [] := by
  refine z_new dL_law_0 clX7 kd_0 rfl wm_kl_L_7 wm_it_X7 wm_ini_X7 (zf_0 G) (Nat.le_of_ble_eq_true rfl) (Nat.le_of_ble_eq_true rfl) ?_
  refine z_dup dL_law_3 rfl ?_
  refine z_callI7 (fun _ _ _ _ _ _ _ _ _ hk => hk.2.2.2.2.2.2.2) (zX7 l G _) wm_cd_X7_init wm_ini_X7 wm_ml_L_9 wm_im_X7_init rfl (by decide +kernel) ⟨Nat.le_of_ble_eq_true rfl, Nat.le_of_ble_eq_true rfl⟩ ⟨rfl, rfl⟩ (Nat.le_of_ble_eq_true rfl) (Nat.le_of_ble_eq_true rfl) (Nat.le_of_ble_eq_true rfl) dL_law_4 ?_
  refine z_astore_n dL_law_7 rfl rfl (by decide) ?_
  refine z_new dL_law_8 clX8 kd_58 rfl wm_kl_L_10 wm_it_X8 wm_ini_X8 (zf_58 G) (Nat.le_of_ble_eq_true rfl) (Nat.le_of_ble_eq_true rfl) ?_
  refine z_dup dL_law_11 rfl ?_
  refine z_callI (zX8 l G _) wm_cd_X8_init wm_ini_X8 wm_ml_L_12 wm_im_X8_init rfl (by decide +kernel) ⟨Nat.le_of_ble_eq_true rfl, Nat.le_of_ble_eq_true rfl⟩ ⟨rfl, rfl⟩ (Nat.le_of_ble_eq_true rfl) (Nat.le_of_ble_eq_true rfl) (Nat.le_of_ble_eq_true rfl) dL_law_12 ?_
  refine z_astore_n dL_law_15 rfl rfl (by decide) ?_
  refine z_iconst (v := 0) dL_law_16 ic_0 ?_
  refine z_istore_n dL_law_17 rfl rfl (by decide) ?_
  intro p e s m args below meth c Q hk F H locs ls hP hS hl
  obtain ⟨hr, hlk, hQ, ha, hX, hbl, hG, hAO⟩ := id hk
  have hA : zd_A G = (fun q : Nat => s.heap.size ≤ q) := by unfold zd_A; rw [hG]
  rw [hA] at hS
  refine W.widen (k := 600000) (n := 7302250) (Nat.le_of_ble_eq_true rfl) (Nat.le_of_ble_eq_true rfl) ?_
  refine la_loop (l := l) (G := G) (b := b) (xs := xs) hL 100 0 la_μ ⟨0, 0, 0, la_rel⟩ (by omega) (by decide) p e s m args below meth c _ 600000 7302250 Q ⟨hr, hlk, rfl, rfl, rfl, hQ, ha, hX, hbl⟩ ⟨F.1, F.2.1, F.2.2.1, F.2.2.2.1, F.2.2.2.2.1, F.2.2.2.2.2.1, Nat.le_refl _, Nat.le_refl _, fun k hk => ?_, zd_sw_D F.2.2.2.2.2.2⟩ H locs ls (la_P hP) hS hl
  show s.heap.size ≤ G.2.1 k
  rw [F.2.2.2.2.2.2 k hk, hG]
  exact Nat.le_add_right _ _
/-- from the entry, for every script of at most 448 ints, the law comes to its end with true -/
theorem whole_start {p : Program} {e : Env} {s : State} {m : MethodId} {below : List Frame} {meth : Method} {c : Code} (l : Launch) (hflags : l.flags = flags0) {b L : Nat} {xs : Nat → Int32} (hL : L ≤ 448) (C0 : lw_At p s m meth c b L xs) : W p l e room_1 s m #[Value.ref b] below meth c s.heap [] 0 0 (lw_Z below #[Value.ref b] s) (entryFrame m ([Value.ref b] : List Value).toArray 4) := by
  obtain ⟨hx, hb, hr, hml, hown, hts, hX, hbl, hlocks, hgv⟩ := id C0
  obtain ⟨D, hD⟩ := la_known hts
  obtain ⟨ar, har⟩ := la_tysA hts
  have hAO : va_AO RX4 s := va_AO.of (hts (.arrayOver (.object "SwornPounds$Town")) (wL_t1 _ (List.mem_of_getElem? (i := 90) rfl)))
  have hK : sw_K (D, (fun k => s.heap.size + poz k), ar) s := ⟨⟨hD, har⟩, fun w hw => by
    obtain ⟨a, i, x, h2, rfl⟩ := wL_nest_form w hw
    exact va_Nw.of rfl (hts _ (wL_nest_in _ hw))⟩
  have hG0 : (fun k => s.heap.size + poz k) 0 = s.heap.size := rfl
  have had : zd_ad (D, (fun k => s.heap.size + poz k), ar) := fun k _ => rfl
  rw [lg_entry_eq]
  exact la_enter (l := l) (G := (D, (fun k => s.heap.size + poz k), ar)) (b := b) (xs := xs) hL p e s m #[Value.ref b] below meth c _ ⟨hr, hlocks, rfl, rfl, hX, hbl, hG0, hAO⟩ ⟨hx, hb, hml, hown, fun w hw => hts w (wL_tbl _ hw), hK, had⟩ s.heap [] _ ⟨rfl, fun k q h => by simp [zd_ws] at h⟩ va_S.rf (sw_L_ent (lv_entry [.ref b] (Nat.le_of_ble_eq_true rfl)))
set_option maxHeartbeats 4000000 in
theorem lw_walk (l : Launch) (hflags : l.flags = flags0) (b : Addr) (xs : List Int32) : MetFree l x (headSpec (Jvm.Cond.code x code maxLocals ret :: tables_1) room_1) (lw_P b xs) (fun _ _ _ _ _ => True) lw_Q := by
  refine MetFree.of_bodyS (code := code) (maxLocals := maxLocals) (ret := ret) (by decide) ?_ ?_
  · intro args s m h hn
    obtain ⟨meth, c, h1, h2, h3, h4, h5, h6, -, -⟩ := Cond.code_spec hn (atoms_spec (ws := Jvm.Cond.code x code maxLocals ret :: tables_1) h _ List.mem_cons_self)
    exact ⟨meth, c, h1, h2, h3, h4, h5, h6⟩
  · intro p e s m args below meth c s₁ B hml0 hP _
    obtain ⟨rfl, hx, hbd, hgv⟩ := hP
    obtain ⟨scr, harrAt, hlist, hof, hsmall⟩ := hx
    obtain ⟨hcb, hkn, -, -⟩ := State.arrayAt?_spec harrAt
    have hown : s.vm.findClass R_law = some m.cls := findClass_of_methodNamed B.named
    have hts0 : ∀ c ∈ (Jvm.Cond.code x code maxLocals ret :: tables_1), c.before #[Value.ref b] s = true := atoms_spec (ws := Jvm.Cond.code x code maxLocals ret :: tables_1) B.pre
    have hts : ∀ w ∈ lw_tbl, w.before #[Value.ref b] s = true := k2_hts_sels lw_privs (fun w hw => hts0 w (List.mem_cons_of_mem _ hw)) lw_privs_ok
    have hml : c.maxLocals = 4 := B.maxLocals_eq (hts0 _ List.mem_cons_self)
    have X₀ : Stand p l e room_1 s m #[Value.ref b] below meth c s₁ [] 0 0 := Stand.of_body B
    have hh0 : s₁.heap = s.heap := by rw [B.state]; rfl
    have hsz : scr.slots.size = xs.length := by rw [← Array.length_toList, hlist, List.length_map]
    have hval : ∀ j : Nat, j < xs.length → scr.slots[j]? = some (.int (xs.getD j 0)) := fun j hj => by
      rw [← Array.getElem?_toList, hlist]
      simp [hj]
    have hbl : b < s.heap.size := (Array.getElem?_eq_some_iff.mp hcb).1
    have hX : va_X b xs.length (fun j => xs.getD j 0) s s.heap := ⟨scr, hcb, hof, hkn, hsz, hval⟩
    have K : W p l e room_1 s m #[Value.ref b] below meth c s₁.heap [] 0 0 (lw_Z below #[Value.ref b] s) (entryFrame m ([Value.ref b] : List Value).toArray 4) := by
      rw [hh0]
      exact whole_start l hflags hbd ⟨B.exec, B.bytes, B.returns, hml, hown, hts, hX, hbl, B.notSynchronized, hgv⟩
    obtain ⟨t, a1, o, b1, b2, b3⟩ := K s₁ rfl X₀
    exact ⟨t, o, a1, b1, b2, b3⟩
theorem lw_pre_spec {args : Array Value} {s : State} (h : (Jvm.Cond.and given_1 narrow_1).before args s = true) (hr : rest_1_c.before args s = true) : ∃ (b : Addr) (xs : List Int32), lw_P b xs args s := by
  have hs := flat_of_before _ h
  have hq := flat_of_before _ hr
  have hc : (Cond.count 1).before args s = true := hs _ (by decide +kernel)
  have harr : (Cond.arrayOf (.arg 0) .int).before args s = true := hs _ (by decide +kernel)
  have hle : (Cond.le (.length (.arg 0)) (.int 448)).before args s = true := hs _ (by decide +kernel)
  have hlen : (Cond.isInt (.length (.arg 0))).before args s = true := hq _ (by decide +kernel)
  have hall : (Cond.all (.arg 0) (.isInt (.elem (.arg 0) (.index 0)))).before args s = true := hq _ (by decide +kernel)
  obtain ⟨b, xs, hb, hx⟩ := State.ints_of_pre rfl harr hlen hall
  have hsm : xs.length < 2 ^ 31 := hx.choose_spec.2.2.2
  have hev : (Term.length (.arg 0)).eval args s none [] s = some (.int xs.length.toInt32) := hx.length_eval hb
  have hv := Cond.le_ints hev (show (Term.int 448).eval args s none [] s = some (.int 448) from rfl)
  have hd : xs.length.toInt32 ≤ 448 := by
    simpa [Cond.before, Cond.holds, hv] using hle
  have hN : xs.length ≤ 448 := (Int32.ofNat_le_ofNat hsm (by decide)).mp (show Int32.ofNat xs.length ≤ Int32.ofNat 448 from hd)
  exact ⟨b, xs, Cond.one_arg hc (show args[0]? = some (.ref b) from hb), hx, hN, h⟩
theorem lw_comes (l : Launch) (hflags : l.flags = flags0) : Comes l x (Jvm.Cond.code x code maxLocals ret :: tables_1) room_1 (fun tb e args s => Calls_1 tb e args s ∧ rest_1 tb e args s ∧ Pre_1 tb e args s)
    (fun _ _ args s o t => lw_Q args s o t) := by
  intro p e ha hc hk s m args below hf hfit hheap happ hpre
  obtain ⟨b, xs, hP⟩ := lw_pre_spec hpre.2.2 hpre.2.1
  obtain ⟨k, o, h1, h2, h3, hQ⟩ := lw_walk l hflags b xs p e ha hc hk s m args below hf ((Spec.applies_iff_loose hf).mp happ).1 hP trivial
  exact ⟨k, o, h1, h2, h3, hQ⟩
theorem lw_frame {s t : State} {o : Outcome} {args : Array Value} (h : Framed s o t [] 600000 7302250) :
    Framed s o t (fieldLocs frame_1_writes args s ++ arrayLocs frame_1_arrays args s ++ staticLocs frame_1_statics s) 600000 7302250 := h
theorem lw_limb (L : Cond) (hL : ∀ (args : Array Value) (s t : State), L.after args s (.returned (some (.int 1))) t = true) :
    ArmFor flags0 classFile x code maxLocals ret World_1 tables_1 room_1 Calls_1 rest_1 Pre_1
      (fun tb e a s o t => postC L tb e a s o t ∧ Framed s o t (fieldLocs frame_1_writes a s ++ arrayLocs frame_1_arrays a s ++ staticLocs frame_1_statics s) 600000 7302250) := by
  intro l hflags _ _ p e ha hc hk s m args below hf hfit hheap happ hpre
  obtain ⟨k, o, h1, h2, h3, rfl, hF⟩ := lw_comes l hflags p e ha hc hk s m args below hf hfit hheap happ hpre
  exact ⟨k, _, h1, h2, h3, hL args s _, lw_frame hF⟩
theorem i_vc : Claimed_1_1 ∧ Claimed_1_2 := ⟨lw_limb limb_1_1 (fun args s t => by simp [limb_1_1, Cond.after, Cond.holds, Cond.value]), lw_limb limb_1_2 (fun args s t => Cond.after_iff.mpr (by
  first | (rw [show limb_1_2 = Cond.eq .result (.int 1) from rfl, Cond.eq_ints (x := 1) (y := 1) rfl rfl]; simp; done) | (simp [limb_1_2, Cond.value, Term.eval]; done)))⟩
