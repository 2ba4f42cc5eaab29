/-! constructors -/
def z0 : Nat → Int32 := fun _ => 0
theorem zm_arr {μ : MemT} {b k : Nat} {rb r : Nat → Int32} (h : k ≠ b) : mset (mset μ b rb) k r = mset (mset μ k r) b rb := mset_comm _ _ _ (Ne.symm h)
theorem zm_put {μ : MemT} {b i : Nat} {rb : Nat → Int32} {x : Int32} : mset (mset μ b rb) b (upd (mset μ b rb b) i x) = mset μ b (upd rb i x) := by rw [mset_self, mset_mset]
theorem z_mem {l : Launch} {G : GT} {R : Room} {κ : KZ} {cc : ByteArray} {nl : Nat} {own : String} {cs sl n : Nat} {μ : MemT} {pc : Nat} {lv : List (Option Value)} {st : List Value} {μ2 : MemT} (h1 : μ = μ2) (h : Zj l G R κ cc nl own cs sl n μ2 pc lv st) : Zj l G R κ cc nl own cs sl n μ pc lv st := by subst h1; exact h
theorem z_aast {l : Launch} {G : GT} {R : Room} {κ : KZ} {cc : ByteArray} {nl : Nat} {own : String} {cs sl n : Nat} {μ : MemT} {pc : Nat} {lv : List (Option Value)} {st : List Value} {c : Nat} {x : Int32} (d : decode cc pc = .ok (.aastore, 1)) (j : Nat) (hj : x = nI j) (hlt : j < 2) (hc : c = if j = 0 then 26 else 34) (hpo : poz 1 < n) (hpc : poz c < n) (h79 : n ≤ 79) (h : Zj l G R κ cc nl own cs sl n (mset μ 1 (upd (μ 1) j 1)) (pc + 1) lv st) : Zj l G R κ cc nl own cs sl n μ pc lv (.ref (G.2.1 c) :: .int x :: .ref (G.2.1 1) :: st) := by
  intro p e s m args below meth c0 Q hk F H locs ls hP hS hl
  have hK := F.2.2.2.2.2.1.1
  have hD := zd_D (μ := μ) F.2.2.2.2.2.2 h79
  have hin : vp_in x 2 := by rw [hj]; exact vp_in_nI hlt (by decide)
  have hcl : x.toNatClampNeg = j := by rw [hj]; exact nI_clamp (Nat.lt_trans hlt (by decide))
  have hlt2 : x.toNatClampNeg < 2 := by rw [hcl]; exact hlt
  have h0 : ¬ x < 0 := fun q => hin (Or.inl q)
  have hkc : kdL[c]? = some (.inl (4, twTm c)) := by rw [hc]; split <;> rfl
  obtain ⟨r', hr', cellV, g1, g2, g3, -⟩ := hP.2 (poz c) _ (zd_ws_at hkc hpc)
  have hcls := (hK.1 4 _ clX4.1).2
  obtain ⟨kA, comp, k1, k2, k3, -⟩ := (hK.2 3 _ rfl).2
  have hcomp : comp = G.1.1 4 := Option.some.inj (k3.symm.trans hcls.1)
  subst hcomp
  obtain ⟨kC, hkC, -⟩ := hcls.2
  refine W.aast F.1 F.2.1 (hP.2 (poz 1) _ (zd_ws_at kd_1 hpo)) (fun q h => by cases h) (fun h => by cases h) k1 k2 rfl hkC ⟨h0, by show _ < (arrV _ _ _).slots.size; rw [arrV_size]; exact hlt2⟩ g1 (fun q h => by rw [g3] at h; cases h) (by rw [g2]; exact hkC) (by rw [g2]; exact va_assign hcls) rfl rfl d fun H1 e1 z oq => ?_
  refine h p e s m args below meth c0 Q hk F H1 _ ls ⟨by rw [z]; exact hP.1, ?_⟩ (hS.put z oq (hD.2 _ _ (zd_ws_at kd_1 hpo))) hl
  have hP2 := hP.2.set hD (zd_ws_at kd_1 hpo) (e := zd_e G.2.1 G.2.2 (upd (μ 1) j 1) (.inr (3, 2))) (H1 := H1) (by
    show H1[G.2.1 1]? = some (vp_cell _ _)
    rw [e1]
    rw [vp_cell_q, vp_cell_q, arrV_store]
    congr 2
    funext q
    rw [hcl]
    by_cases hq : q = j
    · subst hq
      simp [updV, upd, va_rf, sw_img, hc]
    · simp [updV, upd, hq]) oq
  rw [← zd_ws_set kd_1 hpo h79]
  exact hP2
theorem z_anew {l : Launch} {G : GT} {R : Room} {κ : KZ} {cc : ByteArray} {nl : Nat} {own : String} {cs sl n : Nat} {μ : MemT} {pc : Nat} {lv : List (Option Value)} {st : List Value} (hAO : ∀ p e s m args below meth c Q, κ p e s m args below meth c Q → va_AO RX4 s) {index : Nat} (d : decode cc pc = .ok (.anewarray index, 3)) (hw : Cond.classLink own index RX4 ∈ wL) (hpo : poz 1 = n) (hc : cs + 1 ≤ R.cells) (hs : sl + 2 ≤ R.slots) (h : Zj l G R κ cc nl own (cs + 1) (sl + 2) (n + 1) (mset μ 1 (fun _ => 0)) (pc + 3) lv (.ref (G.2.1 1) :: st)) : Zj l G R κ cc nl own cs sl n μ pc lv (.int 2 :: st) := by
  intro p e s m args below meth c Q hk F H locs ls hP hS hl
  refine W.anew F.1 F.2.1 F.2.2.2.1 (F.2.2.2.2.1 _ hw) (va_AO.use (hAO p e s m args below meth c Q hk)) rfl d rfl (by decide) (by decide) hc hs fun cA kA comp f1 f2 f3 f4 => ?_
  rw [show (2 : Int32).toNatClampNeg = 2 from rfl]
  generalize hH1 : H.push ({ cls := cA, slots := Array.replicate 2 .null, vm := .none } : Cell) = H1
  have z1 : H1.size = G.2.1 0 + n + 1 := by rw [← hH1, Array.size_push, hP.1]
  have e1 : H1[H.size]? = some (arrV cA 2 (fun _ => .null)) := by rw [← hH1, Array.getElem?_push_size, ← arrV_new]
  have o1 : ∀ q : Nat, q < G.2.1 0 + n → H1[q]? = H[q]? := fun q hq => by rw [← hH1, Array.getElem?_push, if_neg (by rw [hP.1]; omega)]
  have hca : cA = G.2.2 3 := by
    obtain ⟨kA2, comp2, k1, k2, k3, k4⟩ := (F.2.2.2.2.2.1.1.2 3 _ rfl).2
    exact Option.some.inj (f1.symm.trans k4)
  rw [hP.1] at e1 ⊢
  rw [← zd_new_at F.2.2.2.2.2.2 kd_1 hpo] at e1 ⊢
  refine h p e s m args below meth c Q hk F H1 locs ls (zd_born hP F.2.2.2.2.2.2 kd_1 hpo z1 o1 ?_) (zd_S_new hS hP.1 z1 o1) hl
  show H1[G.2.1 1]? = some (vp_cell (G.2.2 3) (2, .inr (.inr (.inr (.inr (fun j => if z0 j = 0 then none else sw_img G.2.1 j))))))
  rw [e1, hca, vp_cell_q]
  rfl
theorem z_fill (l : Launch) (G : GT) {b n : Nat} {x : Int32} {μ : MemT} (hb : kdL[b]? = some (.inr (0, 8))) (hpo : poz b < n) (h79 : n ≤ 79) : zd_Met l G yJ7_fill_53178 cJ7_fill_53178 4 ({ frames := 0, cells := 0, slots := 0, locals := 0 }) [.ref (G.2.1 b), .int x] 0 0 n μ n (mset μ b (filF 8 x (μ b))) := by
  refine zd_Met.ofZ (by decide) (Nat.le_of_ble_eq_true rfl) rfl ?_
  refine z_iconst dJ7_fill_53178_0 icn_0 ?_
  refine z_istore_n dJ7_fill_53178_1 rfl rfl (by decide) ?_
  refine z_aload_n dJ7_fill_53178_2 rfl rfl ?_
  refine z_alen hb hpo dJ7_fill_53178_3 ?_
  refine z_istore_n dJ7_fill_53178_4 rfl rfl (by decide) ?_
  have key : ∀ (r j : Nat), j + r = 8 → Zj l G ({ frames := 0, cells := 0, slots := 0, locals := 0 }) (zd_κ G yJ7_fill_53178.name 0 0 n (mset μ b (filF 8 x (μ b)))) cJ7_fill_53178 4 yJ7_fill_53178.cls 0 0 n (mset μ b (itr (fun j f => upd f j x) j 0 (μ b))) 5 [some (.ref (G.2.1 b)), some (.int x), some (.int (nI j)), some (.int (nI 8))] [] := by
    intro r
    induction r with
    | zero =>
      intro j hj
      have : j = 8 := by omega
      subst this
      refine z_iload_n dJ7_fill_53178_5 rfl rfl ?_
      refine z_iload_n dJ7_fill_53178_6 rfl rfl ?_
      refine z_icmp_ge 20 dJ7_fill_53178_7 rfl (fun _ => ?_) (fun q => absurd (Int32.le_refl _) q)
      exact z_ret dJ7_fill_53178_20
    | succ r ih =>
      intro j hj
      refine z_iload_n dJ7_fill_53178_5 rfl rfl ?_
      refine z_iload_n dJ7_fill_53178_6 rfl rfl ?_
      refine z_icmp_ge 20 dJ7_fill_53178_7 rfl (fun q => absurd q (nI_ge (b := 8) (by omega) (by decide))) (fun _ => ?_)
      refine z_aload_n dJ7_fill_53178_10 rfl rfl ?_
      refine z_iload_n dJ7_fill_53178_11 rfl rfl ?_
      refine z_iload_n dJ7_fill_53178_12 rfl rfl ?_
      refine z_iast dJ7_fill_53178_13 j hb hpo h79 rfl (by omega) (by decide) ?_
      refine z_iinc dJ7_fill_53178_14 rfl (nI_i1 j) rfl (by decide) ?_
      refine z_goto 5 dJ7_fill_53178_17 rfl ?_
      refine z_mem ?_ (ih (j + 1) (by omega))
      rw [mset_mset, mset_self, itr_lt, Nat.zero_add]
  exact z_mem (by show μ = mset μ b (μ b); rw [mset_same]) (key 8 0 rfl)
theorem zf_0 (G : GT) : ∀ j, j < 9 → defaultValue (tyX7 j) = vp_V (zd_fs G.2.1 (fun _ => 0) 0 [.inl 18, .inl 1, .inl 2, .inl 3, .inl 5, .inl 6, .inl 11, .inl 16, .inl 17]) j := by
  intro j hj
  rcases (show j = 0 ∨ j = 1 ∨ j = 2 ∨ j = 3 ∨ j = 4 ∨ j = 5 ∨ j = 6 ∨ j = 7 ∨ j = 8 by omega) with rfl | rfl | rfl | rfl | rfl | rfl | rfl | rfl | rfl <;> rfl
theorem zf_18 (G : GT) : ∀ j, j < 12 → defaultValue (tyX4 j) = vp_V (zd_fs G.2.1 (fun _ => 0) 0 (twTm 18)) j := by
  intro j hj
  rcases (show j = 0 ∨ j = 1 ∨ j = 2 ∨ j = 3 ∨ j = 4 ∨ j = 5 ∨ j = 6 ∨ j = 7 ∨ j = 8 ∨ j = 9 ∨ j = 10 ∨ j = 11 by omega) with rfl | rfl | rfl | rfl | rfl | rfl | rfl | rfl | rfl | rfl | rfl | rfl <;> rfl
theorem zf_26 (G : GT) : ∀ j, j < 12 → defaultValue (tyX4 j) = vp_V (zd_fs G.2.1 (fun _ => 0) 0 (twTm 26)) j := by
  intro j hj
  rcases (show j = 0 ∨ j = 1 ∨ j = 2 ∨ j = 3 ∨ j = 4 ∨ j = 5 ∨ j = 6 ∨ j = 7 ∨ j = 8 ∨ j = 9 ∨ j = 10 ∨ j = 11 by omega) with rfl | rfl | rfl | rfl | rfl | rfl | rfl | rfl | rfl | rfl | rfl | rfl <;> rfl
theorem zf_34 (G : GT) : ∀ j, j < 12 → defaultValue (tyX4 j) = vp_V (zd_fs G.2.1 (fun _ => 0) 0 (twTm 34)) j := by
  intro j hj
  rcases (show j = 0 ∨ j = 1 ∨ j = 2 ∨ j = 3 ∨ j = 4 ∨ j = 5 ∨ j = 6 ∨ j = 7 ∨ j = 8 ∨ j = 9 ∨ j = 10 ∨ j = 11 by omega) with rfl | rfl | rfl | rfl | rfl | rfl | rfl | rfl | rfl | rfl | rfl | rfl <;> rfl
theorem zf_3 (G : GT) : ∀ j, j < 2 → defaultValue (tyX2 j) = vp_V (zd_fs G.2.1 (fun _ => 0) 0 [.inl 4, .inr 0]) j := by
  intro j hj
  rcases (show j = 0 ∨ j = 1 by omega) with rfl | rfl <;> rfl
theorem zf_5 (G : GT) : ∀ j, j < 13 → defaultValue (tyX1 j) = vp_V (zd_fs G.2.1 (fun _ => 0) 0 [.inl 42, .inr 0, .inr 0, .inr 0, .inr 0, .inr 0, .inr 0, .inr 0, .inr 0, .inr 0, .inr 0, .inr 0, .inr 0]) j := by
  intro j hj
  rcases (show j = 0 ∨ j = 1 ∨ j = 2 ∨ j = 3 ∨ j = 4 ∨ j = 5 ∨ j = 6 ∨ j = 7 ∨ j = 8 ∨ j = 9 ∨ j = 10 ∨ j = 11 ∨ j = 12 by omega) with rfl | rfl | rfl | rfl | rfl | rfl | rfl | rfl | rfl | rfl | rfl | rfl | rfl <;> rfl
theorem zf_42 (G : GT) : ∀ j, j < 12 → defaultValue (tyX4 j) = vp_V (zd_fs G.2.1 (fun _ => 0) 0 (twTm 42)) j := by
  intro j hj
  rcases (show j = 0 ∨ j = 1 ∨ j = 2 ∨ j = 3 ∨ j = 4 ∨ j = 5 ∨ j = 6 ∨ j = 7 ∨ j = 8 ∨ j = 9 ∨ j = 10 ∨ j = 11 by omega) with rfl | rfl | rfl | rfl | rfl | rfl | rfl | rfl | rfl | rfl | rfl | rfl <;> rfl
theorem zf_6 (G : GT) : ∀ j, j < 10 → defaultValue (tyX3 j) = vp_V (zd_fs G.2.1 (fun _ => 0) 0 [.inl 7, .inl 8, .inl 9, .inl 10, .inr 0, .inr 0, .inr 0, .inr 0, .inr 0, .inr 0]) j := by
  intro j hj
  rcases (show j = 0 ∨ j = 1 ∨ j = 2 ∨ j = 3 ∨ j = 4 ∨ j = 5 ∨ j = 6 ∨ j = 7 ∨ j = 8 ∨ j = 9 by omega) with rfl | rfl | rfl | rfl | rfl | rfl | rfl | rfl | rfl | rfl <;> rfl
theorem zf_11 (G : GT) : ∀ j, j < 7 → defaultValue (tyX5 j) = vp_V (zd_fs G.2.1 (fun _ => 0) 0 [.inl 12, .inl 13, .inl 14, .inl 15, .inr 0, .inr 0, .inr 0]) j := by
  intro j hj
  rcases (show j = 0 ∨ j = 1 ∨ j = 2 ∨ j = 3 ∨ j = 4 ∨ j = 5 ∨ j = 6 by omega) with rfl | rfl | rfl | rfl | rfl | rfl | rfl <;> rfl
theorem zf_16 (G : GT) : ∀ j, j < 2 → defaultValue (tyX0 j) = vp_V (zd_fs G.2.1 (fun _ => 0) 0 [.inr 1, .inr 1]) j := by
  intro j hj
  rcases (show j = 0 ∨ j = 1 by omega) with rfl | rfl <;> rfl
theorem zf_17 (G : GT) : ∀ j, j < 4 → defaultValue (tyX6 j) = vp_V (zd_fs G.2.1 (fun _ => 0) 0 [.inl 50, .inr 0, .inr 0, .inr 0]) j := by
  intro j hj
  rcases (show j = 0 ∨ j = 1 ∨ j = 2 ∨ j = 3 by omega) with rfl | rfl | rfl | rfl <;> rfl
theorem zf_50 (G : GT) : ∀ j, j < 12 → defaultValue (tyX4 j) = vp_V (zd_fs G.2.1 (fun _ => 0) 0 (twTm 50)) j := by
  intro j hj
  rcases (show j = 0 ∨ j = 1 ∨ j = 2 ∨ j = 3 ∨ j = 4 ∨ j = 5 ∨ j = 6 ∨ j = 7 ∨ j = 8 ∨ j = 9 ∨ j = 10 ∨ j = 11 by omega) with rfl | rfl | rfl | rfl | rfl | rfl | rfl | rfl | rfl | rfl | rfl | rfl <;> rfl
theorem zf_58 (G : GT) : ∀ j, j < 41 → defaultValue (tyX8 j) = vp_V (zd_fs G.2.1 (fun _ => 0) 0 [.inr 0, .inr 0, .inr 0, .inr 0, .inl 59, .inl 60, .inl 61, .inl 62, .inl 63, .inl 64, .inl 65, .inr 0, .inl 66, .inr 0, .inl 67, .inl 68, .inl 69, .inl 70, .inr 0, .inr 0, .inr 0, .inr 0, .inr 0, .inl 71, .inr 0, .inr 0, .inr 0, .inr 0, .inl 72, .inl 73, .inr 0, .inr 0, .inr 0, .inl 74, .inl 75, .inl 76, .inr 0, .inl 77, .inl 78, .inr 0, .inr 0]) j := by
  intro j hj
  rcases (show j = 0 ∨ j = 1 ∨ j = 2 ∨ j = 3 ∨ j = 4 ∨ j = 5 ∨ j = 6 ∨ j = 7 ∨ j = 8 ∨ j = 9 ∨ j = 10 ∨ j = 11 ∨ j = 12 ∨ j = 13 ∨ j = 14 ∨ j = 15 ∨ j = 16 ∨ j = 17 ∨ j = 18 ∨ j = 19 ∨ j = 20 ∨ j = 21 ∨ j = 22 ∨ j = 23 ∨ j = 24 ∨ j = 25 ∨ j = 26 ∨ j = 27 ∨ j = 28 ∨ j = 29 ∨ j = 30 ∨ j = 31 ∨ j = 32 ∨ j = 33 ∨ j = 34 ∨ j = 35 ∨ j = 36 ∨ j = 37 ∨ j = 38 ∨ j = 39 ∨ j = 40 by omega) with rfl | rfl | rfl | rfl | rfl | rfl | rfl | rfl | rfl | rfl | rfl | rfl | rfl | rfl | rfl | rfl | rfl | rfl | rfl | rfl | rfl | rfl | rfl | rfl | rfl | rfl | rfl | rfl | rfl | rfl | rfl | rfl | rfl | rfl | rfl | rfl | rfl | rfl | rfl | rfl | rfl <;> rfl
def rTn : Nat → Int32 := upd (upd (upd (upd (upd (upd (upd (upd z0 0 1) 1 1) 2 1) 3 1) 4 1) 5 1) 6 1) 9 5
def tn_18 (μ : MemT) : MemT := mset (mset (mset (mset (mset (mset (mset (mset μ 19 z0) 20 z0) 21 z0) 22 (filF 8 (-6) z0)) 23 z0) 24 z0) 25 z0) 18 rTn
theorem zX4_18 (l : Launch) (G : GT) (μ : MemT) : zd_Met l G yX4_init cX4_init 1 ({ frames := 1, cells := 7, slots := 56, locals := 23 }) [.ref (G.2.1 18)] 7 56 2 (mset μ 18 z0) 9 (tn_18 μ) := by
  refine zd_Met.ofZ (by decide) (Nat.le_of_ble_eq_true rfl) rfl ?_
  refine z_aload_n dX4_init_0 rfl rfl ?_
  refine z_obj dX4_init_1 wm_ml_X4_3 (by decide) (by decide) ?_
  refine z_aload_n dX4_init_4 rfl rfl ?_
  refine z_bipush (v := 8) dX4_init_5 ib_8 ?_
  refine z_newi (N := 8) dX4_init_7 kd_19 rfl (by decide) (by decide) (by decide) (by decide) ?_
  refine z_mem (zm_arr (show 19 ≠ 18 by decide)) ?_
  refine z_putr dX4_init_9 0 clX4 kd_18 (by decide) (by decide) (by decide) wm_fl_X4_9 rfl rfl rfl rfl rfl (fun _ _ _ _ _ _ _ _ _ hk => hk.2.2.2) (tyX4_ok 0 (by decide)) rfl rfl ?_
  refine z_mem zm_put ?_
  refine z_aload_n dX4_init_12 rfl rfl ?_
  refine z_bipush (v := 8) dX4_init_13 ib_8 ?_
  refine z_newi (N := 8) dX4_init_15 kd_20 rfl (by decide) (by decide) (by decide) (by decide) ?_
  refine z_mem (zm_arr (show 20 ≠ 18 by decide)) ?_
  refine z_putr dX4_init_17 1 clX4 kd_18 (by decide) (by decide) (by decide) wm_fl_X4_15 rfl rfl rfl rfl rfl (fun _ _ _ _ _ _ _ _ _ hk => hk.2.2.2) (tyX4_ok 1 (by decide)) rfl rfl ?_
  refine z_mem zm_put ?_
  refine z_aload_n dX4_init_20 rfl rfl ?_
  refine z_bipush (v := 8) dX4_init_21 ib_8 ?_
  refine z_newi (N := 8) dX4_init_23 kd_21 rfl (by decide) (by decide) (by decide) (by decide) ?_
  refine z_mem (zm_arr (show 21 ≠ 18 by decide)) ?_
  refine z_putr dX4_init_25 2 clX4 kd_18 (by decide) (by decide) (by decide) wm_fl_X4_18 rfl rfl rfl rfl rfl (fun _ _ _ _ _ _ _ _ _ hk => hk.2.2.2) (tyX4_ok 2 (by decide)) rfl rfl ?_
  refine z_mem zm_put ?_
  refine z_aload_n dX4_init_28 rfl rfl ?_
  refine z_bipush (v := 8) dX4_init_29 ib_8 ?_
  refine z_newi (N := 8) dX4_init_31 kd_22 rfl (by decide) (by decide) (by decide) (by decide) ?_
  refine z_mem (zm_arr (show 22 ≠ 18 by decide)) ?_
  refine z_putr dX4_init_33 3 clX4 kd_18 (by decide) (by decide) (by decide) wm_fl_X4_21 rfl rfl rfl rfl rfl (fun _ _ _ _ _ _ _ _ _ hk => hk.2.2.2) (tyX4_ok 3 (by decide)) rfl rfl ?_
  refine z_mem zm_put ?_
  refine z_aload_n dX4_init_36 rfl rfl ?_
  refine z_bipush (v := 8) dX4_init_37 ib_8 ?_
  refine z_newi (N := 8) dX4_init_39 kd_23 rfl (by decide) (by decide) (by decide) (by decide) ?_
  refine z_mem (zm_arr (show 23 ≠ 18 by decide)) ?_
  refine z_putr dX4_init_41 4 clX4 kd_18 (by decide) (by decide) (by decide) wm_fl_X4_24 rfl rfl rfl rfl rfl (fun _ _ _ _ _ _ _ _ _ hk => hk.2.2.2) (tyX4_ok 4 (by decide)) rfl rfl ?_
  refine z_mem zm_put ?_
  refine z_aload_n dX4_init_44 rfl rfl ?_
  refine z_bipush (v := 8) dX4_init_45 ib_8 ?_
  refine z_newi (N := 8) dX4_init_47 kd_24 rfl (by decide) (by decide) (by decide) (by decide) ?_
  refine z_mem (zm_arr (show 24 ≠ 18 by decide)) ?_
  refine z_putr dX4_init_49 5 clX4 kd_18 (by decide) (by decide) (by decide) wm_fl_X4_27 rfl rfl rfl rfl rfl (fun _ _ _ _ _ _ _ _ _ hk => hk.2.2.2) (tyX4_ok 5 (by decide)) rfl rfl ?_
  refine z_mem zm_put ?_
  refine z_aload_n dX4_init_52 rfl rfl ?_
  refine z_bipush (v := 8) dX4_init_53 ib_8 ?_
  refine z_newi (N := 8) dX4_init_55 kd_25 rfl (by decide) (by decide) (by decide) (by decide) ?_
  refine z_mem (zm_arr (show 25 ≠ 18 by decide)) ?_
  refine z_putr dX4_init_57 6 clX4 kd_18 (by decide) (by decide) (by decide) wm_fl_X4_30 rfl rfl rfl rfl rfl (fun _ _ _ _ _ _ _ _ _ hk => hk.2.2.2) (tyX4_ok 6 (by decide)) rfl rfl ?_
  refine z_mem zm_put ?_
  refine z_aload_n dX4_init_60 rfl rfl ?_
  refine z_iconst (v := 5) dX4_init_61 ic_5 ?_
  refine z_puti dX4_init_62 9 clX4 kd_18 (by decide) (by decide) (by decide) wm_fl_X4_33 rfl rfl rfl rfl (tyX4_ok 9 (by decide)) rfl rfl ?_
  refine z_mem zm_put ?_
  refine z_aload_n dX4_init_65 rfl rfl ?_
  refine z_getr dX4_init_66 3 clX4 kd_18 (by decide) (by decide) wm_fl_X4_21 rfl rfl rfl ?_
  refine z_bipush (v := -6) dX4_init_69 ib_m6 ?_
  refine z_callS meJ7_fill_53178 (z_fill l G (x := -6) kd_22 (by decide) (by decide)) wm_ml_X4_37 ⟨by decide, by decide⟩ ⟨rfl, rfl⟩ (Nat.le_of_ble_eq_true rfl) (Nat.le_of_ble_eq_true rfl) (Nat.le_of_ble_eq_true rfl) rfl rfl dX4_init_71 ?_
  refine z_mem ?_ (z_ret dX4_init_74)
  funext k
  rcases (show k = 18 ∨ k = 19 ∨ k = 20 ∨ k = 21 ∨ k = 22 ∨ k = 23 ∨ k = 24 ∨ k = 25 ∨ (k ≠ 18 ∧ k ≠ 19 ∧ k ≠ 20 ∧ k ≠ 21 ∧ k ≠ 22 ∧ k ≠ 23 ∧ k ≠ 24 ∧ k ≠ 25) by omega) with rfl | rfl | rfl | rfl | rfl | rfl | rfl | rfl | h
  · rfl
  · rfl
  · rfl
  · rfl
  · rfl
  · rfl
  · rfl
  · rfl
  · simp [tn_18, mset, h]
theorem tn_18_cm (μ : MemT) (r : Nat → Int32) {c : Nat} (h : c < 18 ∨ 26 ≤ c) : tn_18 (mset μ c r) = mset (tn_18 μ) c r := by
  unfold tn_18
  rw [zm_arr (show 19 ≠ c by omega), zm_arr (show 20 ≠ c by omega), zm_arr (show 21 ≠ c by omega), zm_arr (show 22 ≠ c by omega), zm_arr (show 23 ≠ c by omega), zm_arr (show 24 ≠ c by omega), zm_arr (show 25 ≠ c by omega), zm_arr (show 18 ≠ c by omega)]
def tn_26 (μ : MemT) : MemT := mset (mset (mset (mset (mset (mset (mset (mset μ 27 z0) 28 z0) 29 z0) 30 (filF 8 (-6) z0)) 31 z0) 32 z0) 33 z0) 26 rTn
theorem zX4_26 (l : Launch) (G : GT) (μ : MemT) : zd_Met l G yX4_init cX4_init 1 ({ frames := 1, cells := 7, slots := 56, locals := 23 }) [.ref (G.2.1 26)] 7 56 11 (mset μ 26 z0) 18 (tn_26 μ) := by
  refine zd_Met.ofZ (by decide) (Nat.le_of_ble_eq_true rfl) rfl ?_
  refine z_aload_n dX4_init_0 rfl rfl ?_
  refine z_obj dX4_init_1 wm_ml_X4_3 (by decide) (by decide) ?_
  refine z_aload_n dX4_init_4 rfl rfl ?_
  refine z_bipush (v := 8) dX4_init_5 ib_8 ?_
  refine z_newi (N := 8) dX4_init_7 kd_27 rfl (by decide) (by decide) (by decide) (by decide) ?_
  refine z_mem (zm_arr (show 27 ≠ 26 by decide)) ?_
  refine z_putr dX4_init_9 0 clX4 kd_26 (by decide) (by decide) (by decide) wm_fl_X4_9 rfl rfl rfl rfl rfl (fun _ _ _ _ _ _ _ _ _ hk => hk.2.2.2) (tyX4_ok 0 (by decide)) rfl rfl ?_
  refine z_mem zm_put ?_
  refine z_aload_n dX4_init_12 rfl rfl ?_
  refine z_bipush (v := 8) dX4_init_13 ib_8 ?_
  refine z_newi (N := 8) dX4_init_15 kd_28 rfl (by decide) (by decide) (by decide) (by decide) ?_
  refine z_mem (zm_arr (show 28 ≠ 26 by decide)) ?_
  refine z_putr dX4_init_17 1 clX4 kd_26 (by decide) (by decide) (by decide) wm_fl_X4_15 rfl rfl rfl rfl rfl (fun _ _ _ _ _ _ _ _ _ hk => hk.2.2.2) (tyX4_ok 1 (by decide)) rfl rfl ?_
  refine z_mem zm_put ?_
  refine z_aload_n dX4_init_20 rfl rfl ?_
  refine z_bipush (v := 8) dX4_init_21 ib_8 ?_
  refine z_newi (N := 8) dX4_init_23 kd_29 rfl (by decide) (by decide) (by decide) (by decide) ?_
  refine z_mem (zm_arr (show 29 ≠ 26 by decide)) ?_
  refine z_putr dX4_init_25 2 clX4 kd_26 (by decide) (by decide) (by decide) wm_fl_X4_18 rfl rfl rfl rfl rfl (fun _ _ _ _ _ _ _ _ _ hk => hk.2.2.2) (tyX4_ok 2 (by decide)) rfl rfl ?_
  refine z_mem zm_put ?_
  refine z_aload_n dX4_init_28 rfl rfl ?_
  refine z_bipush (v := 8) dX4_init_29 ib_8 ?_
  refine z_newi (N := 8) dX4_init_31 kd_30 rfl (by decide) (by decide) (by decide) (by decide) ?_
  refine z_mem (zm_arr (show 30 ≠ 26 by decide)) ?_
  refine z_putr dX4_init_33 3 clX4 kd_26 (by decide) (by decide) (by decide) wm_fl_X4_21 rfl rfl rfl rfl rfl (fun _ _ _ _ _ _ _ _ _ hk => hk.2.2.2) (tyX4_ok 3 (by decide)) rfl rfl ?_
  refine z_mem zm_put ?_
  refine z_aload_n dX4_init_36 rfl rfl ?_
  refine z_bipush (v := 8) dX4_init_37 ib_8 ?_
  refine z_newi (N := 8) dX4_init_39 kd_31 rfl (by decide) (by decide) (by decide) (by decide) ?_
  refine z_mem (zm_arr (show 31 ≠ 26 by decide)) ?_
  refine z_putr dX4_init_41 4 clX4 kd_26 (by decide) (by decide) (by decide) wm_fl_X4_24 rfl rfl rfl rfl rfl (fun _ _ _ _ _ _ _ _ _ hk => hk.2.2.2) (tyX4_ok 4 (by decide)) rfl rfl ?_
  refine z_mem zm_put ?_
  refine z_aload_n dX4_init_44 rfl rfl ?_
  refine z_bipush (v := 8) dX4_init_45 ib_8 ?_
  refine z_newi (N := 8) dX4_init_47 kd_32 rfl (by decide) (by decide) (by decide) (by decide) ?_
  refine z_mem (zm_arr (show 32 ≠ 26 by decide)) ?_
  refine z_putr dX4_init_49 5 clX4 kd_26 (by decide) (by decide) (by decide) wm_fl_X4_27 rfl rfl rfl rfl rfl (fun _ _ _ _ _ _ _ _ _ hk => hk.2.2.2) (tyX4_ok 5 (by decide)) rfl rfl ?_
  refine z_mem zm_put ?_
  refine z_aload_n dX4_init_52 rfl rfl ?_
  refine z_bipush (v := 8) dX4_init_53 ib_8 ?_
  refine z_newi (N := 8) dX4_init_55 kd_33 rfl (by decide) (by decide) (by decide) (by decide) ?_
  refine z_mem (zm_arr (show 33 ≠ 26 by decide)) ?_
  refine z_putr dX4_init_57 6 clX4 kd_26 (by decide) (by decide) (by decide) wm_fl_X4_30 rfl rfl rfl rfl rfl (fun _ _ _ _ _ _ _ _ _ hk => hk.2.2.2) (tyX4_ok 6 (by decide)) rfl rfl ?_
  refine z_mem zm_put ?_
  refine z_aload_n dX4_init_60 rfl rfl ?_
  refine z_iconst (v := 5) dX4_init_61 ic_5 ?_
  refine z_puti dX4_init_62 9 clX4 kd_26 (by decide) (by decide) (by decide) wm_fl_X4_33 rfl rfl rfl rfl (tyX4_ok 9 (by decide)) rfl rfl ?_
  refine z_mem zm_put ?_
  refine z_aload_n dX4_init_65 rfl rfl ?_
  refine z_getr dX4_init_66 3 clX4 kd_26 (by decide) (by decide) wm_fl_X4_21 rfl rfl rfl ?_
  refine z_bipush (v := -6) dX4_init_69 ib_m6 ?_
  refine z_callS meJ7_fill_53178 (z_fill l G (x := -6) kd_30 (by decide) (by decide)) wm_ml_X4_37 ⟨by decide, by decide⟩ ⟨rfl, rfl⟩ (Nat.le_of_ble_eq_true rfl) (Nat.le_of_ble_eq_true rfl) (Nat.le_of_ble_eq_true rfl) rfl rfl dX4_init_71 ?_
  refine z_mem ?_ (z_ret dX4_init_74)
  funext k
  rcases (show k = 26 ∨ k = 27 ∨ k = 28 ∨ k = 29 ∨ k = 30 ∨ k = 31 ∨ k = 32 ∨ k = 33 ∨ (k ≠ 26 ∧ k ≠ 27 ∧ k ≠ 28 ∧ k ≠ 29 ∧ k ≠ 30 ∧ k ≠ 31 ∧ k ≠ 32 ∧ k ≠ 33) by omega) with rfl | rfl | rfl | rfl | rfl | rfl | rfl | rfl | h
  · rfl
  · rfl
  · rfl
  · rfl
  · rfl
  · rfl
  · rfl
  · rfl
  · simp [tn_26, mset, h]
theorem tn_26_cm (μ : MemT) (r : Nat → Int32) {c : Nat} (h : c < 26 ∨ 34 ≤ c) : tn_26 (mset μ c r) = mset (tn_26 μ) c r := by
  unfold tn_26
  rw [zm_arr (show 27 ≠ c by omega), zm_arr (show 28 ≠ c by omega), zm_arr (show 29 ≠ c by omega), zm_arr (show 30 ≠ c by omega), zm_arr (show 31 ≠ c by omega), zm_arr (show 32 ≠ c by omega), zm_arr (show 33 ≠ c by omega), zm_arr (show 26 ≠ c by omega)]
def tn_34 (μ : MemT) : MemT := mset (mset (mset (mset (mset (mset (mset (mset μ 35 z0) 36 z0) 37 z0) 38 (filF 8 (-6) z0)) 39 z0) 40 z0) 41 z0) 34 rTn
theorem zX4_34 (l : Launch) (G : GT) (μ : MemT) : zd_Met l G yX4_init cX4_init 1 ({ frames := 1, cells := 7, slots := 56, locals := 23 }) [.ref (G.2.1 34)] 7 56 19 (mset μ 34 z0) 26 (tn_34 μ) := by
  refine zd_Met.ofZ (by decide) (Nat.le_of_ble_eq_true rfl) rfl ?_
  refine z_aload_n dX4_init_0 rfl rfl ?_
  refine z_obj dX4_init_1 wm_ml_X4_3 (by decide) (by decide) ?_
  refine z_aload_n dX4_init_4 rfl rfl ?_
  refine z_bipush (v := 8) dX4_init_5 ib_8 ?_
  refine z_newi (N := 8) dX4_init_7 kd_35 rfl (by decide) (by decide) (by decide) (by decide) ?_
  refine z_mem (zm_arr (show 35 ≠ 34 by decide)) ?_
  refine z_putr dX4_init_9 0 clX4 kd_34 (by decide) (by decide) (by decide) wm_fl_X4_9 rfl rfl rfl rfl rfl (fun _ _ _ _ _ _ _ _ _ hk => hk.2.2.2) (tyX4_ok 0 (by decide)) rfl rfl ?_
  refine z_mem zm_put ?_
  refine z_aload_n dX4_init_12 rfl rfl ?_
  refine z_bipush (v := 8) dX4_init_13 ib_8 ?_
  refine z_newi (N := 8) dX4_init_15 kd_36 rfl (by decide) (by decide) (by decide) (by decide) ?_
  refine z_mem (zm_arr (show 36 ≠ 34 by decide)) ?_
  refine z_putr dX4_init_17 1 clX4 kd_34 (by decide) (by decide) (by decide) wm_fl_X4_15 rfl rfl rfl rfl rfl (fun _ _ _ _ _ _ _ _ _ hk => hk.2.2.2) (tyX4_ok 1 (by decide)) rfl rfl ?_
  refine z_mem zm_put ?_
  refine z_aload_n dX4_init_20 rfl rfl ?_
  refine z_bipush (v := 8) dX4_init_21 ib_8 ?_
  refine z_newi (N := 8) dX4_init_23 kd_37 rfl (by decide) (by decide) (by decide) (by decide) ?_
  refine z_mem (zm_arr (show 37 ≠ 34 by decide)) ?_
  refine z_putr dX4_init_25 2 clX4 kd_34 (by decide) (by decide) (by decide) wm_fl_X4_18 rfl rfl rfl rfl rfl (fun _ _ _ _ _ _ _ _ _ hk => hk.2.2.2) (tyX4_ok 2 (by decide)) rfl rfl ?_
  refine z_mem zm_put ?_
  refine z_aload_n dX4_init_28 rfl rfl ?_
  refine z_bipush (v := 8) dX4_init_29 ib_8 ?_
  refine z_newi (N := 8) dX4_init_31 kd_38 rfl (by decide) (by decide) (by decide) (by decide) ?_
  refine z_mem (zm_arr (show 38 ≠ 34 by decide)) ?_
  refine z_putr dX4_init_33 3 clX4 kd_34 (by decide) (by decide) (by decide) wm_fl_X4_21 rfl rfl rfl rfl rfl (fun _ _ _ _ _ _ _ _ _ hk => hk.2.2.2) (tyX4_ok 3 (by decide)) rfl rfl ?_
  refine z_mem zm_put ?_
  refine z_aload_n dX4_init_36 rfl rfl ?_
  refine z_bipush (v := 8) dX4_init_37 ib_8 ?_
  refine z_newi (N := 8) dX4_init_39 kd_39 rfl (by decide) (by decide) (by decide) (by decide) ?_
  refine z_mem (zm_arr (show 39 ≠ 34 by decide)) ?_
  refine z_putr dX4_init_41 4 clX4 kd_34 (by decide) (by decide) (by decide) wm_fl_X4_24 rfl rfl rfl rfl rfl (fun _ _ _ _ _ _ _ _ _ hk => hk.2.2.2) (tyX4_ok 4 (by decide)) rfl rfl ?_
  refine z_mem zm_put ?_
  refine z_aload_n dX4_init_44 rfl rfl ?_
  refine z_bipush (v := 8) dX4_init_45 ib_8 ?_
  refine z_newi (N := 8) dX4_init_47 kd_40 rfl (by decide) (by decide) (by decide) (by decide) ?_
  refine z_mem (zm_arr (show 40 ≠ 34 by decide)) ?_
  refine z_putr dX4_init_49 5 clX4 kd_34 (by decide) (by decide) (by decide) wm_fl_X4_27 rfl rfl rfl rfl rfl (fun _ _ _ _ _ _ _ _ _ hk => hk.2.2.2) (tyX4_ok 5 (by decide)) rfl rfl ?_
  refine z_mem zm_put ?_
  refine z_aload_n dX4_init_52 rfl rfl ?_
  refine z_bipush (v := 8) dX4_init_53 ib_8 ?_
  refine z_newi (N := 8) dX4_init_55 kd_41 rfl (by decide) (by decide) (by decide) (by decide) ?_
  refine z_mem (zm_arr (show 41 ≠ 34 by decide)) ?_
  refine z_putr dX4_init_57 6 clX4 kd_34 (by decide) (by decide) (by decide) wm_fl_X4_30 rfl rfl rfl rfl rfl (fun _ _ _ _ _ _ _ _ _ hk => hk.2.2.2) (tyX4_ok 6 (by decide)) rfl rfl ?_
  refine z_mem zm_put ?_
  refine z_aload_n dX4_init_60 rfl rfl ?_
  refine z_iconst (v := 5) dX4_init_61 ic_5 ?_
  refine z_puti dX4_init_62 9 clX4 kd_34 (by decide) (by decide) (by decide) wm_fl_X4_33 rfl rfl rfl rfl (tyX4_ok 9 (by decide)) rfl rfl ?_
  refine z_mem zm_put ?_
  refine z_aload_n dX4_init_65 rfl rfl ?_
  refine z_getr dX4_init_66 3 clX4 kd_34 (by decide) (by decide) wm_fl_X4_21 rfl rfl rfl ?_
  refine z_bipush (v := -6) dX4_init_69 ib_m6 ?_
  refine z_callS meJ7_fill_53178 (z_fill l G (x := -6) kd_38 (by decide) (by decide)) wm_ml_X4_37 ⟨by decide, by decide⟩ ⟨rfl, rfl⟩ (Nat.le_of_ble_eq_true rfl) (Nat.le_of_ble_eq_true rfl) (Nat.le_of_ble_eq_true rfl) rfl rfl dX4_init_71 ?_
  refine z_mem ?_ (z_ret dX4_init_74)
  funext k
  rcases (show k = 34 ∨ k = 35 ∨ k = 36 ∨ k = 37 ∨ k = 38 ∨ k = 39 ∨ k = 40 ∨ k = 41 ∨ (k ≠ 34 ∧ k ≠ 35 ∧ k ≠ 36 ∧ k ≠ 37 ∧ k ≠ 38 ∧ k ≠ 39 ∧ k ≠ 40 ∧ k ≠ 41) by omega) with rfl | rfl | rfl | rfl | rfl | rfl | rfl | rfl | h
  · rfl
  · rfl
  · rfl
  · rfl
  · rfl
  · rfl
  · rfl
  · rfl
  · simp [tn_34, mset, h]
theorem tn_34_cm (μ : MemT) (r : Nat → Int32) {c : Nat} (h : c < 34 ∨ 42 ≤ c) : tn_34 (mset μ c r) = mset (tn_34 μ) c r := by
  unfold tn_34
  rw [zm_arr (show 35 ≠ c by omega), zm_arr (show 36 ≠ c by omega), zm_arr (show 37 ≠ c by omega), zm_arr (show 38 ≠ c by omega), zm_arr (show 39 ≠ c by omega), zm_arr (show 40 ≠ c by omega), zm_arr (show 41 ≠ c by omega), zm_arr (show 34 ≠ c by omega)]
def tn_42 (μ : MemT) : MemT := mset (mset (mset (mset (mset (mset (mset (mset μ 43 z0) 44 z0) 45 z0) 46 (filF 8 (-6) z0)) 47 z0) 48 z0) 49 z0) 42 rTn
theorem zX4_42 (l : Launch) (G : GT) (μ : MemT) : zd_Met l G yX4_init cX4_init 1 ({ frames := 1, cells := 7, slots := 56, locals := 23 }) [.ref (G.2.1 42)] 7 56 31 (mset μ 42 z0) 38 (tn_42 μ) := by
  refine zd_Met.ofZ (by decide) (Nat.le_of_ble_eq_true rfl) rfl ?_
  refine z_aload_n dX4_init_0 rfl rfl ?_
  refine z_obj dX4_init_1 wm_ml_X4_3 (by decide) (by decide) ?_
  refine z_aload_n dX4_init_4 rfl rfl ?_
  refine z_bipush (v := 8) dX4_init_5 ib_8 ?_
  refine z_newi (N := 8) dX4_init_7 kd_43 rfl (by decide) (by decide) (by decide) (by decide) ?_
  refine z_mem (zm_arr (show 43 ≠ 42 by decide)) ?_
  refine z_putr dX4_init_9 0 clX4 kd_42 (by decide) (by decide) (by decide) wm_fl_X4_9 rfl rfl rfl rfl rfl (fun _ _ _ _ _ _ _ _ _ hk => hk.2.2.2) (tyX4_ok 0 (by decide)) rfl rfl ?_
  refine z_mem zm_put ?_
  refine z_aload_n dX4_init_12 rfl rfl ?_
  refine z_bipush (v := 8) dX4_init_13 ib_8 ?_
  refine z_newi (N := 8) dX4_init_15 kd_44 rfl (by decide) (by decide) (by decide) (by decide) ?_
  refine z_mem (zm_arr (show 44 ≠ 42 by decide)) ?_
  refine z_putr dX4_init_17 1 clX4 kd_42 (by decide) (by decide) (by decide) wm_fl_X4_15 rfl rfl rfl rfl rfl (fun _ _ _ _ _ _ _ _ _ hk => hk.2.2.2) (tyX4_ok 1 (by decide)) rfl rfl ?_
  refine z_mem zm_put ?_
  refine z_aload_n dX4_init_20 rfl rfl ?_
  refine z_bipush (v := 8) dX4_init_21 ib_8 ?_
  refine z_newi (N := 8) dX4_init_23 kd_45 rfl (by decide) (by decide) (by decide) (by decide) ?_
  refine z_mem (zm_arr (show 45 ≠ 42 by decide)) ?_
  refine z_putr dX4_init_25 2 clX4 kd_42 (by decide) (by decide) (by decide) wm_fl_X4_18 rfl rfl rfl rfl rfl (fun _ _ _ _ _ _ _ _ _ hk => hk.2.2.2) (tyX4_ok 2 (by decide)) rfl rfl ?_
  refine z_mem zm_put ?_
  refine z_aload_n dX4_init_28 rfl rfl ?_
  refine z_bipush (v := 8) dX4_init_29 ib_8 ?_
  refine z_newi (N := 8) dX4_init_31 kd_46 rfl (by decide) (by decide) (by decide) (by decide) ?_
  refine z_mem (zm_arr (show 46 ≠ 42 by decide)) ?_
  refine z_putr dX4_init_33 3 clX4 kd_42 (by decide) (by decide) (by decide) wm_fl_X4_21 rfl rfl rfl rfl rfl (fun _ _ _ _ _ _ _ _ _ hk => hk.2.2.2) (tyX4_ok 3 (by decide)) rfl rfl ?_
  refine z_mem zm_put ?_
  refine z_aload_n dX4_init_36 rfl rfl ?_
  refine z_bipush (v := 8) dX4_init_37 ib_8 ?_
  refine z_newi (N := 8) dX4_init_39 kd_47 rfl (by decide) (by decide) (by decide) (by decide) ?_
  refine z_mem (zm_arr (show 47 ≠ 42 by decide)) ?_
  refine z_putr dX4_init_41 4 clX4 kd_42 (by decide) (by decide) (by decide) wm_fl_X4_24 rfl rfl rfl rfl rfl (fun _ _ _ _ _ _ _ _ _ hk => hk.2.2.2) (tyX4_ok 4 (by decide)) rfl rfl ?_
  refine z_mem zm_put ?_
  refine z_aload_n dX4_init_44 rfl rfl ?_
  refine z_bipush (v := 8) dX4_init_45 ib_8 ?_
  refine z_newi (N := 8) dX4_init_47 kd_48 rfl (by decide) (by decide) (by decide) (by decide) ?_
  refine z_mem (zm_arr (show 48 ≠ 42 by decide)) ?_
  refine z_putr dX4_init_49 5 clX4 kd_42 (by decide) (by decide) (by decide) wm_fl_X4_27 rfl rfl rfl rfl rfl (fun _ _ _ _ _ _ _ _ _ hk => hk.2.2.2) (tyX4_ok 5 (by decide)) rfl rfl ?_
  refine z_mem zm_put ?_
  refine z_aload_n dX4_init_52 rfl rfl ?_
  refine z_bipush (v := 8) dX4_init_53 ib_8 ?_
  refine z_newi (N := 8) dX4_init_55 kd_49 rfl (by decide) (by decide) (by decide) (by decide) ?_
  refine z_mem (zm_arr (show 49 ≠ 42 by decide)) ?_
  refine z_putr dX4_init_57 6 clX4 kd_42 (by decide) (by decide) (by decide) wm_fl_X4_30 rfl rfl rfl rfl rfl (fun _ _ _ _ _ _ _ _ _ hk => hk.2.2.2) (tyX4_ok 6 (by decide)) rfl rfl ?_
  refine z_mem zm_put ?_
  refine z_aload_n dX4_init_60 rfl rfl ?_
  refine z_iconst (v := 5) dX4_init_61 ic_5 ?_
  refine z_puti dX4_init_62 9 clX4 kd_42 (by decide) (by decide) (by decide) wm_fl_X4_33 rfl rfl rfl rfl (tyX4_ok 9 (by decide)) rfl rfl ?_
  refine z_mem zm_put ?_
  refine z_aload_n dX4_init_65 rfl rfl ?_
  refine z_getr dX4_init_66 3 clX4 kd_42 (by decide) (by decide) wm_fl_X4_21 rfl rfl rfl ?_
  refine z_bipush (v := -6) dX4_init_69 ib_m6 ?_
  refine z_callS meJ7_fill_53178 (z_fill l G (x := -6) kd_46 (by decide) (by decide)) wm_ml_X4_37 ⟨by decide, by decide⟩ ⟨rfl, rfl⟩ (Nat.le_of_ble_eq_true rfl) (Nat.le_of_ble_eq_true rfl) (Nat.le_of_ble_eq_true rfl) rfl rfl dX4_init_71 ?_
  refine z_mem ?_ (z_ret dX4_init_74)
  funext k
  rcases (show k = 42 ∨ k = 43 ∨ k = 44 ∨ k = 45 ∨ k = 46 ∨ k = 47 ∨ k = 48 ∨ k = 49 ∨ (k ≠ 42 ∧ k ≠ 43 ∧ k ≠ 44 ∧ k ≠ 45 ∧ k ≠ 46 ∧ k ≠ 47 ∧ k ≠ 48 ∧ k ≠ 49) by omega) with rfl | rfl | rfl | rfl | rfl | rfl | rfl | rfl | h
  · rfl
  · rfl
  · rfl
  · rfl
  · rfl
  · rfl
  · rfl
  · rfl
  · simp [tn_42, mset, h]
theorem tn_42_cm (μ : MemT) (r : Nat → Int32) {c : Nat} (h : c < 42 ∨ 50 ≤ c) : tn_42 (mset μ c r) = mset (tn_42 μ) c r := by
  unfold tn_42
  rw [zm_arr (show 43 ≠ c by omega), zm_arr (show 44 ≠ c by omega), zm_arr (show 45 ≠ c by omega), zm_arr (show 46 ≠ c by omega), zm_arr (show 47 ≠ c by omega), zm_arr (show 48 ≠ c by omega), zm_arr (show 49 ≠ c by omega), zm_arr (show 42 ≠ c by omega)]
def tn_50 (μ : MemT) : MemT := mset (mset (mset (mset (mset (mset (mset (mset μ 51 z0) 52 z0) 53 z0) 54 (filF 8 (-6) z0)) 55 z0) 56 z0) 57 z0) 50 rTn
theorem zX4_50 (l : Launch) (G : GT) (μ : MemT) : zd_Met l G yX4_init cX4_init 1 ({ frames := 1, cells := 7, slots := 56, locals := 23 }) [.ref (G.2.1 50)] 7 56 51 (mset μ 50 z0) 58 (tn_50 μ) := by
  refine zd_Met.ofZ (by decide) (Nat.le_of_ble_eq_true rfl) rfl ?_
  refine z_aload_n dX4_init_0 rfl rfl ?_
  refine z_obj dX4_init_1 wm_ml_X4_3 (by decide) (by decide) ?_
  refine z_aload_n dX4_init_4 rfl rfl ?_
  refine z_bipush (v := 8) dX4_init_5 ib_8 ?_
  refine z_newi (N := 8) dX4_init_7 kd_51 rfl (by decide) (by decide) (by decide) (by decide) ?_
  refine z_mem (zm_arr (show 51 ≠ 50 by decide)) ?_
  refine z_putr dX4_init_9 0 clX4 kd_50 (by decide) (by decide) (by decide) wm_fl_X4_9 rfl rfl rfl rfl rfl (fun _ _ _ _ _ _ _ _ _ hk => hk.2.2.2) (tyX4_ok 0 (by decide)) rfl rfl ?_
  refine z_mem zm_put ?_
  refine z_aload_n dX4_init_12 rfl rfl ?_
  refine z_bipush (v := 8) dX4_init_13 ib_8 ?_
  refine z_newi (N := 8) dX4_init_15 kd_52 rfl (by decide) (by decide) (by decide) (by decide) ?_
  refine z_mem (zm_arr (show 52 ≠ 50 by decide)) ?_
  refine z_putr dX4_init_17 1 clX4 kd_50 (by decide) (by decide) (by decide) wm_fl_X4_15 rfl rfl rfl rfl rfl (fun _ _ _ _ _ _ _ _ _ hk => hk.2.2.2) (tyX4_ok 1 (by decide)) rfl rfl ?_
  refine z_mem zm_put ?_
  refine z_aload_n dX4_init_20 rfl rfl ?_
  refine z_bipush (v := 8) dX4_init_21 ib_8 ?_
  refine z_newi (N := 8) dX4_init_23 kd_53 rfl (by decide) (by decide) (by decide) (by decide) ?_
  refine z_mem (zm_arr (show 53 ≠ 50 by decide)) ?_
  refine z_putr dX4_init_25 2 clX4 kd_50 (by decide) (by decide) (by decide) wm_fl_X4_18 rfl rfl rfl rfl rfl (fun _ _ _ _ _ _ _ _ _ hk => hk.2.2.2) (tyX4_ok 2 (by decide)) rfl rfl ?_
  refine z_mem zm_put ?_
  refine z_aload_n dX4_init_28 rfl rfl ?_
  refine z_bipush (v := 8) dX4_init_29 ib_8 ?_
  refine z_newi (N := 8) dX4_init_31 kd_54 rfl (by decide) (by decide) (by decide) (by decide) ?_
  refine z_mem (zm_arr (show 54 ≠ 50 by decide)) ?_
  refine z_putr dX4_init_33 3 clX4 kd_50 (by decide) (by decide) (by decide) wm_fl_X4_21 rfl rfl rfl rfl rfl (fun _ _ _ _ _ _ _ _ _ hk => hk.2.2.2) (tyX4_ok 3 (by decide)) rfl rfl ?_
  refine z_mem zm_put ?_
  refine z_aload_n dX4_init_36 rfl rfl ?_
  refine z_bipush (v := 8) dX4_init_37 ib_8 ?_
  refine z_newi (N := 8) dX4_init_39 kd_55 rfl (by decide) (by decide) (by decide) (by decide) ?_
  refine z_mem (zm_arr (show 55 ≠ 50 by decide)) ?_
  refine z_putr dX4_init_41 4 clX4 kd_50 (by decide) (by decide) (by decide) wm_fl_X4_24 rfl rfl rfl rfl rfl (fun _ _ _ _ _ _ _ _ _ hk => hk.2.2.2) (tyX4_ok 4 (by decide)) rfl rfl ?_
  refine z_mem zm_put ?_
  refine z_aload_n dX4_init_44 rfl rfl ?_
  refine z_bipush (v := 8) dX4_init_45 ib_8 ?_
  refine z_newi (N := 8) dX4_init_47 kd_56 rfl (by decide) (by decide) (by decide) (by decide) ?_
  refine z_mem (zm_arr (show 56 ≠ 50 by decide)) ?_
  refine z_putr dX4_init_49 5 clX4 kd_50 (by decide) (by decide) (by decide) wm_fl_X4_27 rfl rfl rfl rfl rfl (fun _ _ _ _ _ _ _ _ _ hk => hk.2.2.2) (tyX4_ok 5 (by decide)) rfl rfl ?_
  refine z_mem zm_put ?_
  refine z_aload_n dX4_init_52 rfl rfl ?_
  refine z_bipush (v := 8) dX4_init_53 ib_8 ?_
  refine z_newi (N := 8) dX4_init_55 kd_57 rfl (by decide) (by decide) (by decide) (by decide) ?_
  refine z_mem (zm_arr (show 57 ≠ 50 by decide)) ?_
  refine z_putr dX4_init_57 6 clX4 kd_50 (by decide) (by decide) (by decide) wm_fl_X4_30 rfl rfl rfl rfl rfl (fun _ _ _ _ _ _ _ _ _ hk => hk.2.2.2) (tyX4_ok 6 (by decide)) rfl rfl ?_
  refine z_mem zm_put ?_
  refine z_aload_n dX4_init_60 rfl rfl ?_
  refine z_iconst (v := 5) dX4_init_61 ic_5 ?_
  refine z_puti dX4_init_62 9 clX4 kd_50 (by decide) (by decide) (by decide) wm_fl_X4_33 rfl rfl rfl rfl (tyX4_ok 9 (by decide)) rfl rfl ?_
  refine z_mem zm_put ?_
  refine z_aload_n dX4_init_65 rfl rfl ?_
  refine z_getr dX4_init_66 3 clX4 kd_50 (by decide) (by decide) wm_fl_X4_21 rfl rfl rfl ?_
  refine z_bipush (v := -6) dX4_init_69 ib_m6 ?_
  refine z_callS meJ7_fill_53178 (z_fill l G (x := -6) kd_54 (by decide) (by decide)) wm_ml_X4_37 ⟨by decide, by decide⟩ ⟨rfl, rfl⟩ (Nat.le_of_ble_eq_true rfl) (Nat.le_of_ble_eq_true rfl) (Nat.le_of_ble_eq_true rfl) rfl rfl dX4_init_71 ?_
  refine z_mem ?_ (z_ret dX4_init_74)
  funext k
  rcases (show k = 50 ∨ k = 51 ∨ k = 52 ∨ k = 53 ∨ k = 54 ∨ k = 55 ∨ k = 56 ∨ k = 57 ∨ (k ≠ 50 ∧ k ≠ 51 ∧ k ≠ 52 ∧ k ≠ 53 ∧ k ≠ 54 ∧ k ≠ 55 ∧ k ≠ 56 ∧ k ≠ 57) by omega) with rfl | rfl | rfl | rfl | rfl | rfl | rfl | rfl | h
  · rfl
  · rfl
  · rfl
  · rfl
  · rfl
  · rfl
  · rfl
  · rfl
  · simp [tn_50, mset, h]
theorem tn_50_cm (μ : MemT) (r : Nat → Int32) {c : Nat} (h : c < 50 ∨ 58 ≤ c) : tn_50 (mset μ c r) = mset (tn_50 μ) c r := by
  unfold tn_50
  rw [zm_arr (show 51 ≠ c by omega), zm_arr (show 52 ≠ c by omega), zm_arr (show 53 ≠ c by omega), zm_arr (show 54 ≠ c by omega), zm_arr (show 55 ≠ c by omega), zm_arr (show 56 ≠ c by omega), zm_arr (show 57 ≠ c by omega), zm_arr (show 50 ≠ c by omega)]
def pf_0 (μ : MemT) : MemT := mset μ 16 z0
theorem zX0 (l : Launch) (G : GT) (μ : MemT) : zd_Met l G yX0_init cX0_init 1 ({ frames := 1, cells := 0, slots := 0, locals := 12 }) [.ref (G.2.1 16)] 0 0 49 (mset μ 16 z0) 49 (pf_0 μ) := by
  refine zd_Met.ofZ (by decide) (Nat.le_of_ble_eq_true rfl) rfl ?_
  refine z_aload_n dX0_init_0 rfl rfl ?_
  refine z_obj dX0_init_1 wm_ml_X0_1 (by decide) (by decide) ?_
  refine z_mem ?_ (z_ret dX0_init_4)
  rfl
theorem pf_0_cm (μ : MemT) (r : Nat → Int32) : pf_0 (mset μ 0 r) = mset (pf_0 μ) 0 r := by
  unfold pf_0
  rw [zm_arr (show 16 ≠ 0 by decide)]
def pf_2 (μ : MemT) : MemT := mset (mset μ 4 z0) 3 (upd z0 0 1)
theorem zX2 (l : Launch) (G : GT) (μ : MemT) : zd_Met l G yX2_init cX2_init 1 ({ frames := 1, cells := 1, slots := 60, locals := 12 }) [.ref (G.2.1 3)] 1 60 28 (mset μ 3 z0) 29 (pf_2 μ) := by
  refine zd_Met.ofZ (by decide) (Nat.le_of_ble_eq_true rfl) rfl ?_
  refine z_aload_n dX2_init_0 rfl rfl ?_
  refine z_obj dX2_init_1 wm_ml_X2_3 (by decide) (by decide) ?_
  refine z_aload_n dX2_init_4 rfl rfl ?_
  refine z_bipush (v := 60) dX2_init_5 ib_60 ?_
  refine z_newi (N := 60) dX2_init_7 kd_4 rfl (by decide) (by decide) (by decide) (by decide) ?_
  refine z_mem (zm_arr (show 4 ≠ 3 by decide)) ?_
  refine z_putr dX2_init_9 0 clX2 kd_3 (by decide) (by decide) (by decide) wm_fl_X2_9 rfl rfl rfl rfl rfl (fun _ _ _ _ _ _ _ _ _ hk => hk.2.2.2) (tyX2_ok 0 (by decide)) rfl rfl ?_
  refine z_mem zm_put ?_
  refine z_mem ?_ (z_ret dX2_init_12)
  rfl
theorem pf_2_cm (μ : MemT) (r : Nat → Int32) : pf_2 (mset μ 0 r) = mset (pf_2 μ) 0 r := by
  unfold pf_2
  rw [zm_arr (show 4 ≠ 0 by decide), zm_arr (show 3 ≠ 0 by decide)]
def pf_3 (μ : MemT) : MemT := mset (mset (mset (mset (mset μ 7 z0) 8 z0) 9 z0) 10 z0) 6 (upd (upd (upd (upd z0 0 1) 1 1) 2 1) 3 1)
theorem zX3 (l : Launch) (G : GT) (μ : MemT) : zd_Met l G yX3_init cX3_init 1 ({ frames := 1, cells := 4, slots := 3969, locals := 12 }) [.ref (G.2.1 6)] 4 3969 39 (mset μ 6 z0) 43 (pf_3 μ) := by
  refine zd_Met.ofZ (by decide) (Nat.le_of_ble_eq_true rfl) rfl ?_
  refine z_aload_n dX3_init_0 rfl rfl ?_
  refine z_obj dX3_init_1 wm_ml_X3_3 (by decide) (by decide) ?_
  refine z_aload_n dX3_init_4 rfl rfl ?_
  refine z_sipush (v := 256) dX3_init_5 is_256 ?_
  refine z_newi (N := 256) dX3_init_8 kd_7 rfl (by decide) (by decide) (by decide) (by decide) ?_
  refine z_mem (zm_arr (show 7 ≠ 6 by decide)) ?_
  refine z_putr dX3_init_10 0 clX3 kd_6 (by decide) (by decide) (by decide) wm_fl_X3_9 rfl rfl rfl rfl rfl (fun _ _ _ _ _ _ _ _ _ hk => hk.2.2.2) (tyX3_ok 0 (by decide)) rfl rfl ?_
  refine z_mem zm_put ?_
  refine z_aload_n dX3_init_13 rfl rfl ?_
  refine z_sipush (v := 256) dX3_init_14 is_256 ?_
  refine z_newi (N := 256) dX3_init_17 kd_8 rfl (by decide) (by decide) (by decide) (by decide) ?_
  refine z_mem (zm_arr (show 8 ≠ 6 by decide)) ?_
  refine z_putr dX3_init_19 1 clX3 kd_6 (by decide) (by decide) (by decide) wm_fl_X3_15 rfl rfl rfl rfl rfl (fun _ _ _ _ _ _ _ _ _ hk => hk.2.2.2) (tyX3_ok 1 (by decide)) rfl rfl ?_
  refine z_mem zm_put ?_
  refine z_aload_n dX3_init_22 rfl rfl ?_
  refine z_sipush (v := 256) dX3_init_23 is_256 ?_
  refine z_newi (N := 256) dX3_init_26 kd_9 rfl (by decide) (by decide) (by decide) (by decide) ?_
  refine z_mem (zm_arr (show 9 ≠ 6 by decide)) ?_
  refine z_putr dX3_init_28 2 clX3 kd_6 (by decide) (by decide) (by decide) wm_fl_X3_18 rfl rfl rfl rfl rfl (fun _ _ _ _ _ _ _ _ _ hk => hk.2.2.2) (tyX3_ok 2 (by decide)) rfl rfl ?_
  refine z_mem zm_put ?_
  refine z_aload_n dX3_init_31 rfl rfl ?_
  refine z_sipush (v := 3201) dX3_init_32 is_3201 ?_
  refine z_newb (N := 3201) dX3_init_35 kd_10 rfl (by decide) (by decide) (by decide) (by decide) ?_
  refine z_mem (zm_arr (show 10 ≠ 6 by decide)) ?_
  refine z_putr dX3_init_37 3 clX3 kd_6 (by decide) (by decide) (by decide) wm_fl_X3_21 rfl rfl rfl rfl rfl (fun _ _ _ _ _ _ _ _ _ hk => hk.2.2.2) (tyX3_ok 3 (by decide)) rfl rfl ?_
  refine z_mem zm_put ?_
  refine z_mem ?_ (z_ret dX3_init_40)
  rfl
theorem pf_3_cm (μ : MemT) (r : Nat → Int32) : pf_3 (mset μ 0 r) = mset (pf_3 μ) 0 r := by
  unfold pf_3
  rw [zm_arr (show 7 ≠ 0 by decide), zm_arr (show 8 ≠ 0 by decide), zm_arr (show 9 ≠ 0 by decide), zm_arr (show 10 ≠ 0 by decide), zm_arr (show 6 ≠ 0 by decide)]
def pf_5 (μ : MemT) : MemT := mset (mset (mset (mset (mset μ 12 z0) 13 z0) 14 z0) 15 z0) 11 (upd (upd (upd (upd z0 0 1) 1 1) 2 1) 3 1)
theorem zX5 (l : Launch) (G : GT) (μ : MemT) : zd_Met l G yX5_init cX5_init 1 ({ frames := 1, cells := 4, slots := 301, locals := 12 }) [.ref (G.2.1 11)] 4 301 44 (mset μ 11 z0) 48 (pf_5 μ) := by
  refine zd_Met.ofZ (by decide) (Nat.le_of_ble_eq_true rfl) rfl ?_
  refine z_aload_n dX5_init_0 rfl rfl ?_
  refine z_obj dX5_init_1 wm_ml_X5_5 (by decide) (by decide) ?_
  refine z_aload_n dX5_init_4 rfl rfl ?_
  refine z_sipush (v := 145) dX5_init_5 is_145 ?_
  refine z_newi (N := 145) dX5_init_8 kd_12 rfl (by decide) (by decide) (by decide) (by decide) ?_
  refine z_mem (zm_arr (show 12 ≠ 11 by decide)) ?_
  refine z_putr dX5_init_10 0 clX5 kd_11 (by decide) (by decide) (by decide) wm_fl_X5_11 rfl rfl rfl rfl rfl (fun _ _ _ _ _ _ _ _ _ hk => hk.2.2.2) (tyX5_ok 0 (by decide)) rfl rfl ?_
  refine z_mem zm_put ?_
  refine z_aload_n dX5_init_13 rfl rfl ?_
  refine z_sipush (v := 145) dX5_init_14 is_145 ?_
  refine z_newi (N := 145) dX5_init_17 kd_13 rfl (by decide) (by decide) (by decide) (by decide) ?_
  refine z_mem (zm_arr (show 13 ≠ 11 by decide)) ?_
  refine z_putr dX5_init_19 1 clX5 kd_11 (by decide) (by decide) (by decide) wm_fl_X5_15 rfl rfl rfl rfl rfl (fun _ _ _ _ _ _ _ _ _ hk => hk.2.2.2) (tyX5_ok 1 (by decide)) rfl rfl ?_
  refine z_mem zm_put ?_
  refine z_aload_n dX5_init_22 rfl rfl ?_
  refine z_bipush (v := 8) dX5_init_23 ib_8 ?_
  refine z_newi (N := 8) dX5_init_25 kd_14 rfl (by decide) (by decide) (by decide) (by decide) ?_
  refine z_mem (zm_arr (show 14 ≠ 11 by decide)) ?_
  refine z_putr dX5_init_27 2 clX5 kd_11 (by decide) (by decide) (by decide) wm_fl_X5_18 rfl rfl rfl rfl rfl (fun _ _ _ _ _ _ _ _ _ hk => hk.2.2.2) (tyX5_ok 2 (by decide)) rfl rfl ?_
  refine z_mem zm_put ?_
  refine z_aload_n dX5_init_30 rfl rfl ?_
  refine z_iconst (v := 3) dX5_init_31 ic_3 ?_
  refine z_newi (N := 3) dX5_init_32 kd_15 rfl (by decide) (by decide) (by decide) (by decide) ?_
  refine z_mem (zm_arr (show 15 ≠ 11 by decide)) ?_
  refine z_putr dX5_init_34 3 clX5 kd_11 (by decide) (by decide) (by decide) wm_fl_X5_21 rfl rfl rfl rfl rfl (fun _ _ _ _ _ _ _ _ _ hk => hk.2.2.2) (tyX5_ok 3 (by decide)) rfl rfl ?_
  refine z_mem zm_put ?_
  refine z_mem ?_ (z_ret dX5_init_37)
  rfl
theorem pf_5_cm (μ : MemT) (r : Nat → Int32) : pf_5 (mset μ 0 r) = mset (pf_5 μ) 0 r := by
  unfold pf_5
  rw [zm_arr (show 12 ≠ 0 by decide), zm_arr (show 13 ≠ 0 by decide), zm_arr (show 14 ≠ 0 by decide), zm_arr (show 15 ≠ 0 by decide), zm_arr (show 11 ≠ 0 by decide)]
def pf_1 (μ : MemT) : MemT := mset (tn_42 μ) 5 (upd z0 0 1)
theorem zX1 (l : Launch) (G : GT) (μ : MemT) : zd_Met l G yX1_init cX1_init 1 ({ frames := 2, cells := 8, slots := 68, locals := 43 }) [.ref (G.2.1 5)] 8 68 30 (mset μ 5 z0) 38 (pf_1 μ) := by
  refine zd_Met.ofZ (by decide) (Nat.le_of_ble_eq_true rfl) rfl ?_
  refine z_aload_n dX1_init_0 rfl rfl ?_
  refine z_obj dX1_init_1 wm_ml_X1_3 (by decide) (by decide) ?_
  refine z_aload_n dX1_init_4 rfl rfl ?_
  refine z_new dX1_init_5 clX4 kd_42 rfl wm_kl_X1_9 wm_it_X4 wm_ini_X4 (zf_42 G) (by decide) (by decide) ?_
  refine z_dup dX1_init_8 rfl ?_
  refine z_callI (zX4_42 l G _) wm_cd_X4_init wm_ini_X4 wm_ml_X1_11 wm_im_X4_init rfl (by decide +kernel) ⟨by decide, by decide⟩ ⟨rfl, rfl⟩ (Nat.le_of_ble_eq_true rfl) (Nat.le_of_ble_eq_true rfl) (Nat.le_of_ble_eq_true rfl) dX1_init_9 ?_
  refine z_mem (tn_42_cm _ _ (show 5 < 42 ∨ 50 ≤ 5 by decide)) ?_
  refine z_putr dX1_init_12 0 clX1 kd_5 (by decide) (by decide) (by decide) wm_fl_X1_12 rfl rfl rfl rfl rfl (fun _ _ _ _ _ _ _ _ _ hk => hk.2.2.2) (tyX1_ok 0 (by decide)) rfl rfl ?_
  refine z_mem zm_put ?_
  refine z_mem ?_ (z_ret dX1_init_15)
  rfl
theorem pf_1_cm (μ : MemT) (r : Nat → Int32) : pf_1 (mset μ 0 r) = mset (pf_1 μ) 0 r := by
  unfold pf_1
  rw [tn_42_cm _ _ (show 0 < 42 ∨ 50 ≤ 0 by decide), zm_arr (show 5 ≠ 0 by decide)]
def pf_6 (μ : MemT) : MemT := mset (tn_50 μ) 17 (upd z0 0 1)
theorem zX6 (l : Launch) (G : GT) (μ : MemT) : zd_Met l G yX6_init cX6_init 1 ({ frames := 2, cells := 8, slots := 68, locals := 43 }) [.ref (G.2.1 17)] 8 68 50 (mset μ 17 z0) 58 (pf_6 μ) := by
  refine zd_Met.ofZ (by decide) (Nat.le_of_ble_eq_true rfl) rfl ?_
  refine z_aload_n dX6_init_0 rfl rfl ?_
  refine z_obj dX6_init_1 wm_ml_X6_1 (by decide) (by decide) ?_
  refine z_aload_n dX6_init_4 rfl rfl ?_
  refine z_new dX6_init_5 clX4 kd_50 rfl wm_kl_X6_7 wm_it_X4 wm_ini_X4 (zf_50 G) (by decide) (by decide) ?_
  refine z_dup dX6_init_8 rfl ?_
  refine z_callI (zX4_50 l G _) wm_cd_X4_init wm_ini_X4 wm_ml_X6_9 wm_im_X4_init rfl (by decide +kernel) ⟨by decide, by decide⟩ ⟨rfl, rfl⟩ (Nat.le_of_ble_eq_true rfl) (Nat.le_of_ble_eq_true rfl) (Nat.le_of_ble_eq_true rfl) dX6_init_9 ?_
  refine z_mem (tn_50_cm _ _ (show 17 < 50 ∨ 58 ≤ 17 by decide)) ?_
  refine z_putr dX6_init_12 0 clX6 kd_17 (by decide) (by decide) (by decide) wm_fl_X6_10 rfl rfl rfl rfl rfl (fun _ _ _ _ _ _ _ _ _ hk => hk.2.2.2) (tyX6_ok 0 (by decide)) rfl rfl ?_
  refine z_mem zm_put ?_
  refine z_mem ?_ (z_ret dX6_init_15)
  rfl
theorem pf_6_cm (μ : MemT) (r : Nat → Int32) : pf_6 (mset μ 0 r) = mset (pf_6 μ) 0 r := by
  unfold pf_6
  rw [tn_50_cm _ _ (show 0 < 50 ∨ 58 ≤ 0 by decide), zm_arr (show 17 ≠ 0 by decide)]
def rMd : Nat → Int32 := (upd (upd (upd (upd (upd (upd (upd (upd (upd (upd (upd (upd (upd (upd (upd (upd (upd (upd (upd (upd (upd z0 4 1) 5 1) 6 1) 7 1) 8 1) 9 1) 10 1) 12 1) 14 1) 15 1) 16 1) 17 1) 23 1) 28 1) 29 1) 33 1) 34 1) 35 1) 37 1) 38 1) 2 5)
def mdM (μ : MemT) : MemT := mset (mset (mset (mset (mset (mset (mset (mset (mset (mset (mset (mset (mset (mset (mset (mset (mset (mset (mset (mset (mset μ 59 z0) 60 z0) 61 z0) 62 (filF 8 (-6) z0)) 63 z0) 64 z0) 65 z0) 66 z0) 67 z0) 68 z0) 69 z0) 70 z0) 71 z0) 72 z0) 73 z0) 74 z0) 75 z0) 76 z0) 77 z0) 78 z0) 58 rMd
theorem zX8 (l : Launch) (G : GT) (μ : MemT) : zd_Met l G yX8_init cX8_init 2 ({ frames := 1, cells := 20, slots := 4033, locals := 12 }) [.ref (G.2.1 58)] 20 4033 59 (mset μ 58 z0) 79 (mdM μ) := by
  refine zd_Met.ofZ (by decide) (Nat.le_of_ble_eq_true rfl) rfl ?_
  refine z_aload_n dX8_init_0 rfl rfl ?_
  refine z_obj dX8_init_1 wm_ml_X8_1 (by decide) (by decide) ?_
  refine z_aload_n dX8_init_4 rfl rfl ?_
  refine z_bipush (v := 8) dX8_init_5 ib_8 ?_
  refine z_newi (N := 8) dX8_init_7 kd_59 rfl (by decide) (by decide) (by decide) (by decide) ?_
  refine z_mem (zm_arr (show 59 ≠ 58 by decide)) ?_
  refine z_putr dX8_init_9 4 clX8 kd_58 (by decide) (by decide) (by decide) wm_fl_X8_7 rfl rfl rfl rfl rfl (fun _ _ _ _ _ _ _ _ _ hk => hk.2.2.2) (tyX8_ok 4 (by decide)) rfl rfl ?_
  refine z_mem zm_put ?_
  refine z_aload_n dX8_init_12 rfl rfl ?_
  refine z_bipush (v := 8) dX8_init_13 ib_8 ?_
  refine z_newi (N := 8) dX8_init_15 kd_60 rfl (by decide) (by decide) (by decide) (by decide) ?_
  refine z_mem (zm_arr (show 60 ≠ 58 by decide)) ?_
  refine z_putr dX8_init_17 5 clX8 kd_58 (by decide) (by decide) (by decide) wm_fl_X8_13 rfl rfl rfl rfl rfl (fun _ _ _ _ _ _ _ _ _ hk => hk.2.2.2) (tyX8_ok 5 (by decide)) rfl rfl ?_
  refine z_mem zm_put ?_
  refine z_aload_n dX8_init_20 rfl rfl ?_
  refine z_bipush (v := 8) dX8_init_21 ib_8 ?_
  refine z_newi (N := 8) dX8_init_23 kd_61 rfl (by decide) (by decide) (by decide) (by decide) ?_
  refine z_mem (zm_arr (show 61 ≠ 58 by decide)) ?_
  refine z_putr dX8_init_25 6 clX8 kd_58 (by decide) (by decide) (by decide) wm_fl_X8_16 rfl rfl rfl rfl rfl (fun _ _ _ _ _ _ _ _ _ hk => hk.2.2.2) (tyX8_ok 6 (by decide)) rfl rfl ?_
  refine z_mem zm_put ?_
  refine z_aload_n dX8_init_28 rfl rfl ?_
  refine z_bipush (v := 8) dX8_init_29 ib_8 ?_
  refine z_newi (N := 8) dX8_init_31 kd_62 rfl (by decide) (by decide) (by decide) (by decide) ?_
  refine z_mem (zm_arr (show 62 ≠ 58 by decide)) ?_
  refine z_putr dX8_init_33 7 clX8 kd_58 (by decide) (by decide) (by decide) wm_fl_X8_19 rfl rfl rfl rfl rfl (fun _ _ _ _ _ _ _ _ _ hk => hk.2.2.2) (tyX8_ok 7 (by decide)) rfl rfl ?_
  refine z_mem zm_put ?_
  refine z_aload_n dX8_init_36 rfl rfl ?_
  refine z_bipush (v := 8) dX8_init_37 ib_8 ?_
  refine z_newi (N := 8) dX8_init_39 kd_63 rfl (by decide) (by decide) (by decide) (by decide) ?_
  refine z_mem (zm_arr (show 63 ≠ 58 by decide)) ?_
  refine z_putr dX8_init_41 8 clX8 kd_58 (by decide) (by decide) (by decide) wm_fl_X8_22 rfl rfl rfl rfl rfl (fun _ _ _ _ _ _ _ _ _ hk => hk.2.2.2) (tyX8_ok 8 (by decide)) rfl rfl ?_
  refine z_mem zm_put ?_
  refine z_aload_n dX8_init_44 rfl rfl ?_
  refine z_bipush (v := 8) dX8_init_45 ib_8 ?_
  refine z_newi (N := 8) dX8_init_47 kd_64 rfl (by decide) (by decide) (by decide) (by decide) ?_
  refine z_mem (zm_arr (show 64 ≠ 58 by decide)) ?_
  refine z_putr dX8_init_49 9 clX8 kd_58 (by decide) (by decide) (by decide) wm_fl_X8_25 rfl rfl rfl rfl rfl (fun _ _ _ _ _ _ _ _ _ hk => hk.2.2.2) (tyX8_ok 9 (by decide)) rfl rfl ?_
  refine z_mem zm_put ?_
  refine z_aload_n dX8_init_52 rfl rfl ?_
  refine z_bipush (v := 8) dX8_init_53 ib_8 ?_
  refine z_newi (N := 8) dX8_init_55 kd_65 rfl (by decide) (by decide) (by decide) (by decide) ?_
  refine z_mem (zm_arr (show 65 ≠ 58 by decide)) ?_
  refine z_putr dX8_init_57 10 clX8 kd_58 (by decide) (by decide) (by decide) wm_fl_X8_28 rfl rfl rfl rfl rfl (fun _ _ _ _ _ _ _ _ _ hk => hk.2.2.2) (tyX8_ok 10 (by decide)) rfl rfl ?_
  refine z_mem zm_put ?_
  refine z_aload_n dX8_init_60 rfl rfl ?_
  refine z_bipush (v := 60) dX8_init_61 ib_60 ?_
  refine z_newi (N := 60) dX8_init_63 kd_66 rfl (by decide) (by decide) (by decide) (by decide) ?_
  refine z_mem (zm_arr (show 66 ≠ 58 by decide)) ?_
  refine z_putr dX8_init_65 12 clX8 kd_58 (by decide) (by decide) (by decide) wm_fl_X8_31 rfl rfl rfl rfl rfl (fun _ _ _ _ _ _ _ _ _ hk => hk.2.2.2) (tyX8_ok 12 (by decide)) rfl rfl ?_
  refine z_mem zm_put ?_
  refine z_aload_n dX8_init_68 rfl rfl ?_
  refine z_bipush (v := 60) dX8_init_69 ib_60 ?_
  refine z_newi (N := 60) dX8_init_71 kd_67 rfl (by decide) (by decide) (by decide) (by decide) ?_
  refine z_mem (zm_arr (show 67 ≠ 58 by decide)) ?_
  refine z_putr dX8_init_73 14 clX8 kd_58 (by decide) (by decide) (by decide) wm_fl_X8_34 rfl rfl rfl rfl rfl (fun _ _ _ _ _ _ _ _ _ hk => hk.2.2.2) (tyX8_ok 14 (by decide)) rfl rfl ?_
  refine z_mem zm_put ?_
  refine z_aload_n dX8_init_76 rfl rfl ?_
  refine z_bipush (v := 60) dX8_init_77 ib_60 ?_
  refine z_newi (N := 60) dX8_init_79 kd_68 rfl (by decide) (by decide) (by decide) (by decide) ?_
  refine z_mem (zm_arr (show 68 ≠ 58 by decide)) ?_
  refine z_putr dX8_init_81 15 clX8 kd_58 (by decide) (by decide) (by decide) wm_fl_X8_37 rfl rfl rfl rfl rfl (fun _ _ _ _ _ _ _ _ _ hk => hk.2.2.2) (tyX8_ok 15 (by decide)) rfl rfl ?_
  refine z_mem zm_put ?_
  refine z_aload_n dX8_init_84 rfl rfl ?_
  refine z_bipush (v := 60) dX8_init_85 ib_60 ?_
  refine z_newi (N := 60) dX8_init_87 kd_69 rfl (by decide) (by decide) (by decide) (by decide) ?_
  refine z_mem (zm_arr (show 69 ≠ 58 by decide)) ?_
  refine z_putr dX8_init_89 16 clX8 kd_58 (by decide) (by decide) (by decide) wm_fl_X8_40 rfl rfl rfl rfl rfl (fun _ _ _ _ _ _ _ _ _ hk => hk.2.2.2) (tyX8_ok 16 (by decide)) rfl rfl ?_
  refine z_mem zm_put ?_
  refine z_aload_n dX8_init_92 rfl rfl ?_
  refine z_bipush (v := 60) dX8_init_93 ib_60 ?_
  refine z_newi (N := 60) dX8_init_95 kd_70 rfl (by decide) (by decide) (by decide) (by decide) ?_
  refine z_mem (zm_arr (show 70 ≠ 58 by decide)) ?_
  refine z_putr dX8_init_97 17 clX8 kd_58 (by decide) (by decide) (by decide) wm_fl_X8_43 rfl rfl rfl rfl rfl (fun _ _ _ _ _ _ _ _ _ hk => hk.2.2.2) (tyX8_ok 17 (by decide)) rfl rfl ?_
  refine z_mem zm_put ?_
  refine z_aload_n dX8_init_100 rfl rfl ?_
  refine z_bipush (v := 8) dX8_init_101 ib_8 ?_
  refine z_newi (N := 8) dX8_init_103 kd_71 rfl (by decide) (by decide) (by decide) (by decide) ?_
  refine z_mem (zm_arr (show 71 ≠ 58 by decide)) ?_
  refine z_putr dX8_init_105 23 clX8 kd_58 (by decide) (by decide) (by decide) wm_fl_X8_46 rfl rfl rfl rfl rfl (fun _ _ _ _ _ _ _ _ _ hk => hk.2.2.2) (tyX8_ok 23 (by decide)) rfl rfl ?_
  refine z_mem zm_put ?_
  refine z_aload_n dX8_init_108 rfl rfl ?_
  refine z_bipush (v := 8) dX8_init_109 ib_8 ?_
  refine z_newi (N := 8) dX8_init_111 kd_72 rfl (by decide) (by decide) (by decide) (by decide) ?_
  refine z_mem (zm_arr (show 72 ≠ 58 by decide)) ?_
  refine z_putr dX8_init_113 28 clX8 kd_58 (by decide) (by decide) (by decide) wm_fl_X8_49 rfl rfl rfl rfl rfl (fun _ _ _ _ _ _ _ _ _ hk => hk.2.2.2) (tyX8_ok 28 (by decide)) rfl rfl ?_
  refine z_mem zm_put ?_
  refine z_aload_n dX8_init_116 rfl rfl ?_
  refine z_bipush (v := 8) dX8_init_117 ib_8 ?_
  refine z_newi (N := 8) dX8_init_119 kd_73 rfl (by decide) (by decide) (by decide) (by decide) ?_
  refine z_mem (zm_arr (show 73 ≠ 58 by decide)) ?_
  refine z_putr dX8_init_121 29 clX8 kd_58 (by decide) (by decide) (by decide) wm_fl_X8_52 rfl rfl rfl rfl rfl (fun _ _ _ _ _ _ _ _ _ hk => hk.2.2.2) (tyX8_ok 29 (by decide)) rfl rfl ?_
  refine z_mem zm_put ?_
  refine z_aload_n dX8_init_124 rfl rfl ?_
  refine z_sipush (v := 3201) dX8_init_125 is_3201 ?_
  refine z_newz (N := 3201) dX8_init_128 kd_74 rfl (by decide) (by decide) (by decide) (by decide) ?_
  refine z_mem (zm_arr (show 74 ≠ 58 by decide)) ?_
  refine z_putr dX8_init_130 33 clX8 kd_58 (by decide) (by decide) (by decide) wm_fl_X8_55 rfl rfl rfl rfl rfl (fun _ _ _ _ _ _ _ _ _ hk => hk.2.2.2) (tyX8_ok 33 (by decide)) rfl rfl ?_
  refine z_mem zm_put ?_
  refine z_aload_n dX8_init_133 rfl rfl ?_
  refine z_sipush (v := 145) dX8_init_134 is_145 ?_
  refine z_newi (N := 145) dX8_init_137 kd_75 rfl (by decide) (by decide) (by decide) (by decide) ?_
  refine z_mem (zm_arr (show 75 ≠ 58 by decide)) ?_
  refine z_putr dX8_init_139 34 clX8 kd_58 (by decide) (by decide) (by decide) wm_fl_X8_59 rfl rfl rfl rfl rfl (fun _ _ _ _ _ _ _ _ _ hk => hk.2.2.2) (tyX8_ok 34 (by decide)) rfl rfl ?_
  refine z_mem zm_put ?_
  refine z_aload_n dX8_init_142 rfl rfl ?_
  refine z_sipush (v := 145) dX8_init_143 is_145 ?_
  refine z_newi (N := 145) dX8_init_146 kd_76 rfl (by decide) (by decide) (by decide) (by decide) ?_
  refine z_mem (zm_arr (show 76 ≠ 58 by decide)) ?_
  refine z_putr dX8_init_148 35 clX8 kd_58 (by decide) (by decide) (by decide) wm_fl_X8_62 rfl rfl rfl rfl rfl (fun _ _ _ _ _ _ _ _ _ hk => hk.2.2.2) (tyX8_ok 35 (by decide)) rfl rfl ?_
  refine z_mem zm_put ?_
  refine z_aload_n dX8_init_151 rfl rfl ?_
  refine z_sipush (v := 160) dX8_init_152 is_160 ?_
  refine z_newi (N := 160) dX8_init_155 kd_77 rfl (by decide) (by decide) (by decide) (by decide) ?_
  refine z_mem (zm_arr (show 77 ≠ 58 by decide)) ?_
  refine z_putr dX8_init_157 37 clX8 kd_58 (by decide) (by decide) (by decide) wm_fl_X8_65 rfl rfl rfl rfl rfl (fun _ _ _ _ _ _ _ _ _ hk => hk.2.2.2) (tyX8_ok 37 (by decide)) rfl rfl ?_
  refine z_mem zm_put ?_
  refine z_aload_n dX8_init_160 rfl rfl ?_
  refine z_iconst (v := 2) dX8_init_161 ic_2 ?_
  refine z_newz (N := 2) dX8_init_162 kd_78 rfl (by decide) (by decide) (by decide) (by decide) ?_
  refine z_mem (zm_arr (show 78 ≠ 58 by decide)) ?_
  refine z_putr dX8_init_164 38 clX8 kd_58 (by decide) (by decide) (by decide) wm_fl_X8_68 rfl rfl rfl rfl rfl (fun _ _ _ _ _ _ _ _ _ hk => hk.2.2.2) (tyX8_ok 38 (by decide)) rfl rfl ?_
  refine z_mem zm_put ?_
  refine z_aload_n dX8_init_167 rfl rfl ?_
  refine z_iconst (v := 5) dX8_init_168 ic_5 ?_
  refine z_puti dX8_init_169 2 clX8 kd_58 (by decide) (by decide) (by decide) wm_fl_X8_71 rfl rfl rfl rfl (tyX8_ok 2 (by decide)) rfl rfl ?_
  refine z_mem zm_put ?_
  refine z_iconst dX8_init_172 icn_0 ?_
  refine z_mem (μ2 := mset (mset (mset (mset (mset (mset (mset (mset (mset (mset (mset (mset (mset (mset (mset (mset (mset (mset (mset (mset (mset μ 59 z0) 60 z0) 61 z0) 62 z0) 63 z0) 64 z0) 65 z0) 66 z0) 67 z0) 68 z0) 69 z0) 70 z0) 71 z0) 72 z0) 73 z0) 74 z0) 75 z0) 76 z0) 77 z0) 78 z0) 58 rMd) rfl ?_
  have hpost : mdM μ = mset (mset (mset (mset (mset (mset (mset (mset (mset (mset (mset (mset (mset (mset (mset (mset (mset (mset (mset (mset (mset (mset μ 59 z0) 60 z0) 61 z0) 62 z0) 63 z0) 64 z0) 65 z0) 66 z0) 67 z0) 68 z0) 69 z0) 70 z0) 71 z0) 72 z0) 73 z0) 74 z0) 75 z0) 76 z0) 77 z0) 78 z0) 58 rMd) 62 (filF 8 (-6) z0) := by
    funext k
    rcases (show k = 58 ∨ k = 59 ∨ k = 60 ∨ k = 61 ∨ k = 62 ∨ k = 63 ∨ k = 64 ∨ k = 65 ∨ k = 66 ∨ k = 67 ∨ k = 68 ∨ k = 69 ∨ k = 70 ∨ k = 71 ∨ k = 72 ∨ k = 73 ∨ k = 74 ∨ k = 75 ∨ k = 76 ∨ k = 77 ∨ k = 78 ∨ (k ≠ 58 ∧ k ≠ 59 ∧ k ≠ 60 ∧ k ≠ 61 ∧ k ≠ 62 ∧ k ≠ 63 ∧ k ≠ 64 ∧ k ≠ 65 ∧ k ≠ 66 ∧ k ≠ 67 ∧ k ≠ 68 ∧ k ≠ 69 ∧ k ≠ 70 ∧ k ≠ 71 ∧ k ≠ 72 ∧ k ≠ 73 ∧ k ≠ 74 ∧ k ≠ 75 ∧ k ≠ 76 ∧ k ≠ 77 ∧ k ≠ 78) by omega) with rfl | rfl | rfl | rfl | rfl | rfl | rfl | rfl | rfl | rfl | rfl | rfl | rfl | rfl | rfl | rfl | rfl | rfl | rfl | rfl | rfl | h
    · rfl
    · rfl
    · rfl
    · rfl
    · rfl
    · rfl
    · rfl
    · rfl
    · rfl
    · rfl
    · rfl
    · rfl
    · rfl
    · rfl
    · rfl
    · rfl
    · rfl
    · rfl
    · rfl
    · rfl
    · rfl
    · simp [mdM, mset, h]
  rw [hpost]
  refine z_istore_n dX8_init_173 rfl rfl (by decide) ?_
  refine z_mem (μ2 := mset (mset (mset (mset (mset (mset (mset (mset (mset (mset (mset (mset (mset (mset (mset (mset (mset (mset (mset (mset (mset (mset μ 59 z0) 60 z0) 61 z0) 62 z0) 63 z0) 64 z0) 65 z0) 66 z0) 67 z0) 68 z0) 69 z0) 70 z0) 71 z0) 72 z0) 73 z0) 74 z0) 75 z0) 76 z0) 77 z0) 78 z0) 58 rMd) 62 (itr (fun j f => upd f j (-6)) 0 0 z0)) ?_ ?_
  · funext k
    by_cases h : k = 62
    · subst h; rfl
    · rw [mset_ne _ _ h]
  generalize (mset (mset (mset (mset (mset (mset (mset (mset (mset (mset (mset (mset (mset (mset (mset (mset (mset (mset (mset (mset μ 59 z0) 60 z0) 61 z0) 62 z0) 63 z0) 64 z0) 65 z0) 66 z0) 67 z0) 68 z0) 69 z0) 70 z0) 71 z0) 72 z0) 73 z0) 74 z0) 75 z0) 76 z0) 77 z0) 78 z0) = ν
  have key : ∀ (r j : Nat), j + r = 8 → Zj l G ({ frames := 1, cells := 20, slots := 4033, locals := 12 }) (zd_κ G yX8_init.name 20 4033 79 (mset (mset ν 58 rMd) 62 (filF 8 (-6) z0))) cX8_init 2 yX8_init.cls 20 4033 79 (mset (mset ν 58 rMd) 62 (itr (fun j f => upd f j (-6)) j 0 z0)) 174 [some (.ref (G.2.1 58)), some (.int (nI j))] [] := by
    intro r
    induction r with
    | zero =>
      intro j hj
      have : j = 8 := by omega
      subst this
      refine z_iload_n dX8_init_174 rfl rfl ?_
      refine z_bipush dX8_init_175 ibn_8 ?_
      refine z_icmp_ge 194 dX8_init_177 rfl (fun _ => ?_) (fun q => absurd (Int32.le_refl _) q)
      exact z_ret dX8_init_194
    | succ r ih =>
      intro j hj
      refine z_iload_n dX8_init_174 rfl rfl ?_
      refine z_bipush dX8_init_175 ibn_8 ?_
      refine z_icmp_ge 194 dX8_init_177 rfl (fun q => absurd q (nI_ge (b := 8) (by omega) (by decide))) (fun _ => ?_)
      refine z_aload_n dX8_init_180 rfl rfl ?_
      refine z_getr dX8_init_181 7 clX8 kd_58 (by decide) (by decide) wm_fl_X8_19 rfl rfl rfl ?_
      refine z_iload_n dX8_init_184 rfl rfl ?_
      refine z_bipush dX8_init_185 ib_m6 ?_
      refine z_iast dX8_init_187 j kd_62 (by decide) (by decide) rfl (by omega) (by decide) ?_
      refine z_iinc dX8_init_188 rfl (nI_i1 j) rfl (by decide) ?_
      refine z_goto 174 dX8_init_191 rfl ?_
      refine z_mem ?_ (ih (j + 1) (by omega))
      rw [mset_mset, mset_self, itr_lt, Nat.zero_add]
  exact key 8 0 rfl
def swM (μ : MemT) : MemT := mset (pf_6 (pf_0 (pf_5 (pf_3 (pf_1 (pf_2 (mset (mset (tn_34 (tn_26 (tn_18 μ))) 1 (upd (upd z0 0 1) 1 1)) 2 z0))))))) 0 (upd (upd (upd (upd (upd (upd (upd (upd (upd z0 0 1) 1 1) 2 1) 3 1) 4 1) 5 1) 6 1) 7 1) 8 1)
def zd_κ7 (G : GT) (nm : String) (mc ms n2 : Nat) (μ2 : MemT) : KZ := fun _ _ s _ args below meth _ Q => meth.sig.returnType = none ∧ meth.locks = false ∧ Q = MQ below (zd_Q G n2 μ2) args s mc ms (zd_A G) ∧ meth.name = nm ∧ va_AO RX4 s
def zd_Pc7 (G : GT) (av : List Value) (n : Nat) (μ : MemT) : Array Value → State → Prop := va_Pc av (fun U => zd_P G n μ U.heap ∧ sw_K G U ∧ va_AO RX4 U)
theorem zd_blind7 {G : GT} {av : List Value} {n : Nat} {μ : MemT} : FrameBlind (zd_Pc7 G av n μ) := fun a U g mk q => ⟨q.1, q.2.1, sw_K.same (s := U) (U := U.calling g mk a) rfl q.2.2.1, va_AO.moved (u := U) (U := U.calling g mk a) (Vm.Alike.refl U.vm) q.2.2.2⟩
def zd_Met7 (l : Launch) (G : GT) (y : MethodName) (bytes : ByteArray) (maxL : Nat) (rm : Room) (av : List Value) (mc ms n : Nat) (μ : MemT) (n2 : Nat) (μ2 : MemT) : Prop :=
  zd_ad G → Met l y (.code y bytes maxL none :: wL) rm (zd_Pc7 G av n μ) (zd_Q G n2 μ2) mc ms (zd_A G)
theorem zd_Met7.ofZ {l : Launch} {G : GT} {y : MethodName} {bytes : ByteArray} {maxL : Nat} {rm : Room} {av : List Value} {mc ms n n2 : Nat} {μ μ2 : MemT} {lv0 : List (Option Value)} (hy : plainName y.cls = true) (hlen : (lg_sl av).length ≤ maxL) (hlv : l_ent av maxL = lv0) (h : Zj l G rm (zd_κ7 G y.name mc ms n2 μ2) bytes maxL y.cls 0 0 n μ 0 lv0 []) : zd_Met7 l G y bytes maxL rm av mc ms n μ n2 μ2 := by
  intro hG
  subst hlv
  refine Met.ofW (cc := bytes) (maxL := maxL) (ret := none) hy rfl ?_
  intro p e s m args below meth c s₁ B hml hv
  obtain ⟨rfl, hP, hK, hA⟩ := hv
  have hts := atoms_spec (ws := Cond.code y bytes maxL none :: wL) B.pre
  rw [lg_entry_eq]
  exact h p e s m av.toArray below meth c _ ⟨B.returns, B.notSynchronized, rfl, (name_of_methodNamed B.named B.method).1, hA⟩ ⟨B.exec, B.bytes, hml, findClass_of_methodNamed B.named, fun w hw => hts w (List.mem_cons_of_mem _ hw), hK, hG⟩ s.heap [] _ hP va_S.rf (sw_L_ent (lv_entry av hlen))
theorem z_ret7 {l : Launch} {G : GT} {R : Room} {cc : ByteArray} {nl : Nat} {own nm : String} {cs sl n : Nat} {μ : MemT} {pc : Nat} {lv : List (Option Value)} (d : decode cc pc = .ok (.return_, 1)) : Zj l G R (zd_κ7 G nm cs sl n μ) cc nl own cs sl n μ pc lv [] := by
  intro p e s m args below meth c Q hk F H locs ls hP hS hl
  obtain ⟨hr, hlk, rfl, -⟩ := hk
  exact W.vret (hexec := F.1) (hb := F.2.1) (hr := hr) (hq := fun t ht hW => ⟨⟨rfl, by rw [ht]; exact hP, F.2.2.2.2.2.1.warm hW⟩, hS.F ht⟩) (hf := hS.2.2) (hdg := d) (hlocks := hlk)
theorem zX7 (l : Launch) (G : GT) (μ : MemT) : zd_Met7 l G yX7_init cX7_init 2 ({ frames := 3, cells := 57, slots := 4712, locals := 63 }) [.ref (G.2.1 0)] 57 4712 1 (mset μ 0 z0) 58 (swM μ) := by
  refine zd_Met7.ofZ (by decide) (Nat.le_of_ble_eq_true rfl) rfl ?_
  refine z_aload_n dX7_init_0 rfl rfl ?_
  refine z_obj dX7_init_1 wm_ml_X7_1 (by decide) (by decide) ?_
  refine z_aload_n dX7_init_4 rfl rfl ?_
  refine z_new dX7_init_5 clX4 kd_18 rfl wm_kl_X7_7 wm_it_X4 wm_ini_X4 (zf_18 G) (by decide) (by decide) ?_
  refine z_dup dX7_init_8 rfl ?_
  refine z_callI (zX4_18 l G _) wm_cd_X4_init wm_ini_X4 wm_ml_X7_9 wm_im_X4_init rfl (by decide +kernel) ⟨by decide, by decide⟩ ⟨rfl, rfl⟩ (Nat.le_of_ble_eq_true rfl) (Nat.le_of_ble_eq_true rfl) (Nat.le_of_ble_eq_true rfl) dX7_init_9 ?_
  refine z_mem (tn_18_cm _ _ (show 0 < 18 ∨ 26 ≤ 0 by decide)) ?_
  refine z_putr dX7_init_12 0 clX7 kd_0 (by decide) (by decide) (by decide) wm_fl_X7_10 rfl rfl rfl rfl rfl (fun _ _ _ _ _ _ _ _ _ hk => hk.2.2.2.1) (tyX7_ok 0 (by decide)) rfl rfl ?_
  refine z_mem zm_put ?_
  refine z_aload_n dX7_init_15 rfl rfl ?_
  refine z_iconst (v := 2) dX7_init_16 ic_2 ?_
  refine z_anew (fun _ _ _ _ _ _ _ _ _ hk => hk.2.2.2.2) dX7_init_17 wm_kl_X7_7 rfl (by decide) (by decide) ?_
  refine z_mem (zm_arr (show 1 ≠ 0 by decide)) ?_
  refine z_putr dX7_init_20 1 clX7 kd_0 (by decide) (by decide) (by decide) wm_fl_X7_16 rfl rfl rfl rfl rfl (fun _ _ _ _ _ _ _ _ _ hk => hk.2.2.2.1) (tyX7_ok 1 (by decide)) rfl rfl ?_
  refine z_mem zm_put ?_
  refine z_iconst (v := 0) dX7_init_23 ic_0 ?_
  refine z_istore_n dX7_init_24 rfl rfl (by decide) ?_
  refine z_iload_n dX7_init_25 rfl rfl ?_
  refine z_iconst (v := 2) dX7_init_26 ic_2 ?_
  refine z_icmp_ge 49 dX7_init_27 rfl (fun q => absurd q (by decide)) (fun _ => ?_)
  refine z_aload_n dX7_init_30 rfl rfl ?_
  refine z_getr dX7_init_31 1 clX7 kd_0 (by decide) (by decide) wm_fl_X7_16 rfl rfl rfl ?_
  refine z_iload_n dX7_init_34 rfl rfl ?_
  refine z_new dX7_init_35 clX4 kd_26 rfl wm_kl_X7_7 wm_it_X4 wm_ini_X4 (zf_26 G) (by decide) (by decide) ?_
  refine z_dup dX7_init_38 rfl ?_
  refine z_callI (zX4_26 l G _) wm_cd_X4_init wm_ini_X4 wm_ml_X7_9 wm_im_X4_init rfl (by decide +kernel) ⟨by decide, by decide⟩ ⟨rfl, rfl⟩ (Nat.le_of_ble_eq_true rfl) (Nat.le_of_ble_eq_true rfl) (Nat.le_of_ble_eq_true rfl) dX7_init_39 ?_
  refine z_mem (tn_26_cm _ _ (show 0 < 26 ∨ 34 ≤ 0 by decide)) ?_
  refine z_aast dX7_init_42 0 rfl (by decide) rfl (by decide) (by decide) (by decide) ?_
  refine z_mem (zm_arr (show 1 ≠ 0 by decide)) ?_
  refine z_iinc (v := 1) dX7_init_43 rfl (by decide) rfl (by decide) ?_
  refine z_goto 25 dX7_init_46 rfl ?_
  refine z_iload_n dX7_init_25 rfl rfl ?_
  refine z_iconst (v := 2) dX7_init_26 ic_2 ?_
  refine z_icmp_ge 49 dX7_init_27 rfl (fun q => absurd q (by decide)) (fun _ => ?_)
  refine z_aload_n dX7_init_30 rfl rfl ?_
  refine z_getr dX7_init_31 1 clX7 kd_0 (by decide) (by decide) wm_fl_X7_16 rfl rfl rfl ?_
  refine z_iload_n dX7_init_34 rfl rfl ?_
  refine z_new dX7_init_35 clX4 kd_34 rfl wm_kl_X7_7 wm_it_X4 wm_ini_X4 (zf_34 G) (by decide) (by decide) ?_
  refine z_dup dX7_init_38 rfl ?_
  refine z_callI (zX4_34 l G _) wm_cd_X4_init wm_ini_X4 wm_ml_X7_9 wm_im_X4_init rfl (by decide +kernel) ⟨by decide, by decide⟩ ⟨rfl, rfl⟩ (Nat.le_of_ble_eq_true rfl) (Nat.le_of_ble_eq_true rfl) (Nat.le_of_ble_eq_true rfl) dX7_init_39 ?_
  refine z_mem (tn_34_cm _ _ (show 0 < 34 ∨ 42 ≤ 0 by decide)) ?_
  refine z_aast dX7_init_42 1 rfl (by decide) rfl (by decide) (by decide) (by decide) ?_
  refine z_mem (zm_arr (show 1 ≠ 0 by decide)) ?_
  refine z_iinc (v := 2) dX7_init_43 rfl (by decide) rfl (by decide) ?_
  refine z_goto 25 dX7_init_46 rfl ?_
  refine z_iload_n dX7_init_25 rfl rfl ?_
  refine z_iconst (v := 2) dX7_init_26 ic_2 ?_
  refine z_icmp_ge 49 dX7_init_27 rfl (fun _ => ?_) (fun q => absurd (by decide) q)
  have eI : mset (tn_34 (mset (tn_26 (mset (tn_18 μ) 1 (fun _ => 0))) 1 (upd (mset (tn_26 (mset (tn_18 μ) 1 (fun _ => 0))) 0 (upd (upd z0 0 1) 1 1) 1) 0 1))) 1 (upd (mset (tn_34 (mset (tn_26 (mset (tn_18 μ) 1 (fun _ => 0))) 1 (upd (mset (tn_26 (mset (tn_18 μ) 1 (fun _ => 0))) 0 (upd (upd z0 0 1) 1 1) 1) 0 1))) 0 (upd (upd z0 0 1) 1 1) 1) 1 1) = mset (tn_34 (tn_26 (tn_18 μ))) 1 (upd (upd z0 0 1) 1 1) := by
    rw [tn_26_cm _ _ (show 1 < 26 ∨ 34 ≤ 1 by decide), mset_mset, tn_34_cm _ _ (show 1 < 34 ∨ 42 ≤ 1 by decide), mset_mset]
    rfl
  rw [eI]
  refine z_aload_n dX7_init_49 rfl rfl ?_
  refine z_iconst (v := 2) dX7_init_50 ic_2 ?_
  refine z_newz (N := 2) dX7_init_51 kd_2 rfl (by decide) (by decide) (by decide) (by decide) ?_
  refine z_mem (zm_arr (show 2 ≠ 0 by decide)) ?_
  refine z_putr dX7_init_53 2 clX7 kd_0 (by decide) (by decide) (by decide) wm_fl_X7_20 rfl rfl rfl rfl rfl (fun _ _ _ _ _ _ _ _ _ hk => hk.2.2.2.1) (tyX7_ok 2 (by decide)) rfl rfl ?_
  refine z_mem zm_put ?_
  refine z_aload_n dX7_init_56 rfl rfl ?_
  refine z_new dX7_init_57 clX2 kd_3 rfl wm_kl_X7_24 wm_it_X2 wm_ini_X2 (zf_3 G) (by decide) (by decide) ?_
  refine z_dup dX7_init_60 rfl ?_
  refine z_callIN (zX2 l G _) wm_cd_X2_init wm_ini_X2 wn_X7_26 wm_im_X2_init rfl (by decide +kernel) ⟨by decide, by decide⟩ ⟨rfl, rfl⟩ (Nat.le_of_ble_eq_true rfl) (Nat.le_of_ble_eq_true rfl) (Nat.le_of_ble_eq_true rfl) dX7_init_61 ?_
  refine z_mem (pf_2_cm _ _) ?_
  refine z_putr dX7_init_64 3 clX7 kd_0 (by decide) (by decide) (by decide) wm_fl_X7_27 rfl rfl rfl rfl rfl (fun _ _ _ _ _ _ _ _ _ hk => hk.2.2.2.1) (tyX7_ok 3 (by decide)) rfl rfl ?_
  refine z_mem zm_put ?_
  refine z_aload_n dX7_init_67 rfl rfl ?_
  refine z_new dX7_init_68 clX1 kd_5 rfl wm_kl_X7_31 wm_it_X1 wm_ini_X1 (zf_5 G) (by decide) (by decide) ?_
  refine z_dup dX7_init_71 rfl ?_
  refine z_callIN (zX1 l G _) wm_cd_X1_init wm_ini_X1 wn_X7_33 wm_im_X1_init rfl (by decide +kernel) ⟨by decide, by decide⟩ ⟨rfl, rfl⟩ (Nat.le_of_ble_eq_true rfl) (Nat.le_of_ble_eq_true rfl) (Nat.le_of_ble_eq_true rfl) dX7_init_72 ?_
  refine z_mem (pf_1_cm _ _) ?_
  refine z_putr dX7_init_75 4 clX7 kd_0 (by decide) (by decide) (by decide) wm_fl_X7_34 rfl rfl rfl rfl rfl (fun _ _ _ _ _ _ _ _ _ hk => hk.2.2.2.1) (tyX7_ok 4 (by decide)) rfl rfl ?_
  refine z_mem zm_put ?_
  refine z_aload_n dX7_init_78 rfl rfl ?_
  refine z_new dX7_init_79 clX3 kd_6 rfl wm_kl_X7_38 wm_it_X3 wm_ini_X3 (zf_6 G) (by decide) (by decide) ?_
  refine z_dup dX7_init_82 rfl ?_
  refine z_callIN (zX3 l G _) wm_cd_X3_init wm_ini_X3 wn_X7_40 wm_im_X3_init rfl (by decide +kernel) ⟨by decide, by decide⟩ ⟨rfl, rfl⟩ (Nat.le_of_ble_eq_true rfl) (Nat.le_of_ble_eq_true rfl) (Nat.le_of_ble_eq_true rfl) dX7_init_83 ?_
  refine z_mem (pf_3_cm _ _) ?_
  refine z_putr dX7_init_86 5 clX7 kd_0 (by decide) (by decide) (by decide) wm_fl_X7_41 rfl rfl rfl rfl rfl (fun _ _ _ _ _ _ _ _ _ hk => hk.2.2.2.1) (tyX7_ok 5 (by decide)) rfl rfl ?_
  refine z_mem zm_put ?_
  refine z_aload_n dX7_init_89 rfl rfl ?_
  refine z_new dX7_init_90 clX5 kd_11 rfl wm_kl_X7_45 wm_it_X5 wm_ini_X5 (zf_11 G) (by decide) (by decide) ?_
  refine z_dup dX7_init_93 rfl ?_
  refine z_callIN (zX5 l G _) wm_cd_X5_init wm_ini_X5 wn_X7_47 wm_im_X5_init rfl (by decide +kernel) ⟨by decide, by decide⟩ ⟨rfl, rfl⟩ (Nat.le_of_ble_eq_true rfl) (Nat.le_of_ble_eq_true rfl) (Nat.le_of_ble_eq_true rfl) dX7_init_94 ?_
  refine z_mem (pf_5_cm _ _) ?_
  refine z_putr dX7_init_97 6 clX7 kd_0 (by decide) (by decide) (by decide) wm_fl_X7_48 rfl rfl rfl rfl rfl (fun _ _ _ _ _ _ _ _ _ hk => hk.2.2.2.1) (tyX7_ok 6 (by decide)) rfl rfl ?_
  refine z_mem zm_put ?_
  refine z_aload_n dX7_init_100 rfl rfl ?_
  refine z_new dX7_init_101 clX0 kd_16 rfl wm_kl_X7_52 wm_it_X0 wm_ini_X0 (zf_16 G) (by decide) (by decide) ?_
  refine z_dup dX7_init_104 rfl ?_
  refine z_callIN (zX0 l G _) wm_cd_X0_init wm_ini_X0 wn_X7_54 wm_im_X0_init rfl (by decide +kernel) ⟨by decide, by decide⟩ ⟨rfl, rfl⟩ (Nat.le_of_ble_eq_true rfl) (Nat.le_of_ble_eq_true rfl) (Nat.le_of_ble_eq_true rfl) dX7_init_105 ?_
  refine z_mem (pf_0_cm _ _) ?_
  refine z_putr dX7_init_108 7 clX7 kd_0 (by decide) (by decide) (by decide) wm_fl_X7_55 rfl rfl rfl rfl rfl (fun _ _ _ _ _ _ _ _ _ hk => hk.2.2.2.1) (tyX7_ok 7 (by decide)) rfl rfl ?_
  refine z_mem zm_put ?_
  refine z_aload_n dX7_init_111 rfl rfl ?_
  refine z_new dX7_init_112 clX6 kd_17 rfl wm_kl_X7_59 wm_it_X6 wm_ini_X6 (zf_17 G) (by decide) (by decide) ?_
  refine z_dup dX7_init_115 rfl ?_
  refine z_callIN (zX6 l G _) wm_cd_X6_init wm_ini_X6 wn_X7_61 wm_im_X6_init rfl (by decide +kernel) ⟨by decide, by decide⟩ ⟨rfl, rfl⟩ (Nat.le_of_ble_eq_true rfl) (Nat.le_of_ble_eq_true rfl) (Nat.le_of_ble_eq_true rfl) dX7_init_116 ?_
  refine z_mem (pf_6_cm _ _) ?_
  refine z_putr dX7_init_119 8 clX7 kd_0 (by decide) (by decide) (by decide) wm_fl_X7_62 rfl rfl rfl rfl rfl (fun _ _ _ _ _ _ _ _ _ hk => hk.2.2.2.1) (tyX7_ok 8 (by decide)) rfl rfl ?_
  refine z_mem zm_put ?_
  exact z_ret7 dX7_init_122
