theorem dI_0 : dI 0 = -9 := rfl
theorem dI_S (j : Nat) : dI (j + 1) = dI j + 1 := by
  unfold dI
  rw [show (((j + 1 : Nat) : Int) - 9) = ((j : Int) - 9) + 1 by omega, Int32.ofInt_add]
  rfl
theorem dI_toInt {j : Nat} (h : j < 100) : (dI j).toInt = (j : Int) - 9 := by
  unfold dI
  exact Int32.toInt_ofInt_of_le (by omega) (by omega)
theorem dI_le {j : Nat} (h : j < 19) : ¬ 9 < dI j := by
  rw [lt_toInt, dI_toInt (by omega)]
  show ¬ (9 : Int) < _
  omega
def wAll (k : Nat) (t : Int32) (sw sf ss sh l : Nat → Int32) (w0 : WsT) : WsT := itr (fun p w => if bt t p then wOf k sf ss sh l (nI p) (sw p) w else w) 8 0 (wAdd (seenB k sf ss sh l (-6) 0) (-6) 0 w0)
def findM (k : Nat) (μ : MemT) : MemT := wPut (wAll k (μ 18 7) (μ 19) (μ 23) (μ 24) (μ 25) (ldR (μ 18 7) (μ 19) (μ 23) (μ 24) k 0 (μ 14)) (μ 12, μ 13, 0)) (leadM k μ)
theorem wfs (w : WsT) (k : Nat) (μ : MemT) : wPut w (leadM k (mset μ 11 (upd (μ 11) 4 0))) = wPut w (leadM k μ) := by
  funext q
  by_cases h1 : q = 11
  · subst h1; simp [wPut, leadM, mset, upd_upd]
  · by_cases h2 : q = 14
    · subst h2; simp [wPut, leadM, mset]
    · simp [wPut, leadM, mset, h1, h2]
theorem wOf_le {k : Nat} {sf ss sh l : Nat → Int32} {x s : Int32} : ∀ (n j : Nat) {w : WsT}, w.2.2 ≤ 145 → (itr (fun j w => if ¬ dI j = 0 ∧ ¬ s + dI j < 1 then wAdd (seenB k sf ss sh l x (dI j)) x (dI j) w else w) n j w).2.2 ≤ 145
  | 0, _, _, h => h
  | n + 1, j, w, h => by
    rw [itr_S]
    refine wOf_le n (j + 1) ?_
    split
    · exact wAdd_le h
    · exact h

set_option maxRecDepth 100000 in
set_option maxHeartbeats 4000000 in
theorem kX5_findOf {l : Launch} {G : GT} {μ : MemT} {k : Nat} (hk : k ≤ 8) (hs : μ 18 11 = nI k) {c : Nat} (hc145 : c ≤ 145) (hc : μ 11 4 = nI c) {p : Nat} (hp : p < 8) : sw_Met l G yX5_findOf cX5_findOf 4 none (rmk 3 69) [.ref (G.2.1 11), .ref (G.2.1 18), .int (nI p)] μ (fun v μ2 => v = none ∧ μ2 = wPut (wOf k (μ 23) (μ 24) (μ 25) (μ 14) (nI p) (μ 19 p) (μ 12, μ 13, c)) μ) := by
  refine sw_Met.ofY (by decide) (Nat.le_of_ble_eq_true rfl) rfl ?_
  refine y_bipush dX5_findOf_0 ib_m9 ?_
  refine y_istore_n dX5_findOf_2 rfl rfl (by decide) ?_
  refine y_eq ((wPut_id hc).symm) rfl rfl ?_
  refine y_loop1 (fun (j : Nat) (w : WsT) => [some (.ref (G.2.1 11)), some (.ref (G.2.1 18)), some (.int (nI p)), some (.int (dI j))]) (fun (j : Nat) (w : WsT) => wPut w μ) (fun (j : Nat) (w : WsT) => itr (fun j w => if ¬ dI j = 0 ∧ ¬ μ 19 p + dI j < 1 then wAdd (seenB k (μ 23) (μ 24) (μ 25) (μ 14) (nI p) (dI j)) (nI p) (dI j) w else w) (19 - j) j w = wOf k (μ 23) (μ 24) (μ 25) (μ 14) (nI p) (μ 19 p) (μ 12, μ 13, c) ∧ w.2.2 ≤ 145) 19 (fun w hv3 => ?_) (fun j w hj hv3 ih3 => ?_) 0 ((μ 12, μ 13, c)) (Nat.zero_le _) (⟨rfl, hc145⟩)
  · refine y_iload_n dX5_findOf_3 rfl rfl ?_
    refine y_bipush dX5_findOf_4 ib_9 ?_
    refine y_icmp_gt 38 dX5_findOf_6 (by decide) (fun _ => ?_) (fun hq => absurd (by decide) hq)
    refine y_vret dX5_findOf_38 ?_
    exact ⟨rfl, by rw [itr_ex hv3.1]⟩
  · refine y_iload_n dX5_findOf_3 rfl rfl ?_
    refine y_bipush dX5_findOf_4 ib_9 ?_
    refine y_icmp_gt 38 dX5_findOf_6 (by decide) (fun hq => absurd hq (dI_le hj)) (fun _ => ?_)
    refine y_iload_n dX5_findOf_9 rfl rfl ?_
    refine y_if_eq 32 dX5_findOf_10 (by decide) (fun h10 => ?_) (fun h10 => ?_)
    · refine y_iinc dX5_findOf_32 rfl (ii_1 _) rfl (by decide) ?_
      refine y_goto 3 dX5_findOf_35 (by decide) ?_
      exact y_eq (μ2 := wPut (if ¬ dI j = 0 ∧ ¬ μ 19 p + dI j < 1 then wAdd (seenB k (μ 23) (μ 24) (μ 25) (μ 14) (nI p) (dI j)) (nI p) (dI j) w else w) μ) (by clear ih3; simp_all [-Int32.not_lt, wPut_wPut, wPut_12, wPut_13, wPut_ne]) (by rw [dI_S]; rfl) rfl (ih3 _ ⟨itr_nx hj hv3.1 rfl, by split; exact wAdd_le hv3.2; exact hv3.2⟩)
    · refine y_aload_n dX5_findOf_13 rfl rfl ?_
      refine y_getr dX5_findOf_14 0 clX4 kd_18 (by decide) wm_fl_X5_46 rfl rfl ?_
      refine y_iload_n dX5_findOf_17 rfl rfl ?_
      refine y_iald dX5_findOf_18 p kd_19 rfl (by first | assumption | decide | omega) (by decide) ?_
      refine y_iload_n dX5_findOf_19 rfl rfl ?_
      refine y_iadd dX5_findOf_20 ?_
      refine y_iconst dX5_findOf_21 ic_1 ?_
      refine y_icmp_lt 32 dX5_findOf_22 (by decide) (fun h22 => ?_) (fun h22 => ?_)
      · refine y_iinc dX5_findOf_32 rfl (ii_1 _) rfl (by decide) ?_
        refine y_goto 3 dX5_findOf_35 (by decide) ?_
        exact y_eq (μ2 := wPut (if ¬ dI j = 0 ∧ ¬ μ 19 p + dI j < 1 then wAdd (seenB k (μ 23) (μ 24) (μ 25) (μ 14) (nI p) (dI j)) (nI p) (dI j) w else w) μ) (by clear ih3; simp_all [-Int32.not_lt, wPut_wPut, wPut_12, wPut_13, wPut_ne]) (by rw [dI_S]; rfl) rfl (ih3 _ ⟨itr_nx hj hv3.1 rfl, by split; exact wAdd_le hv3.2; exact hv3.2⟩)
      · refine y_aload_n dX5_findOf_25 rfl rfl ?_
        refine y_aload_n dX5_findOf_26 rfl rfl ?_
        refine y_iload_n dX5_findOf_27 rfl rfl ?_
        refine y_iload_n dX5_findOf_28 rfl rfl ?_
        refine y_cV3 dX5_findOf_29 meX5_addIfSeen clX5 kd_11 wm_ml_X5_32 (kX5_addIfSeen hk (by simpa [wPut, mset] using hs) hv3.2 (wPut_4 _ _)) ⟨Nat.le_of_ble_eq_true rfl, Nat.le_of_ble_eq_true rfl⟩ ⟨rfl, rfl⟩ (Nat.le_of_ble_eq_true rfl) (fun v29 μ29 hp29 => ?_)
        obtain ⟨rfl, he29⟩ := hp29
        replace he29 := he29.symm
        subst he29
        refine y_rv ?_
        refine y_iinc dX5_findOf_32 rfl (ii_1 _) rfl (by decide) ?_
        refine y_goto 3 dX5_findOf_35 (by decide) ?_
        exact y_eq (μ2 := wPut (if ¬ dI j = 0 ∧ ¬ μ 19 p + dI j < 1 then wAdd (seenB k (μ 23) (μ 24) (μ 25) (μ 14) (nI p) (dI j)) (nI p) (dI j) w else w) μ) (by clear ih3; simp_all [-Int32.not_lt, wPut_wPut, wPut_12, wPut_13, wPut_ne]) (by rw [dI_S]; rfl) rfl (ih3 _ ⟨itr_nx hj hv3.1 rfl, by split; exact wAdd_le hv3.2; exact hv3.2⟩)

set_option maxRecDepth 100000 in
set_option maxHeartbeats 4000000 in
theorem kX5_find {l : Launch} {G : GT} {μ : MemT} {k : Nat} (hk : k ≤ 8) (hs : μ 18 11 = nI k) : sw_Met l G yX5_find cX5_find 3 none (rmk 4 92) [.ref (G.2.1 11), .ref (G.2.1 18)] μ (fun v μ2 => v = none ∧ μ2 = findM k μ) := by
  refine sw_Met.ofY (by decide) (Nat.le_of_ble_eq_true rfl) rfl ?_
  refine y_aload_n dX5_find_0 rfl rfl ?_
  refine y_iconst dX5_find_1 ic_0 ?_
  refine y_puti dX5_find_2 4 clX5 kd_11 (by decide) wm_fl_X5_24 rfl rfl rfl rfl (tyX5_ok 4 (by decide)) rfl rfl ?_
  refine y_aload_n dX5_find_5 rfl rfl ?_
  refine y_aload_n dX5_find_6 rfl rfl ?_
  refine y_cV1 dX5_find_7 meX5_fillLeads clX5 kd_11 wm_ml_X5_28 (kX5_fillLeads hk (by simpa [mset] using hs)) ⟨Nat.le_of_ble_eq_true rfl, Nat.le_of_ble_eq_true rfl⟩ ⟨rfl, rfl⟩ (Nat.le_of_ble_eq_true rfl) (fun v7 μ7 hp7 => ?_)
  obtain ⟨rfl, he7⟩ := hp7
  replace he7 := he7.symm
  subst he7
  refine y_rv ?_
  refine y_aload_n dX5_find_10 rfl rfl ?_
  refine y_aload_n dX5_find_11 rfl rfl ?_
  refine y_bipush dX5_find_12 ib_m6 ?_
  refine y_iconst dX5_find_14 ic_0 ?_
  refine y_cV3 dX5_find_15 meX5_addIfSeen clX5 kd_11 wm_ml_X5_32 (kX5_addIfSeen (c := 0) hk (by simpa [leadM, mset] using hs) (by decide) (by simp [leadM, mset, upd]; rfl)) ⟨Nat.le_of_ble_eq_true rfl, Nat.le_of_ble_eq_true rfl⟩ ⟨rfl, rfl⟩ (Nat.le_of_ble_eq_true rfl) (fun v15 μ15 hp15 => ?_)
  obtain ⟨rfl, he15⟩ := hp15
  replace he15 := he15.symm
  subst he15
  refine y_rv ?_
  refine y_iconst (v := nI 0) dX5_find_18 icn_0 ?_
  refine y_istore_n dX5_find_19 rfl rfl (by decide) ?_
  refine y_eq (show _ = wPut (wAdd (seenB k (μ 23) (μ 24) (μ 25) (ldR (μ 18 7) (μ 19) (μ 23) (μ 24) k 0 (μ 14)) (-6) 0) (-6) 0 (μ 12, μ 13, 0)) (leadM k μ) by rw [wfs]; simp [leadM, mset]) rfl rfl ?_
  refine y_loop1 (fun (j : Nat) (w : WsT) => [some (.ref (G.2.1 11)), some (.ref (G.2.1 18)), some (.int (nI j))]) (fun (j : Nat) (w : WsT) => wPut w (leadM k μ)) (fun (j : Nat) (w : WsT) => itr (fun p w => if bt (μ 18 7) p then wOf k (μ 23) (μ 24) (μ 25) (ldR (μ 18 7) (μ 19) (μ 23) (μ 24) k 0 (μ 14)) (nI p) (μ 19 p) w else w) (8 - j) j w = wAll k (μ 18 7) (μ 19) (μ 23) (μ 24) (μ 25) (ldR (μ 18 7) (μ 19) (μ 23) (μ 24) k 0 (μ 14)) (μ 12, μ 13, 0) ∧ w.2.2 ≤ 145) 8 (fun w hv20 => ?_) (fun j w hj hv20 ih20 => ?_) 0 (wAdd (seenB k (μ 23) (μ 24) (μ 25) (ldR (μ 18 7) (μ 19) (μ 23) (μ 24) k 0 (μ 14)) (-6) 0) (-6) 0 (μ 12, μ 13, 0)) (Nat.zero_le _) (⟨rfl, wAdd_le (Nat.zero_le _)⟩)
  · refine y_iload_n dX5_find_20 rfl rfl ?_
    refine y_bipush dX5_find_21 ib_8 ?_
    refine y_icmp_ge 46 dX5_find_23 (by decide) (fun _ => ?_) (fun hq => absurd (by decide) hq)
    refine y_vret dX5_find_46 ?_
    exact ⟨rfl, by rw [itr_ex hv20.1]; rfl⟩
  · refine y_iload_n dX5_find_20 rfl rfl ?_
    refine y_bipush dX5_find_21 ib_8 ?_
    refine y_icmp_ge 46 dX5_find_23 (by decide) (fun hq => absurd hq (nI_ge (b := 8) hj (by decide))) (fun _ => ?_)
    refine y_aload_n dX5_find_26 rfl rfl ?_
    refine y_iload_n dX5_find_27 rfl rfl ?_
    refine y_cV1 dX5_find_28 meX4_has clX4 kd_18 wm_ml_X5_36 (kX4_has tw18) ⟨Nat.le_of_ble_eq_true rfl, Nat.le_of_ble_eq_true rfl⟩ ⟨rfl, rfl⟩ (Nat.le_of_ble_eq_true rfl) (fun v28 μ28 hp28 => ?_)
    obtain ⟨rfl, he28⟩ := hp28
    replace he28 := he28.symm
    subst he28
    refine y_ri ?_
    refine y_ifb_eq 40 dX5_find_31 (by decide) (fun h31 => ?_) (fun h31 => ?_)
    · refine y_iinc (v := nI (j + 1)) dX5_find_40 rfl (nI_i1 _) rfl (by decide) ?_
      refine y_goto 20 dX5_find_43 (by decide) ?_
      exact y_eq (μ2 := wPut (if bt (μ 18 7) j then wOf k (μ 23) (μ 24) (μ 25) (ldR (μ 18 7) (μ 19) (μ 23) (μ 24) k 0 (μ 14)) (nI j) (μ 19 j) w else w) (leadM k μ)) (by clear ih20; simp_all [isP_n hj, wPut_wPut, wPut_12, wPut_13, wPut_ne, leadM, mset]) rfl rfl (ih20 _ ⟨itr_nx hj hv20.1 rfl, by split; exact wOf_le 19 0 hv20.2; exact hv20.2⟩)
    · refine y_aload_n dX5_find_34 rfl rfl ?_
      refine y_aload_n dX5_find_35 rfl rfl ?_
      refine y_iload_n dX5_find_36 rfl rfl ?_
      refine y_cV2 dX5_find_37 meX5_findOf clX5 kd_11 wm_ml_X5_42 (kX5_findOf hk (by simpa [wPut, leadM, mset] using hs) hv20.2 (wPut_4 _ _) hj) ⟨Nat.le_of_ble_eq_true rfl, Nat.le_of_ble_eq_true rfl⟩ ⟨rfl, rfl⟩ (Nat.le_of_ble_eq_true rfl) (fun v37 μ37 hp37 => ?_)
      obtain ⟨rfl, he37⟩ := hp37
      replace he37 := he37.symm
      subst he37
      refine y_rv ?_
      refine y_iinc (v := nI (j + 1)) dX5_find_40 rfl (nI_i1 _) rfl (by decide) ?_
      refine y_goto 20 dX5_find_43 (by decide) ?_
      exact y_eq (μ2 := wPut (if bt (μ 18 7) j then wOf k (μ 23) (μ 24) (μ 25) (ldR (μ 18 7) (μ 19) (μ 23) (μ 24) k 0 (μ 14)) (nI j) (μ 19 j) w else w) (leadM k μ)) (by clear ih20; simp_all [isP_n hj, wPut_wPut, wPut_12, wPut_13, wPut_ne, leadM, mset]) rfl rfl (ih20 _ ⟨itr_nx hj hv20.1 rfl, by split; exact wOf_le 19 0 hv20.2; exact hv20.2⟩)

def filF (N : Nat) (x : Int32) (f : Nat → Int32) : Nat → Int32 := itr (fun j f => upd f j x) N 0 f
theorem filF_at : ∀ (n j : Nat) (x : Int32) (f : Nat → Int32) (i : Nat), itr (fun j f => upd f j x) n j f i = if j ≤ i ∧ i < j + n then x else f i
  | 0, j, x, f, i => by
    rw [itr_0, if_neg (by omega)]
  | n + 1, j, x, f, i => by
    rw [itr_S, filF_at n (j + 1) x _ i]
    by_cases h : i = j
    · subst h
      rw [if_neg (by omega), if_pos (by omega), upd_self]
    · rw [upd_ne _ _ h]
      by_cases h2 : j + 1 ≤ i ∧ i < j + 1 + n
      · rw [if_pos h2, if_pos (by omega)]
      · rw [if_neg h2, if_neg (by omega)]
theorem filF_in {N i : Nat} (x : Int32) (f : Nat → Int32) (h : i < N) : filF N x f i = x := by
  rw [filF, filF_at, if_pos (by omega)]

set_option maxRecDepth 100000 in
set_option maxHeartbeats 4000000 in
theorem kJ7_fill_53178 {l : Launch} {G : GT} {μ : MemT} {f N : Nat} (hf : kdL[f]? = some (.inr (0, N))) (hN : N < 2 ^ 31) {x : Int32} : sw_Met l G yJ7_fill_53178 cJ7_fill_53178 4 none (rmk 0 0) [.ref (G.2.1 f), .int x] μ (fun v μ2 => v = none ∧ μ2 = mset μ f (filF N x (μ f))) := by
  refine sw_Met.ofY (by decide) (Nat.le_of_ble_eq_true rfl) rfl ?_
  refine y_iconst (v := nI 0) dJ7_fill_53178_0 icn_0 ?_
  refine y_istore_n dJ7_fill_53178_1 rfl rfl (by decide) ?_
  refine y_aload_n dJ7_fill_53178_2 rfl rfl ?_
  refine y_alen (by decide) hf dJ7_fill_53178_3 ?_
  refine y_istore_n dJ7_fill_53178_4 rfl rfl (by decide) ?_
  refine y_eq (mset_eq (k := f) (r := μ f) rfl) rfl rfl ?_
  refine y_loop1 (fun (j : Nat) (a : Nat → Int32) => [some (.ref (G.2.1 f)), some (.int x), some (.int (nI j)), some (.int (nI N))]) (fun (j : Nat) (a : Nat → Int32) => mset μ f a) (fun (j : Nat) (a : Nat → Int32) => itr (fun j f => upd f j x) (N - j) j a = filF N x (μ f)) N (fun a hv5 => ?_) (fun j a hj hv5 ih5 => ?_) 0 (μ f) (Nat.zero_le _) (rfl)
  · refine y_iload_n dJ7_fill_53178_5 rfl rfl ?_
    refine y_iload_n dJ7_fill_53178_6 rfl rfl ?_
    refine y_icmp_ge 20 dJ7_fill_53178_7 (by decide) (fun _ => ?_) (fun hq => absurd (Int32.le_refl _) hq)
    refine y_vret dJ7_fill_53178_20 ?_
    exact ⟨rfl, by rw [itr_ex hv5]⟩
  · refine y_iload_n dJ7_fill_53178_5 rfl rfl ?_
    refine y_iload_n dJ7_fill_53178_6 rfl rfl ?_
    refine y_icmp_ge 20 dJ7_fill_53178_7 (by decide) (fun hq => absurd hq (nI_ge hj hN)) (fun _ => ?_)
    refine y_aload_n dJ7_fill_53178_10 rfl rfl ?_
    refine y_iload_n dJ7_fill_53178_11 rfl rfl ?_
    refine y_iload_n dJ7_fill_53178_12 rfl rfl ?_
    refine y_iast dJ7_fill_53178_13 j hf rfl hj hN ?_
    refine y_iinc (v := nI (j + 1)) dJ7_fill_53178_14 rfl (nI_i1 _) rfl (by decide) ?_
    refine y_goto 5 dJ7_fill_53178_17 (by decide) ?_
    exact y_eq (μ2 := mset μ f (upd a j x)) (by rw [mset_self, mset_mset]) rfl rfl (ih5 _ (itr_nx hj hv5 rfl))

set_option maxRecDepth 100000 in
set_option maxHeartbeats 4000000 in
theorem kJ7_fill_031fb {l : Launch} {G : GT} {μ : MemT} {f N : Nat} (hf : kdL[f]? = some (.inr (1, N))) (hN : N < 2 ^ 31) {x : Int32} : sw_Met l G yJ7_fill_031fb cJ7_fill_031fb 4 none (rmk 0 0) [.ref (G.2.1 f), .int x] μ (fun v μ2 => v = none ∧ μ2 = mset μ f (filF N (vp_nar .byte x) (μ f))) := by
  refine sw_Met.ofY (by decide) (Nat.le_of_ble_eq_true rfl) rfl ?_
  refine y_iconst (v := nI 0) dJ7_fill_031fb_0 icn_0 ?_
  refine y_istore_n dJ7_fill_031fb_1 rfl rfl (by decide) ?_
  refine y_aload_n dJ7_fill_031fb_2 rfl rfl ?_
  refine y_alen (by decide) hf dJ7_fill_031fb_3 ?_
  refine y_istore_n dJ7_fill_031fb_4 rfl rfl (by decide) ?_
  refine y_eq (mset_eq (k := f) (r := μ f) rfl) rfl rfl ?_
  refine y_loop1 (fun (j : Nat) (a : Nat → Int32) => [some (.ref (G.2.1 f)), some (.int x), some (.int (nI j)), some (.int (nI N))]) (fun (j : Nat) (a : Nat → Int32) => mset μ f a) (fun (j : Nat) (a : Nat → Int32) => itr (fun j f => upd f j (vp_nar .byte x)) (N - j) j a = filF N (vp_nar .byte x) (μ f)) N (fun a hv5 => ?_) (fun j a hj hv5 ih5 => ?_) 0 (μ f) (Nat.zero_le _) (rfl)
  · refine y_iload_n dJ7_fill_031fb_5 rfl rfl ?_
    refine y_iload_n dJ7_fill_031fb_6 rfl rfl ?_
    refine y_icmp_ge 20 dJ7_fill_031fb_7 (by decide) (fun _ => ?_) (fun hq => absurd (Int32.le_refl _) hq)
    refine y_vret dJ7_fill_031fb_20 ?_
    exact ⟨rfl, by rw [itr_ex hv5]⟩
  · refine y_iload_n dJ7_fill_031fb_5 rfl rfl ?_
    refine y_iload_n dJ7_fill_031fb_6 rfl rfl ?_
    refine y_icmp_ge 20 dJ7_fill_031fb_7 (by decide) (fun hq => absurd hq (nI_ge hj hN)) (fun _ => ?_)
    refine y_aload_n dJ7_fill_031fb_10 rfl rfl ?_
    refine y_iload_n dJ7_fill_031fb_11 rfl rfl ?_
    refine y_iload_n dJ7_fill_031fb_12 rfl rfl ?_
    refine y_bast dJ7_fill_031fb_13 j hf rfl hj hN ?_
    refine y_iinc (v := nI (j + 1)) dJ7_fill_031fb_14 rfl (nI_i1 _) rfl (by decide) ?_
    refine y_goto 5 dJ7_fill_031fb_17 (by decide) ?_
    exact y_eq (μ2 := mset μ f (upd a j (vp_nar .byte x))) (by rw [mset_self, mset_mset]) rfl rfl (ih5 _ (itr_nx hj hv5 rfl))

def suB (c : Nat) (wr : Nat → Int32) : Int32 := itr (fun j s => if wr j = -6 then s else s ||| 1 <<< (wr j &&& 31)) c 0 0
def lmB (c : Nat) (wr mr : Nat → Int32) (x : Int32) : Int32 := match fnd (fun j => decide (wr j = x)) c 0 with
  | none => -6
  | some j => mr j + 100
def balN (x y : Int32) : Nat := if x < y then 0 else if x = y then 1 else 2
theorem balI_n (x y : Int32) : balI x y = nI (balN x y) := by
  unfold balI balN
  split
  · rfl
  · split <;> rfl
theorem balN_lt (x y : Int32) : balN x y < 3 := by
  unfold balN
  split
  · decide
  · split <;> decide
def wSp (sw wr mr : Nat → Int32) (p j : Nat) : Int32 := sw p + (if wr j = nI p then mr j else 0)
def tlS (sw wr mr : Nat → Int32) (p q : Nat) (j : Nat) (l : Nat → Int32) : Nat → Int32 := upd l (balN (wSp sw wr mr p j) (wSp sw wr mr q j)) (l (balN (wSp sw wr mr p j) (wSp sw wr mr q j)) + 1)
def tlB (c : Nat) (sw wr mr : Nat → Int32) (p q : Nat) (l : Nat → Int32) : Nat → Int32 := itr (tlS sw wr mr p q) c 0 l
def mx2 (x y : Int32) : Int32 := if x < y then y else x
def mx3 (l : Nat → Int32) : Int32 := mx2 (l 0) (mx2 (l 1) (l 2))
def tryL (c p q : Nat) (μ : MemT) : Nat → Int32 := tlB c (μ 19) (μ 12) (μ 13) p q (filF 3 0 (μ 15))
def tryM (c p q : Nat) (μ : MemT) : MemT := mset (mset μ 15 (tryL c p q μ)) 11 (if μ 11 5 = -6 ∨ ¬ μ 11 6 ≤ mx3 (tryL c p q μ) then upd (upd (μ 11) 5 (10 * nI p + nI q)) 6 (mx3 (tryL c p q μ)) else μ 11)

set_option maxRecDepth 100000 in
set_option maxHeartbeats 4000000 in
theorem kX5_suspects {l : Launch} {G : GT} {μ : MemT} {c : Nat} (hc145 : c ≤ 145) (hc : μ 11 4 = nI c) : sw_Met l G yX5_suspects cX5_suspects 3 (some .int) (rmk 0 0) [.ref (G.2.1 11)] μ (fun v μ2 => v = some (.int (suB c (μ 12))) ∧ μ2 = μ) := by
  refine sw_Met.ofY (by decide) (Nat.le_of_ble_eq_true rfl) rfl ?_
  refine y_iconst dX5_suspects_0 ic_0 ?_
  refine y_istore_n dX5_suspects_1 rfl rfl (by decide) ?_
  refine y_iconst (v := nI 0) dX5_suspects_2 icn_0 ?_
  refine y_istore_n dX5_suspects_3 rfl rfl (by decide) ?_
  refine y_loop1 (fun (j : Nat) (a : Int32) => [some (.ref (G.2.1 11)), some (.int a), some (.int (nI j))]) (fun (j : Nat) (a : Int32) => μ) (fun (j : Nat) (a : Int32) => itr (fun j s => if μ 12 j = -6 then s else s ||| 1 <<< (μ 12 j &&& 31)) (c - j) j a = suB c (μ 12)) c (fun a hv4 => ?_) (fun j a hj hv4 ih4 => ?_) 0 (0) (Nat.zero_le _) (rfl)
  · refine y_iload_n dX5_suspects_4 rfl rfl ?_
    refine y_aload_n dX5_suspects_5 rfl rfl ?_
    refine y_geti dX5_suspects_6 4 clX5 kd_11 (by decide) wm_fl_X5_24 rfl rfl ?_
    refine y_icmp_ge 40 dX5_suspects_9 (by decide) (fun _ => ?_) (fun hq => absurd (by rw [hc]; exact Int32.le_refl _) hq)
    refine y_iload_n dX5_suspects_40 rfl rfl ?_
    refine y_iret dX5_suspects_41 ?_
    exact ⟨by rw [itr_ex hv4], rfl⟩
  · refine y_iload_n dX5_suspects_4 rfl rfl ?_
    refine y_aload_n dX5_suspects_5 rfl rfl ?_
    refine y_geti dX5_suspects_6 4 clX5 kd_11 (by decide) wm_fl_X5_24 rfl rfl ?_
    refine y_icmp_ge 40 dX5_suspects_9 (by decide) (fun hq => absurd (by rw [hc] at hq; exact hq) (nI_ge hj (by omega))) (fun _ => ?_)
    refine y_aload_n dX5_suspects_12 rfl rfl ?_
    refine y_getr dX5_suspects_13 0 clX5 kd_11 (by decide) wm_fl_X5_11 rfl rfl ?_
    refine y_iload_n dX5_suspects_16 rfl rfl ?_
    refine y_iald dX5_suspects_17 j kd_12 rfl (by omega) (by decide) ?_
    refine y_bipush dX5_suspects_18 ib_m6 ?_
    refine y_icmp_eq 34 dX5_suspects_20 (by decide) (fun h20 => ?_) (fun h20 => ?_)
    · refine y_iinc (v := nI (j + 1)) dX5_suspects_34 rfl (nI_i1 _) rfl (by decide) ?_
      refine y_goto 4 dX5_suspects_37 (by decide) ?_
      exact ih4 _ (itr_nx hj hv4 (by clear ih4 hv4; simp_all))
    · refine y_iload_n dX5_suspects_23 rfl rfl ?_
      refine y_iconst dX5_suspects_24 ic_1 ?_
      refine y_aload_n dX5_suspects_25 rfl rfl ?_
      refine y_getr dX5_suspects_26 0 clX5 kd_11 (by decide) wm_fl_X5_11 rfl rfl ?_
      refine y_iload_n dX5_suspects_29 rfl rfl ?_
      refine y_iald dX5_suspects_30 j kd_12 rfl (by omega) (by decide) ?_
      refine y_ishl dX5_suspects_31 ?_
      refine y_ior dX5_suspects_32 ?_
      refine y_istore_n dX5_suspects_33 rfl rfl (by decide) ?_
      refine y_iinc (v := nI (j + 1)) dX5_suspects_34 rfl (nI_i1 _) rfl (by decide) ?_
      refine y_goto 4 dX5_suspects_37 (by decide) ?_
      exact ih4 _ (itr_nx hj hv4 (by clear ih4 hv4; simp_all))

set_option maxRecDepth 100000 in
set_option maxHeartbeats 4000000 in
theorem kX5_leastMore {l : Launch} {G : GT} {μ : MemT} {c : Nat} (hc145 : c ≤ 145) (hc : μ 11 4 = nI c) {x : Int32} : sw_Met l G yX5_leastMore cX5_leastMore 3 (some .int) (rmk 0 0) [.ref (G.2.1 11), .int x] μ (fun v μ2 => v = some (.int (lmB c (μ 12) (μ 13) x)) ∧ μ2 = μ) := by
  refine sw_Met.ofY (by decide) (Nat.le_of_ble_eq_true rfl) rfl ?_
  refine y_iconst (v := nI 0) dX5_leastMore_0 icn_0 ?_
  refine y_istore_n dX5_leastMore_1 rfl rfl (by decide) ?_
  refine y_loop0 (fun (j : Nat)  => [some (.ref (G.2.1 11)), some (.int x), some (.int (nI j))]) (fun (j : Nat)  => μ) (fun (j : Nat)  => fnd (fun j => decide (μ 12 j = x)) (c - j) j = fnd (fun j => decide (μ 12 j = x)) c 0) c (fun  hv2 => ?_) (fun j hj hv2 ih2 => ?_) 0  (Nat.zero_le _) (rfl)
  · refine y_iload_n dX5_leastMore_2 rfl rfl ?_
    refine y_aload_n dX5_leastMore_3 rfl rfl ?_
    refine y_geti dX5_leastMore_4 4 clX5 kd_11 (by decide) wm_fl_X5_24 rfl rfl ?_
    refine y_icmp_ge 36 dX5_leastMore_7 (by decide) (fun _ => ?_) (fun hq => absurd (by rw [hc]; exact Int32.le_refl _) hq)
    refine y_bipush dX5_leastMore_36 ib_m6 ?_
    refine y_iret dX5_leastMore_38 ?_
    exact ⟨by rw [lmB, fnd_ex hv2], rfl⟩
  · refine y_iload_n dX5_leastMore_2 rfl rfl ?_
    refine y_aload_n dX5_leastMore_3 rfl rfl ?_
    refine y_geti dX5_leastMore_4 4 clX5 kd_11 (by decide) wm_fl_X5_24 rfl rfl ?_
    refine y_icmp_ge 36 dX5_leastMore_7 (by decide) (fun hq => absurd (by rw [hc] at hq; exact hq) (nI_ge hj (by omega))) (fun _ => ?_)
    refine y_aload_n dX5_leastMore_10 rfl rfl ?_
    refine y_getr dX5_leastMore_11 0 clX5 kd_11 (by decide) wm_fl_X5_11 rfl rfl ?_
    refine y_iload_n dX5_leastMore_14 rfl rfl ?_
    refine y_iald dX5_leastMore_15 j kd_12 rfl (by first | assumption | decide | omega) (by decide) ?_
    refine y_iload_n dX5_leastMore_16 rfl rfl ?_
    refine y_icmp_ne 30 dX5_leastMore_17 (by decide) (fun h17 => ?_) (fun h17 => ?_)
    · refine y_iinc (v := nI (j + 1)) dX5_leastMore_30 rfl (nI_i1 _) rfl (by decide) ?_
      refine y_goto 2 dX5_leastMore_33 (by decide) ?_
      exact ih2 (fnd_nx hj hv2 (decide_eq_false h17))
    · refine y_aload_n dX5_leastMore_20 rfl rfl ?_
      refine y_getr dX5_leastMore_21 1 clX5 kd_11 (by decide) wm_fl_X5_15 rfl rfl ?_
      refine y_iload_n dX5_leastMore_24 rfl rfl ?_
      refine y_iald dX5_leastMore_25 j kd_13 rfl (by omega) (by decide) ?_
      refine y_bipush dX5_leastMore_26 ib_100 ?_
      refine y_iadd dX5_leastMore_28 ?_
      refine y_iret dX5_leastMore_29 ?_
      exact ⟨by rw [lmB, fnd_hit hj hv2 (decide_eq_true h17)], rfl⟩

set_option maxRecDepth 100000 in
set_option maxHeartbeats 4000000 in
theorem kX5_tryPair {l : Launch} {G : GT} {μ : MemT} {c : Nat} (hc145 : c ≤ 145) (hc : μ 11 4 = nI c) {p : Nat} (hp : p < 8) {q : Nat} (hq8 : q < 8) : sw_Met l G yX5_tryPair cX5_tryPair 7 none (rmk 1 23) [.ref (G.2.1 11), .ref (G.2.1 18), .int (nI p), .int (nI q)] μ (fun v μ2 => v = none ∧ μ2 = tryM c p q μ) := by
  refine sw_Met.ofY (by decide) (Nat.le_of_ble_eq_true rfl) rfl ?_
  refine y_aload_n dX5_tryPair_0 rfl rfl ?_
  refine y_getr dX5_tryPair_1 3 clX5 kd_11 (by decide) wm_fl_X5_21 rfl rfl ?_
  refine y_iconst dX5_tryPair_4 ic_0 ?_
  refine y_cS2 dX5_tryPair_5 meJ7_fill_53178 wm_ml_X5_89 (kJ7_fill_53178 kd_15 (by decide)) ⟨Nat.le_of_ble_eq_true rfl, Nat.le_of_ble_eq_true rfl⟩ ⟨rfl, rfl⟩ (Nat.le_of_ble_eq_true rfl) (fun v5 μ5 hp5 => ?_)
  obtain ⟨rfl, he5⟩ := hp5
  replace he5 := he5.symm
  subst he5
  refine y_rv ?_
  refine y_iconst (v := nI 0) dX5_tryPair_8 icn_0 ?_
  refine y_istore dX5_tryPair_9 rfl (by decide) ?_
  refine y_loop1 (fun (j : Nat) (a : Nat → Int32) => [some (.ref (G.2.1 11)), some (.ref (G.2.1 18)), some (.int (nI p)), some (.int (nI q)), some (.int (nI j)), none, none]) (fun (j : Nat) (a : Nat → Int32) => mset μ 15 a) (fun (j : Nat) (a : Nat → Int32) => itr (tlS (μ 19) (μ 12) (μ 13) p q) (c - j) j a = tryL c p q μ) c (fun a hv11 => ?_) (fun j a hj hv11 ih11 => ?_) 0 (filF 3 0 (μ 15)) (Nat.zero_le _) (rfl)
  · refine y_iload dX5_tryPair_11 rfl ?_
    refine y_aload_n dX5_tryPair_13 rfl rfl ?_
    refine y_geti dX5_tryPair_14 4 clX5 kd_11 (by decide) wm_fl_X5_24 rfl rfl ?_
    refine y_icmp_ge 104 dX5_tryPair_17 (by decide) (fun _ => ?_) (fun hq => absurd (by rw [show mset μ 15 a 11 4 = nI c from hc]; exact Int32.le_refl _) hq)
    refine y_aload_n dX5_tryPair_104 rfl rfl ?_
    refine y_getr dX5_tryPair_105 3 clX5 kd_11 (by decide) wm_fl_X5_21 rfl rfl ?_
    refine y_iconst dX5_tryPair_108 ic_0 ?_
    refine y_iald dX5_tryPair_109 0 kd_15 rfl (by decide) (by decide) ?_
    refine y_aload_n dX5_tryPair_110 rfl rfl ?_
    refine y_getr dX5_tryPair_111 3 clX5 kd_11 (by decide) wm_fl_X5_21 rfl rfl ?_
    refine y_iconst dX5_tryPair_114 ic_1 ?_
    refine y_iald dX5_tryPair_115 1 kd_15 rfl (by decide) (by decide) ?_
    refine y_aload_n dX5_tryPair_116 rfl rfl ?_
    refine y_getr dX5_tryPair_117 3 clX5 kd_11 (by decide) wm_fl_X5_21 rfl rfl ?_
    refine y_iconst dX5_tryPair_120 ic_2 ?_
    refine y_iald dX5_tryPair_121 2 kd_15 rfl (by decide) (by decide) ?_
    refine y_mmax dX5_tryPair_122 wm_ml_X5_95 (by decide) (Nat.le_of_ble_eq_true rfl) ?_
    refine y_mmax dX5_tryPair_125 wm_ml_X5_95 (by decide) (Nat.le_of_ble_eq_true rfl) ?_
    refine y_eq (st2 := [.int (mx3 a)]) rfl rfl rfl ?_
    refine y_istore dX5_tryPair_128 rfl (by decide) ?_
    refine y_aload_n dX5_tryPair_130 rfl rfl ?_
    refine y_geti dX5_tryPair_131 5 clX5 kd_11 (by decide) wm_fl_X5_77 rfl rfl ?_
    refine y_bipush dX5_tryPair_134 ib_m6 ?_
    refine y_icmp_eq 148 dX5_tryPair_136 (by decide) (fun h136 => ?_) (fun h136 => ?_)
    · refine y_aload_n dX5_tryPair_148 rfl rfl ?_
      refine y_bipush dX5_tryPair_149 ib_10 ?_
      refine y_iload_n dX5_tryPair_151 rfl rfl ?_
      refine y_imul dX5_tryPair_152 ?_
      refine y_iload_n dX5_tryPair_153 rfl rfl ?_
      refine y_iadd dX5_tryPair_154 ?_
      refine y_puti dX5_tryPair_155 5 clX5 kd_11 (by decide) wm_fl_X5_77 rfl rfl rfl rfl (tyX5_ok 5 (by decide)) rfl rfl ?_
      refine y_aload_n dX5_tryPair_158 rfl rfl ?_
      refine y_iload dX5_tryPair_159 rfl ?_
      refine y_puti dX5_tryPair_161 6 clX5 kd_11 (by decide) wm_fl_X5_80 rfl rfl rfl rfl (tyX5_ok 6 (by decide)) rfl rfl ?_
      refine y_vret dX5_tryPair_164 ?_
      refine ⟨rfl, ?_⟩
      have hv := itr_ex hv11
      subst hv
      clear hv11
      first
        | (simp_all [-Int32.not_le, -Int32.not_lt, tryM, mset_mset, mset, upd]; done)
        | (simp_all [-Int32.not_le, -Int32.not_lt, tryM, mset_mset, mset, upd]; exact mset_eq (by simp [mset]))
    · refine y_iload dX5_tryPair_139 rfl ?_
      refine y_aload_n dX5_tryPair_141 rfl rfl ?_
      refine y_geti dX5_tryPair_142 6 clX5 kd_11 (by decide) wm_fl_X5_80 rfl rfl ?_
      refine y_icmp_ge 164 dX5_tryPair_145 (by decide) (fun h145 => ?_) (fun h145 => ?_)
      · refine y_vret dX5_tryPair_164 ?_
        refine ⟨rfl, ?_⟩
        have hv := itr_ex hv11
        subst hv
        clear hv11
        first
          | (simp_all [-Int32.not_le, -Int32.not_lt, tryM, mset_mset, mset, upd]; done)
          | (simp_all [-Int32.not_le, -Int32.not_lt, tryM, mset_mset, mset, upd]; exact mset_eq (by simp [mset]))
      · refine y_aload_n dX5_tryPair_148 rfl rfl ?_
        refine y_bipush dX5_tryPair_149 ib_10 ?_
        refine y_iload_n dX5_tryPair_151 rfl rfl ?_
        refine y_imul dX5_tryPair_152 ?_
        refine y_iload_n dX5_tryPair_153 rfl rfl ?_
        refine y_iadd dX5_tryPair_154 ?_
        refine y_puti dX5_tryPair_155 5 clX5 kd_11 (by decide) wm_fl_X5_77 rfl rfl rfl rfl (tyX5_ok 5 (by decide)) rfl rfl ?_
        refine y_aload_n dX5_tryPair_158 rfl rfl ?_
        refine y_iload dX5_tryPair_159 rfl ?_
        refine y_puti dX5_tryPair_161 6 clX5 kd_11 (by decide) wm_fl_X5_80 rfl rfl rfl rfl (tyX5_ok 6 (by decide)) rfl rfl ?_
        refine y_vret dX5_tryPair_164 ?_
        refine ⟨rfl, ?_⟩
        have hv := itr_ex hv11
        subst hv
        clear hv11
        first
          | (simp_all [-Int32.not_le, -Int32.not_lt, tryM, mset_mset, mset, upd]; done)
          | (simp_all [-Int32.not_le, -Int32.not_lt, tryM, mset_mset, mset, upd]; exact mset_eq (by simp [mset]))
  · refine y_iload dX5_tryPair_11 rfl ?_
    refine y_aload_n dX5_tryPair_13 rfl rfl ?_
    refine y_geti dX5_tryPair_14 4 clX5 kd_11 (by decide) wm_fl_X5_24 rfl rfl ?_
    refine y_icmp_ge 104 dX5_tryPair_17 (by decide) (fun hq => absurd (by rw [show mset μ 15 a 11 4 = nI c from hc] at hq; exact hq) (nI_ge hj (by omega))) (fun _ => ?_)
    refine y_aload_n dX5_tryPair_20 rfl rfl ?_
    refine y_getr dX5_tryPair_21 0 clX4 kd_18 (by decide) wm_fl_X5_46 rfl rfl ?_
    refine y_iload_n dX5_tryPair_24 rfl rfl ?_
    refine y_iald dX5_tryPair_25 p kd_19 rfl (by first | assumption | decide | omega) (by decide) ?_
    refine y_aload_n dX5_tryPair_26 rfl rfl ?_
    refine y_getr dX5_tryPair_27 0 clX5 kd_11 (by decide) wm_fl_X5_11 rfl rfl ?_
    refine y_iload dX5_tryPair_30 rfl ?_
    refine y_iald dX5_tryPair_32 j kd_12 rfl (by omega) (by decide) ?_
    refine y_iload_n dX5_tryPair_33 rfl rfl ?_
    refine y_icmp_ne 47 dX5_tryPair_34 (by decide) (fun h34 => ?_) (fun h34 => ?_)
    · refine y_iconst dX5_tryPair_47 ic_0 ?_
      refine y_iadd dX5_tryPair_48 ?_
      refine y_istore dX5_tryPair_49 rfl (by decide) ?_
      refine y_aload_n dX5_tryPair_51 rfl rfl ?_
      refine y_getr dX5_tryPair_52 0 clX4 kd_18 (by decide) wm_fl_X5_46 rfl rfl ?_
      refine y_iload_n dX5_tryPair_55 rfl rfl ?_
      refine y_iald dX5_tryPair_56 q kd_19 rfl (by first | assumption | decide | omega) (by decide) ?_
      refine y_aload_n dX5_tryPair_57 rfl rfl ?_
      refine y_getr dX5_tryPair_58 0 clX5 kd_11 (by decide) wm_fl_X5_11 rfl rfl ?_
      refine y_iload dX5_tryPair_61 rfl ?_
      refine y_iald dX5_tryPair_63 j kd_12 rfl (by omega) (by decide) ?_
      refine y_iload_n dX5_tryPair_64 rfl rfl ?_
      refine y_icmp_ne 78 dX5_tryPair_65 (by decide) (fun h65 => ?_) (fun h65 => ?_)
      · refine y_iconst dX5_tryPair_78 ic_0 ?_
        refine y_iadd dX5_tryPair_79 ?_
        refine y_istore dX5_tryPair_80 rfl (by decide) ?_
        refine y_aload_n dX5_tryPair_82 rfl rfl ?_
        refine y_getr dX5_tryPair_83 3 clX5 kd_11 (by decide) wm_fl_X5_21 rfl rfl ?_
        refine y_iload dX5_tryPair_86 rfl ?_
        refine y_iload dX5_tryPair_88 rfl ?_
        refine y_cN2 dX5_tryPair_90 meX7_balance wn_X5_70 (kX7_balance) ⟨Nat.le_of_ble_eq_true rfl, Nat.le_of_ble_eq_true rfl⟩ ⟨rfl, rfl⟩ (Nat.le_of_ble_eq_true rfl) (fun v90 μ90 hp90 => ?_)
        obtain ⟨rfl, he90⟩ := hp90
        replace he90 := he90.symm
        subst he90
        refine y_ri ?_
        refine y_dup2 dX5_tryPair_93 rfl rfl ?_
        refine y_iald dX5_tryPair_94 (balN _ _) kd_15 (balI_n _ _) (balN_lt _ _) (by decide) ?_
        refine y_iconst dX5_tryPair_95 ic_1 ?_
        refine y_iadd dX5_tryPair_96 ?_
        refine y_iast dX5_tryPair_97 (balN _ _) kd_15 (balI_n _ _) (balN_lt _ _) (by decide) ?_
        refine y_iinc (v := nI (j + 1)) dX5_tryPair_98 rfl (nI_i1 _) rfl (by decide) ?_
        refine y_goto 11 dX5_tryPair_101 (by decide) ?_
        refine y_drop 6 (y_drop 5 ?_)
        exact y_eq (μ2 := mset μ 15 (tlS (μ 19) (μ 12) (μ 13) p q j a)) (by clear ih11 hv11; simp_all [tlS, wSp, mset_mset, mset]) rfl rfl (ih11 _ (itr_nx hj hv11 rfl))
      · refine y_aload_n dX5_tryPair_68 rfl rfl ?_
        refine y_getr dX5_tryPair_69 1 clX5 kd_11 (by decide) wm_fl_X5_15 rfl rfl ?_
        refine y_iload dX5_tryPair_72 rfl ?_
        refine y_iald dX5_tryPair_74 j kd_13 rfl (by omega) (by decide) ?_
        refine y_goto 79 dX5_tryPair_75 (by decide) ?_
        refine y_iadd dX5_tryPair_79 ?_
        refine y_istore dX5_tryPair_80 rfl (by decide) ?_
        refine y_aload_n dX5_tryPair_82 rfl rfl ?_
        refine y_getr dX5_tryPair_83 3 clX5 kd_11 (by decide) wm_fl_X5_21 rfl rfl ?_
        refine y_iload dX5_tryPair_86 rfl ?_
        refine y_iload dX5_tryPair_88 rfl ?_
        refine y_cN2 dX5_tryPair_90 meX7_balance wn_X5_70 (kX7_balance) ⟨Nat.le_of_ble_eq_true rfl, Nat.le_of_ble_eq_true rfl⟩ ⟨rfl, rfl⟩ (Nat.le_of_ble_eq_true rfl) (fun v90 μ90 hp90 => ?_)
        obtain ⟨rfl, he90⟩ := hp90
        replace he90 := he90.symm
        subst he90
        refine y_ri ?_
        refine y_dup2 dX5_tryPair_93 rfl rfl ?_
        refine y_iald dX5_tryPair_94 (balN _ _) kd_15 (balI_n _ _) (balN_lt _ _) (by decide) ?_
        refine y_iconst dX5_tryPair_95 ic_1 ?_
        refine y_iadd dX5_tryPair_96 ?_
        refine y_iast dX5_tryPair_97 (balN _ _) kd_15 (balI_n _ _) (balN_lt _ _) (by decide) ?_
        refine y_iinc (v := nI (j + 1)) dX5_tryPair_98 rfl (nI_i1 _) rfl (by decide) ?_
        refine y_goto 11 dX5_tryPair_101 (by decide) ?_
        refine y_drop 6 (y_drop 5 ?_)
        exact y_eq (μ2 := mset μ 15 (tlS (μ 19) (μ 12) (μ 13) p q j a)) (by clear ih11 hv11; simp_all [tlS, wSp, mset_mset, mset]) rfl rfl (ih11 _ (itr_nx hj hv11 rfl))
    · refine y_aload_n dX5_tryPair_37 rfl rfl ?_
      refine y_getr dX5_tryPair_38 1 clX5 kd_11 (by decide) wm_fl_X5_15 rfl rfl ?_
      refine y_iload dX5_tryPair_41 rfl ?_
      refine y_iald dX5_tryPair_43 j kd_13 rfl (by omega) (by decide) ?_
      refine y_goto 48 dX5_tryPair_44 (by decide) ?_
      refine y_iadd dX5_tryPair_48 ?_
      refine y_istore dX5_tryPair_49 rfl (by decide) ?_
      refine y_aload_n dX5_tryPair_51 rfl rfl ?_
      refine y_getr dX5_tryPair_52 0 clX4 kd_18 (by decide) wm_fl_X5_46 rfl rfl ?_
      refine y_iload_n dX5_tryPair_55 rfl rfl ?_
      refine y_iald dX5_tryPair_56 q kd_19 rfl (by first | assumption | decide | omega) (by decide) ?_
      refine y_aload_n dX5_tryPair_57 rfl rfl ?_
      refine y_getr dX5_tryPair_58 0 clX5 kd_11 (by decide) wm_fl_X5_11 rfl rfl ?_
      refine y_iload dX5_tryPair_61 rfl ?_
      refine y_iald dX5_tryPair_63 j kd_12 rfl (by omega) (by decide) ?_
      refine y_iload_n dX5_tryPair_64 rfl rfl ?_
      refine y_icmp_ne 78 dX5_tryPair_65 (by decide) (fun h65 => ?_) (fun h65 => ?_)
      · refine y_iconst dX5_tryPair_78 ic_0 ?_
        refine y_iadd dX5_tryPair_79 ?_
        refine y_istore dX5_tryPair_80 rfl (by decide) ?_
        refine y_aload_n dX5_tryPair_82 rfl rfl ?_
        refine y_getr dX5_tryPair_83 3 clX5 kd_11 (by decide) wm_fl_X5_21 rfl rfl ?_
        refine y_iload dX5_tryPair_86 rfl ?_
        refine y_iload dX5_tryPair_88 rfl ?_
        refine y_cN2 dX5_tryPair_90 meX7_balance wn_X5_70 (kX7_balance) ⟨Nat.le_of_ble_eq_true rfl, Nat.le_of_ble_eq_true rfl⟩ ⟨rfl, rfl⟩ (Nat.le_of_ble_eq_true rfl) (fun v90 μ90 hp90 => ?_)
        obtain ⟨rfl, he90⟩ := hp90
        replace he90 := he90.symm
        subst he90
        refine y_ri ?_
        refine y_dup2 dX5_tryPair_93 rfl rfl ?_
        refine y_iald dX5_tryPair_94 (balN _ _) kd_15 (balI_n _ _) (balN_lt _ _) (by decide) ?_
        refine y_iconst dX5_tryPair_95 ic_1 ?_
        refine y_iadd dX5_tryPair_96 ?_
        refine y_iast dX5_tryPair_97 (balN _ _) kd_15 (balI_n _ _) (balN_lt _ _) (by decide) ?_
        refine y_iinc (v := nI (j + 1)) dX5_tryPair_98 rfl (nI_i1 _) rfl (by decide) ?_
        refine y_goto 11 dX5_tryPair_101 (by decide) ?_
        refine y_drop 6 (y_drop 5 ?_)
        exact y_eq (μ2 := mset μ 15 (tlS (μ 19) (μ 12) (μ 13) p q j a)) (by clear ih11 hv11; simp_all [tlS, wSp, mset_mset, mset]) rfl rfl (ih11 _ (itr_nx hj hv11 rfl))
      · refine y_aload_n dX5_tryPair_68 rfl rfl ?_
        refine y_getr dX5_tryPair_69 1 clX5 kd_11 (by decide) wm_fl_X5_15 rfl rfl ?_
        refine y_iload dX5_tryPair_72 rfl ?_
        refine y_iald dX5_tryPair_74 j kd_13 rfl (by omega) (by decide) ?_
        refine y_goto 79 dX5_tryPair_75 (by decide) ?_
        refine y_iadd dX5_tryPair_79 ?_
        refine y_istore dX5_tryPair_80 rfl (by decide) ?_
        refine y_aload_n dX5_tryPair_82 rfl rfl ?_
        refine y_getr dX5_tryPair_83 3 clX5 kd_11 (by decide) wm_fl_X5_21 rfl rfl ?_
        refine y_iload dX5_tryPair_86 rfl ?_
        refine y_iload dX5_tryPair_88 rfl ?_
        refine y_cN2 dX5_tryPair_90 meX7_balance wn_X5_70 (kX7_balance) ⟨Nat.le_of_ble_eq_true rfl, Nat.le_of_ble_eq_true rfl⟩ ⟨rfl, rfl⟩ (Nat.le_of_ble_eq_true rfl) (fun v90 μ90 hp90 => ?_)
        obtain ⟨rfl, he90⟩ := hp90
        replace he90 := he90.symm
        subst he90
        refine y_ri ?_
        refine y_dup2 dX5_tryPair_93 rfl rfl ?_
        refine y_iald dX5_tryPair_94 (balN _ _) kd_15 (balI_n _ _) (balN_lt _ _) (by decide) ?_
        refine y_iconst dX5_tryPair_95 ic_1 ?_
        refine y_iadd dX5_tryPair_96 ?_
        refine y_iast dX5_tryPair_97 (balN _ _) kd_15 (balI_n _ _) (balN_lt _ _) (by decide) ?_
        refine y_iinc (v := nI (j + 1)) dX5_tryPair_98 rfl (nI_i1 _) rfl (by decide) ?_
        refine y_goto 11 dX5_tryPair_101 (by decide) ?_
        refine y_drop 6 (y_drop 5 ?_)
        exact y_eq (μ2 := mset μ 15 (tlS (μ 19) (μ 12) (μ 13) p q j a)) (by clear ih11 hv11; simp_all [tlS, wSp, mset_mset, mset]) rfl rfl (ih11 _ (itr_nx hj hv11 rfl))

theorem tryM_4 (c p q : Nat) (μ : MemT) : tryM c p q μ 11 4 = μ 11 4 := by
  simp only [tryM, mset_self]
  split <;> simp [upd]
theorem tryM_ne (c p q : Nat) (μ : MemT) {k : Nat} (h1 : k ≠ 11) (h2 : k ≠ 15) : tryM c p q μ k = μ k := by simp [tryM, mset, h1, h2]
def cpS (c p : Nat) (t : Int32) (q : Nat) (μ : MemT) : MemT := if bt t p && bt t q then tryM c p q μ else μ
def cpO (c : Nat) (t : Int32) (p : Nat) (μ : MemT) : MemT := itr (cpS c p t) (8 - (p + 1)) (p + 1) μ
def cpM (c : Nat) (μ : MemT) : MemT := if c = 0 then mset μ 11 (upd (upd (μ 11) 5 (-6)) 6 (-6)) else itr (cpO c (μ 18 7)) 8 0 (mset μ 11 (upd (upd (μ 11) 5 (-6)) 6 (-6)))
theorem cpS_4 (c p : Nat) (t : Int32) (q : Nat) (μ : MemT) : cpS c p t q μ 11 4 = μ 11 4 := by
  unfold cpS
  split
  · exact tryM_4 c p q μ
  · rfl
theorem cpS_18 (c p : Nat) (t : Int32) (q : Nat) (μ : MemT) : cpS c p t q μ 18 = μ 18 := by
  unfold cpS
  split
  · exact tryM_ne c p q μ (by decide) (by decide)
  · rfl

set_option maxRecDepth 100000 in
set_option maxHeartbeats 4000000 in
theorem kX5_choosePair {l : Launch} {G : GT} {μ : MemT} {c : Nat} (hc145 : c ≤ 145) (hc : μ 11 4 = nI c) : sw_Met l G yX5_choosePair cX5_choosePair 4 none (rmk 2 49) [.ref (G.2.1 11), .ref (G.2.1 18)] μ (fun v μ2 => v = none ∧ μ2 = cpM c μ) := by
  refine sw_Met.ofY (by decide) (Nat.le_of_ble_eq_true rfl) rfl ?_
  refine y_aload_n dX5_choosePair_0 rfl rfl ?_
  refine y_bipush dX5_choosePair_1 ib_m6 ?_
  refine y_puti dX5_choosePair_3 5 clX5 kd_11 (by decide) wm_fl_X5_77 rfl rfl rfl rfl (tyX5_ok 5 (by decide)) rfl rfl ?_
  refine y_aload_n dX5_choosePair_6 rfl rfl ?_
  refine y_bipush dX5_choosePair_7 ib_m6 ?_
  refine y_puti dX5_choosePair_9 6 clX5 kd_11 (by decide) wm_fl_X5_80 rfl rfl rfl rfl (tyX5_ok 6 (by decide)) rfl rfl ?_
  refine y_aload_n dX5_choosePair_12 rfl rfl ?_
  refine y_geti dX5_choosePair_13 4 clX5 kd_11 (by decide) wm_fl_X5_24 rfl rfl ?_
  refine y_if_ne 20 dX5_choosePair_16 (by decide) (fun h16 => ?_) (fun h16 => ?_)
  · refine y_iconst (v := nI 0) dX5_choosePair_20 icn_0 ?_
    refine y_istore_n dX5_choosePair_21 rfl rfl (by decide) ?_
    refine y_eq (show _ = mset μ 11 (upd (upd (μ 11) 5 (-6)) 6 (-6)) by simp only [mset_mset, mset_self]) rfl rfl ?_
    refine y_loop1 (fun (j : Nat) (a : MemT) => [some (.ref (G.2.1 11)), some (.ref (G.2.1 18)), some (.int (nI j)), none]) (fun (j : Nat) (a : MemT) => a) (fun (j : Nat) (a : MemT) => itr (cpO c (μ 18 7)) (8 - j) j a = cpM c μ ∧ a 11 4 = nI c ∧ a 18 = μ 18) 8 (fun a hv22 => ?_) (fun j a hj hv22 ih22 => ?_) 0 (mset μ 11 (upd (upd (μ 11) 5 (-6)) 6 (-6))) (Nat.zero_le _) (⟨by rw [cpM, if_neg (fun q => h16 (by simp [mset, upd, hc, q]; rfl))], by simp [mset, upd, hc], by simp [mset]⟩)
    · refine y_iload_n dX5_choosePair_22 rfl rfl ?_
      refine y_bipush dX5_choosePair_23 ib_8 ?_
      refine y_icmp_ge 66 dX5_choosePair_25 (by decide) (fun _ => ?_) (fun hq => absurd (by decide) hq)
      refine y_vret dX5_choosePair_66 ?_
      exact ⟨rfl, itr_ex hv22.1⟩
    · refine y_iload_n dX5_choosePair_22 rfl rfl ?_
      refine y_bipush dX5_choosePair_23 ib_8 ?_
      refine y_icmp_ge 66 dX5_choosePair_25 (by decide) (fun hq => absurd hq (nI_ge (b := 8) hj (by decide))) (fun _ => ?_)
      refine y_iload_n dX5_choosePair_28 rfl rfl ?_
      refine y_iconst dX5_choosePair_29 ic_1 ?_
      refine y_iadd dX5_choosePair_30 ?_
      rw [nI_1]
      refine y_istore_n dX5_choosePair_31 rfl rfl (by decide) ?_
      refine y_loop1 (fun (jq : Nat) (a2 : MemT) => [some (.ref (G.2.1 11)), some (.ref (G.2.1 18)), some (.int (nI j)), some (.int (nI jq))]) (fun (jq : Nat) (a2 : MemT) => a2) (fun (jq : Nat) (a2 : MemT) => itr (cpS c j (μ 18 7)) (8 - jq) jq a2 = cpO c (μ 18 7) j a ∧ a2 11 4 = nI c ∧ a2 18 = μ 18 ∧ j < jq) 8 (fun a2 hv32 => ?_) (fun jq a2 hjq hv32 ih32 => ?_) (j + 1) (a) (hj) (⟨rfl, hv22.2.1, hv22.2.2, Nat.lt_succ_self j⟩)
      · refine y_iload_n dX5_choosePair_32 rfl rfl ?_
        refine y_bipush dX5_choosePair_33 ib_8 ?_
        refine y_icmp_ge 60 dX5_choosePair_35 (by decide) (fun _ => ?_) (fun hq => absurd (by decide) hq)
        refine y_iinc (v := nI (j + 1)) dX5_choosePair_60 rfl (nI_i1 _) rfl (by decide) ?_
        refine y_goto 22 dX5_choosePair_63 (by decide) ?_
        exact y_drop 3 (ih22 _ ⟨itr_nx hj hv22.1 (itr_ex hv32.1), hv32.2.1, hv32.2.2.1⟩)
      · refine y_iload_n dX5_choosePair_32 rfl rfl ?_
        refine y_bipush dX5_choosePair_33 ib_8 ?_
        refine y_icmp_ge 60 dX5_choosePair_35 (by decide) (fun hq => absurd hq (nI_ge (b := 8) hjq (by decide))) (fun _ => ?_)
        refine y_aload_n dX5_choosePair_38 rfl rfl ?_
        refine y_iload_n dX5_choosePair_39 rfl rfl ?_
        refine y_iload_n dX5_choosePair_40 rfl rfl ?_
        refine y_cV2 dX5_choosePair_41 meX4_hasTwo clX4 kd_18 wm_ml_X5_83 (kX4_hasTwo tw18) ⟨Nat.le_of_ble_eq_true rfl, Nat.le_of_ble_eq_true rfl⟩ ⟨rfl, rfl⟩ (Nat.le_of_ble_eq_true rfl) (fun v41 μ41 hp41 => ?_)
        obtain ⟨rfl, he41⟩ := hp41
        replace he41 := he41.symm
        subst he41
        refine y_ri ?_
        refine y_ifb_eq 54 dX5_choosePair_44 (by decide) (fun h44 => ?_) (fun h44 => ?_)
        · refine y_iinc (v := nI (jq + 1)) dX5_choosePair_54 rfl (nI_i1 _) rfl (by decide) ?_
          refine y_goto 32 dX5_choosePair_57 (by decide) ?_
          have hne : ¬ j = jq := Nat.ne_of_lt hv32.2.2.2
          exact y_eq (μ2 := cpS c j (μ 18 7) jq a2) (by clear ih22 ih32; simp_all [cpS, isP_n hj, isP_n hjq, nI_eq (a := j) (b := jq) (by omega) (by omega)]) rfl rfl (ih32 _ ⟨itr_nx hjq hv32.1 rfl, by rw [cpS_4]; exact hv32.2.1, by rw [cpS_18]; exact hv32.2.2.1, Nat.lt_succ_of_lt hv32.2.2.2⟩)
        · refine y_aload_n dX5_choosePair_47 rfl rfl ?_
          refine y_aload_n dX5_choosePair_48 rfl rfl ?_
          refine y_iload_n dX5_choosePair_49 rfl rfl ?_
          refine y_iload_n dX5_choosePair_50 rfl rfl ?_
          refine y_cV3 dX5_choosePair_51 meX5_tryPair clX5 kd_11 wm_ml_X5_86 (kX5_tryPair hc145 hv32.2.1 hj hjq) ⟨Nat.le_of_ble_eq_true rfl, Nat.le_of_ble_eq_true rfl⟩ ⟨rfl, rfl⟩ (Nat.le_of_ble_eq_true rfl) (fun v51 μ51 hp51 => ?_)
          obtain ⟨rfl, he51⟩ := hp51
          replace he51 := he51.symm
          subst he51
          refine y_rv ?_
          refine y_iinc (v := nI (jq + 1)) dX5_choosePair_54 rfl (nI_i1 _) rfl (by decide) ?_
          refine y_goto 32 dX5_choosePair_57 (by decide) ?_
          have hne : ¬ j = jq := Nat.ne_of_lt hv32.2.2.2
          exact y_eq (μ2 := cpS c j (μ 18 7) jq a2) (by clear ih22 ih32; simp_all [cpS, isP_n hj, isP_n hjq, nI_eq (a := j) (b := jq) (by omega) (by omega)]) rfl rfl (ih32 _ ⟨itr_nx hjq hv32.1 rfl, by rw [cpS_4]; exact hv32.2.1, by rw [cpS_18]; exact hv32.2.2.1, Nat.lt_succ_of_lt hv32.2.2.2⟩)
  · refine y_vret dX5_choosePair_19 ?_
    exact ⟨rfl, by rw [cpM, if_pos (by simp [mset, upd, hc] at h16; exact (nI_eq (b := 0) (by omega) (by decide)).mp h16)]; simp only [mset_mset, mset_self]⟩
