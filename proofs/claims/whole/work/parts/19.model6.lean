/-! the reference: chance, year, images -/
def EuN : Nat → Int64 → Int64 → Int64 → Prop
  | 0, a, b, g => b = 0 ∧ a = g
  | n + 1, a, b, g => b ≠ 0 ∧ EuN n b (a - a / b * b) g
def la (x : Int64) : Int64 := if 0 ≤ lg_cmp x 0 then x else -x
def ciS (x y t k : Int32) (wt : Nat → Int32) (s p : Nat) (w : Int64 × Int32) : Int64 × Int32 := (w.1 * (if bt (x ||| y) p = false then 1 else if bt (nI s) p then t.toInt64 else (10 - t).toInt64), w.2 + (if bt (x ||| y) p = false then 0 else if bt x p then wt p + (if bt (nI s) p then k else 0) else -(wt p + (if bt (nI s) p then k else 0))))
def ciR (x y t k : Int32) (wt : Nat → Int32) (s : Nat) : Int64 × Int32 := itr (ciS x y t k wt s) 8 0 (1, 0)
def coS (x y t k w : Int32) (wt : Nat → Int32) (j : Nat) (z : Int64 × Int64) : Int64 × Int64 := if nI j &&& ((x ||| y) ^^^ -1) = 0 then (z.1 + (if w = 1 then (ciR x y t k wt j).1 * (ciR x y t k wt j).2.toInt64 else if (ciR x y t k wt j).2 ≤ 0 then 0 else (ciR x y t k wt j).1), z.2 + (ciR x y t k wt j).1) else z
def coR (x y t k w : Int32) (wt : Nat → Int32) : Int64 × Int64 := itr (coS x y t k w wt) 256 0 (0, 0)
def coG (x y t k w : Int32) (wt : Nat → Int32) : Int64 := gcL 200 (coR x y t k w wt).2 (la (coR x y t k w wt).1)
def mChance (x y t k w h : Int32) (μ : MemT) : Int64 := if arS x y (μ 58 0) = false then -1000000000000000001 else if (inR t 0 10 && (inR k 1 50 && (inR w 0 1 && inR h 0 1))) = false then -1000000000000000002 else if h = 0 then (coR x y t k w (μ 60)).1 / coG x y t k w (μ 60) else (coR x y t k w (μ 60)).2 / coG x y t k w (μ 60)
def ChOk (x y t k w h : Int32) (μ : MemT) : Prop := arS x y (μ 58 0) = true → inR t 0 10 = true → inR k 1 50 = true → inR w 0 1 = true → inR h 0 1 = true → ∃ n, EuN n (coR x y t k w (μ 60)).2 (la (coR x y t k w (μ 60)).1) (coG x y t k w (μ 60)) ∧ coG x y t k w (μ 60) ≠ 0
def ynx (x : Int32) : Int32 := (75 * x.toInt64 + 74 - (75 * x.toInt64 + 74) / 65537 * 65537).toInt32
def ymG (x : Int32) (c : MemT) : MemT := if x / 8 - x / 8 / 2 * 2 = 1 then mDay c else c
def ymU (p : Int32) (c : MemT) : Int32 := (1 <<< (p &&& 31)) ||| (if 0 ≤ c 62 (cl p) then 1 <<< (c 62 (cl p) &&& 31) else (0 : Int32))
abbrev YmT : Type := Int32 × Int32 × Int32 × Int32 × MemT
def ymP (x a g n : Int32) (c : MemT) : YmT := if isP (c 58 0) (md8 x) then (x, a + sumB (ymU (md8 x) c) (c 59), g + wcB (ymU (md8 x) c) (c 58 1) (c 60), n + (if abI (sumB (ymU (md8 x) c) (c 59) - wcB (ymU (md8 x) c) (c 58 1) (c 60)) ≤ c 58 2 then 0 else 1), c) else (x, a, g, n, c)
def ymS (_ : Nat) (w : YmT) : YmT := ymP (ynx w.1) w.2.1 w.2.2.1 w.2.2.2.1 (ymG (ynx w.1) w.2.2.2.2)
def ymR (q : Nat) (s : Int32) (μ : MemT) : YmT := itr ymS q 0 (s, 0, 0, 0, mKeep μ)
def mYear (s m w : Int32) (μ : MemT) : Int32 × MemT := if (inR s 0 9999 && (inR m 1 99 && inR w 0 2)) = false then (-2, μ) else (if w = 0 then (ymR (cl m) s μ).2.1 else if w = 1 then (ymR (cl m) s μ).2.2.1 else (ymR (cl m) s μ).2.2.2.1, mBack (ymR (cl m) s μ).2.2.2.2)
def psV (i : Nat) (x : Int32) (μ : MemT) : Int32 := if μ 58 40 = 0 then μ 77 i else x
def psM (i : Nat) (x : Int32) (μ : MemT) : MemT := mset (mset μ 77 (upd (μ 77) i (psV i x μ))) 58 (upd (μ 58) 39 (nI (i + 1)))
def psF (f i : Nat) (m : MemT) : MemT := mset (psM i (m 58 f) m) 58 (upd (psM i (m 58 f) m 58) f (psV i (m 58 f) m))
def psR (r j i : Nat) (m : MemT) : MemT := mset (psM i (m r j) m) r (upd (psM i (m r j) m r) j (psV i (m r j) m))
def psH (b : Nat) (m : MemT) : MemT := psF 11 (b + 4) (psF 3 (b + 3) (psF 2 (b + 2) (psF 1 (b + 1) (psF 0 b m))))
def psJ (b j : Nat) (m : MemT) : MemT := psR 65 j (b + 5 + 7 * j + 6) (psR 64 j (b + 5 + 7 * j + 5) (psR 63 j (b + 5 + 7 * j + 4) (psR 62 j (b + 5 + 7 * j + 3) (psR 61 j (b + 5 + 7 * j + 2) (psR 60 j (b + 5 + 7 * j + 1) (psR 59 j (b + 5 + 7 * j) m))))))
def psA (b : Nat) (m : MemT) : MemT := itr (psJ b) 8 0 (psH b m)
theorem psF_39 {f i : Nat} {m : MemT} (h : f ≠ 39) : psF f i m 58 39 = nI (i + 1) := by simp [psF, psM, mset, upd, Ne.symm h]
theorem psR_39 {r j i : Nat} {m : MemT} (h : r ≠ 58) : psR r j i m 58 39 = nI (i + 1) := by simp [psR, psM, mset, upd, Ne.symm h]
def imW (b w : Int32) (μ : MemT) : MemT := mset μ 58 (upd (upd (μ 58) 39 b) 40 w)
def mImage (x : Int32) (μ : MemT) : Int32 × MemT := if inR x 0 1 = false then (-2, μ) else (1, mset (psA (80 * cl x) (imW (80 * x) 1 μ)) 78 (upd (psA (80 * cl x) (imW (80 * x) 1 μ) 78) (cl x) 1))
def mRestore (x : Int32) (μ : MemT) : Int32 × MemT := if inR x 0 1 = false then (-2, μ) else if μ 78 (cl x) = 0 then (-3, μ) else (1, psA (80 * cl x) (imW (80 * x) 0 μ))
def mTell (p k : Int32) (μ : MemT) : Int32 := if isP (μ 58 0) p = false then -2 else if k = 0 then μ 59 (cl p) else if k = 1 then μ 60 (cl p) else if k = 2 then μ 61 (cl p) + 9 else if k = 3 then μ 62 (cl p) else -2
def mTold (w : Int32) (μ : MemT) : Int32 := if inR w 10 89 then mTell (w / 10 - 1) (w - w / 10 * 10) μ else if w = 0 then μ 58 13 else if w = 1 then μ 58 0 else if w = 2 then μ 58 1 else if w = 3 then μ 58 2 else if w = 4 then μ 58 3 else if w = 5 then μ 58 11 else -2

set_option maxRecDepth 100000 in
set_option maxHeartbeats 4000000 in
theorem kX8_lowest {l : Launch} {G : GT} {μ : MemT} {x y : Int64} {w : Int32} {n : Nat} {g : Int64} (hE : EuN n y (la x) g) (hg : g ≠ 0) : sw_Met l G yX8_lowest cX8_lowest 11 (some .long) (rmk 0 0) [.long x, .long y, .int w] μ (fun v μ2 => v = some (.long (if w = 0 then x / g else y / g)) ∧ μ2 = μ) := by
  refine sw_Met.ofY (by decide) (Nat.le_of_ble_eq_true rfl) rfl ?_
  refine y_lload_n dX8_lowest_0 rfl rfl ?_
  refine y_lstore dX8_lowest_1 rfl (by decide) ?_
  refine y_lload_n dX8_lowest_3 rfl rfl ?_
  refine y_lconst dX8_lowest_4 lc_0 ?_
  refine y_lcmp dX8_lowest_5 ?_
  refine y_if_ge 14 dX8_lowest_6 (by decide) (fun h6 => ?_) (fun h6 => ?_)
  · refine y_lload_n dX8_lowest_14 rfl rfl ?_
    refine y_lstore dX8_lowest_15 rfl (by decide) ?_
    refine y_loop2 (fun (j : Nat) (a : Int64) (c : Int64) => [some (.long x), none, some (.long y), none, some (.int w), some (.long a), none, some (.long c), none, none, none]) (fun (j : Nat) (a : Int64) (c : Int64) => μ) (fun (j : Nat) (a : Int64) (c : Int64) => EuN (n - j) a c g) n (fun a c hv17 => ?_) (fun j a c hj hv17 ih17 => ?_) 0 (y) (_) (Nat.zero_le _) ((by unfold la at hE; first | (rw [if_pos h6] at hE; exact hE) | (rw [if_neg h6] at hE; exact hE)))
    · rw [Nat.sub_self, EuN] at hv17
      refine y_lload dX8_lowest_17 rfl ?_
      refine y_lconst dX8_lowest_19 lc_0 ?_
      refine y_lcmp dX8_lowest_20 ?_
      refine y_if_eq 42 dX8_lowest_21 (by decide) (fun _ => ?_) (fun hq => absurd ((lg0 _ _).mpr hv17.1) hq)
      refine y_iload dX8_lowest_42 rfl ?_
      refine y_if_ne 54 dX8_lowest_44 (by decide) (fun h44 => ?_) (fun h44 => ?_)
      · refine y_lload_n dX8_lowest_54 rfl rfl ?_
        refine y_lload dX8_lowest_55 rfl ?_
        refine y_ldiv dX8_lowest_57 (fun q => hg (hv17.2.symm.trans q)) ?_
        refine y_lret dX8_lowest_58 ?_
        first
          | exact ⟨by rw [if_pos h44, hv17.2], rfl⟩
          | exact ⟨by rw [if_neg h44, hv17.2], rfl⟩
      · refine y_lload_n dX8_lowest_47 rfl rfl ?_
        refine y_lload dX8_lowest_48 rfl ?_
        refine y_ldiv dX8_lowest_50 (fun q => hg (hv17.2.symm.trans q)) ?_
        refine y_goto 58 dX8_lowest_51 (by decide) ?_
        refine y_lret dX8_lowest_58 ?_
        first
          | exact ⟨by rw [if_pos h44, hv17.2], rfl⟩
          | exact ⟨by rw [if_neg h44, hv17.2], rfl⟩
    · rw [sub_s hj, EuN] at hv17
      refine y_lload dX8_lowest_17 rfl ?_
      refine y_lconst dX8_lowest_19 lc_0 ?_
      refine y_lcmp dX8_lowest_20 ?_
      refine y_if_eq 42 dX8_lowest_21 (by decide) (fun hq => absurd ((lg0 _ _).mp hq) hv17.1) (fun _ => ?_)
      refine y_lload dX8_lowest_24 rfl ?_
      refine y_lload dX8_lowest_26 rfl ?_
      refine y_lrem dX8_lowest_28 hv17.1 ?_
      refine y_lstore dX8_lowest_29 rfl (by decide) ?_
      refine y_lload dX8_lowest_31 rfl ?_
      refine y_lstore dX8_lowest_33 rfl (by decide) ?_
      refine y_lload dX8_lowest_35 rfl ?_
      refine y_lstore dX8_lowest_37 rfl (by decide) ?_
      refine y_goto 17 dX8_lowest_39 (by decide) ?_
      exact y_drop 9 (ih17 _ _ hv17.2)
  · refine y_lload_n dX8_lowest_9 rfl rfl ?_
    refine y_lneg dX8_lowest_10 ?_
    refine y_goto 15 dX8_lowest_11 (by decide) ?_
    refine y_lstore dX8_lowest_15 rfl (by decide) ?_
    refine y_loop2 (fun (j : Nat) (a : Int64) (c : Int64) => [some (.long x), none, some (.long y), none, some (.int w), some (.long a), none, some (.long c), none, none, none]) (fun (j : Nat) (a : Int64) (c : Int64) => μ) (fun (j : Nat) (a : Int64) (c : Int64) => EuN (n - j) a c g) n (fun a c hv17 => ?_) (fun j a c hj hv17 ih17 => ?_) 0 (y) (_) (Nat.zero_le _) ((by unfold la at hE; first | (rw [if_pos h6] at hE; exact hE) | (rw [if_neg h6] at hE; exact hE)))
    · rw [Nat.sub_self, EuN] at hv17
      refine y_lload dX8_lowest_17 rfl ?_
      refine y_lconst dX8_lowest_19 lc_0 ?_
      refine y_lcmp dX8_lowest_20 ?_
      refine y_if_eq 42 dX8_lowest_21 (by decide) (fun _ => ?_) (fun hq => absurd ((lg0 _ _).mpr hv17.1) hq)
      refine y_iload dX8_lowest_42 rfl ?_
      refine y_if_ne 54 dX8_lowest_44 (by decide) (fun h44 => ?_) (fun h44 => ?_)
      · refine y_lload_n dX8_lowest_54 rfl rfl ?_
        refine y_lload dX8_lowest_55 rfl ?_
        refine y_ldiv dX8_lowest_57 (fun q => hg (hv17.2.symm.trans q)) ?_
        refine y_lret dX8_lowest_58 ?_
        first
          | exact ⟨by rw [if_pos h44, hv17.2], rfl⟩
          | exact ⟨by rw [if_neg h44, hv17.2], rfl⟩
      · refine y_lload_n dX8_lowest_47 rfl rfl ?_
        refine y_lload dX8_lowest_48 rfl ?_
        refine y_ldiv dX8_lowest_50 (fun q => hg (hv17.2.symm.trans q)) ?_
        refine y_goto 58 dX8_lowest_51 (by decide) ?_
        refine y_lret dX8_lowest_58 ?_
        first
          | exact ⟨by rw [if_pos h44, hv17.2], rfl⟩
          | exact ⟨by rw [if_neg h44, hv17.2], rfl⟩
    · rw [sub_s hj, EuN] at hv17
      refine y_lload dX8_lowest_17 rfl ?_
      refine y_lconst dX8_lowest_19 lc_0 ?_
      refine y_lcmp dX8_lowest_20 ?_
      refine y_if_eq 42 dX8_lowest_21 (by decide) (fun hq => absurd ((lg0 _ _).mp hq) hv17.1) (fun _ => ?_)
      refine y_lload dX8_lowest_24 rfl ?_
      refine y_lload dX8_lowest_26 rfl ?_
      refine y_lrem dX8_lowest_28 hv17.1 ?_
      refine y_lstore dX8_lowest_29 rfl (by decide) ?_
      refine y_lload dX8_lowest_31 rfl ?_
      refine y_lstore dX8_lowest_33 rfl (by decide) ?_
      refine y_lload dX8_lowest_35 rfl ?_
      refine y_lstore dX8_lowest_37 rfl (by decide) ?_
      refine y_goto 17 dX8_lowest_39 (by decide) ?_
      exact y_drop 9 (ih17 _ _ hv17.2)

set_option maxRecDepth 100000 in
set_option maxHeartbeats 4000000 in
theorem kX8_chance {l : Launch} {G : GT} {μ : MemT} {x y t k w h : Int32} (hE : ChOk x y t k w h μ) : sw_Met l G yX8_chance cX8_chance 20 (some .long) (rmk 2 47) [.ref (G.2.1 58), .int x, .int y, .int t, .int k, .int w, .int h] μ (fun v μ2 => v = some (.long (mChance x y t k w h μ)) ∧ μ2 = μ) := by
  refine sw_Met.ofY (by decide) (Nat.le_of_ble_eq_true rfl) rfl ?_
  refine y_aload_n dX8_chance_0 rfl rfl ?_
  refine y_iload_n dX8_chance_1 rfl rfl ?_
  refine y_iload_n dX8_chance_2 rfl rfl ?_
  refine y_cV2 dX8_chance_3 meX8_areSides clX8 kd_58 wm_ml_X8_249 (kX8_areSides) ⟨Nat.le_of_ble_eq_true rfl, Nat.le_of_ble_eq_true rfl⟩ ⟨rfl, rfl⟩ (Nat.le_of_ble_eq_true rfl) (fun v3 μ3 hp3 => ?_)
  obtain ⟨rfl, he3⟩ := hp3
  replace he3 := he3.symm
  subst he3
  refine y_ri ?_
  refine y_ifb_ne 13 dX8_chance_6 (by decide) (fun h6 => ?_) (fun h6 => ?_)
  · refine y_iload_n dX8_chance_13 rfl rfl ?_
    refine y_i2l dX8_chance_14 ?_
    refine y_lconst dX8_chance_15 lc_0 ?_
    refine y_ldc2 dX8_chance_16 wm_cl_X8_281 ?_
    refine y_cS3 dX8_chance_19 meX8_in wm_ml_X8_77 (kX8_in (A := 0) (B := 10) rfl rfl) ⟨Nat.le_of_ble_eq_true rfl, Nat.le_of_ble_eq_true rfl⟩ ⟨rfl, rfl⟩ (Nat.le_of_ble_eq_true rfl) (fun v19 μ19 hp19 => ?_)
    obtain ⟨rfl, he19⟩ := hp19
    replace he19 := he19.symm
    subst he19
    refine y_ri ?_
    refine y_ifb_eq 60 dX8_chance_22 (by decide) (fun h22 => ?_) (fun h22 => ?_)
    · refine y_ldc2 dX8_chance_60 wm_cl_X8_285 ?_
      refine y_lret dX8_chance_63 ?_
      exact ⟨by simp_all [mChance], rfl⟩
    · refine y_iload dX8_chance_25 rfl ?_
      refine y_i2l dX8_chance_27 ?_
      refine y_lconst dX8_chance_28 lc_1 ?_
      refine y_ldc2 dX8_chance_29 wm_cl_X8_283 ?_
      refine y_cS3 dX8_chance_32 meX8_in wm_ml_X8_77 (kX8_in (A := 1) (B := 50) rfl rfl) ⟨Nat.le_of_ble_eq_true rfl, Nat.le_of_ble_eq_true rfl⟩ ⟨rfl, rfl⟩ (Nat.le_of_ble_eq_true rfl) (fun v32 μ32 hp32 => ?_)
      obtain ⟨rfl, he32⟩ := hp32
      replace he32 := he32.symm
      subst he32
      refine y_ri ?_
      refine y_ifb_eq 60 dX8_chance_35 (by decide) (fun h35 => ?_) (fun h35 => ?_)
      · refine y_ldc2 dX8_chance_60 wm_cl_X8_285 ?_
        refine y_lret dX8_chance_63 ?_
        exact ⟨by simp_all [mChance], rfl⟩
      · refine y_iload dX8_chance_38 rfl ?_
        refine y_i2l dX8_chance_40 ?_
        refine y_lconst dX8_chance_41 lc_0 ?_
        refine y_lconst dX8_chance_42 lc_1 ?_
        refine y_cS3 dX8_chance_43 meX8_in wm_ml_X8_77 (kX8_in (A := 0) (B := 1) rfl rfl) ⟨Nat.le_of_ble_eq_true rfl, Nat.le_of_ble_eq_true rfl⟩ ⟨rfl, rfl⟩ (Nat.le_of_ble_eq_true rfl) (fun v43 μ43 hp43 => ?_)
        obtain ⟨rfl, he43⟩ := hp43
        replace he43 := he43.symm
        subst he43
        refine y_ri ?_
        refine y_ifb_eq 60 dX8_chance_46 (by decide) (fun h46 => ?_) (fun h46 => ?_)
        · refine y_ldc2 dX8_chance_60 wm_cl_X8_285 ?_
          refine y_lret dX8_chance_63 ?_
          exact ⟨by simp_all [mChance], rfl⟩
        · refine y_iload dX8_chance_49 rfl ?_
          refine y_i2l dX8_chance_51 ?_
          refine y_lconst dX8_chance_52 lc_0 ?_
          refine y_lconst dX8_chance_53 lc_1 ?_
          refine y_cS3 dX8_chance_54 meX8_in wm_ml_X8_77 (kX8_in (A := 0) (B := 1) rfl rfl) ⟨Nat.le_of_ble_eq_true rfl, Nat.le_of_ble_eq_true rfl⟩ ⟨rfl, rfl⟩ (Nat.le_of_ble_eq_true rfl) (fun v54 μ54 hp54 => ?_)
          obtain ⟨rfl, he54⟩ := hp54
          replace he54 := he54.symm
          subst he54
          refine y_ri ?_
          refine y_ifb_ne 64 dX8_chance_57 (by decide) (fun h57 => ?_) (fun h57 => ?_)
          · obtain ⟨n, hE1, hg⟩ := hE h6 h22 h35 h46 h57
            refine y_iload_n dX8_chance_64 rfl rfl ?_
            refine y_iload_n dX8_chance_65 rfl rfl ?_
            refine y_ior dX8_chance_66 ?_
            refine y_istore dX8_chance_67 rfl (by decide) ?_
            refine y_lconst dX8_chance_69 lc_0 ?_
            refine y_lstore dX8_chance_70 rfl (by decide) ?_
            refine y_lconst dX8_chance_72 lc_0 ?_
            refine y_lstore dX8_chance_73 rfl (by decide) ?_
            refine y_iconst (v := nI 0) dX8_chance_75 icn_0 ?_
            refine y_istore dX8_chance_76 rfl (by decide) ?_
            refine y_loop2 (fun (j : Nat) (u : Int64) (v : Int64) => [some (.ref (G.2.1 58)), some (.int x), some (.int y), some (.int t), some (.int k), some (.int w), some (.int h), some (.int (x ||| y)), some (.long u), none, some (.long v), none, some (.int (nI j)), none, none, none, none, none, none, none]) (fun (j : Nat) (u : Int64) (v : Int64) => μ) (fun (j : Nat) (u : Int64) (v : Int64) => itr (coS x y t k w (μ 60)) (256 - j) j (u, v) = coR x y t k w (μ 60)) 256 (fun u v hv78 => ?_) (fun j u v hj hv78 ih78 => ?_) 0 (0) (0) (Nat.zero_le _) (rfl)
            · have hz := itr_ex hv78
              clear hv78
              have hz1 : u = (coR x y t k w (μ 60)).1 := by rw [← hz]
              have hz2 : v = (coR x y t k w (μ 60)).2 := by rw [← hz]
              clear hz
              subst hz1
              subst hz2
              refine y_iload dX8_chance_78 rfl ?_
              refine y_sipush dX8_chance_80 is_256 ?_
              refine y_icmp_ge 280 dX8_chance_83 (by decide) (fun _ => ?_) (fun hq => absurd (by decide) hq)
              refine y_lload dX8_chance_280 rfl ?_
              refine y_lload dX8_chance_282 rfl ?_
              refine y_iload dX8_chance_284 rfl ?_
              refine y_cS3 dX8_chance_286 meX8_lowest wm_ml_X8_287 (kX8_lowest hE1 hg) ⟨Nat.le_of_ble_eq_true rfl, Nat.le_of_ble_eq_true rfl⟩ ⟨rfl, rfl⟩ (Nat.le_of_ble_eq_true rfl) (fun v286 μ286 hp286 => ?_)
              obtain ⟨rfl, he286⟩ := hp286
              replace he286 := he286.symm
              subst he286
              refine y_rl ?_
              refine y_lret dX8_chance_289 ?_
              exact ⟨by simp_all [mChance, coG], rfl⟩
            · refine y_iload dX8_chance_78 rfl ?_
              refine y_sipush dX8_chance_80 is_256 ?_
              refine y_icmp_ge 280 dX8_chance_83 (by decide) (fun hq => absurd hq (nI_ge (b := 256) hj (by decide))) (fun _ => ?_)
              refine y_iload dX8_chance_86 rfl ?_
              refine y_iload dX8_chance_88 rfl ?_
              refine y_iconst dX8_chance_90 ic_m1 ?_
              refine y_ixor dX8_chance_91 ?_
              refine y_iand dX8_chance_92 ?_
              refine y_if_ne 274 dX8_chance_93 (by decide) (fun h93 => ?_) (fun h93 => ?_)
              · refine y_iinc (v := nI (j + 1)) dX8_chance_274 rfl (nI_i1 _) rfl (by decide) ?_
                refine y_goto 78 dX8_chance_277 (by decide) ?_
                exact ih78 _ _ (itr_nx hj hv78 (by rw [coS, if_neg h93]))
              · refine y_lconst dX8_chance_96 lc_1 ?_
                refine y_lstore dX8_chance_97 rfl (by decide) ?_
                refine y_iconst dX8_chance_99 ic_0 ?_
                refine y_istore dX8_chance_100 rfl (by decide) ?_
                refine y_iconst (v := nI 0) dX8_chance_102 icn_0 ?_
                refine y_istore dX8_chance_103 rfl (by decide) ?_
                refine y_loop2 (fun (jp : Nat) (f : Int64) (a : Int32) => [some (.ref (G.2.1 58)), some (.int x), some (.int y), some (.int t), some (.int k), some (.int w), some (.int h), some (.int (x ||| y)), some (.long u), none, some (.long v), none, some (.int (nI j)), some (.long f), none, some (.int a), some (.int (nI jp)), none, none, none]) (fun (jp : Nat) (f : Int64) (a : Int32) => μ) (fun (jp : Nat) (f : Int64) (a : Int32) => itr (ciS x y t k (μ 60) j) (8 - jp) jp (f, a) = ciR x y t k (μ 60) j) 8 (fun f a hv105 => ?_) (fun jp f a hjp hv105 ih105 => ?_) 0 (1) (0) (Nat.zero_le _) (rfl)
                · have hz := itr_ex hv105
                  clear hv105
                  have hz1 : f = (ciR x y t k (μ 60) j).1 := by rw [← hz]
                  have hz2 : a = (ciR x y t k (μ 60) j).2 := by rw [← hz]
                  clear hz
                  subst hz1
                  subst hz2
                  refine y_iload dX8_chance_105 rfl ?_
                  refine y_bipush dX8_chance_107 ib_8 ?_
                  refine y_icmp_ge 236 dX8_chance_109 (by decide) (fun _ => ?_) (fun hq => absurd (by decide) hq)
                  refine y_lload dX8_chance_236 rfl ?_
                  refine y_lload dX8_chance_238 rfl ?_
                  refine y_ladd dX8_chance_240 ?_
                  refine y_lstore dX8_chance_241 rfl (by decide) ?_
                  refine y_lload dX8_chance_243 rfl ?_
                  refine y_iload dX8_chance_245 rfl ?_
                  refine y_iconst dX8_chance_247 ic_1 ?_
                  refine y_icmp_ne 260 dX8_chance_248 (by decide) (fun h248 => ?_) (fun h248 => ?_)
                  · refine y_iload dX8_chance_260 rfl ?_
                    refine y_if_le 270 dX8_chance_262 (by decide) (fun h262 => ?_) (fun h262 => ?_)
                    · refine y_lconst dX8_chance_270 lc_0 ?_
                      refine y_ladd dX8_chance_271 ?_
                      refine y_lstore dX8_chance_272 rfl (by decide) ?_
                      refine y_iinc (v := nI (j + 1)) dX8_chance_274 rfl (nI_i1 _) rfl (by decide) ?_
                      refine y_goto 78 dX8_chance_277 (by decide) ?_
                      exact y_drop 19 (y_drop 18 (y_drop 17 (y_drop 16 (y_drop 15 (y_drop 13 (ih78 _ _ (itr_nx hj hv78 (by rw [coS, if_pos h93, if_neg h248, if_pos h262]))))))))
                    · refine y_lload dX8_chance_265 rfl ?_
                      refine y_goto 271 dX8_chance_267 (by decide) ?_
                      refine y_ladd dX8_chance_271 ?_
                      refine y_lstore dX8_chance_272 rfl (by decide) ?_
                      refine y_iinc (v := nI (j + 1)) dX8_chance_274 rfl (nI_i1 _) rfl (by decide) ?_
                      refine y_goto 78 dX8_chance_277 (by decide) ?_
                      exact y_drop 19 (y_drop 18 (y_drop 17 (y_drop 16 (y_drop 15 (y_drop 13 (ih78 _ _ (itr_nx hj hv78 (by rw [coS, if_pos h93, if_neg h248, if_neg h262]))))))))
                  · refine y_lload dX8_chance_251 rfl ?_
                    refine y_iload dX8_chance_253 rfl ?_
                    refine y_i2l dX8_chance_255 ?_
                    refine y_lmul dX8_chance_256 ?_
                    refine y_goto 271 dX8_chance_257 (by decide) ?_
                    refine y_ladd dX8_chance_271 ?_
                    refine y_lstore dX8_chance_272 rfl (by decide) ?_
                    refine y_iinc (v := nI (j + 1)) dX8_chance_274 rfl (nI_i1 _) rfl (by decide) ?_
                    refine y_goto 78 dX8_chance_277 (by decide) ?_
                    exact y_drop 19 (y_drop 18 (y_drop 17 (y_drop 16 (y_drop 15 (y_drop 13 (ih78 _ _ (itr_nx hj hv78 (by rw [coS, if_pos h93, if_pos h248]))))))))
                · refine y_iload dX8_chance_105 rfl ?_
                  refine y_bipush dX8_chance_107 ib_8 ?_
                  refine y_icmp_ge 236 dX8_chance_109 (by decide) (fun hq => absurd hq (nI_ge (b := 8) hjp (by decide))) (fun _ => ?_)
                  refine y_iload dX8_chance_112 rfl ?_
                  refine y_iload dX8_chance_114 rfl ?_
                  refine y_ishr dX8_chance_116 ?_
                  refine y_iconst dX8_chance_117 ic_1 ?_
                  refine y_iand dX8_chance_118 ?_
                  refine y_iconst dX8_chance_119 ic_1 ?_
                  refine y_icmp_ne 127 dX8_chance_120 (by decide) (fun h120 => ?_) (fun h120 => ?_)
                  · refine y_iconst dX8_chance_127 ic_0 ?_
                    refine y_istore dX8_chance_128 rfl (by decide) ?_
                    refine y_iload dX8_chance_130 rfl ?_
                    refine y_iload dX8_chance_132 rfl ?_
                    refine y_ishr dX8_chance_134 ?_
                    refine y_iconst dX8_chance_135 ic_1 ?_
                    refine y_iand dX8_chance_136 ?_
                    refine y_iconst dX8_chance_137 ic_1 ?_
                    refine y_icmp_ne 145 dX8_chance_138 (by decide) (fun h138 => ?_) (fun h138 => ?_)
                    · refine y_iconst dX8_chance_145 ic_0 ?_
                      refine y_istore dX8_chance_146 rfl (by decide) ?_
                      refine y_aload_n dX8_chance_148 rfl rfl ?_
                      refine y_getr dX8_chance_149 5 clX8 kd_58 (by decide) wm_fl_X8_13 rfl rfl ?_
                      refine y_iload dX8_chance_152 rfl ?_
                      refine y_iald dX8_chance_154 jp kd_60 rfl (by first | assumption | decide | omega) (by decide) ?_
                      refine y_iload dX8_chance_155 rfl ?_
                      refine y_if_eq 165 dX8_chance_157 (by decide) (fun _ => ?_) (fun hq => absurd hq (by decide))
                      refine y_iconst dX8_chance_165 ic_0 ?_
                      refine y_iadd dX8_chance_166 ?_
                      refine y_istore dX8_chance_167 rfl (by decide) ?_
                      refine y_lload dX8_chance_169 rfl ?_
                      refine y_iload dX8_chance_171 rfl ?_
                      refine y_if_ne 180 dX8_chance_173 (by decide) (fun hq => absurd hq (by decide)) (fun _ => ?_)
                      refine y_lconst dX8_chance_176 lc_1 ?_
                      refine y_goto 195 dX8_chance_177 (by decide) ?_
                      refine y_lmul dX8_chance_195 ?_
                      refine y_lstore dX8_chance_196 rfl (by decide) ?_
                      refine y_iload dX8_chance_198 rfl ?_
                      refine y_iload dX8_chance_200 rfl ?_
                      refine y_if_ne 209 dX8_chance_202 (by decide) (fun hq => absurd hq (by decide)) (fun _ => ?_)
                      refine y_iconst dX8_chance_205 ic_0 ?_
                      refine y_goto 227 dX8_chance_206 (by decide) ?_
                      refine y_iadd dX8_chance_227 ?_
                      refine y_istore dX8_chance_228 rfl (by decide) ?_
                      refine y_iinc (v := nI (jp + 1)) dX8_chance_230 rfl (nI_i1 _) rfl (by decide) ?_
                      refine y_goto 105 dX8_chance_233 (by decide) ?_
                      exact y_drop 19 (y_drop 18 (y_drop 17 (ih105 _ _ (itr_nx hjp hv105 (by clear ih105 ih78 hv105 hv78 hE1 hg; simp_all [ciS, bt, bitI])))))
                    · refine y_iconst dX8_chance_141 ic_1 ?_
                      refine y_goto 146 dX8_chance_142 (by decide) ?_
                      refine y_istore dX8_chance_146 rfl (by decide) ?_
                      refine y_aload_n dX8_chance_148 rfl rfl ?_
                      refine y_getr dX8_chance_149 5 clX8 kd_58 (by decide) wm_fl_X8_13 rfl rfl ?_
                      refine y_iload dX8_chance_152 rfl ?_
                      refine y_iald dX8_chance_154 jp kd_60 rfl (by first | assumption | decide | omega) (by decide) ?_
                      refine y_iload dX8_chance_155 rfl ?_
                      refine y_if_eq 165 dX8_chance_157 (by decide) (fun _ => ?_) (fun hq => absurd hq (by decide))
                      refine y_iconst dX8_chance_165 ic_0 ?_
                      refine y_iadd dX8_chance_166 ?_
                      refine y_istore dX8_chance_167 rfl (by decide) ?_
                      refine y_lload dX8_chance_169 rfl ?_
                      refine y_iload dX8_chance_171 rfl ?_
                      refine y_if_ne 180 dX8_chance_173 (by decide) (fun _ => ?_) (fun hq => absurd hq (by decide))
                      refine y_iload dX8_chance_180 rfl ?_
                      refine y_if_eq 190 dX8_chance_182 (by decide) (fun _ => ?_) (fun hq => absurd hq (by decide))
                      refine y_bipush dX8_chance_190 ib_10 ?_
                      refine y_iload_n dX8_chance_192 rfl rfl ?_
                      refine y_isub dX8_chance_193 ?_
                      refine y_i2l dX8_chance_194 ?_
                      refine y_lmul dX8_chance_195 ?_
                      refine y_lstore dX8_chance_196 rfl (by decide) ?_
                      refine y_iload dX8_chance_198 rfl ?_
                      refine y_iload dX8_chance_200 rfl ?_
                      refine y_if_ne 209 dX8_chance_202 (by decide) (fun _ => ?_) (fun hq => absurd hq (by decide))
                      refine y_iload_n dX8_chance_209 rfl rfl ?_
                      refine y_iload dX8_chance_210 rfl ?_
                      refine y_ishr dX8_chance_212 ?_
                      refine y_iconst dX8_chance_213 ic_1 ?_
                      refine y_iand dX8_chance_214 ?_
                      refine y_iconst dX8_chance_215 ic_1 ?_
                      refine y_icmp_ne 224 dX8_chance_216 (by decide) (fun h216 => ?_) (fun h216 => ?_)
                      · refine y_iload dX8_chance_224 rfl ?_
                        refine y_ineg dX8_chance_226 ?_
                        refine y_iadd dX8_chance_227 ?_
                        refine y_istore dX8_chance_228 rfl (by decide) ?_
                        refine y_iinc (v := nI (jp + 1)) dX8_chance_230 rfl (nI_i1 _) rfl (by decide) ?_
                        refine y_goto 105 dX8_chance_233 (by decide) ?_
                        exact y_drop 19 (y_drop 18 (y_drop 17 (ih105 _ _ (itr_nx hjp hv105 (by clear ih105 ih78 hv105 hv78 hE1 hg; simp_all [ciS, bt, bitI])))))
                      · refine y_iload dX8_chance_219 rfl ?_
                        refine y_goto 227 dX8_chance_221 (by decide) ?_
                        refine y_iadd dX8_chance_227 ?_
                        refine y_istore dX8_chance_228 rfl (by decide) ?_
                        refine y_iinc (v := nI (jp + 1)) dX8_chance_230 rfl (nI_i1 _) rfl (by decide) ?_
                        refine y_goto 105 dX8_chance_233 (by decide) ?_
                        exact y_drop 19 (y_drop 18 (y_drop 17 (ih105 _ _ (itr_nx hjp hv105 (by clear ih105 ih78 hv105 hv78 hE1 hg; simp_all [ciS, bt, bitI])))))
                  · refine y_iconst dX8_chance_123 ic_1 ?_
                    refine y_goto 128 dX8_chance_124 (by decide) ?_
                    refine y_istore dX8_chance_128 rfl (by decide) ?_
                    refine y_iload dX8_chance_130 rfl ?_
                    refine y_iload dX8_chance_132 rfl ?_
                    refine y_ishr dX8_chance_134 ?_
                    refine y_iconst dX8_chance_135 ic_1 ?_
                    refine y_iand dX8_chance_136 ?_
                    refine y_iconst dX8_chance_137 ic_1 ?_
                    refine y_icmp_ne 145 dX8_chance_138 (by decide) (fun h138 => ?_) (fun h138 => ?_)
                    · refine y_iconst dX8_chance_145 ic_0 ?_
                      refine y_istore dX8_chance_146 rfl (by decide) ?_
                      refine y_aload_n dX8_chance_148 rfl rfl ?_
                      refine y_getr dX8_chance_149 5 clX8 kd_58 (by decide) wm_fl_X8_13 rfl rfl ?_
                      refine y_iload dX8_chance_152 rfl ?_
                      refine y_iald dX8_chance_154 jp kd_60 rfl (by first | assumption | decide | omega) (by decide) ?_
                      refine y_iload dX8_chance_155 rfl ?_
                      refine y_if_eq 165 dX8_chance_157 (by decide) (fun hq => absurd hq (by decide)) (fun _ => ?_)
                      refine y_iload dX8_chance_160 rfl ?_
                      refine y_goto 166 dX8_chance_162 (by decide) ?_
                      refine y_iadd dX8_chance_166 ?_
                      refine y_istore dX8_chance_167 rfl (by decide) ?_
                      refine y_lload dX8_chance_169 rfl ?_
                      refine y_iload dX8_chance_171 rfl ?_
                      refine y_if_ne 180 dX8_chance_173 (by decide) (fun hq => absurd hq (by decide)) (fun _ => ?_)
                      refine y_lconst dX8_chance_176 lc_1 ?_
                      refine y_goto 195 dX8_chance_177 (by decide) ?_
                      refine y_lmul dX8_chance_195 ?_
                      refine y_lstore dX8_chance_196 rfl (by decide) ?_
                      refine y_iload dX8_chance_198 rfl ?_
                      refine y_iload dX8_chance_200 rfl ?_
                      refine y_if_ne 209 dX8_chance_202 (by decide) (fun hq => absurd hq (by decide)) (fun _ => ?_)
                      refine y_iconst dX8_chance_205 ic_0 ?_
                      refine y_goto 227 dX8_chance_206 (by decide) ?_
                      refine y_iadd dX8_chance_227 ?_
                      refine y_istore dX8_chance_228 rfl (by decide) ?_
                      refine y_iinc (v := nI (jp + 1)) dX8_chance_230 rfl (nI_i1 _) rfl (by decide) ?_
                      refine y_goto 105 dX8_chance_233 (by decide) ?_
                      exact y_drop 19 (y_drop 18 (y_drop 17 (ih105 _ _ (itr_nx hjp hv105 (by clear ih105 ih78 hv105 hv78 hE1 hg; simp_all [ciS, bt, bitI])))))
                    · refine y_iconst dX8_chance_141 ic_1 ?_
                      refine y_goto 146 dX8_chance_142 (by decide) ?_
                      refine y_istore dX8_chance_146 rfl (by decide) ?_
                      refine y_aload_n dX8_chance_148 rfl rfl ?_
                      refine y_getr dX8_chance_149 5 clX8 kd_58 (by decide) wm_fl_X8_13 rfl rfl ?_
                      refine y_iload dX8_chance_152 rfl ?_
                      refine y_iald dX8_chance_154 jp kd_60 rfl (by first | assumption | decide | omega) (by decide) ?_
                      refine y_iload dX8_chance_155 rfl ?_
                      refine y_if_eq 165 dX8_chance_157 (by decide) (fun hq => absurd hq (by decide)) (fun _ => ?_)
                      refine y_iload dX8_chance_160 rfl ?_
                      refine y_goto 166 dX8_chance_162 (by decide) ?_
                      refine y_iadd dX8_chance_166 ?_
                      refine y_istore dX8_chance_167 rfl (by decide) ?_
                      refine y_lload dX8_chance_169 rfl ?_
                      refine y_iload dX8_chance_171 rfl ?_
                      refine y_if_ne 180 dX8_chance_173 (by decide) (fun _ => ?_) (fun hq => absurd hq (by decide))
                      refine y_iload dX8_chance_180 rfl ?_
                      refine y_if_eq 190 dX8_chance_182 (by decide) (fun hq => absurd hq (by decide)) (fun _ => ?_)
                      refine y_iload_n dX8_chance_185 rfl rfl ?_
                      refine y_i2l dX8_chance_186 ?_
                      refine y_goto 195 dX8_chance_187 (by decide) ?_
                      refine y_lmul dX8_chance_195 ?_
                      refine y_lstore dX8_chance_196 rfl (by decide) ?_
                      refine y_iload dX8_chance_198 rfl ?_
                      refine y_iload dX8_chance_200 rfl ?_
                      refine y_if_ne 209 dX8_chance_202 (by decide) (fun _ => ?_) (fun hq => absurd hq (by decide))
                      refine y_iload_n dX8_chance_209 rfl rfl ?_
                      refine y_iload dX8_chance_210 rfl ?_
                      refine y_ishr dX8_chance_212 ?_
                      refine y_iconst dX8_chance_213 ic_1 ?_
                      refine y_iand dX8_chance_214 ?_
                      refine y_iconst dX8_chance_215 ic_1 ?_
                      refine y_icmp_ne 224 dX8_chance_216 (by decide) (fun h216 => ?_) (fun h216 => ?_)
                      · refine y_iload dX8_chance_224 rfl ?_
                        refine y_ineg dX8_chance_226 ?_
                        refine y_iadd dX8_chance_227 ?_
                        refine y_istore dX8_chance_228 rfl (by decide) ?_
                        refine y_iinc (v := nI (jp + 1)) dX8_chance_230 rfl (nI_i1 _) rfl (by decide) ?_
                        refine y_goto 105 dX8_chance_233 (by decide) ?_
                        exact y_drop 19 (y_drop 18 (y_drop 17 (ih105 _ _ (itr_nx hjp hv105 (by clear ih105 ih78 hv105 hv78 hE1 hg; simp_all [ciS, bt, bitI])))))
                      · refine y_iload dX8_chance_219 rfl ?_
                        refine y_goto 227 dX8_chance_221 (by decide) ?_
                        refine y_iadd dX8_chance_227 ?_
                        refine y_istore dX8_chance_228 rfl (by decide) ?_
                        refine y_iinc (v := nI (jp + 1)) dX8_chance_230 rfl (nI_i1 _) rfl (by decide) ?_
                        refine y_goto 105 dX8_chance_233 (by decide) ?_
                        exact y_drop 19 (y_drop 18 (y_drop 17 (ih105 _ _ (itr_nx hjp hv105 (by clear ih105 ih78 hv105 hv78 hE1 hg; simp_all [ciS, bt, bitI])))))
          · refine y_ldc2 dX8_chance_60 wm_cl_X8_285 ?_
            refine y_lret dX8_chance_63 ?_
            exact ⟨by simp_all [mChance], rfl⟩
  · refine y_ldc2 dX8_chance_9 wm_cl_X8_279 ?_
    refine y_lret dX8_chance_12 ?_
    exact ⟨by simp_all [mChance], rfl⟩

set_option maxRecDepth 100000 in
set_option maxHeartbeats 4000000 in
theorem kX8_year {l : Launch} {G : GT} {μ : MemT} {x y w : Int32} : sw_Met l G yX8_year cX8_year 11 (some .int) (rmk 2 46) [.ref (G.2.1 58), .int x, .int y, .int w] μ (fun v μ2 => v = some (.int (mYear x y w μ).1) ∧ μ2 = (mYear x y w μ).2) := by
  refine sw_Met.ofY (by decide) (Nat.le_of_ble_eq_true rfl) rfl ?_
  refine y_iload_n dX8_year_0 rfl rfl ?_
  refine y_i2l dX8_year_1 ?_
  refine y_lconst dX8_year_2 lc_0 ?_
  refine y_ldc2 dX8_year_3 wm_cl_X8_291 ?_
  refine y_cS3 dX8_year_6 meX8_in wm_ml_X8_77 (kX8_in (A := 0) (B := 9999) rfl rfl) ⟨Nat.le_of_ble_eq_true rfl, Nat.le_of_ble_eq_true rfl⟩ ⟨rfl, rfl⟩ (Nat.le_of_ble_eq_true rfl) (fun v6 μ6 hp6 => ?_)
  obtain ⟨rfl, he6⟩ := hp6
  replace he6 := he6.symm
  subst he6
  refine y_ri ?_
  refine y_ifb_eq 36 dX8_year_9 (by decide) (fun h9 => ?_) (fun h9 => ?_)
  · refine y_bipush dX8_year_36 ib_m2 ?_
    refine y_iret dX8_year_38 ?_
    constructor <;> simp_all [mYear]
  · refine y_iload_n dX8_year_12 rfl rfl ?_
    refine y_i2l dX8_year_13 ?_
    refine y_lconst dX8_year_14 lc_1 ?_
    refine y_ldc2 dX8_year_15 wm_cl_X8_115 ?_
    refine y_cS3 dX8_year_18 meX8_in wm_ml_X8_77 (kX8_in (A := 1) (B := 99) rfl rfl) ⟨Nat.le_of_ble_eq_true rfl, Nat.le_of_ble_eq_true rfl⟩ ⟨rfl, rfl⟩ (Nat.le_of_ble_eq_true rfl) (fun v18 μ18 hp18 => ?_)
    obtain ⟨rfl, he18⟩ := hp18
    replace he18 := he18.symm
    subst he18
    refine y_ri ?_
    refine y_ifb_eq 36 dX8_year_21 (by decide) (fun h21 => ?_) (fun h21 => ?_)
    · refine y_bipush dX8_year_36 ib_m2 ?_
      refine y_iret dX8_year_38 ?_
      constructor <;> simp_all [mYear]
    · refine y_iload_n dX8_year_24 rfl rfl ?_
      refine y_i2l dX8_year_25 ?_
      refine y_lconst dX8_year_26 lc_0 ?_
      refine y_ldc2 dX8_year_27 wm_cl_X8_230 ?_
      refine y_cS3 dX8_year_30 meX8_in wm_ml_X8_77 (kX8_in (A := 0) (B := 2) rfl rfl) ⟨Nat.le_of_ble_eq_true rfl, Nat.le_of_ble_eq_true rfl⟩ ⟨rfl, rfl⟩ (Nat.le_of_ble_eq_true rfl) (fun v30 μ30 hp30 => ?_)
      obtain ⟨rfl, he30⟩ := hp30
      replace he30 := he30.symm
      subst he30
      refine y_ri ?_
      refine y_ifb_ne 39 dX8_year_33 (by decide) (fun h33 => ?_) (fun h33 => ?_)
      · obtain ⟨q, hq99, rfl⟩ := inR1_ex (n := 99) h21
        have hcl : cl (nI q) = q := cl_n (by omega)
        refine y_aload_n dX8_year_39 rfl rfl ?_
        refine y_cV0 dX8_year_40 meX8_keepNow clX8 kd_58 wm_ml_X8_213 (kX8_keepNow) ⟨Nat.le_of_ble_eq_true rfl, Nat.le_of_ble_eq_true rfl⟩ ⟨rfl, rfl⟩ (Nat.le_of_ble_eq_true rfl) (fun v40 μ40 hp40 => ?_)
        obtain ⟨rfl, he40⟩ := hp40
        replace he40 := he40.symm
        subst he40
        refine y_rv ?_
        refine y_iload_n dX8_year_43 rfl rfl ?_
        refine y_istore dX8_year_44 rfl (by decide) ?_
        refine y_iconst dX8_year_46 ic_0 ?_
        refine y_istore dX8_year_47 rfl (by decide) ?_
        refine y_iconst dX8_year_49 ic_0 ?_
        refine y_istore dX8_year_50 rfl (by decide) ?_
        refine y_iconst dX8_year_52 ic_0 ?_
        refine y_istore dX8_year_53 rfl (by decide) ?_
        refine y_iconst (v := nI 0) dX8_year_55 icn_0 ?_
        refine y_istore dX8_year_56 rfl (by decide) ?_
        refine y_loop5 (fun (j : Nat) (e : Int32) (a : Int32) (g : Int32) (n : Int32) (c : MemT) => [some (.ref (G.2.1 58)), some (.int x), some (.int (nI q)), some (.int w), some (.int e), some (.int a), some (.int g), some (.int n), some (.int (nI j)), none, none]) (fun (j : Nat) (e : Int32) (a : Int32) (g : Int32) (n : Int32) (c : MemT) => c) (fun (j : Nat) (e : Int32) (a : Int32) (g : Int32) (n : Int32) (c : MemT) => itr ymS (q - j) j (e, a, g, n, c) = ymR q x μ) q (fun e a g n c hv58 => ?_) (fun j e a g n c hj hv58 ih58 => ?_) 0 (x) (0) (0) (0) (mKeep μ) (Nat.zero_le _) (rfl)
        · refine y_iload dX8_year_58 rfl ?_
          refine y_iload_n dX8_year_60 rfl rfl ?_
          refine y_icmp_ge 204 dX8_year_61 (by decide) (fun _ => ?_) (fun hq => absurd (Int32.le_refl _) hq)
          refine y_aload_n dX8_year_204 rfl rfl ?_
          refine y_cV0 dX8_year_205 meX8_putBack clX8 kd_58 wm_ml_X8_222 (kX8_putBack) ⟨Nat.le_of_ble_eq_true rfl, Nat.le_of_ble_eq_true rfl⟩ ⟨rfl, rfl⟩ (Nat.le_of_ble_eq_true rfl) (fun v205 μ205 hp205 => ?_)
          obtain ⟨rfl, he205⟩ := hp205
          replace he205 := he205.symm
          subst he205
          refine y_rv ?_
          refine y_iload_n dX8_year_208 rfl rfl ?_
          refine y_if_ne 217 dX8_year_209 (by decide) (fun h209 => ?_) (fun h209 => ?_)
          · refine y_iload_n dX8_year_217 rfl rfl ?_
            refine y_iconst dX8_year_218 ic_1 ?_
            refine y_icmp_ne 227 dX8_year_219 (by decide) (fun h219 => ?_) (fun h219 => ?_)
            · refine y_iload dX8_year_227 rfl ?_
              refine y_iret dX8_year_229 ?_
              have hz := (itr_ex hv58).symm
              clear hv58
              constructor <;> simp_all [mYear]
            · refine y_iload dX8_year_222 rfl ?_
              refine y_goto 229 dX8_year_224 (by decide) ?_
              refine y_iret dX8_year_229 ?_
              have hz := (itr_ex hv58).symm
              clear hv58
              constructor <;> simp_all [mYear]
          · refine y_iload dX8_year_212 rfl ?_
            refine y_goto 229 dX8_year_214 (by decide) ?_
            refine y_iret dX8_year_229 ?_
            have hz := (itr_ex hv58).symm
            clear hv58
            constructor <;> simp_all [mYear]
        · refine y_iload dX8_year_58 rfl ?_
          refine y_iload_n dX8_year_60 rfl rfl ?_
          refine y_icmp_ge 204 dX8_year_61 (by decide) (fun hq => absurd hq (nI_ge hj (by omega))) (fun _ => ?_)
          refine y_ldc2 dX8_year_64 wm_cl_X8_293 ?_
          refine y_iload dX8_year_67 rfl ?_
          refine y_i2l dX8_year_69 ?_
          refine y_lmul dX8_year_70 ?_
          refine y_ldc2 dX8_year_71 wm_cl_X8_295 ?_
          refine y_ladd dX8_year_74 ?_
          refine y_ldc2 dX8_year_75 wm_cl_X8_297 ?_
          refine y_lrem dX8_year_78 (by decide) ?_
          refine y_l2i dX8_year_79 ?_
          refine y_istore dX8_year_80 rfl (by decide) ?_
          refine y_iload dX8_year_82 rfl ?_
          refine y_bipush dX8_year_84 ib_8 ?_
          refine y_idiv dX8_year_86 (by decide) ?_
          refine y_iconst dX8_year_87 ic_2 ?_
          refine y_irem dX8_year_88 (by decide) ?_
          refine y_iconst dX8_year_89 ic_1 ?_
          refine y_icmp_ne 97 dX8_year_90 (by decide) (fun h90 => ?_) (fun h90 => ?_)
          · refine y_iload dX8_year_97 rfl ?_
            refine y_bipush dX8_year_99 ib_8 ?_
            refine y_irem dX8_year_101 (by decide) ?_
            refine y_istore dX8_year_102 rfl (by decide) ?_
            refine y_aload_n dX8_year_104 rfl rfl ?_
            refine y_iload dX8_year_105 rfl ?_
            refine y_cV1 dX8_year_107 meX8_isPerson clX8 kd_58 wm_ml_X8_84 (kX8_isPerson) ⟨Nat.le_of_ble_eq_true rfl, Nat.le_of_ble_eq_true rfl⟩ ⟨rfl, rfl⟩ (Nat.le_of_ble_eq_true rfl) (fun v107 μ107 hp107 => ?_)
            obtain ⟨rfl, he107⟩ := hp107
            replace he107 := he107.symm
            subst he107
            refine y_ri ?_
            refine y_ifb_eq 198 dX8_year_110 (by decide) (fun h110 => ?_) (fun h110 => ?_)
            · refine y_iinc (v := nI (j + 1)) dX8_year_198 rfl (nI_i1 _) rfl (by decide) ?_
              refine y_goto 58 dX8_year_201 (by decide) ?_
              refine y_drop 10 (y_drop 9 (ih58 _ _ _ _ _ (itr_nx hj hv58 ?_)))
              clear ih58 hv58
              have e0 : (75 * e.toInt64 + 74 - (75 * e.toInt64 + 74) / 65537 * 65537).toInt32 = ynx e := rfl
              show _ = ymP (ynx e) a g n (ymG (ynx e) c)
              simp only [e0] at *
              generalize ynx e = E at *
              simp_all [-Int32.not_le, -Int32.not_lt, ymP, ymG, ymU, md8]
            · refine y_iconst dX8_year_113 ic_1 ?_
              refine y_iload dX8_year_114 rfl ?_
              refine y_ishl dX8_year_116 ?_
              refine y_aload_n dX8_year_117 rfl rfl ?_
              refine y_getr dX8_year_118 7 clX8 kd_58 (by decide) wm_fl_X8_19 rfl rfl ?_
              refine y_iload dX8_year_121 rfl ?_
              refine y_iald dX8_year_123 (cl _) kd_62 (isP_nI h110).1 (isP_nI h110).2 (by decide) ?_
              refine y_if_ge 131 dX8_year_124 (by decide) (fun h124 => ?_) (fun h124 => ?_)
              · refine y_iconst dX8_year_131 ic_1 ?_
                refine y_aload_n dX8_year_132 rfl rfl ?_
                refine y_getr dX8_year_133 7 clX8 kd_58 (by decide) wm_fl_X8_19 rfl rfl ?_
                refine y_iload dX8_year_136 rfl ?_
                refine y_iald dX8_year_138 (cl _) kd_62 (isP_nI h110).1 (isP_nI h110).2 (by decide) ?_
                refine y_ishl dX8_year_139 ?_
                refine y_ior dX8_year_140 ?_
                refine y_istore dX8_year_141 rfl (by decide) ?_
                refine y_iload dX8_year_143 rfl ?_
                refine y_aload_n dX8_year_145 rfl rfl ?_
                refine y_iload dX8_year_146 rfl ?_
                refine y_cV1 dX8_year_148 meX8_swornOf clX8 kd_58 wm_ml_X8_156 (kX8_swornOf) ⟨Nat.le_of_ble_eq_true rfl, Nat.le_of_ble_eq_true rfl⟩ ⟨rfl, rfl⟩ (Nat.le_of_ble_eq_true rfl) (fun v148 μ148 hp148 => ?_)
                obtain ⟨rfl, he148⟩ := hp148
                replace he148 := he148.symm
                subst he148
                refine y_ri ?_
                refine y_iadd dX8_year_151 ?_
                refine y_istore dX8_year_152 rfl (by decide) ?_
                refine y_iload dX8_year_154 rfl ?_
                refine y_aload_n dX8_year_156 rfl rfl ?_
                refine y_iload dX8_year_157 rfl ?_
                refine y_cV1 dX8_year_159 meX8_poundsOf clX8 kd_58 wm_ml_X8_165 (kX8_poundsOf) ⟨Nat.le_of_ble_eq_true rfl, Nat.le_of_ble_eq_true rfl⟩ ⟨rfl, rfl⟩ (Nat.le_of_ble_eq_true rfl) (fun v159 μ159 hp159 => ?_)
                obtain ⟨rfl, he159⟩ := hp159
                replace he159 := he159.symm
                subst he159
                refine y_ri ?_
                refine y_iadd dX8_year_162 ?_
                refine y_istore dX8_year_163 rfl (by decide) ?_
                refine y_iload dX8_year_165 rfl ?_
                refine y_aload_n dX8_year_167 rfl rfl ?_
                refine y_iload dX8_year_168 rfl ?_
                refine y_cV1 dX8_year_170 meX8_swornOf clX8 kd_58 wm_ml_X8_156 (kX8_swornOf) ⟨Nat.le_of_ble_eq_true rfl, Nat.le_of_ble_eq_true rfl⟩ ⟨rfl, rfl⟩ (Nat.le_of_ble_eq_true rfl) (fun v170 μ170 hp170 => ?_)
                obtain ⟨rfl, he170⟩ := hp170
                replace he170 := he170.symm
                subst he170
                refine y_ri ?_
                refine y_aload_n dX8_year_173 rfl rfl ?_
                refine y_iload dX8_year_174 rfl ?_
                refine y_cV1 dX8_year_176 meX8_poundsOf clX8 kd_58 wm_ml_X8_165 (kX8_poundsOf) ⟨Nat.le_of_ble_eq_true rfl, Nat.le_of_ble_eq_true rfl⟩ ⟨rfl, rfl⟩ (Nat.le_of_ble_eq_true rfl) (fun v176 μ176 hp176 => ?_)
                obtain ⟨rfl, he176⟩ := hp176
                replace he176 := he176.symm
                subst he176
                refine y_ri ?_
                refine y_isub dX8_year_179 ?_
                refine y_cS1 dX8_year_180 meX8_size wm_ml_X8_180 (kX8_size) ⟨Nat.le_of_ble_eq_true rfl, Nat.le_of_ble_eq_true rfl⟩ ⟨rfl, rfl⟩ (Nat.le_of_ble_eq_true rfl) (fun v180 μ180 hp180 => ?_)
                obtain ⟨rfl, he180⟩ := hp180
                replace he180 := he180.symm
                subst he180
                refine y_ri ?_
                refine y_aload_n dX8_year_183 rfl rfl ?_
                refine y_geti dX8_year_184 2 clX8 kd_58 (by decide) wm_fl_X8_71 rfl rfl ?_
                refine y_icmp_le 194 dX8_year_187 (by decide) (fun h187 => ?_) (fun h187 => ?_)
                · refine y_iconst dX8_year_194 ic_0 ?_
                  refine y_iadd dX8_year_195 ?_
                  refine y_istore dX8_year_196 rfl (by decide) ?_
                  refine y_iinc (v := nI (j + 1)) dX8_year_198 rfl (nI_i1 _) rfl (by decide) ?_
                  refine y_goto 58 dX8_year_201 (by decide) ?_
                  refine y_drop 10 (y_drop 9 (ih58 _ _ _ _ _ (itr_nx hj hv58 ?_)))
                  clear ih58 hv58
                  have e0 : (75 * e.toInt64 + 74 - (75 * e.toInt64 + 74) / 65537 * 65537).toInt32 = ynx e := rfl
                  show _ = ymP (ynx e) a g n (ymG (ynx e) c)
                  simp only [e0] at *
                  generalize ynx e = E at *
                  simp_all [-Int32.not_le, -Int32.not_lt, ymP, ymG, ymU, md8]
                · refine y_iconst dX8_year_190 ic_1 ?_
                  refine y_goto 195 dX8_year_191 (by decide) ?_
                  refine y_iadd dX8_year_195 ?_
                  refine y_istore dX8_year_196 rfl (by decide) ?_
                  refine y_iinc (v := nI (j + 1)) dX8_year_198 rfl (nI_i1 _) rfl (by decide) ?_
                  refine y_goto 58 dX8_year_201 (by decide) ?_
                  refine y_drop 10 (y_drop 9 (ih58 _ _ _ _ _ (itr_nx hj hv58 ?_)))
                  clear ih58 hv58
                  have e0 : (75 * e.toInt64 + 74 - (75 * e.toInt64 + 74) / 65537 * 65537).toInt32 = ynx e := rfl
                  show _ = ymP (ynx e) a g n (ymG (ynx e) c)
                  simp only [e0] at *
                  generalize ynx e = E at *
                  simp_all [-Int32.not_le, -Int32.not_lt, ymP, ymG, ymU, md8]
              · refine y_iconst dX8_year_127 ic_0 ?_
                refine y_goto 140 dX8_year_128 (by decide) ?_
                refine y_ior dX8_year_140 ?_
                refine y_istore dX8_year_141 rfl (by decide) ?_
                refine y_iload dX8_year_143 rfl ?_
                refine y_aload_n dX8_year_145 rfl rfl ?_
                refine y_iload dX8_year_146 rfl ?_
                refine y_cV1 dX8_year_148 meX8_swornOf clX8 kd_58 wm_ml_X8_156 (kX8_swornOf) ⟨Nat.le_of_ble_eq_true rfl, Nat.le_of_ble_eq_true rfl⟩ ⟨rfl, rfl⟩ (Nat.le_of_ble_eq_true rfl) (fun v148 μ148 hp148 => ?_)
                obtain ⟨rfl, he148⟩ := hp148
                replace he148 := he148.symm
                subst he148
                refine y_ri ?_
                refine y_iadd dX8_year_151 ?_
                refine y_istore dX8_year_152 rfl (by decide) ?_
                refine y_iload dX8_year_154 rfl ?_
                refine y_aload_n dX8_year_156 rfl rfl ?_
                refine y_iload dX8_year_157 rfl ?_
                refine y_cV1 dX8_year_159 meX8_poundsOf clX8 kd_58 wm_ml_X8_165 (kX8_poundsOf) ⟨Nat.le_of_ble_eq_true rfl, Nat.le_of_ble_eq_true rfl⟩ ⟨rfl, rfl⟩ (Nat.le_of_ble_eq_true rfl) (fun v159 μ159 hp159 => ?_)
                obtain ⟨rfl, he159⟩ := hp159
                replace he159 := he159.symm
                subst he159
                refine y_ri ?_
                refine y_iadd dX8_year_162 ?_
                refine y_istore dX8_year_163 rfl (by decide) ?_
                refine y_iload dX8_year_165 rfl ?_
                refine y_aload_n dX8_year_167 rfl rfl ?_
                refine y_iload dX8_year_168 rfl ?_
                refine y_cV1 dX8_year_170 meX8_swornOf clX8 kd_58 wm_ml_X8_156 (kX8_swornOf) ⟨Nat.le_of_ble_eq_true rfl, Nat.le_of_ble_eq_true rfl⟩ ⟨rfl, rfl⟩ (Nat.le_of_ble_eq_true rfl) (fun v170 μ170 hp170 => ?_)
                obtain ⟨rfl, he170⟩ := hp170
                replace he170 := he170.symm
                subst he170
                refine y_ri ?_
                refine y_aload_n dX8_year_173 rfl rfl ?_
                refine y_iload dX8_year_174 rfl ?_
                refine y_cV1 dX8_year_176 meX8_poundsOf clX8 kd_58 wm_ml_X8_165 (kX8_poundsOf) ⟨Nat.le_of_ble_eq_true rfl, Nat.le_of_ble_eq_true rfl⟩ ⟨rfl, rfl⟩ (Nat.le_of_ble_eq_true rfl) (fun v176 μ176 hp176 => ?_)
                obtain ⟨rfl, he176⟩ := hp176
                replace he176 := he176.symm
                subst he176
                refine y_ri ?_
                refine y_isub dX8_year_179 ?_
                refine y_cS1 dX8_year_180 meX8_size wm_ml_X8_180 (kX8_size) ⟨Nat.le_of_ble_eq_true rfl, Nat.le_of_ble_eq_true rfl⟩ ⟨rfl, rfl⟩ (Nat.le_of_ble_eq_true rfl) (fun v180 μ180 hp180 => ?_)
                obtain ⟨rfl, he180⟩ := hp180
                replace he180 := he180.symm
                subst he180
                refine y_ri ?_
                refine y_aload_n dX8_year_183 rfl rfl ?_
                refine y_geti dX8_year_184 2 clX8 kd_58 (by decide) wm_fl_X8_71 rfl rfl ?_
                refine y_icmp_le 194 dX8_year_187 (by decide) (fun h187 => ?_) (fun h187 => ?_)
                · refine y_iconst dX8_year_194 ic_0 ?_
                  refine y_iadd dX8_year_195 ?_
                  refine y_istore dX8_year_196 rfl (by decide) ?_
                  refine y_iinc (v := nI (j + 1)) dX8_year_198 rfl (nI_i1 _) rfl (by decide) ?_
                  refine y_goto 58 dX8_year_201 (by decide) ?_
                  refine y_drop 10 (y_drop 9 (ih58 _ _ _ _ _ (itr_nx hj hv58 ?_)))
                  clear ih58 hv58
                  have e0 : (75 * e.toInt64 + 74 - (75 * e.toInt64 + 74) / 65537 * 65537).toInt32 = ynx e := rfl
                  show _ = ymP (ynx e) a g n (ymG (ynx e) c)
                  simp only [e0] at *
                  generalize ynx e = E at *
                  simp_all [-Int32.not_le, -Int32.not_lt, ymP, ymG, ymU, md8]
                · refine y_iconst dX8_year_190 ic_1 ?_
                  refine y_goto 195 dX8_year_191 (by decide) ?_
                  refine y_iadd dX8_year_195 ?_
                  refine y_istore dX8_year_196 rfl (by decide) ?_
                  refine y_iinc (v := nI (j + 1)) dX8_year_198 rfl (nI_i1 _) rfl (by decide) ?_
                  refine y_goto 58 dX8_year_201 (by decide) ?_
                  refine y_drop 10 (y_drop 9 (ih58 _ _ _ _ _ (itr_nx hj hv58 ?_)))
                  clear ih58 hv58
                  have e0 : (75 * e.toInt64 + 74 - (75 * e.toInt64 + 74) / 65537 * 65537).toInt32 = ynx e := rfl
                  show _ = ymP (ynx e) a g n (ymG (ynx e) c)
                  simp only [e0] at *
                  generalize ynx e = E at *
                  simp_all [-Int32.not_le, -Int32.not_lt, ymP, ymG, ymU, md8]
          · refine y_aload_n dX8_year_93 rfl rfl ?_
            refine y_cV0 dX8_year_94 meX8_passDay clX8 kd_58 wm_ml_X8_186 (kX8_passDay) ⟨Nat.le_of_ble_eq_true rfl, Nat.le_of_ble_eq_true rfl⟩ ⟨rfl, rfl⟩ (Nat.le_of_ble_eq_true rfl) (fun v94 μ94 hp94 => ?_)
            obtain ⟨rfl, he94⟩ := hp94
            replace he94 := he94.symm
            subst he94
            refine y_rv ?_
            refine y_iload dX8_year_97 rfl ?_
            refine y_bipush dX8_year_99 ib_8 ?_
            refine y_irem dX8_year_101 (by decide) ?_
            refine y_istore dX8_year_102 rfl (by decide) ?_
            refine y_aload_n dX8_year_104 rfl rfl ?_
            refine y_iload dX8_year_105 rfl ?_
            refine y_cV1 dX8_year_107 meX8_isPerson clX8 kd_58 wm_ml_X8_84 (kX8_isPerson) ⟨Nat.le_of_ble_eq_true rfl, Nat.le_of_ble_eq_true rfl⟩ ⟨rfl, rfl⟩ (Nat.le_of_ble_eq_true rfl) (fun v107 μ107 hp107 => ?_)
            obtain ⟨rfl, he107⟩ := hp107
            replace he107 := he107.symm
            subst he107
            refine y_ri ?_
            refine y_ifb_eq 198 dX8_year_110 (by decide) (fun h110 => ?_) (fun h110 => ?_)
            · refine y_iinc (v := nI (j + 1)) dX8_year_198 rfl (nI_i1 _) rfl (by decide) ?_
              refine y_goto 58 dX8_year_201 (by decide) ?_
              refine y_drop 10 (y_drop 9 (ih58 _ _ _ _ _ (itr_nx hj hv58 ?_)))
              clear ih58 hv58
              have e0 : (75 * e.toInt64 + 74 - (75 * e.toInt64 + 74) / 65537 * 65537).toInt32 = ynx e := rfl
              show _ = ymP (ynx e) a g n (ymG (ynx e) c)
              simp only [e0] at *
              generalize ynx e = E at *
              simp_all [-Int32.not_le, -Int32.not_lt, ymP, ymG, ymU, md8]
            · refine y_iconst dX8_year_113 ic_1 ?_
              refine y_iload dX8_year_114 rfl ?_
              refine y_ishl dX8_year_116 ?_
              refine y_aload_n dX8_year_117 rfl rfl ?_
              refine y_getr dX8_year_118 7 clX8 kd_58 (by decide) wm_fl_X8_19 rfl rfl ?_
              refine y_iload dX8_year_121 rfl ?_
              refine y_iald dX8_year_123 (cl _) kd_62 (isP_nI h110).1 (isP_nI h110).2 (by decide) ?_
              refine y_if_ge 131 dX8_year_124 (by decide) (fun h124 => ?_) (fun h124 => ?_)
              · refine y_iconst dX8_year_131 ic_1 ?_
                refine y_aload_n dX8_year_132 rfl rfl ?_
                refine y_getr dX8_year_133 7 clX8 kd_58 (by decide) wm_fl_X8_19 rfl rfl ?_
                refine y_iload dX8_year_136 rfl ?_
                refine y_iald dX8_year_138 (cl _) kd_62 (isP_nI h110).1 (isP_nI h110).2 (by decide) ?_
                refine y_ishl dX8_year_139 ?_
                refine y_ior dX8_year_140 ?_
                refine y_istore dX8_year_141 rfl (by decide) ?_
                refine y_iload dX8_year_143 rfl ?_
                refine y_aload_n dX8_year_145 rfl rfl ?_
                refine y_iload dX8_year_146 rfl ?_
                refine y_cV1 dX8_year_148 meX8_swornOf clX8 kd_58 wm_ml_X8_156 (kX8_swornOf) ⟨Nat.le_of_ble_eq_true rfl, Nat.le_of_ble_eq_true rfl⟩ ⟨rfl, rfl⟩ (Nat.le_of_ble_eq_true rfl) (fun v148 μ148 hp148 => ?_)
                obtain ⟨rfl, he148⟩ := hp148
                replace he148 := he148.symm
                subst he148
                refine y_ri ?_
                refine y_iadd dX8_year_151 ?_
                refine y_istore dX8_year_152 rfl (by decide) ?_
                refine y_iload dX8_year_154 rfl ?_
                refine y_aload_n dX8_year_156 rfl rfl ?_
                refine y_iload dX8_year_157 rfl ?_
                refine y_cV1 dX8_year_159 meX8_poundsOf clX8 kd_58 wm_ml_X8_165 (kX8_poundsOf) ⟨Nat.le_of_ble_eq_true rfl, Nat.le_of_ble_eq_true rfl⟩ ⟨rfl, rfl⟩ (Nat.le_of_ble_eq_true rfl) (fun v159 μ159 hp159 => ?_)
                obtain ⟨rfl, he159⟩ := hp159
                replace he159 := he159.symm
                subst he159
                refine y_ri ?_
                refine y_iadd dX8_year_162 ?_
                refine y_istore dX8_year_163 rfl (by decide) ?_
                refine y_iload dX8_year_165 rfl ?_
                refine y_aload_n dX8_year_167 rfl rfl ?_
                refine y_iload dX8_year_168 rfl ?_
                refine y_cV1 dX8_year_170 meX8_swornOf clX8 kd_58 wm_ml_X8_156 (kX8_swornOf) ⟨Nat.le_of_ble_eq_true rfl, Nat.le_of_ble_eq_true rfl⟩ ⟨rfl, rfl⟩ (Nat.le_of_ble_eq_true rfl) (fun v170 μ170 hp170 => ?_)
                obtain ⟨rfl, he170⟩ := hp170
                replace he170 := he170.symm
                subst he170
                refine y_ri ?_
                refine y_aload_n dX8_year_173 rfl rfl ?_
                refine y_iload dX8_year_174 rfl ?_
                refine y_cV1 dX8_year_176 meX8_poundsOf clX8 kd_58 wm_ml_X8_165 (kX8_poundsOf) ⟨Nat.le_of_ble_eq_true rfl, Nat.le_of_ble_eq_true rfl⟩ ⟨rfl, rfl⟩ (Nat.le_of_ble_eq_true rfl) (fun v176 μ176 hp176 => ?_)
                obtain ⟨rfl, he176⟩ := hp176
                replace he176 := he176.symm
                subst he176
                refine y_ri ?_
                refine y_isub dX8_year_179 ?_
                refine y_cS1 dX8_year_180 meX8_size wm_ml_X8_180 (kX8_size) ⟨Nat.le_of_ble_eq_true rfl, Nat.le_of_ble_eq_true rfl⟩ ⟨rfl, rfl⟩ (Nat.le_of_ble_eq_true rfl) (fun v180 μ180 hp180 => ?_)
                obtain ⟨rfl, he180⟩ := hp180
                replace he180 := he180.symm
                subst he180
                refine y_ri ?_
                refine y_aload_n dX8_year_183 rfl rfl ?_
                refine y_geti dX8_year_184 2 clX8 kd_58 (by decide) wm_fl_X8_71 rfl rfl ?_
                refine y_icmp_le 194 dX8_year_187 (by decide) (fun h187 => ?_) (fun h187 => ?_)
                · refine y_iconst dX8_year_194 ic_0 ?_
                  refine y_iadd dX8_year_195 ?_
                  refine y_istore dX8_year_196 rfl (by decide) ?_
                  refine y_iinc (v := nI (j + 1)) dX8_year_198 rfl (nI_i1 _) rfl (by decide) ?_
                  refine y_goto 58 dX8_year_201 (by decide) ?_
                  refine y_drop 10 (y_drop 9 (ih58 _ _ _ _ _ (itr_nx hj hv58 ?_)))
                  clear ih58 hv58
                  have e0 : (75 * e.toInt64 + 74 - (75 * e.toInt64 + 74) / 65537 * 65537).toInt32 = ynx e := rfl
                  show _ = ymP (ynx e) a g n (ymG (ynx e) c)
                  simp only [e0] at *
                  generalize ynx e = E at *
                  simp_all [-Int32.not_le, -Int32.not_lt, ymP, ymG, ymU, md8]
                · refine y_iconst dX8_year_190 ic_1 ?_
                  refine y_goto 195 dX8_year_191 (by decide) ?_
                  refine y_iadd dX8_year_195 ?_
                  refine y_istore dX8_year_196 rfl (by decide) ?_
                  refine y_iinc (v := nI (j + 1)) dX8_year_198 rfl (nI_i1 _) rfl (by decide) ?_
                  refine y_goto 58 dX8_year_201 (by decide) ?_
                  refine y_drop 10 (y_drop 9 (ih58 _ _ _ _ _ (itr_nx hj hv58 ?_)))
                  clear ih58 hv58
                  have e0 : (75 * e.toInt64 + 74 - (75 * e.toInt64 + 74) / 65537 * 65537).toInt32 = ynx e := rfl
                  show _ = ymP (ynx e) a g n (ymG (ynx e) c)
                  simp only [e0] at *
                  generalize ynx e = E at *
                  simp_all [-Int32.not_le, -Int32.not_lt, ymP, ymG, ymU, md8]
              · refine y_iconst dX8_year_127 ic_0 ?_
                refine y_goto 140 dX8_year_128 (by decide) ?_
                refine y_ior dX8_year_140 ?_
                refine y_istore dX8_year_141 rfl (by decide) ?_
                refine y_iload dX8_year_143 rfl ?_
                refine y_aload_n dX8_year_145 rfl rfl ?_
                refine y_iload dX8_year_146 rfl ?_
                refine y_cV1 dX8_year_148 meX8_swornOf clX8 kd_58 wm_ml_X8_156 (kX8_swornOf) ⟨Nat.le_of_ble_eq_true rfl, Nat.le_of_ble_eq_true rfl⟩ ⟨rfl, rfl⟩ (Nat.le_of_ble_eq_true rfl) (fun v148 μ148 hp148 => ?_)
                obtain ⟨rfl, he148⟩ := hp148
                replace he148 := he148.symm
                subst he148
                refine y_ri ?_
                refine y_iadd dX8_year_151 ?_
                refine y_istore dX8_year_152 rfl (by decide) ?_
                refine y_iload dX8_year_154 rfl ?_
                refine y_aload_n dX8_year_156 rfl rfl ?_
                refine y_iload dX8_year_157 rfl ?_
                refine y_cV1 dX8_year_159 meX8_poundsOf clX8 kd_58 wm_ml_X8_165 (kX8_poundsOf) ⟨Nat.le_of_ble_eq_true rfl, Nat.le_of_ble_eq_true rfl⟩ ⟨rfl, rfl⟩ (Nat.le_of_ble_eq_true rfl) (fun v159 μ159 hp159 => ?_)
                obtain ⟨rfl, he159⟩ := hp159
                replace he159 := he159.symm
                subst he159
                refine y_ri ?_
                refine y_iadd dX8_year_162 ?_
                refine y_istore dX8_year_163 rfl (by decide) ?_
                refine y_iload dX8_year_165 rfl ?_
                refine y_aload_n dX8_year_167 rfl rfl ?_
                refine y_iload dX8_year_168 rfl ?_
                refine y_cV1 dX8_year_170 meX8_swornOf clX8 kd_58 wm_ml_X8_156 (kX8_swornOf) ⟨Nat.le_of_ble_eq_true rfl, Nat.le_of_ble_eq_true rfl⟩ ⟨rfl, rfl⟩ (Nat.le_of_ble_eq_true rfl) (fun v170 μ170 hp170 => ?_)
                obtain ⟨rfl, he170⟩ := hp170
                replace he170 := he170.symm
                subst he170
                refine y_ri ?_
                refine y_aload_n dX8_year_173 rfl rfl ?_
                refine y_iload dX8_year_174 rfl ?_
                refine y_cV1 dX8_year_176 meX8_poundsOf clX8 kd_58 wm_ml_X8_165 (kX8_poundsOf) ⟨Nat.le_of_ble_eq_true rfl, Nat.le_of_ble_eq_true rfl⟩ ⟨rfl, rfl⟩ (Nat.le_of_ble_eq_true rfl) (fun v176 μ176 hp176 => ?_)
                obtain ⟨rfl, he176⟩ := hp176
                replace he176 := he176.symm
                subst he176
                refine y_ri ?_
                refine y_isub dX8_year_179 ?_
                refine y_cS1 dX8_year_180 meX8_size wm_ml_X8_180 (kX8_size) ⟨Nat.le_of_ble_eq_true rfl, Nat.le_of_ble_eq_true rfl⟩ ⟨rfl, rfl⟩ (Nat.le_of_ble_eq_true rfl) (fun v180 μ180 hp180 => ?_)
                obtain ⟨rfl, he180⟩ := hp180
                replace he180 := he180.symm
                subst he180
                refine y_ri ?_
                refine y_aload_n dX8_year_183 rfl rfl ?_
                refine y_geti dX8_year_184 2 clX8 kd_58 (by decide) wm_fl_X8_71 rfl rfl ?_
                refine y_icmp_le 194 dX8_year_187 (by decide) (fun h187 => ?_) (fun h187 => ?_)
                · refine y_iconst dX8_year_194 ic_0 ?_
                  refine y_iadd dX8_year_195 ?_
                  refine y_istore dX8_year_196 rfl (by decide) ?_
                  refine y_iinc (v := nI (j + 1)) dX8_year_198 rfl (nI_i1 _) rfl (by decide) ?_
                  refine y_goto 58 dX8_year_201 (by decide) ?_
                  refine y_drop 10 (y_drop 9 (ih58 _ _ _ _ _ (itr_nx hj hv58 ?_)))
                  clear ih58 hv58
                  have e0 : (75 * e.toInt64 + 74 - (75 * e.toInt64 + 74) / 65537 * 65537).toInt32 = ynx e := rfl
                  show _ = ymP (ynx e) a g n (ymG (ynx e) c)
                  simp only [e0] at *
                  generalize ynx e = E at *
                  simp_all [-Int32.not_le, -Int32.not_lt, ymP, ymG, ymU, md8]
                · refine y_iconst dX8_year_190 ic_1 ?_
                  refine y_goto 195 dX8_year_191 (by decide) ?_
                  refine y_iadd dX8_year_195 ?_
                  refine y_istore dX8_year_196 rfl (by decide) ?_
                  refine y_iinc (v := nI (j + 1)) dX8_year_198 rfl (nI_i1 _) rfl (by decide) ?_
                  refine y_goto 58 dX8_year_201 (by decide) ?_
                  refine y_drop 10 (y_drop 9 (ih58 _ _ _ _ _ (itr_nx hj hv58 ?_)))
                  clear ih58 hv58
                  have e0 : (75 * e.toInt64 + 74 - (75 * e.toInt64 + 74) / 65537 * 65537).toInt32 = ynx e := rfl
                  show _ = ymP (ynx e) a g n (ymG (ynx e) c)
                  simp only [e0] at *
                  generalize ynx e = E at *
                  simp_all [-Int32.not_le, -Int32.not_lt, ymP, ymG, ymU, md8]
      · refine y_bipush dX8_year_36 ib_m2 ?_
        refine y_iret dX8_year_38 ?_
        constructor <;> simp_all [mYear]

set_option maxRecDepth 100000 in
set_option maxHeartbeats 4000000 in
theorem kX8_pass {l : Launch} {G : GT} {μ : MemT} {i : Nat} (hi : i < 160) (hat : μ 58 39 = nI i) {x : Int32} : sw_Met l G yX8_pass cX8_pass 3 (some .int) (rmk 0 0) [.ref (G.2.1 58), .int x] μ (fun v μ2 => v = some (.int (psV i x μ)) ∧ μ2 = psM i x μ) := by
  refine sw_Met.ofY (by decide) (Nat.le_of_ble_eq_true rfl) rfl ?_
  refine y_aload_n dX8_pass_0 rfl rfl ?_
  refine y_geti dX8_pass_1 40 clX8 kd_58 (by decide) wm_fl_X8_299 rfl rfl ?_
  refine y_if_eq 11 dX8_pass_4 (by decide) (fun h4 => ?_) (fun h4 => ?_)
  · refine y_aload_n dX8_pass_11 rfl rfl ?_
    refine y_getr dX8_pass_12 37 clX8 kd_58 (by decide) wm_fl_X8_65 rfl rfl ?_
    refine y_aload_n dX8_pass_15 rfl rfl ?_
    refine y_geti dX8_pass_16 39 clX8 kd_58 (by decide) wm_fl_X8_303 rfl rfl ?_
    refine y_iald dX8_pass_19 i kd_77 hat hi (by decide) ?_
    refine y_istore_n dX8_pass_20 rfl rfl (by decide) ?_
    refine y_aload_n dX8_pass_21 rfl rfl ?_
    refine y_getr dX8_pass_22 37 clX8 kd_58 (by decide) wm_fl_X8_65 rfl rfl ?_
    refine y_aload_n dX8_pass_25 rfl rfl ?_
    refine y_geti dX8_pass_26 39 clX8 kd_58 (by decide) wm_fl_X8_303 rfl rfl ?_
    refine y_iload_n dX8_pass_29 rfl rfl ?_
    refine y_iast dX8_pass_30 i kd_77 hat hi (by decide) ?_
    refine y_aload_n dX8_pass_31 rfl rfl ?_
    refine y_dup dX8_pass_32 rfl ?_
    refine y_geti dX8_pass_33 39 clX8 kd_58 (by decide) wm_fl_X8_303 rfl rfl ?_
    refine y_iconst dX8_pass_36 ic_1 ?_
    refine y_iadd dX8_pass_37 ?_
    refine y_puti dX8_pass_38 39 clX8 kd_58 (by decide) wm_fl_X8_303 rfl rfl rfl rfl (tyX8_ok 39 (by decide)) rfl rfl ?_
    refine y_iload_n dX8_pass_41 rfl rfl ?_
    refine y_iret dX8_pass_42 ?_
    constructor <;> simp_all [psV, psM, mset_mset, mset, upd, nI_1]
  · refine y_iload_n dX8_pass_7 rfl rfl ?_
    refine y_goto 20 dX8_pass_8 (by decide) ?_
    refine y_istore_n dX8_pass_20 rfl rfl (by decide) ?_
    refine y_aload_n dX8_pass_21 rfl rfl ?_
    refine y_getr dX8_pass_22 37 clX8 kd_58 (by decide) wm_fl_X8_65 rfl rfl ?_
    refine y_aload_n dX8_pass_25 rfl rfl ?_
    refine y_geti dX8_pass_26 39 clX8 kd_58 (by decide) wm_fl_X8_303 rfl rfl ?_
    refine y_iload_n dX8_pass_29 rfl rfl ?_
    refine y_iast dX8_pass_30 i kd_77 hat hi (by decide) ?_
    refine y_aload_n dX8_pass_31 rfl rfl ?_
    refine y_dup dX8_pass_32 rfl ?_
    refine y_geti dX8_pass_33 39 clX8 kd_58 (by decide) wm_fl_X8_303 rfl rfl ?_
    refine y_iconst dX8_pass_36 ic_1 ?_
    refine y_iadd dX8_pass_37 ?_
    refine y_puti dX8_pass_38 39 clX8 kd_58 (by decide) wm_fl_X8_303 rfl rfl rfl rfl (tyX8_ok 39 (by decide)) rfl rfl ?_
    refine y_iload_n dX8_pass_41 rfl rfl ?_
    refine y_iret dX8_pass_42 ?_
    constructor <;> simp_all [psV, psM, mset_mset, mset, upd, nI_1]

set_option maxRecDepth 100000 in
set_option maxHeartbeats 4000000 in
theorem kX8_passAll {l : Launch} {G : GT} {μ : MemT} {b : Nat} (hb : b ≤ 80) (hat : μ 58 39 = nI b) : sw_Met l G yX8_passAll cX8_passAll 2 none (rmk 1 22) [.ref (G.2.1 58)] μ (fun v μ2 => v = none ∧ μ2 = psA b μ) := by
  refine sw_Met.ofY (by decide) (Nat.le_of_ble_eq_true rfl) rfl ?_
  refine y_aload_n dX8_passAll_0 rfl rfl ?_
  refine y_aload_n dX8_passAll_1 rfl rfl ?_
  refine y_aload_n dX8_passAll_2 rfl rfl ?_
  refine y_geti dX8_passAll_3 0 clX8 kd_58 (by decide) wm_fl_X8_81 rfl rfl ?_
  refine y_cV1 dX8_passAll_6 meX8_pass clX8 kd_58 wm_ml_X8_306 (kX8_pass (i := b) (by omega) hat) ⟨Nat.le_of_ble_eq_true rfl, Nat.le_of_ble_eq_true rfl⟩ ⟨rfl, rfl⟩ (Nat.le_of_ble_eq_true rfl) (fun v6 μ6 hp6 => ?_)
  obtain ⟨rfl, he6⟩ := hp6
  replace he6 := he6.symm
  subst he6
  refine y_ri ?_
  refine y_puti dX8_passAll_9 0 clX8 kd_58 (by decide) wm_fl_X8_81 rfl rfl rfl rfl (tyX8_ok 0 (by decide)) rfl rfl ?_
  refine y_eq (μ2 := psF 0 b μ) rfl rfl rfl ?_
  refine y_aload_n dX8_passAll_12 rfl rfl ?_
  refine y_aload_n dX8_passAll_13 rfl rfl ?_
  refine y_aload_n dX8_passAll_14 rfl rfl ?_
  refine y_geti dX8_passAll_15 1 clX8 kd_58 (by decide) wm_fl_X8_88 rfl rfl ?_
  refine y_cV1 dX8_passAll_18 meX8_pass clX8 kd_58 wm_ml_X8_306 (kX8_pass (i := (b + 1)) (by omega) (psF_39 (by decide))) ⟨Nat.le_of_ble_eq_true rfl, Nat.le_of_ble_eq_true rfl⟩ ⟨rfl, rfl⟩ (Nat.le_of_ble_eq_true rfl) (fun v18 μ18 hp18 => ?_)
  obtain ⟨rfl, he18⟩ := hp18
  replace he18 := he18.symm
  subst he18
  refine y_ri ?_
  refine y_puti dX8_passAll_21 1 clX8 kd_58 (by decide) wm_fl_X8_88 rfl rfl rfl rfl (tyX8_ok 1 (by decide)) rfl rfl ?_
  refine y_eq (μ2 := psF 1 (b + 1) (psF 0 b μ)) rfl rfl rfl ?_
  refine y_aload_n dX8_passAll_24 rfl rfl ?_
  refine y_aload_n dX8_passAll_25 rfl rfl ?_
  refine y_aload_n dX8_passAll_26 rfl rfl ?_
  refine y_geti dX8_passAll_27 2 clX8 kd_58 (by decide) wm_fl_X8_71 rfl rfl ?_
  refine y_cV1 dX8_passAll_30 meX8_pass clX8 kd_58 wm_ml_X8_306 (kX8_pass (i := (b + 2)) (by omega) (psF_39 (by decide))) ⟨Nat.le_of_ble_eq_true rfl, Nat.le_of_ble_eq_true rfl⟩ ⟨rfl, rfl⟩ (Nat.le_of_ble_eq_true rfl) (fun v30 μ30 hp30 => ?_)
  obtain ⟨rfl, he30⟩ := hp30
  replace he30 := he30.symm
  subst he30
  refine y_ri ?_
  refine y_puti dX8_passAll_33 2 clX8 kd_58 (by decide) wm_fl_X8_71 rfl rfl rfl rfl (tyX8_ok 2 (by decide)) rfl rfl ?_
  refine y_eq (μ2 := psF 2 (b + 2) (psF 1 (b + 1) (psF 0 b μ))) rfl rfl rfl ?_
  refine y_aload_n dX8_passAll_36 rfl rfl ?_
  refine y_aload_n dX8_passAll_37 rfl rfl ?_
  refine y_aload_n dX8_passAll_38 rfl rfl ?_
  refine y_geti dX8_passAll_39 3 clX8 kd_58 (by decide) wm_fl_X8_162 rfl rfl ?_
  refine y_cV1 dX8_passAll_42 meX8_pass clX8 kd_58 wm_ml_X8_306 (kX8_pass (i := (b + 3)) (by omega) (psF_39 (by decide))) ⟨Nat.le_of_ble_eq_true rfl, Nat.le_of_ble_eq_true rfl⟩ ⟨rfl, rfl⟩ (Nat.le_of_ble_eq_true rfl) (fun v42 μ42 hp42 => ?_)
  obtain ⟨rfl, he42⟩ := hp42
  replace he42 := he42.symm
  subst he42
  refine y_ri ?_
  refine y_puti dX8_passAll_45 3 clX8 kd_58 (by decide) wm_fl_X8_162 rfl rfl rfl rfl (tyX8_ok 3 (by decide)) rfl rfl ?_
  refine y_eq (μ2 := psF 3 (b + 3) (psF 2 (b + 2) (psF 1 (b + 1) (psF 0 b μ)))) rfl rfl rfl ?_
  refine y_aload_n dX8_passAll_48 rfl rfl ?_
  refine y_aload_n dX8_passAll_49 rfl rfl ?_
  refine y_aload_n dX8_passAll_50 rfl rfl ?_
  refine y_geti dX8_passAll_51 11 clX8 kd_58 (by decide) wm_fl_X8_252 rfl rfl ?_
  refine y_cV1 dX8_passAll_54 meX8_pass clX8 kd_58 wm_ml_X8_306 (kX8_pass (i := (b + 4)) (by omega) (psF_39 (by decide))) ⟨Nat.le_of_ble_eq_true rfl, Nat.le_of_ble_eq_true rfl⟩ ⟨rfl, rfl⟩ (Nat.le_of_ble_eq_true rfl) (fun v54 μ54 hp54 => ?_)
  obtain ⟨rfl, he54⟩ := hp54
  replace he54 := he54.symm
  subst he54
  refine y_ri ?_
  refine y_puti dX8_passAll_57 11 clX8 kd_58 (by decide) wm_fl_X8_252 rfl rfl rfl rfl (tyX8_ok 11 (by decide)) rfl rfl ?_
  refine y_eq (μ2 := psF 11 (b + 4) (psF 3 (b + 3) (psF 2 (b + 2) (psF 1 (b + 1) (psF 0 b μ))))) rfl rfl rfl ?_
  refine y_iconst (v := nI 0) dX8_passAll_60 icn_0 ?_
  refine y_istore_n dX8_passAll_61 rfl rfl (by decide) ?_
  refine y_loop1 (fun (j : Nat) (a : MemT) => [some (.ref (G.2.1 58)), some (.int (nI j))]) (fun (j : Nat) (a : MemT) => a) (fun (j : Nat) (a : MemT) => itr (psJ b) (8 - j) j a = psA b μ ∧ a 58 39 = nI (b + 5 + 7 * j)) 8 (fun a hv62 => ?_) (fun j a hj hv62 ih62 => ?_) 0 (psH b μ) (Nat.zero_le _) (⟨rfl, psF_39 (by decide)⟩)
  · refine y_iload_n dX8_passAll_62 rfl rfl ?_
    refine y_bipush dX8_passAll_63 ib_8 ?_
    refine y_icmp_ge 186 dX8_passAll_65 (by decide) (fun _ => ?_) (fun hq => absurd (by decide) hq)
    refine y_vret dX8_passAll_186 ?_
    exact ⟨rfl, by rw [itr_ex hv62.1]⟩
  · refine y_iload_n dX8_passAll_62 rfl rfl ?_
    refine y_bipush dX8_passAll_63 ib_8 ?_
    refine y_icmp_ge 186 dX8_passAll_65 (by decide) (fun hq => absurd hq (nI_ge (b := 8) hj (by decide))) (fun _ => ?_)
    refine y_aload_n dX8_passAll_68 rfl rfl ?_
    refine y_getr dX8_passAll_69 4 clX8 kd_58 (by decide) wm_fl_X8_7 rfl rfl ?_
    refine y_iload_n dX8_passAll_72 rfl rfl ?_
    refine y_aload_n dX8_passAll_73 rfl rfl ?_
    refine y_aload_n dX8_passAll_74 rfl rfl ?_
    refine y_getr dX8_passAll_75 4 clX8 kd_58 (by decide) wm_fl_X8_7 rfl rfl ?_
    refine y_iload_n dX8_passAll_78 rfl rfl ?_
    refine y_iald dX8_passAll_79 j kd_59 rfl (by first | assumption | decide | omega) (by decide) ?_
    refine y_cV1 dX8_passAll_80 meX8_pass clX8 kd_58 wm_ml_X8_306 (kX8_pass (i := (b + 5 + 7 * j)) (by omega) hv62.2) ⟨Nat.le_of_ble_eq_true rfl, Nat.le_of_ble_eq_true rfl⟩ ⟨rfl, rfl⟩ (Nat.le_of_ble_eq_true rfl) (fun v80 μ80 hp80 => ?_)
    obtain ⟨rfl, he80⟩ := hp80
    replace he80 := he80.symm
    subst he80
    refine y_ri ?_
    refine y_iast dX8_passAll_83 j kd_59 rfl (by first | assumption | decide | omega) (by decide) ?_
    refine y_eq (μ2 := psR 59 j (b + 5 + 7 * j) a) rfl rfl rfl ?_
    refine y_aload_n dX8_passAll_84 rfl rfl ?_
    refine y_getr dX8_passAll_85 5 clX8 kd_58 (by decide) wm_fl_X8_13 rfl rfl ?_
    refine y_iload_n dX8_passAll_88 rfl rfl ?_
    refine y_aload_n dX8_passAll_89 rfl rfl ?_
    refine y_aload_n dX8_passAll_90 rfl rfl ?_
    refine y_getr dX8_passAll_91 5 clX8 kd_58 (by decide) wm_fl_X8_13 rfl rfl ?_
    refine y_iload_n dX8_passAll_94 rfl rfl ?_
    refine y_iald dX8_passAll_95 j kd_60 rfl (by first | assumption | decide | omega) (by decide) ?_
    refine y_cV1 dX8_passAll_96 meX8_pass clX8 kd_58 wm_ml_X8_306 (kX8_pass (i := (b + 5 + 7 * j + 1)) (by omega) (psR_39 (by decide))) ⟨Nat.le_of_ble_eq_true rfl, Nat.le_of_ble_eq_true rfl⟩ ⟨rfl, rfl⟩ (Nat.le_of_ble_eq_true rfl) (fun v96 μ96 hp96 => ?_)
    obtain ⟨rfl, he96⟩ := hp96
    replace he96 := he96.symm
    subst he96
    refine y_ri ?_
    refine y_iast dX8_passAll_99 j kd_60 rfl (by first | assumption | decide | omega) (by decide) ?_
    refine y_eq (μ2 := psR 60 j (b + 5 + 7 * j + 1) (psR 59 j (b + 5 + 7 * j) a)) rfl rfl rfl ?_
    refine y_aload_n dX8_passAll_100 rfl rfl ?_
    refine y_getr dX8_passAll_101 6 clX8 kd_58 (by decide) wm_fl_X8_16 rfl rfl ?_
    refine y_iload_n dX8_passAll_104 rfl rfl ?_
    refine y_aload_n dX8_passAll_105 rfl rfl ?_
    refine y_aload_n dX8_passAll_106 rfl rfl ?_
    refine y_getr dX8_passAll_107 6 clX8 kd_58 (by decide) wm_fl_X8_16 rfl rfl ?_
    refine y_iload_n dX8_passAll_110 rfl rfl ?_
    refine y_iald dX8_passAll_111 j kd_61 rfl (by first | assumption | decide | omega) (by decide) ?_
    refine y_cV1 dX8_passAll_112 meX8_pass clX8 kd_58 wm_ml_X8_306 (kX8_pass (i := (b + 5 + 7 * j + 2)) (by omega) (psR_39 (by decide))) ⟨Nat.le_of_ble_eq_true rfl, Nat.le_of_ble_eq_true rfl⟩ ⟨rfl, rfl⟩ (Nat.le_of_ble_eq_true rfl) (fun v112 μ112 hp112 => ?_)
    obtain ⟨rfl, he112⟩ := hp112
    replace he112 := he112.symm
    subst he112
    refine y_ri ?_
    refine y_iast dX8_passAll_115 j kd_61 rfl (by first | assumption | decide | omega) (by decide) ?_
    refine y_eq (μ2 := psR 61 j (b + 5 + 7 * j + 2) (psR 60 j (b + 5 + 7 * j + 1) (psR 59 j (b + 5 + 7 * j) a))) rfl rfl rfl ?_
    refine y_aload_n dX8_passAll_116 rfl rfl ?_
    refine y_getr dX8_passAll_117 7 clX8 kd_58 (by decide) wm_fl_X8_19 rfl rfl ?_
    refine y_iload_n dX8_passAll_120 rfl rfl ?_
    refine y_aload_n dX8_passAll_121 rfl rfl ?_
    refine y_aload_n dX8_passAll_122 rfl rfl ?_
    refine y_getr dX8_passAll_123 7 clX8 kd_58 (by decide) wm_fl_X8_19 rfl rfl ?_
    refine y_iload_n dX8_passAll_126 rfl rfl ?_
    refine y_iald dX8_passAll_127 j kd_62 rfl (by first | assumption | decide | omega) (by decide) ?_
    refine y_cV1 dX8_passAll_128 meX8_pass clX8 kd_58 wm_ml_X8_306 (kX8_pass (i := (b + 5 + 7 * j + 3)) (by omega) (psR_39 (by decide))) ⟨Nat.le_of_ble_eq_true rfl, Nat.le_of_ble_eq_true rfl⟩ ⟨rfl, rfl⟩ (Nat.le_of_ble_eq_true rfl) (fun v128 μ128 hp128 => ?_)
    obtain ⟨rfl, he128⟩ := hp128
    replace he128 := he128.symm
    subst he128
    refine y_ri ?_
    refine y_iast dX8_passAll_131 j kd_62 rfl (by first | assumption | decide | omega) (by decide) ?_
    refine y_eq (μ2 := psR 62 j (b + 5 + 7 * j + 3) (psR 61 j (b + 5 + 7 * j + 2) (psR 60 j (b + 5 + 7 * j + 1) (psR 59 j (b + 5 + 7 * j) a)))) rfl rfl rfl ?_
    refine y_aload_n dX8_passAll_132 rfl rfl ?_
    refine y_getr dX8_passAll_133 8 clX8 kd_58 (by decide) wm_fl_X8_22 rfl rfl ?_
    refine y_iload_n dX8_passAll_136 rfl rfl ?_
    refine y_aload_n dX8_passAll_137 rfl rfl ?_
    refine y_aload_n dX8_passAll_138 rfl rfl ?_
    refine y_getr dX8_passAll_139 8 clX8 kd_58 (by decide) wm_fl_X8_22 rfl rfl ?_
    refine y_iload_n dX8_passAll_142 rfl rfl ?_
    refine y_iald dX8_passAll_143 j kd_63 rfl (by first | assumption | decide | omega) (by decide) ?_
    refine y_cV1 dX8_passAll_144 meX8_pass clX8 kd_58 wm_ml_X8_306 (kX8_pass (i := (b + 5 + 7 * j + 4)) (by omega) (psR_39 (by decide))) ⟨Nat.le_of_ble_eq_true rfl, Nat.le_of_ble_eq_true rfl⟩ ⟨rfl, rfl⟩ (Nat.le_of_ble_eq_true rfl) (fun v144 μ144 hp144 => ?_)
    obtain ⟨rfl, he144⟩ := hp144
    replace he144 := he144.symm
    subst he144
    refine y_ri ?_
    refine y_iast dX8_passAll_147 j kd_63 rfl (by first | assumption | decide | omega) (by decide) ?_
    refine y_eq (μ2 := psR 63 j (b + 5 + 7 * j + 4) (psR 62 j (b + 5 + 7 * j + 3) (psR 61 j (b + 5 + 7 * j + 2) (psR 60 j (b + 5 + 7 * j + 1) (psR 59 j (b + 5 + 7 * j) a))))) rfl rfl rfl ?_
    refine y_aload_n dX8_passAll_148 rfl rfl ?_
    refine y_getr dX8_passAll_149 9 clX8 kd_58 (by decide) wm_fl_X8_25 rfl rfl ?_
    refine y_iload_n dX8_passAll_152 rfl rfl ?_
    refine y_aload_n dX8_passAll_153 rfl rfl ?_
    refine y_aload_n dX8_passAll_154 rfl rfl ?_
    refine y_getr dX8_passAll_155 9 clX8 kd_58 (by decide) wm_fl_X8_25 rfl rfl ?_
    refine y_iload_n dX8_passAll_158 rfl rfl ?_
    refine y_iald dX8_passAll_159 j kd_64 rfl (by first | assumption | decide | omega) (by decide) ?_
    refine y_cV1 dX8_passAll_160 meX8_pass clX8 kd_58 wm_ml_X8_306 (kX8_pass (i := (b + 5 + 7 * j + 5)) (by omega) (psR_39 (by decide))) ⟨Nat.le_of_ble_eq_true rfl, Nat.le_of_ble_eq_true rfl⟩ ⟨rfl, rfl⟩ (Nat.le_of_ble_eq_true rfl) (fun v160 μ160 hp160 => ?_)
    obtain ⟨rfl, he160⟩ := hp160
    replace he160 := he160.symm
    subst he160
    refine y_ri ?_
    refine y_iast dX8_passAll_163 j kd_64 rfl (by first | assumption | decide | omega) (by decide) ?_
    refine y_eq (μ2 := psR 64 j (b + 5 + 7 * j + 5) (psR 63 j (b + 5 + 7 * j + 4) (psR 62 j (b + 5 + 7 * j + 3) (psR 61 j (b + 5 + 7 * j + 2) (psR 60 j (b + 5 + 7 * j + 1) (psR 59 j (b + 5 + 7 * j) a)))))) rfl rfl rfl ?_
    refine y_aload_n dX8_passAll_164 rfl rfl ?_
    refine y_getr dX8_passAll_165 10 clX8 kd_58 (by decide) wm_fl_X8_28 rfl rfl ?_
    refine y_iload_n dX8_passAll_168 rfl rfl ?_
    refine y_aload_n dX8_passAll_169 rfl rfl ?_
    refine y_aload_n dX8_passAll_170 rfl rfl ?_
    refine y_getr dX8_passAll_171 10 clX8 kd_58 (by decide) wm_fl_X8_28 rfl rfl ?_
    refine y_iload_n dX8_passAll_174 rfl rfl ?_
    refine y_iald dX8_passAll_175 j kd_65 rfl (by first | assumption | decide | omega) (by decide) ?_
    refine y_cV1 dX8_passAll_176 meX8_pass clX8 kd_58 wm_ml_X8_306 (kX8_pass (i := (b + 5 + 7 * j + 6)) (by omega) (psR_39 (by decide))) ⟨Nat.le_of_ble_eq_true rfl, Nat.le_of_ble_eq_true rfl⟩ ⟨rfl, rfl⟩ (Nat.le_of_ble_eq_true rfl) (fun v176 μ176 hp176 => ?_)
    obtain ⟨rfl, he176⟩ := hp176
    replace he176 := he176.symm
    subst he176
    refine y_ri ?_
    refine y_iast dX8_passAll_179 j kd_65 rfl (by first | assumption | decide | omega) (by decide) ?_
    refine y_eq (μ2 := psR 65 j (b + 5 + 7 * j + 6) (psR 64 j (b + 5 + 7 * j + 5) (psR 63 j (b + 5 + 7 * j + 4) (psR 62 j (b + 5 + 7 * j + 3) (psR 61 j (b + 5 + 7 * j + 2) (psR 60 j (b + 5 + 7 * j + 1) (psR 59 j (b + 5 + 7 * j) a))))))) rfl rfl rfl ?_
    refine y_iinc (v := nI (j + 1)) dX8_passAll_180 rfl (nI_i1 _) rfl (by decide) ?_
    refine y_goto 62 dX8_passAll_183 (by decide) ?_
    exact ih62 _ ⟨itr_nx hj hv62.1 rfl, (psR_39 (by decide)).trans (by rw [show b + 5 + 7 * j + 6 + 1 = b + 5 + 7 * (j + 1) by omega])⟩

set_option maxRecDepth 100000 in
set_option maxHeartbeats 4000000 in
theorem kX8_image {l : Launch} {G : GT} {μ : MemT} {x : Int32} : sw_Met l G yX8_image cX8_image 2 (some .int) (rmk 2 43) [.ref (G.2.1 58), .int x] μ (fun v μ2 => v = some (.int (mImage x μ).1) ∧ μ2 = (mImage x μ).2) := by
  refine sw_Met.ofY (by decide) (Nat.le_of_ble_eq_true rfl) rfl ?_
  refine y_iload_n dX8_image_0 rfl rfl ?_
  refine y_i2l dX8_image_1 ?_
  refine y_lconst dX8_image_2 lc_0 ?_
  refine y_lconst dX8_image_3 lc_1 ?_
  refine y_cS3 dX8_image_4 meX8_in wm_ml_X8_77 (kX8_in (A := 0) (B := 1) rfl rfl) ⟨Nat.le_of_ble_eq_true rfl, Nat.le_of_ble_eq_true rfl⟩ ⟨rfl, rfl⟩ (Nat.le_of_ble_eq_true rfl) (fun v4 μ4 hp4 => ?_)
  obtain ⟨rfl, he4⟩ := hp4
  replace he4 := he4.symm
  subst he4
  refine y_ri ?_
  refine y_ifb_ne 13 dX8_image_7 (by decide) (fun h7 => ?_) (fun h7 => ?_)
  · obtain ⟨q, hq1, rfl⟩ := inR_ex (n := 1) h7
    rcases (show q = 0 ∨ q = 1 by omega) with rfl | rfl
    · refine y_aload_n dX8_image_13 rfl rfl ?_
      refine y_bipush dX8_image_14 ib_80 ?_
      refine y_iload_n dX8_image_16 rfl rfl ?_
      refine y_imul dX8_image_17 ?_
      refine y_puti dX8_image_18 39 clX8 kd_58 (by decide) wm_fl_X8_303 rfl rfl rfl rfl (tyX8_ok 39 (by decide)) rfl rfl ?_
      refine y_aload_n dX8_image_21 rfl rfl ?_
      refine y_iconst dX8_image_22 ic_1 ?_
      refine y_puti dX8_image_23 40 clX8 kd_58 (by decide) wm_fl_X8_299 rfl rfl rfl rfl (tyX8_ok 40 (by decide)) rfl rfl ?_
      refine y_aload_n dX8_image_26 rfl rfl ?_
      refine y_cV0 dX8_image_27 meX8_passAll clX8 kd_58 wm_ml_X8_309 (kX8_passAll (b := 0) (by decide) rfl) ⟨Nat.le_of_ble_eq_true rfl, Nat.le_of_ble_eq_true rfl⟩ ⟨rfl, rfl⟩ (Nat.le_of_ble_eq_true rfl) (fun v27 μ27 hp27 => ?_)
      obtain ⟨rfl, he27⟩ := hp27
      replace he27 := he27.symm
      subst he27
      refine y_rv ?_
      refine y_aload_n dX8_image_30 rfl rfl ?_
      refine y_getr dX8_image_31 38 clX8 kd_58 (by decide) wm_fl_X8_68 rfl rfl ?_
      refine y_iload_n dX8_image_34 rfl rfl ?_
      refine y_iconst dX8_image_35 ic_1 ?_
      refine y_zast dX8_image_36 0 kd_78 rfl (by first | assumption | decide | omega) (by decide) ?_
      refine y_iconst dX8_image_37 ic_1 ?_
      refine y_iret dX8_image_38 ?_
      constructor <;> simp_all [mImage, cl_n, imW, mset_mset]
      all_goals rfl
    · refine y_aload_n dX8_image_13 rfl rfl ?_
      refine y_bipush dX8_image_14 ib_80 ?_
      refine y_iload_n dX8_image_16 rfl rfl ?_
      refine y_imul dX8_image_17 ?_
      refine y_puti dX8_image_18 39 clX8 kd_58 (by decide) wm_fl_X8_303 rfl rfl rfl rfl (tyX8_ok 39 (by decide)) rfl rfl ?_
      refine y_aload_n dX8_image_21 rfl rfl ?_
      refine y_iconst dX8_image_22 ic_1 ?_
      refine y_puti dX8_image_23 40 clX8 kd_58 (by decide) wm_fl_X8_299 rfl rfl rfl rfl (tyX8_ok 40 (by decide)) rfl rfl ?_
      refine y_aload_n dX8_image_26 rfl rfl ?_
      refine y_cV0 dX8_image_27 meX8_passAll clX8 kd_58 wm_ml_X8_309 (kX8_passAll (b := 80) (by decide) rfl) ⟨Nat.le_of_ble_eq_true rfl, Nat.le_of_ble_eq_true rfl⟩ ⟨rfl, rfl⟩ (Nat.le_of_ble_eq_true rfl) (fun v27 μ27 hp27 => ?_)
      obtain ⟨rfl, he27⟩ := hp27
      replace he27 := he27.symm
      subst he27
      refine y_rv ?_
      refine y_aload_n dX8_image_30 rfl rfl ?_
      refine y_getr dX8_image_31 38 clX8 kd_58 (by decide) wm_fl_X8_68 rfl rfl ?_
      refine y_iload_n dX8_image_34 rfl rfl ?_
      refine y_iconst dX8_image_35 ic_1 ?_
      refine y_zast dX8_image_36 1 kd_78 rfl (by first | assumption | decide | omega) (by decide) ?_
      refine y_iconst dX8_image_37 ic_1 ?_
      refine y_iret dX8_image_38 ?_
      constructor <;> simp_all [mImage, cl_n, imW, mset_mset]
      all_goals rfl
  · refine y_bipush dX8_image_10 ib_m2 ?_
    refine y_iret dX8_image_12 ?_
    constructor <;> simp_all [mImage]

set_option maxRecDepth 100000 in
set_option maxHeartbeats 4000000 in
theorem kX8_restore {l : Launch} {G : GT} {μ : MemT} {x : Int32} : sw_Met l G yX8_restore cX8_restore 2 (some .int) (rmk 2 43) [.ref (G.2.1 58), .int x] μ (fun v μ2 => v = some (.int (mRestore x μ).1) ∧ μ2 = (mRestore x μ).2) := by
  refine sw_Met.ofY (by decide) (Nat.le_of_ble_eq_true rfl) rfl ?_
  refine y_iload_n dX8_restore_0 rfl rfl ?_
  refine y_i2l dX8_restore_1 ?_
  refine y_lconst dX8_restore_2 lc_0 ?_
  refine y_lconst dX8_restore_3 lc_1 ?_
  refine y_cS3 dX8_restore_4 meX8_in wm_ml_X8_77 (kX8_in (A := 0) (B := 1) rfl rfl) ⟨Nat.le_of_ble_eq_true rfl, Nat.le_of_ble_eq_true rfl⟩ ⟨rfl, rfl⟩ (Nat.le_of_ble_eq_true rfl) (fun v4 μ4 hp4 => ?_)
  obtain ⟨rfl, he4⟩ := hp4
  replace he4 := he4.symm
  subst he4
  refine y_ri ?_
  refine y_ifb_ne 13 dX8_restore_7 (by decide) (fun h7 => ?_) (fun h7 => ?_)
  · obtain ⟨q, hq1, rfl⟩ := inR_ex (n := 1) h7
    rcases (show q = 0 ∨ q = 1 by omega) with rfl | rfl
    · refine y_aload_n dX8_restore_13 rfl rfl ?_
      refine y_getr dX8_restore_14 38 clX8 kd_58 (by decide) wm_fl_X8_68 rfl rfl ?_
      refine y_iload_n dX8_restore_17 rfl rfl ?_
      refine y_zald dX8_restore_18 0 kd_78 rfl (by first | assumption | decide | omega) (by decide) ?_
      refine y_if_ne 25 dX8_restore_19 (by decide) (fun h19 => ?_) (fun h19 => ?_)
      · refine y_aload_n dX8_restore_25 rfl rfl ?_
        refine y_bipush dX8_restore_26 ib_80 ?_
        refine y_iload_n dX8_restore_28 rfl rfl ?_
        refine y_imul dX8_restore_29 ?_
        refine y_puti dX8_restore_30 39 clX8 kd_58 (by decide) wm_fl_X8_303 rfl rfl rfl rfl (tyX8_ok 39 (by decide)) rfl rfl ?_
        refine y_aload_n dX8_restore_33 rfl rfl ?_
        refine y_iconst dX8_restore_34 ic_0 ?_
        refine y_puti dX8_restore_35 40 clX8 kd_58 (by decide) wm_fl_X8_299 rfl rfl rfl rfl (tyX8_ok 40 (by decide)) rfl rfl ?_
        refine y_aload_n dX8_restore_38 rfl rfl ?_
        refine y_cV0 dX8_restore_39 meX8_passAll clX8 kd_58 wm_ml_X8_309 (kX8_passAll (b := 0) (by decide) rfl) ⟨Nat.le_of_ble_eq_true rfl, Nat.le_of_ble_eq_true rfl⟩ ⟨rfl, rfl⟩ (Nat.le_of_ble_eq_true rfl) (fun v39 μ39 hp39 => ?_)
        obtain ⟨rfl, he39⟩ := hp39
        replace he39 := he39.symm
        subst he39
        refine y_rv ?_
        refine y_iconst dX8_restore_42 ic_1 ?_
        refine y_iret dX8_restore_43 ?_
        constructor <;> simp_all [mRestore, cl_n, imW, mset_mset]
        all_goals rfl
      · refine y_bipush dX8_restore_22 ib_m3 ?_
        refine y_iret dX8_restore_24 ?_
        constructor <;> simp_all [mRestore, cl_n, imW, mset_mset]
        all_goals rfl
    · refine y_aload_n dX8_restore_13 rfl rfl ?_
      refine y_getr dX8_restore_14 38 clX8 kd_58 (by decide) wm_fl_X8_68 rfl rfl ?_
      refine y_iload_n dX8_restore_17 rfl rfl ?_
      refine y_zald dX8_restore_18 1 kd_78 rfl (by first | assumption | decide | omega) (by decide) ?_
      refine y_if_ne 25 dX8_restore_19 (by decide) (fun h19 => ?_) (fun h19 => ?_)
      · refine y_aload_n dX8_restore_25 rfl rfl ?_
        refine y_bipush dX8_restore_26 ib_80 ?_
        refine y_iload_n dX8_restore_28 rfl rfl ?_
        refine y_imul dX8_restore_29 ?_
        refine y_puti dX8_restore_30 39 clX8 kd_58 (by decide) wm_fl_X8_303 rfl rfl rfl rfl (tyX8_ok 39 (by decide)) rfl rfl ?_
        refine y_aload_n dX8_restore_33 rfl rfl ?_
        refine y_iconst dX8_restore_34 ic_0 ?_
        refine y_puti dX8_restore_35 40 clX8 kd_58 (by decide) wm_fl_X8_299 rfl rfl rfl rfl (tyX8_ok 40 (by decide)) rfl rfl ?_
        refine y_aload_n dX8_restore_38 rfl rfl ?_
        refine y_cV0 dX8_restore_39 meX8_passAll clX8 kd_58 wm_ml_X8_309 (kX8_passAll (b := 80) (by decide) rfl) ⟨Nat.le_of_ble_eq_true rfl, Nat.le_of_ble_eq_true rfl⟩ ⟨rfl, rfl⟩ (Nat.le_of_ble_eq_true rfl) (fun v39 μ39 hp39 => ?_)
        obtain ⟨rfl, he39⟩ := hp39
        replace he39 := he39.symm
        subst he39
        refine y_rv ?_
        refine y_iconst dX8_restore_42 ic_1 ?_
        refine y_iret dX8_restore_43 ?_
        constructor <;> simp_all [mRestore, cl_n, imW, mset_mset]
        all_goals rfl
      · refine y_bipush dX8_restore_22 ib_m3 ?_
        refine y_iret dX8_restore_24 ?_
        constructor <;> simp_all [mRestore, cl_n, imW, mset_mset]
        all_goals rfl
  · refine y_bipush dX8_restore_10 ib_m2 ?_
    refine y_iret dX8_restore_12 ?_
    constructor <;> simp_all [mRestore]

set_option maxRecDepth 100000 in
set_option maxHeartbeats 4000000 in
theorem kX8_toldOf {l : Launch} {G : GT} {μ : MemT} {x k : Int32} : sw_Met l G yX8_toldOf cX8_toldOf 3 (some .int) (rmk 2 46) [.ref (G.2.1 58), .int x, .int k] μ (fun v μ2 => v = some (.int (mTell x k μ)) ∧ μ2 = μ) := by
  refine sw_Met.ofY (by decide) (Nat.le_of_ble_eq_true rfl) rfl ?_
  refine y_aload_n dX8_toldOf_0 rfl rfl ?_
  refine y_iload_n dX8_toldOf_1 rfl rfl ?_
  refine y_cV1 dX8_toldOf_2 meX8_isPerson clX8 kd_58 wm_ml_X8_84 (kX8_isPerson) ⟨Nat.le_of_ble_eq_true rfl, Nat.le_of_ble_eq_true rfl⟩ ⟨rfl, rfl⟩ (Nat.le_of_ble_eq_true rfl) (fun v2 μ2 hp2 => ?_)
  obtain ⟨rfl, he2⟩ := hp2
  replace he2 := he2.symm
  subst he2
  refine y_ri ?_
  refine y_ifb_ne 11 dX8_toldOf_5 (by decide) (fun h5 => ?_) (fun h5 => ?_)
  · obtain ⟨p, hp8, rfl, hpb⟩ := isP_ex h5
    refine y_iload_n dX8_toldOf_11 rfl rfl ?_
    refine y_if_ne 24 dX8_toldOf_12 (by decide) (fun h12 => ?_) (fun h12 => ?_)
    · refine y_iload_n dX8_toldOf_24 rfl rfl ?_
      refine y_iconst dX8_toldOf_25 ic_1 ?_
      refine y_icmp_ne 38 dX8_toldOf_26 (by decide) (fun h26 => ?_) (fun h26 => ?_)
      · refine y_iload_n dX8_toldOf_38 rfl rfl ?_
        refine y_iconst dX8_toldOf_39 ic_2 ?_
        refine y_icmp_ne 55 dX8_toldOf_40 (by decide) (fun h40 => ?_) (fun h40 => ?_)
        · refine y_iload_n dX8_toldOf_55 rfl rfl ?_
          refine y_iconst dX8_toldOf_56 ic_3 ?_
          refine y_icmp_ne 69 dX8_toldOf_57 (by decide) (fun h57 => ?_) (fun h57 => ?_)
          · refine y_bipush dX8_toldOf_69 ib_m2 ?_
            refine y_iret dX8_toldOf_71 ?_
            exact ⟨by simp_all [mTell, cl_8, isP_n], rfl⟩
          · refine y_aload_n dX8_toldOf_60 rfl rfl ?_
            refine y_getr dX8_toldOf_61 7 clX8 kd_58 (by decide) wm_fl_X8_19 rfl rfl ?_
            refine y_iload_n dX8_toldOf_64 rfl rfl ?_
            refine y_iald dX8_toldOf_65 p kd_62 rfl (by first | assumption | decide | omega) (by decide) ?_
            refine y_goto 71 dX8_toldOf_66 (by decide) ?_
            refine y_iret dX8_toldOf_71 ?_
            exact ⟨by simp_all [mTell, cl_8, isP_n], rfl⟩
        · refine y_aload_n dX8_toldOf_43 rfl rfl ?_
          refine y_getr dX8_toldOf_44 6 clX8 kd_58 (by decide) wm_fl_X8_16 rfl rfl ?_
          refine y_iload_n dX8_toldOf_47 rfl rfl ?_
          refine y_iald dX8_toldOf_48 p kd_61 rfl (by first | assumption | decide | omega) (by decide) ?_
          refine y_bipush dX8_toldOf_49 ib_9 ?_
          refine y_iadd dX8_toldOf_51 ?_
          refine y_goto 71 dX8_toldOf_52 (by decide) ?_
          refine y_iret dX8_toldOf_71 ?_
          exact ⟨by simp_all [mTell, cl_8, isP_n], rfl⟩
      · refine y_aload_n dX8_toldOf_29 rfl rfl ?_
        refine y_getr dX8_toldOf_30 5 clX8 kd_58 (by decide) wm_fl_X8_13 rfl rfl ?_
        refine y_iload_n dX8_toldOf_33 rfl rfl ?_
        refine y_iald dX8_toldOf_34 p kd_60 rfl (by first | assumption | decide | omega) (by decide) ?_
        refine y_goto 71 dX8_toldOf_35 (by decide) ?_
        refine y_iret dX8_toldOf_71 ?_
        exact ⟨by simp_all [mTell, cl_8, isP_n], rfl⟩
    · refine y_aload_n dX8_toldOf_15 rfl rfl ?_
      refine y_getr dX8_toldOf_16 4 clX8 kd_58 (by decide) wm_fl_X8_7 rfl rfl ?_
      refine y_iload_n dX8_toldOf_19 rfl rfl ?_
      refine y_iald dX8_toldOf_20 p kd_59 rfl (by first | assumption | decide | omega) (by decide) ?_
      refine y_goto 71 dX8_toldOf_21 (by decide) ?_
      refine y_iret dX8_toldOf_71 ?_
      exact ⟨by simp_all [mTell, cl_8, isP_n], rfl⟩
  · refine y_bipush dX8_toldOf_8 ib_m2 ?_
    refine y_iret dX8_toldOf_10 ?_
    exact ⟨by simp_all [mTell, cl_8, isP_n], rfl⟩

set_option maxRecDepth 100000 in
set_option maxHeartbeats 4000000 in
theorem kX8_told {l : Launch} {G : GT} {μ : MemT} {x : Int32} : sw_Met l G yX8_told cX8_told 2 (some .int) (rmk 3 68) [.ref (G.2.1 58), .int x] μ (fun v μ2 => v = some (.int (mTold x μ)) ∧ μ2 = μ) := by
  refine sw_Met.ofY (by decide) (Nat.le_of_ble_eq_true rfl) rfl ?_
  refine y_iload_n dX8_told_0 rfl rfl ?_
  refine y_i2l dX8_told_1 ?_
  refine y_ldc2 dX8_told_2 wm_cl_X8_281 ?_
  refine y_ldc2 dX8_told_5 wm_cl_X8_312 ?_
  refine y_cS3 dX8_told_8 meX8_in wm_ml_X8_77 (kX8_in (A := 10) (B := 89) rfl rfl) ⟨Nat.le_of_ble_eq_true rfl, Nat.le_of_ble_eq_true rfl⟩ ⟨rfl, rfl⟩ (Nat.le_of_ble_eq_true rfl) (fun v8 μ8 hp8 => ?_)
  obtain ⟨rfl, he8⟩ := hp8
  replace he8 := he8.symm
  subst he8
  refine y_ri ?_
  refine y_ifb_eq 29 dX8_told_11 (by decide) (fun h11 => ?_) (fun h11 => ?_)
  · refine y_iload_n dX8_told_29 rfl rfl ?_
    refine y_case 0 (fun hs30 => ?_) (fun hn30_0 => ?_)
    · refine y_tableIn 68 dX8_told_30 (by decide) (by decide) rfl (by decide) ?_
      refine y_aload_n dX8_told_68 rfl rfl ?_
      refine y_geti dX8_told_69 13 clX8 kd_58 (by decide) wm_fl_X8_121 rfl rfl ?_
      refine y_iret dX8_told_72 ?_
      exact ⟨by simp_all [mTold], rfl⟩
    refine y_case 1 (fun hs30 => ?_) (fun hn30_1 => ?_)
    · refine y_tableIn 73 dX8_told_30 (by decide) (by decide) rfl (by decide) ?_
      refine y_aload_n dX8_told_73 rfl rfl ?_
      refine y_geti dX8_told_74 0 clX8 kd_58 (by decide) wm_fl_X8_81 rfl rfl ?_
      refine y_iret dX8_told_77 ?_
      exact ⟨by simp_all [mTold], rfl⟩
    refine y_case 2 (fun hs30 => ?_) (fun hn30_2 => ?_)
    · refine y_tableIn 78 dX8_told_30 (by decide) (by decide) rfl (by decide) ?_
      refine y_aload_n dX8_told_78 rfl rfl ?_
      refine y_geti dX8_told_79 1 clX8 kd_58 (by decide) wm_fl_X8_88 rfl rfl ?_
      refine y_iret dX8_told_82 ?_
      exact ⟨by simp_all [mTold], rfl⟩
    refine y_case 3 (fun hs30 => ?_) (fun hn30_3 => ?_)
    · refine y_tableIn 83 dX8_told_30 (by decide) (by decide) rfl (by decide) ?_
      refine y_aload_n dX8_told_83 rfl rfl ?_
      refine y_geti dX8_told_84 2 clX8 kd_58 (by decide) wm_fl_X8_71 rfl rfl ?_
      refine y_iret dX8_told_87 ?_
      exact ⟨by simp_all [mTold], rfl⟩
    refine y_case 4 (fun hs30 => ?_) (fun hn30_4 => ?_)
    · refine y_tableIn 88 dX8_told_30 (by decide) (by decide) rfl (by decide) ?_
      refine y_aload_n dX8_told_88 rfl rfl ?_
      refine y_geti dX8_told_89 3 clX8 kd_58 (by decide) wm_fl_X8_162 rfl rfl ?_
      refine y_iret dX8_told_92 ?_
      exact ⟨by simp_all [mTold], rfl⟩
    refine y_case 5 (fun hs30 => ?_) (fun hn30_5 => ?_)
    · refine y_tableIn 93 dX8_told_30 (by decide) (by decide) rfl (by decide) ?_
      refine y_aload_n dX8_told_93 rfl rfl ?_
      refine y_geti dX8_told_94 11 clX8 kd_58 (by decide) wm_fl_X8_252 rfl rfl ?_
      refine y_iret dX8_told_97 ?_
      exact ⟨by simp_all [mTold], rfl⟩
    refine y_tableOut 98 dX8_told_30 (sw_out6 hn30_0 hn30_1 hn30_2 hn30_3 hn30_4 hn30_5) (by decide) ?_
    refine y_bipush dX8_told_98 ib_m2 ?_
    refine y_iret dX8_told_100 ?_
    exact ⟨by simp_all [mTold], rfl⟩
  · refine y_aload_n dX8_told_14 rfl rfl ?_
    refine y_iload_n dX8_told_15 rfl rfl ?_
    refine y_bipush dX8_told_16 ib_10 ?_
    refine y_idiv dX8_told_18 (by decide) ?_
    refine y_iconst dX8_told_19 ic_1 ?_
    refine y_isub dX8_told_20 ?_
    refine y_iload_n dX8_told_21 rfl rfl ?_
    refine y_bipush dX8_told_22 ib_10 ?_
    refine y_irem dX8_told_24 (by decide) ?_
    refine y_cV2 dX8_told_25 meX8_toldOf clX8 kd_58 wm_ml_X8_314 (kX8_toldOf) ⟨Nat.le_of_ble_eq_true rfl, Nat.le_of_ble_eq_true rfl⟩ ⟨rfl, rfl⟩ (Nat.le_of_ble_eq_true rfl) (fun v25 μ25 hp25 => ?_)
    obtain ⟨rfl, he25⟩ := hp25
    replace he25 := he25.symm
    subst he25
    refine y_ri ?_
    refine y_iret dX8_told_28 ?_
    exact ⟨by simp_all [mTold], rfl⟩
