theorem kd_0 : kdL[0]? = some (.inl (7, [.inl 18, .inl 1, .inl 2, .inl 3, .inl 5, .inl 6, .inl 11, .inl 16, .inl 17])) := rfl
theorem kd_1 : kdL[1]? = some (.inr (3, 2)) := rfl
theorem kd_2 : kdL[2]? = some (.inr (2, 2)) := rfl
theorem kd_3 : kdL[3]? = some (.inl (2, [.inl 4, .inr 0])) := rfl
theorem kd_4 : kdL[4]? = some (.inr (0, 60)) := rfl
theorem kd_5 : kdL[5]? = some (.inl (1, [.inl 42, .inr 0, .inr 0, .inr 0, .inr 0, .inr 0, .inr 0, .inr 0, .inr 0, .inr 0, .inr 0, .inr 0, .inr 0])) := rfl
theorem kd_6 : kdL[6]? = some (.inl (3, [.inl 7, .inl 8, .inl 9, .inl 10, .inr 0, .inr 0, .inr 0, .inr 0, .inr 0, .inr 0])) := rfl
theorem kd_7 : kdL[7]? = some (.inr (0, 256)) := rfl
theorem kd_8 : kdL[8]? = some (.inr (0, 256)) := rfl
theorem kd_9 : kdL[9]? = some (.inr (0, 256)) := rfl
theorem kd_10 : kdL[10]? = some (.inr (1, 3201)) := rfl
theorem kd_11 : kdL[11]? = some (.inl (5, [.inl 12, .inl 13, .inl 14, .inl 15, .inr 0, .inr 0, .inr 0])) := rfl
theorem kd_12 : kdL[12]? = some (.inr (0, 145)) := rfl
theorem kd_13 : kdL[13]? = some (.inr (0, 145)) := rfl
theorem kd_14 : kdL[14]? = some (.inr (0, 8)) := rfl
theorem kd_15 : kdL[15]? = some (.inr (0, 3)) := rfl
theorem kd_16 : kdL[16]? = some (.inl (0, [.inr 1, .inr 1])) := rfl
theorem kd_17 : kdL[17]? = some (.inl (6, [.inl 50, .inr 0, .inr 0, .inr 0])) := rfl
theorem kd_18 : kdL[18]? = some (.inl (4, twTm 18)) := rfl
theorem kd_19 : kdL[19]? = some (.inr (0, 8)) := rfl
theorem kd_20 : kdL[20]? = some (.inr (0, 8)) := rfl
theorem kd_21 : kdL[21]? = some (.inr (0, 8)) := rfl
theorem kd_22 : kdL[22]? = some (.inr (0, 8)) := rfl
theorem kd_23 : kdL[23]? = some (.inr (0, 8)) := rfl
theorem kd_24 : kdL[24]? = some (.inr (0, 8)) := rfl
theorem kd_25 : kdL[25]? = some (.inr (0, 8)) := rfl
theorem kd_26 : kdL[26]? = some (.inl (4, twTm 26)) := rfl
theorem kd_27 : kdL[27]? = some (.inr (0, 8)) := rfl
theorem kd_28 : kdL[28]? = some (.inr (0, 8)) := rfl
theorem kd_29 : kdL[29]? = some (.inr (0, 8)) := rfl
theorem kd_30 : kdL[30]? = some (.inr (0, 8)) := rfl
theorem kd_31 : kdL[31]? = some (.inr (0, 8)) := rfl
theorem kd_32 : kdL[32]? = some (.inr (0, 8)) := rfl
theorem kd_33 : kdL[33]? = some (.inr (0, 8)) := rfl
theorem kd_34 : kdL[34]? = some (.inl (4, twTm 34)) := rfl
theorem kd_35 : kdL[35]? = some (.inr (0, 8)) := rfl
theorem kd_36 : kdL[36]? = some (.inr (0, 8)) := rfl
theorem kd_37 : kdL[37]? = some (.inr (0, 8)) := rfl
theorem kd_38 : kdL[38]? = some (.inr (0, 8)) := rfl
theorem kd_39 : kdL[39]? = some (.inr (0, 8)) := rfl
theorem kd_40 : kdL[40]? = some (.inr (0, 8)) := rfl
theorem kd_41 : kdL[41]? = some (.inr (0, 8)) := rfl
theorem kd_42 : kdL[42]? = some (.inl (4, twTm 42)) := rfl
theorem kd_43 : kdL[43]? = some (.inr (0, 8)) := rfl
theorem kd_44 : kdL[44]? = some (.inr (0, 8)) := rfl
theorem kd_45 : kdL[45]? = some (.inr (0, 8)) := rfl
theorem kd_46 : kdL[46]? = some (.inr (0, 8)) := rfl
theorem kd_47 : kdL[47]? = some (.inr (0, 8)) := rfl
theorem kd_48 : kdL[48]? = some (.inr (0, 8)) := rfl
theorem kd_49 : kdL[49]? = some (.inr (0, 8)) := rfl
theorem kd_50 : kdL[50]? = some (.inl (4, twTm 50)) := rfl
theorem kd_51 : kdL[51]? = some (.inr (0, 8)) := rfl
theorem kd_52 : kdL[52]? = some (.inr (0, 8)) := rfl
theorem kd_53 : kdL[53]? = some (.inr (0, 8)) := rfl
theorem kd_54 : kdL[54]? = some (.inr (0, 8)) := rfl
theorem kd_55 : kdL[55]? = some (.inr (0, 8)) := rfl
theorem kd_56 : kdL[56]? = some (.inr (0, 8)) := rfl
theorem kd_57 : kdL[57]? = some (.inr (0, 8)) := rfl
theorem kd_58 : kdL[58]? = some (.inl (8, [.inr 0, .inr 0, .inr 0, .inr 0, .inl 59, .inl 60, .inl 61, .inl 62, .inl 63, .inl 64, .inl 65, .inr 0, .inl 66, .inr 0, .inl 67, .inl 68, .inl 69, .inl 70, .inr 0, .inr 0, .inr 0, .inr 0, .inr 0, .inl 71, .inr 0, .inr 0, .inr 0, .inr 0, .inl 72, .inl 73, .inr 0, .inr 0, .inr 0, .inl 74, .inl 75, .inl 76, .inr 0, .inl 77, .inl 78, .inr 0, .inr 0])) := rfl
theorem kd_59 : kdL[59]? = some (.inr (0, 8)) := rfl
theorem kd_60 : kdL[60]? = some (.inr (0, 8)) := rfl
theorem kd_61 : kdL[61]? = some (.inr (0, 8)) := rfl
theorem kd_62 : kdL[62]? = some (.inr (0, 8)) := rfl
theorem kd_63 : kdL[63]? = some (.inr (0, 8)) := rfl
theorem kd_64 : kdL[64]? = some (.inr (0, 8)) := rfl
theorem kd_65 : kdL[65]? = some (.inr (0, 8)) := rfl
theorem kd_66 : kdL[66]? = some (.inr (0, 60)) := rfl
theorem kd_67 : kdL[67]? = some (.inr (0, 60)) := rfl
theorem kd_68 : kdL[68]? = some (.inr (0, 60)) := rfl
theorem kd_69 : kdL[69]? = some (.inr (0, 60)) := rfl
theorem kd_70 : kdL[70]? = some (.inr (0, 60)) := rfl
theorem kd_71 : kdL[71]? = some (.inr (0, 8)) := rfl
theorem kd_72 : kdL[72]? = some (.inr (0, 8)) := rfl
theorem kd_73 : kdL[73]? = some (.inr (0, 8)) := rfl
theorem kd_74 : kdL[74]? = some (.inr (2, 3201)) := rfl
theorem kd_75 : kdL[75]? = some (.inr (0, 145)) := rfl
theorem kd_76 : kdL[76]? = some (.inr (0, 145)) := rfl
theorem kd_77 : kdL[77]? = some (.inr (0, 160)) := rfl
theorem kd_78 : kdL[78]? = some (.inr (2, 2)) := rfl
def isTw (b : Nat) : Prop := kdL[b]? = some (.inl (4, twTm b)) ∧ kdL[b + 1]? = some (.inr (0, 8)) ∧ kdL[b + 2]? = some (.inr (0, 8)) ∧ kdL[b + 3]? = some (.inr (0, 8)) ∧ kdL[b + 4]? = some (.inr (0, 8)) ∧ kdL[b + 5]? = some (.inr (0, 8)) ∧ kdL[b + 6]? = some (.inr (0, 8)) ∧ kdL[b + 7]? = some (.inr (0, 8))
theorem tw_0 {b : Nat} (h : isTw b) : kdL[b]? = some (.inl (4, twTm b)) := h.1
theorem tw_1 {b : Nat} (h : isTw b) : kdL[b + 1]? = some (.inr (0, 8)) := h.2.1
theorem tw_2 {b : Nat} (h : isTw b) : kdL[b + 2]? = some (.inr (0, 8)) := h.2.2.1
theorem tw_3 {b : Nat} (h : isTw b) : kdL[b + 3]? = some (.inr (0, 8)) := h.2.2.2.1
theorem tw_4 {b : Nat} (h : isTw b) : kdL[b + 4]? = some (.inr (0, 8)) := h.2.2.2.2.1
theorem tw_5 {b : Nat} (h : isTw b) : kdL[b + 5]? = some (.inr (0, 8)) := h.2.2.2.2.2.1
theorem tw_6 {b : Nat} (h : isTw b) : kdL[b + 6]? = some (.inr (0, 8)) := h.2.2.2.2.2.2.1
theorem tw_7 {b : Nat} (h : isTw b) : kdL[b + 7]? = some (.inr (0, 8)) := h.2.2.2.2.2.2.2
theorem tw18 : isTw 18 := ⟨rfl, rfl, rfl, rfl, rfl, rfl, rfl, rfl⟩
theorem tw26 : isTw 26 := ⟨rfl, rfl, rfl, rfl, rfl, rfl, rfl, rfl⟩
theorem tw34 : isTw 34 := ⟨rfl, rfl, rfl, rfl, rfl, rfl, rfl, rfl⟩
theorem tw42 : isTw 42 := ⟨rfl, rfl, rfl, rfl, rfl, rfl, rfl, rfl⟩
theorem tw50 : isTw 50 := ⟨rfl, rfl, rfl, rfl, rfl, rfl, rfl, rfl⟩
theorem ib_m9 : (Int8.ofInt (-9)).toInt32 = (-9) := by decide
theorem ib_m6 : (Int8.ofInt (-6)).toInt32 = (-6) := by decide
theorem ib_m5 : (Int8.ofInt (-5)).toInt32 = (-5) := by decide
theorem ib_m4 : (Int8.ofInt (-4)).toInt32 = (-4) := by decide
theorem ib_m3 : (Int8.ofInt (-3)).toInt32 = (-3) := by decide
theorem ib_m2 : (Int8.ofInt (-2)).toInt32 = (-2) := by decide
theorem ib_6 : (Int8.ofInt 6).toInt32 = 6 := by decide
theorem ibn_6 : (Int8.ofInt 6).toInt32 = nI 6 := by decide
theorem ib_7 : (Int8.ofInt 7).toInt32 = 7 := by decide
theorem ibn_7 : (Int8.ofInt 7).toInt32 = nI 7 := by decide
theorem ib_8 : (Int8.ofInt 8).toInt32 = 8 := by decide
theorem ibn_8 : (Int8.ofInt 8).toInt32 = nI 8 := by decide
theorem ib_9 : (Int8.ofInt 9).toInt32 = 9 := by decide
theorem ibn_9 : (Int8.ofInt 9).toInt32 = nI 9 := by decide
theorem ib_10 : (Int8.ofInt 10).toInt32 = 10 := by decide
theorem ibn_10 : (Int8.ofInt 10).toInt32 = nI 10 := by decide
theorem ib_16 : (Int8.ofInt 16).toInt32 = 16 := by decide
theorem ibn_16 : (Int8.ofInt 16).toInt32 = nI 16 := by decide
theorem ib_31 : (Int8.ofInt 31).toInt32 = 31 := by decide
theorem ibn_31 : (Int8.ofInt 31).toInt32 = nI 31 := by decide
theorem ib_33 : (Int8.ofInt 33).toInt32 = 33 := by decide
theorem ibn_33 : (Int8.ofInt 33).toInt32 = nI 33 := by decide
theorem ib_42 : (Int8.ofInt 42).toInt32 = 42 := by decide
theorem ibn_42 : (Int8.ofInt 42).toInt32 = nI 42 := by decide
theorem ib_46 : (Int8.ofInt 46).toInt32 = 46 := by decide
theorem ibn_46 : (Int8.ofInt 46).toInt32 = nI 46 := by decide
theorem ib_50 : (Int8.ofInt 50).toInt32 = 50 := by decide
theorem ibn_50 : (Int8.ofInt 50).toInt32 = nI 50 := by decide
theorem ib_59 : (Int8.ofInt 59).toInt32 = 59 := by decide
theorem ibn_59 : (Int8.ofInt 59).toInt32 = nI 59 := by decide
theorem ib_60 : (Int8.ofInt 60).toInt32 = 60 := by decide
theorem ibn_60 : (Int8.ofInt 60).toInt32 = nI 60 := by decide
theorem ib_63 : (Int8.ofInt 63).toInt32 = 63 := by decide
theorem ibn_63 : (Int8.ofInt 63).toInt32 = nI 63 := by decide
theorem ib_65 : (Int8.ofInt 65).toInt32 = 65 := by decide
theorem ibn_65 : (Int8.ofInt 65).toInt32 = nI 65 := by decide
theorem ib_72 : (Int8.ofInt 72).toInt32 = 72 := by decide
theorem ibn_72 : (Int8.ofInt 72).toInt32 = nI 72 := by decide
theorem ib_74 : (Int8.ofInt 74).toInt32 = 74 := by decide
theorem ibn_74 : (Int8.ofInt 74).toInt32 = nI 74 := by decide
theorem ib_75 : (Int8.ofInt 75).toInt32 = 75 := by decide
theorem ibn_75 : (Int8.ofInt 75).toInt32 = nI 75 := by decide
theorem ib_80 : (Int8.ofInt 80).toInt32 = 80 := by decide
theorem ibn_80 : (Int8.ofInt 80).toInt32 = nI 80 := by decide
theorem ib_94 : (Int8.ofInt 94).toInt32 = 94 := by decide
theorem ibn_94 : (Int8.ofInt 94).toInt32 = nI 94 := by decide
theorem ib_99 : (Int8.ofInt 99).toInt32 = 99 := by decide
theorem ibn_99 : (Int8.ofInt 99).toInt32 = nI 99 := by decide
theorem ib_100 : (Int8.ofInt 100).toInt32 = 100 := by decide
theorem ibn_100 : (Int8.ofInt 100).toInt32 = nI 100 := by decide
theorem ib_124 : (Int8.ofInt 124).toInt32 = 124 := by decide
theorem ibn_124 : (Int8.ofInt 124).toInt32 = nI 124 := by decide
theorem ib_126 : (Int8.ofInt 126).toInt32 = 126 := by decide
theorem ibn_126 : (Int8.ofInt 126).toInt32 = nI 126 := by decide
theorem ic_m1 : Int32.ofInt (-1) = (-1) := by decide
theorem ic_0 : Int32.ofInt 0 = 0 := by decide
theorem icn_0 : Int32.ofInt 0 = nI 0 := by decide
theorem ic_1 : Int32.ofInt 1 = 1 := by decide
theorem icn_1 : Int32.ofInt 1 = nI 1 := by decide
theorem ic_2 : Int32.ofInt 2 = 2 := by decide
theorem icn_2 : Int32.ofInt 2 = nI 2 := by decide
theorem ic_3 : Int32.ofInt 3 = 3 := by decide
theorem icn_3 : Int32.ofInt 3 = nI 3 := by decide
theorem ic_4 : Int32.ofInt 4 = 4 := by decide
theorem icn_4 : Int32.ofInt 4 = nI 4 := by decide
theorem ic_5 : Int32.ofInt 5 = 5 := by decide
theorem icn_5 : Int32.ofInt 5 = nI 5 := by decide
theorem is_145 : (Int16.ofInt 145).toInt32 = 145 := by decide
theorem isn_145 : (Int16.ofInt 145).toInt32 = nI 145 := by decide
theorem is_160 : (Int16.ofInt 160).toInt32 = 160 := by decide
theorem isn_160 : (Int16.ofInt 160).toInt32 = nI 160 := by decide
theorem is_200 : (Int16.ofInt 200).toInt32 = 200 := by decide
theorem isn_200 : (Int16.ofInt 200).toInt32 = nI 200 := by decide
theorem is_255 : (Int16.ofInt 255).toInt32 = 255 := by decide
theorem isn_255 : (Int16.ofInt 255).toInt32 = nI 255 := by decide
theorem is_256 : (Int16.ofInt 256).toInt32 = 256 := by decide
theorem isn_256 : (Int16.ofInt 256).toInt32 = nI 256 := by decide
theorem is_400 : (Int16.ofInt 400).toInt32 = 400 := by decide
theorem isn_400 : (Int16.ofInt 400).toInt32 = nI 400 := by decide
theorem is_999 : (Int16.ofInt 999).toInt32 = 999 := by decide
theorem isn_999 : (Int16.ofInt 999).toInt32 = nI 999 := by decide
theorem is_1000 : (Int16.ofInt 1000).toInt32 = 1000 := by decide
theorem isn_1000 : (Int16.ofInt 1000).toInt32 = nI 1000 := by decide
theorem is_3200 : (Int16.ofInt 3200).toInt32 = 3200 := by decide
theorem isn_3200 : (Int16.ofInt 3200).toInt32 = nI 3200 := by decide
theorem is_3201 : (Int16.ofInt 3201).toInt32 = 3201 := by decide
theorem isn_3201 : (Int16.ofInt 3201).toInt32 = nI 3201 := by decide
theorem is_6561 : (Int16.ofInt 6561).toInt32 = 6561 := by decide
theorem isn_6561 : (Int16.ofInt 6561).toInt32 = nI 6561 := by decide
theorem is_9999 : (Int16.ofInt 9999).toInt32 = 9999 := by decide
theorem isn_9999 : (Int16.ofInt 9999).toInt32 = nI 9999 := by decide
theorem lc_0 : Int64.ofNat ((0 : Fin 2) : Nat) = 0 := by decide
theorem lc_1 : Int64.ofNat ((1 : Fin 2) : Nat) = 1 := by decide
theorem nI_i1 (j : Nat) : nI j + Int32.ofInt 1 = nI (j + 1) := nI_1 j
theorem ii_1 (x : Int32) : x + Int32.ofInt 1 = x + 1 := rfl
theorem mset_eq {μ : MemT} {k : Nat} {r : Nat → Int32} (h : μ k = r) : μ = mset μ k r := by rw [← h, mset_same]
abbrev rmk (f lo : Nat) : Room := { frames := f, cells := 0, slots := 0, locals := lo }
/-- a counted loop: n turns from place j on -/
def itr {α : Type} (step : Nat → α → α) : Nat → Nat → α → α
  | 0, _, a => a
  | n + 1, j, a => itr step n (j + 1) (step j a)
theorem itr_0 {α : Type} (step : Nat → α → α) (j : Nat) (a : α) : itr step 0 j a = a := rfl
theorem itr_S {α : Type} (step : Nat → α → α) (n j : Nat) (a : α) : itr step (n + 1) j a = itr step n (j + 1) (step j a) := rfl
theorem itr_cong {α : Type} {f g : Nat → α → α} : ∀ (n j : Nat) (a : α), (∀ (k : Nat) (x : α), j ≤ k → k < j + n → f k x = g k x) → itr f n j a = itr g n j a
  | 0, _, _, _ => rfl
  | n + 1, j, a, h => by
    rw [itr_S, itr_S, h j a (Nat.le_refl _) (by omega)]
    exact itr_cong n (j + 1) _ (fun k x h1 h2 => h k x (by omega) (by omega))
/-- the first place from j on, within n, that c holds of -/
def fnd (c : Nat → Bool) : Nat → Nat → Option Nat
  | 0, _ => none
  | n + 1, j => if c j then some j else fnd c n (j + 1)
theorem fnd_0 (c : Nat → Bool) (j : Nat) : fnd c 0 j = none := rfl
theorem fnd_t {c : Nat → Bool} {j : Nat} (n : Nat) (h : c j = true) : fnd c (n + 1) j = some j := by rw [fnd, if_pos h]
theorem fnd_f {c : Nat → Bool} {j : Nat} (n : Nat) (h : c j = false) : fnd c (n + 1) j = fnd c n (j + 1) := by rw [fnd, if_neg (by rw [h]; decide)]
theorem fnd_cong {c d : Nat → Bool} : ∀ (n j : Nat), (∀ k, j ≤ k → k < j + n → c k = d k) → fnd c n j = fnd d n j
  | 0, _, _ => rfl
  | n + 1, j, h => by
    rw [fnd, fnd, h j (Nat.le_refl _) (by omega), fnd_cong n (j + 1) (fun k h1 h2 => h k (by omega) (by omega))]

theorem y_ri {l : Launch} {G : GT} {R : Room} {κ : KT} {cc : ByteArray} {n : Nat} {own : String} {μ : MemT} {pc : Nat} {lv : List (Option Value)} {st : List Value} {r : Int32} (h : Yj l G R κ cc n own μ pc lv (.int r :: st)) : Yj l G R κ cc n own μ pc lv ((some (.int r)).toList ++ st) := h
theorem y_rl {l : Launch} {G : GT} {R : Room} {κ : KT} {cc : ByteArray} {n : Nat} {own : String} {μ : MemT} {pc : Nat} {lv : List (Option Value)} {st : List Value} {r : Int64} (h : Yj l G R κ cc n own μ pc lv (.long r :: st)) : Yj l G R κ cc n own μ pc lv ((some (.long r)).toList ++ st) := h
theorem y_rv {l : Launch} {G : GT} {R : Room} {κ : KT} {cc : ByteArray} {n : Nat} {own : String} {μ : MemT} {pc : Nat} {lv : List (Option Value)} {st : List Value} (h : Yj l G R κ cc n own μ pc lv st) : Yj l G R κ cc n own μ pc lv (Option.toList (none : Option Value) ++ st) := h
theorem y_ifb_eq {l : Launch} {G : GT} {R : Room} {κ : KT} {cc : ByteArray} {n : Nat} {own : String} {μ : MemT} {pc : Nat} {lv : List (Option Value)} {st : List Value} {b : Bool} {off : Int} (tgt : Nat) (d : decode cc pc = .ok (.ifCond .eq off, 3)) (ht : (pc : Int) + off = (tgt : Int)) (kt : b = false → Yj l G R κ cc n own μ tgt lv st) (kf : b = true → Yj l G R κ cc n own μ (pc + 3) lv st) : Yj l G R κ cc n own μ pc lv (.int (bI b) :: st) := y_if_eq tgt d ht (fun q => kt ((bI_eq0 b).mp q)) (fun q => kf ((bI_ne0 b).mp q))
theorem y_ifb_ne {l : Launch} {G : GT} {R : Room} {κ : KT} {cc : ByteArray} {n : Nat} {own : String} {μ : MemT} {pc : Nat} {lv : List (Option Value)} {st : List Value} {b : Bool} {off : Int} (tgt : Nat) (d : decode cc pc = .ok (.ifCond .ne off, 3)) (ht : (pc : Int) + off = (tgt : Int)) (kt : b = true → Yj l G R κ cc n own μ tgt lv st) (kf : b = false → Yj l G R κ cc n own μ (pc + 3) lv st) : Yj l G R κ cc n own μ pc lv (.int (bI b) :: st) := y_if_ne tgt d ht (fun q => kt ((bI_ne0 b).mp q)) (fun q => kf ((bI_eq0 b).mp q))
theorem y_cV0 {l : Launch} {G : GT} {R : Room} {κ : KT} {cc : ByteArray} {n : Nat} {own : String} {μ : MemT} {pc : Nat} {lv : List (Option Value)} {st : List Value} {y : MethodName} {bytes : ByteArray} {maxL index : Nat} {ret : Option FieldType} {rm : Room} {post : Option Value → MemT → Prop} {b ci N : Nat} {C : String} {T : u_T} {ty0 : Nat → FieldType} {tm : List (Nat ⊕ Nat)} (d : decode cc pc = .ok (.invokevirtual index, 3)) (me : sw_meV y bytes maxL ret C 0) (cl : sw_cl ci C T N ty0) (hb : kdL[b]? = some (.inl (ci, tm))) (hw : Cond.methodLink own index y ∈ wL) (hM : sw_Met l G y bytes maxL ret rm (.ref (G.2.1 b) :: []) μ post) (hR : rm.frames + 1 ≤ R.frames ∧ 8 + (maxL + 11) + rm.locals ≤ R.locals) (hrm : rm.cells = 0 ∧ rm.slots = 0) (hroom : (st.map fun v => v.category).sum ≤ 8) (h : ∀ (v : Option Value) (μ2 : MemT), post v μ2 → Yj l G R κ cc n own μ2 (pc + 3) lv (v.toList ++ st)) : Yj l G R κ cc n own μ pc lv (.ref (G.2.1 b) :: st) := y_callV (As := []) (rest := st) me cl hb hM hw hR hrm rfl hroom rfl d h
theorem y_cS0 {l : Launch} {G : GT} {R : Room} {κ : KT} {cc : ByteArray} {n : Nat} {own : String} {μ : MemT} {pc : Nat} {lv : List (Option Value)} {st : List Value} {y : MethodName} {bytes : ByteArray} {maxL index : Nat} {ret : Option FieldType} {rm : Room} {post : Option Value → MemT → Prop} (d : decode cc pc = .ok (.invokestatic index, 3)) (me : sw_meS y bytes maxL ret 0) (hw : Cond.methodLink own index y ∈ wL) (hM : sw_Met l G y bytes maxL ret rm [] μ post) (hR : rm.frames + 1 ≤ R.frames ∧ 8 + (maxL + 11) + rm.locals ≤ R.locals) (hrm : rm.cells = 0 ∧ rm.slots = 0) (hroom : (st.map fun v => v.category).sum ≤ 8) (h : ∀ (v : Option Value) (μ2 : MemT), post v μ2 → Yj l G R κ cc n own μ2 (pc + 3) lv (v.toList ++ st)) : Yj l G R κ cc n own μ pc lv st := y_callS (As := []) (rest := st) me hM hw hR hrm rfl hroom rfl d h
theorem y_cN0 {l : Launch} {G : GT} {R : Room} {κ : KT} {cc : ByteArray} {n : Nat} {own : String} {μ : MemT} {pc : Nat} {lv : List (Option Value)} {st : List Value} {y : MethodName} {bytes : ByteArray} {maxL index : Nat} {ret : Option FieldType} {rm : Room} {post : Option Value → MemT → Prop} {host : String} (d : decode cc pc = .ok (.invokestatic index, 3)) (me : sw_meS y bytes maxL ret 0) (hw : Cond.methodLinkNest own index y host ∈ wL_nest) (hM : sw_Met l G y bytes maxL ret rm [] μ post) (hR : rm.frames + 1 ≤ R.frames ∧ 8 + (maxL + 11) + rm.locals ≤ R.locals) (hrm : rm.cells = 0 ∧ rm.slots = 0) (hroom : (st.map fun v => v.category).sum ≤ 8) (h : ∀ (v : Option Value) (μ2 : MemT), post v μ2 → Yj l G R κ cc n own μ2 (pc + 3) lv (v.toList ++ st)) : Yj l G R κ cc n own μ pc lv st := y_callSN (As := []) (rest := st) me hM hw hR hrm rfl hroom rfl d h
theorem y_cV1 {l : Launch} {G : GT} {R : Room} {κ : KT} {cc : ByteArray} {n : Nat} {own : String} {μ : MemT} {pc : Nat} {lv : List (Option Value)} {st : List Value} {y : MethodName} {bytes : ByteArray} {maxL index : Nat} {ret : Option FieldType} {rm : Room} {post : Option Value → MemT → Prop} {a1 : Value} {b ci N : Nat} {C : String} {T : u_T} {ty0 : Nat → FieldType} {tm : List (Nat ⊕ Nat)} (d : decode cc pc = .ok (.invokevirtual index, 3)) (me : sw_meV y bytes maxL ret C 1) (cl : sw_cl ci C T N ty0) (hb : kdL[b]? = some (.inl (ci, tm))) (hw : Cond.methodLink own index y ∈ wL) (hM : sw_Met l G y bytes maxL ret rm (.ref (G.2.1 b) :: [a1]) μ post) (hR : rm.frames + 1 ≤ R.frames ∧ 8 + (maxL + 11) + rm.locals ≤ R.locals) (hrm : rm.cells = 0 ∧ rm.slots = 0) (hroom : (st.map fun v => v.category).sum ≤ 8) (h : ∀ (v : Option Value) (μ2 : MemT), post v μ2 → Yj l G R κ cc n own μ2 (pc + 3) lv (v.toList ++ st)) : Yj l G R κ cc n own μ pc lv (a1 :: .ref (G.2.1 b) :: st) := y_callV (As := [a1]) (rest := st) me cl hb hM hw hR hrm rfl hroom rfl d h
theorem y_cS1 {l : Launch} {G : GT} {R : Room} {κ : KT} {cc : ByteArray} {n : Nat} {own : String} {μ : MemT} {pc : Nat} {lv : List (Option Value)} {st : List Value} {y : MethodName} {bytes : ByteArray} {maxL index : Nat} {ret : Option FieldType} {rm : Room} {post : Option Value → MemT → Prop} {a1 : Value} (d : decode cc pc = .ok (.invokestatic index, 3)) (me : sw_meS y bytes maxL ret 1) (hw : Cond.methodLink own index y ∈ wL) (hM : sw_Met l G y bytes maxL ret rm [a1] μ post) (hR : rm.frames + 1 ≤ R.frames ∧ 8 + (maxL + 11) + rm.locals ≤ R.locals) (hrm : rm.cells = 0 ∧ rm.slots = 0) (hroom : (st.map fun v => v.category).sum ≤ 8) (h : ∀ (v : Option Value) (μ2 : MemT), post v μ2 → Yj l G R κ cc n own μ2 (pc + 3) lv (v.toList ++ st)) : Yj l G R κ cc n own μ pc lv (a1 :: st) := y_callS (As := [a1]) (rest := st) me hM hw hR hrm rfl hroom rfl d h
theorem y_cN1 {l : Launch} {G : GT} {R : Room} {κ : KT} {cc : ByteArray} {n : Nat} {own : String} {μ : MemT} {pc : Nat} {lv : List (Option Value)} {st : List Value} {y : MethodName} {bytes : ByteArray} {maxL index : Nat} {ret : Option FieldType} {rm : Room} {post : Option Value → MemT → Prop} {a1 : Value} {host : String} (d : decode cc pc = .ok (.invokestatic index, 3)) (me : sw_meS y bytes maxL ret 1) (hw : Cond.methodLinkNest own index y host ∈ wL_nest) (hM : sw_Met l G y bytes maxL ret rm [a1] μ post) (hR : rm.frames + 1 ≤ R.frames ∧ 8 + (maxL + 11) + rm.locals ≤ R.locals) (hrm : rm.cells = 0 ∧ rm.slots = 0) (hroom : (st.map fun v => v.category).sum ≤ 8) (h : ∀ (v : Option Value) (μ2 : MemT), post v μ2 → Yj l G R κ cc n own μ2 (pc + 3) lv (v.toList ++ st)) : Yj l G R κ cc n own μ pc lv (a1 :: st) := y_callSN (As := [a1]) (rest := st) me hM hw hR hrm rfl hroom rfl d h
theorem y_cV2 {l : Launch} {G : GT} {R : Room} {κ : KT} {cc : ByteArray} {n : Nat} {own : String} {μ : MemT} {pc : Nat} {lv : List (Option Value)} {st : List Value} {y : MethodName} {bytes : ByteArray} {maxL index : Nat} {ret : Option FieldType} {rm : Room} {post : Option Value → MemT → Prop} {a1 a2 : Value} {b ci N : Nat} {C : String} {T : u_T} {ty0 : Nat → FieldType} {tm : List (Nat ⊕ Nat)} (d : decode cc pc = .ok (.invokevirtual index, 3)) (me : sw_meV y bytes maxL ret C 2) (cl : sw_cl ci C T N ty0) (hb : kdL[b]? = some (.inl (ci, tm))) (hw : Cond.methodLink own index y ∈ wL) (hM : sw_Met l G y bytes maxL ret rm (.ref (G.2.1 b) :: [a1, a2]) μ post) (hR : rm.frames + 1 ≤ R.frames ∧ 8 + (maxL + 11) + rm.locals ≤ R.locals) (hrm : rm.cells = 0 ∧ rm.slots = 0) (hroom : (st.map fun v => v.category).sum ≤ 8) (h : ∀ (v : Option Value) (μ2 : MemT), post v μ2 → Yj l G R κ cc n own μ2 (pc + 3) lv (v.toList ++ st)) : Yj l G R κ cc n own μ pc lv (a2 :: a1 :: .ref (G.2.1 b) :: st) := y_callV (As := [a1, a2]) (rest := st) me cl hb hM hw hR hrm rfl hroom rfl d h
theorem y_cS2 {l : Launch} {G : GT} {R : Room} {κ : KT} {cc : ByteArray} {n : Nat} {own : String} {μ : MemT} {pc : Nat} {lv : List (Option Value)} {st : List Value} {y : MethodName} {bytes : ByteArray} {maxL index : Nat} {ret : Option FieldType} {rm : Room} {post : Option Value → MemT → Prop} {a1 a2 : Value} (d : decode cc pc = .ok (.invokestatic index, 3)) (me : sw_meS y bytes maxL ret 2) (hw : Cond.methodLink own index y ∈ wL) (hM : sw_Met l G y bytes maxL ret rm [a1, a2] μ post) (hR : rm.frames + 1 ≤ R.frames ∧ 8 + (maxL + 11) + rm.locals ≤ R.locals) (hrm : rm.cells = 0 ∧ rm.slots = 0) (hroom : (st.map fun v => v.category).sum ≤ 8) (h : ∀ (v : Option Value) (μ2 : MemT), post v μ2 → Yj l G R κ cc n own μ2 (pc + 3) lv (v.toList ++ st)) : Yj l G R κ cc n own μ pc lv (a2 :: a1 :: st) := y_callS (As := [a1, a2]) (rest := st) me hM hw hR hrm rfl hroom rfl d h
theorem y_cN2 {l : Launch} {G : GT} {R : Room} {κ : KT} {cc : ByteArray} {n : Nat} {own : String} {μ : MemT} {pc : Nat} {lv : List (Option Value)} {st : List Value} {y : MethodName} {bytes : ByteArray} {maxL index : Nat} {ret : Option FieldType} {rm : Room} {post : Option Value → MemT → Prop} {a1 a2 : Value} {host : String} (d : decode cc pc = .ok (.invokestatic index, 3)) (me : sw_meS y bytes maxL ret 2) (hw : Cond.methodLinkNest own index y host ∈ wL_nest) (hM : sw_Met l G y bytes maxL ret rm [a1, a2] μ post) (hR : rm.frames + 1 ≤ R.frames ∧ 8 + (maxL + 11) + rm.locals ≤ R.locals) (hrm : rm.cells = 0 ∧ rm.slots = 0) (hroom : (st.map fun v => v.category).sum ≤ 8) (h : ∀ (v : Option Value) (μ2 : MemT), post v μ2 → Yj l G R κ cc n own μ2 (pc + 3) lv (v.toList ++ st)) : Yj l G R κ cc n own μ pc lv (a2 :: a1 :: st) := y_callSN (As := [a1, a2]) (rest := st) me hM hw hR hrm rfl hroom rfl d h
theorem y_cV3 {l : Launch} {G : GT} {R : Room} {κ : KT} {cc : ByteArray} {n : Nat} {own : String} {μ : MemT} {pc : Nat} {lv : List (Option Value)} {st : List Value} {y : MethodName} {bytes : ByteArray} {maxL index : Nat} {ret : Option FieldType} {rm : Room} {post : Option Value → MemT → Prop} {a1 a2 a3 : Value} {b ci N : Nat} {C : String} {T : u_T} {ty0 : Nat → FieldType} {tm : List (Nat ⊕ Nat)} (d : decode cc pc = .ok (.invokevirtual index, 3)) (me : sw_meV y bytes maxL ret C 3) (cl : sw_cl ci C T N ty0) (hb : kdL[b]? = some (.inl (ci, tm))) (hw : Cond.methodLink own index y ∈ wL) (hM : sw_Met l G y bytes maxL ret rm (.ref (G.2.1 b) :: [a1, a2, a3]) μ post) (hR : rm.frames + 1 ≤ R.frames ∧ 8 + (maxL + 11) + rm.locals ≤ R.locals) (hrm : rm.cells = 0 ∧ rm.slots = 0) (hroom : (st.map fun v => v.category).sum ≤ 8) (h : ∀ (v : Option Value) (μ2 : MemT), post v μ2 → Yj l G R κ cc n own μ2 (pc + 3) lv (v.toList ++ st)) : Yj l G R κ cc n own μ pc lv (a3 :: a2 :: a1 :: .ref (G.2.1 b) :: st) := y_callV (As := [a1, a2, a3]) (rest := st) me cl hb hM hw hR hrm rfl hroom rfl d h
theorem y_cS3 {l : Launch} {G : GT} {R : Room} {κ : KT} {cc : ByteArray} {n : Nat} {own : String} {μ : MemT} {pc : Nat} {lv : List (Option Value)} {st : List Value} {y : MethodName} {bytes : ByteArray} {maxL index : Nat} {ret : Option FieldType} {rm : Room} {post : Option Value → MemT → Prop} {a1 a2 a3 : Value} (d : decode cc pc = .ok (.invokestatic index, 3)) (me : sw_meS y bytes maxL ret 3) (hw : Cond.methodLink own index y ∈ wL) (hM : sw_Met l G y bytes maxL ret rm [a1, a2, a3] μ post) (hR : rm.frames + 1 ≤ R.frames ∧ 8 + (maxL + 11) + rm.locals ≤ R.locals) (hrm : rm.cells = 0 ∧ rm.slots = 0) (hroom : (st.map fun v => v.category).sum ≤ 8) (h : ∀ (v : Option Value) (μ2 : MemT), post v μ2 → Yj l G R κ cc n own μ2 (pc + 3) lv (v.toList ++ st)) : Yj l G R κ cc n own μ pc lv (a3 :: a2 :: a1 :: st) := y_callS (As := [a1, a2, a3]) (rest := st) me hM hw hR hrm rfl hroom rfl d h
theorem y_cN3 {l : Launch} {G : GT} {R : Room} {κ : KT} {cc : ByteArray} {n : Nat} {own : String} {μ : MemT} {pc : Nat} {lv : List (Option Value)} {st : List Value} {y : MethodName} {bytes : ByteArray} {maxL index : Nat} {ret : Option FieldType} {rm : Room} {post : Option Value → MemT → Prop} {a1 a2 a3 : Value} {host : String} (d : decode cc pc = .ok (.invokestatic index, 3)) (me : sw_meS y bytes maxL ret 3) (hw : Cond.methodLinkNest own index y host ∈ wL_nest) (hM : sw_Met l G y bytes maxL ret rm [a1, a2, a3] μ post) (hR : rm.frames + 1 ≤ R.frames ∧ 8 + (maxL + 11) + rm.locals ≤ R.locals) (hrm : rm.cells = 0 ∧ rm.slots = 0) (hroom : (st.map fun v => v.category).sum ≤ 8) (h : ∀ (v : Option Value) (μ2 : MemT), post v μ2 → Yj l G R κ cc n own μ2 (pc + 3) lv (v.toList ++ st)) : Yj l G R κ cc n own μ pc lv (a3 :: a2 :: a1 :: st) := y_callSN (As := [a1, a2, a3]) (rest := st) me hM hw hR hrm rfl hroom rfl d h
theorem y_cV4 {l : Launch} {G : GT} {R : Room} {κ : KT} {cc : ByteArray} {n : Nat} {own : String} {μ : MemT} {pc : Nat} {lv : List (Option Value)} {st : List Value} {y : MethodName} {bytes : ByteArray} {maxL index : Nat} {ret : Option FieldType} {rm : Room} {post : Option Value → MemT → Prop} {a1 a2 a3 a4 : Value} {b ci N : Nat} {C : String} {T : u_T} {ty0 : Nat → FieldType} {tm : List (Nat ⊕ Nat)} (d : decode cc pc = .ok (.invokevirtual index, 3)) (me : sw_meV y bytes maxL ret C 4) (cl : sw_cl ci C T N ty0) (hb : kdL[b]? = some (.inl (ci, tm))) (hw : Cond.methodLink own index y ∈ wL) (hM : sw_Met l G y bytes maxL ret rm (.ref (G.2.1 b) :: [a1, a2, a3, a4]) μ post) (hR : rm.frames + 1 ≤ R.frames ∧ 8 + (maxL + 11) + rm.locals ≤ R.locals) (hrm : rm.cells = 0 ∧ rm.slots = 0) (hroom : (st.map fun v => v.category).sum ≤ 8) (h : ∀ (v : Option Value) (μ2 : MemT), post v μ2 → Yj l G R κ cc n own μ2 (pc + 3) lv (v.toList ++ st)) : Yj l G R κ cc n own μ pc lv (a4 :: a3 :: a2 :: a1 :: .ref (G.2.1 b) :: st) := y_callV (As := [a1, a2, a3, a4]) (rest := st) me cl hb hM hw hR hrm rfl hroom rfl d h
theorem y_cS4 {l : Launch} {G : GT} {R : Room} {κ : KT} {cc : ByteArray} {n : Nat} {own : String} {μ : MemT} {pc : Nat} {lv : List (Option Value)} {st : List Value} {y : MethodName} {bytes : ByteArray} {maxL index : Nat} {ret : Option FieldType} {rm : Room} {post : Option Value → MemT → Prop} {a1 a2 a3 a4 : Value} (d : decode cc pc = .ok (.invokestatic index, 3)) (me : sw_meS y bytes maxL ret 4) (hw : Cond.methodLink own index y ∈ wL) (hM : sw_Met l G y bytes maxL ret rm [a1, a2, a3, a4] μ post) (hR : rm.frames + 1 ≤ R.frames ∧ 8 + (maxL + 11) + rm.locals ≤ R.locals) (hrm : rm.cells = 0 ∧ rm.slots = 0) (hroom : (st.map fun v => v.category).sum ≤ 8) (h : ∀ (v : Option Value) (μ2 : MemT), post v μ2 → Yj l G R κ cc n own μ2 (pc + 3) lv (v.toList ++ st)) : Yj l G R κ cc n own μ pc lv (a4 :: a3 :: a2 :: a1 :: st) := y_callS (As := [a1, a2, a3, a4]) (rest := st) me hM hw hR hrm rfl hroom rfl d h
theorem y_cN4 {l : Launch} {G : GT} {R : Room} {κ : KT} {cc : ByteArray} {n : Nat} {own : String} {μ : MemT} {pc : Nat} {lv : List (Option Value)} {st : List Value} {y : MethodName} {bytes : ByteArray} {maxL index : Nat} {ret : Option FieldType} {rm : Room} {post : Option Value → MemT → Prop} {a1 a2 a3 a4 : Value} {host : String} (d : decode cc pc = .ok (.invokestatic index, 3)) (me : sw_meS y bytes maxL ret 4) (hw : Cond.methodLinkNest own index y host ∈ wL_nest) (hM : sw_Met l G y bytes maxL ret rm [a1, a2, a3, a4] μ post) (hR : rm.frames + 1 ≤ R.frames ∧ 8 + (maxL + 11) + rm.locals ≤ R.locals) (hrm : rm.cells = 0 ∧ rm.slots = 0) (hroom : (st.map fun v => v.category).sum ≤ 8) (h : ∀ (v : Option Value) (μ2 : MemT), post v μ2 → Yj l G R κ cc n own μ2 (pc + 3) lv (v.toList ++ st)) : Yj l G R κ cc n own μ pc lv (a4 :: a3 :: a2 :: a1 :: st) := y_callSN (As := [a1, a2, a3, a4]) (rest := st) me hM hw hR hrm rfl hroom rfl d h
theorem y_cV5 {l : Launch} {G : GT} {R : Room} {κ : KT} {cc : ByteArray} {n : Nat} {own : String} {μ : MemT} {pc : Nat} {lv : List (Option Value)} {st : List Value} {y : MethodName} {bytes : ByteArray} {maxL index : Nat} {ret : Option FieldType} {rm : Room} {post : Option Value → MemT → Prop} {a1 a2 a3 a4 a5 : Value} {b ci N : Nat} {C : String} {T : u_T} {ty0 : Nat → FieldType} {tm : List (Nat ⊕ Nat)} (d : decode cc pc = .ok (.invokevirtual index, 3)) (me : sw_meV y bytes maxL ret C 5) (cl : sw_cl ci C T N ty0) (hb : kdL[b]? = some (.inl (ci, tm))) (hw : Cond.methodLink own index y ∈ wL) (hM : sw_Met l G y bytes maxL ret rm (.ref (G.2.1 b) :: [a1, a2, a3, a4, a5]) μ post) (hR : rm.frames + 1 ≤ R.frames ∧ 8 + (maxL + 11) + rm.locals ≤ R.locals) (hrm : rm.cells = 0 ∧ rm.slots = 0) (hroom : (st.map fun v => v.category).sum ≤ 8) (h : ∀ (v : Option Value) (μ2 : MemT), post v μ2 → Yj l G R κ cc n own μ2 (pc + 3) lv (v.toList ++ st)) : Yj l G R κ cc n own μ pc lv (a5 :: a4 :: a3 :: a2 :: a1 :: .ref (G.2.1 b) :: st) := y_callV (As := [a1, a2, a3, a4, a5]) (rest := st) me cl hb hM hw hR hrm rfl hroom rfl d h
theorem y_cS5 {l : Launch} {G : GT} {R : Room} {κ : KT} {cc : ByteArray} {n : Nat} {own : String} {μ : MemT} {pc : Nat} {lv : List (Option Value)} {st : List Value} {y : MethodName} {bytes : ByteArray} {maxL index : Nat} {ret : Option FieldType} {rm : Room} {post : Option Value → MemT → Prop} {a1 a2 a3 a4 a5 : Value} (d : decode cc pc = .ok (.invokestatic index, 3)) (me : sw_meS y bytes maxL ret 5) (hw : Cond.methodLink own index y ∈ wL) (hM : sw_Met l G y bytes maxL ret rm [a1, a2, a3, a4, a5] μ post) (hR : rm.frames + 1 ≤ R.frames ∧ 8 + (maxL + 11) + rm.locals ≤ R.locals) (hrm : rm.cells = 0 ∧ rm.slots = 0) (hroom : (st.map fun v => v.category).sum ≤ 8) (h : ∀ (v : Option Value) (μ2 : MemT), post v μ2 → Yj l G R κ cc n own μ2 (pc + 3) lv (v.toList ++ st)) : Yj l G R κ cc n own μ pc lv (a5 :: a4 :: a3 :: a2 :: a1 :: st) := y_callS (As := [a1, a2, a3, a4, a5]) (rest := st) me hM hw hR hrm rfl hroom rfl d h
theorem y_cN5 {l : Launch} {G : GT} {R : Room} {κ : KT} {cc : ByteArray} {n : Nat} {own : String} {μ : MemT} {pc : Nat} {lv : List (Option Value)} {st : List Value} {y : MethodName} {bytes : ByteArray} {maxL index : Nat} {ret : Option FieldType} {rm : Room} {post : Option Value → MemT → Prop} {a1 a2 a3 a4 a5 : Value} {host : String} (d : decode cc pc = .ok (.invokestatic index, 3)) (me : sw_meS y bytes maxL ret 5) (hw : Cond.methodLinkNest own index y host ∈ wL_nest) (hM : sw_Met l G y bytes maxL ret rm [a1, a2, a3, a4, a5] μ post) (hR : rm.frames + 1 ≤ R.frames ∧ 8 + (maxL + 11) + rm.locals ≤ R.locals) (hrm : rm.cells = 0 ∧ rm.slots = 0) (hroom : (st.map fun v => v.category).sum ≤ 8) (h : ∀ (v : Option Value) (μ2 : MemT), post v μ2 → Yj l G R κ cc n own μ2 (pc + 3) lv (v.toList ++ st)) : Yj l G R κ cc n own μ pc lv (a5 :: a4 :: a3 :: a2 :: a1 :: st) := y_callSN (As := [a1, a2, a3, a4, a5]) (rest := st) me hM hw hR hrm rfl hroom rfl d h
theorem y_cV6 {l : Launch} {G : GT} {R : Room} {κ : KT} {cc : ByteArray} {n : Nat} {own : String} {μ : MemT} {pc : Nat} {lv : List (Option Value)} {st : List Value} {y : MethodName} {bytes : ByteArray} {maxL index : Nat} {ret : Option FieldType} {rm : Room} {post : Option Value → MemT → Prop} {a1 a2 a3 a4 a5 a6 : Value} {b ci N : Nat} {C : String} {T : u_T} {ty0 : Nat → FieldType} {tm : List (Nat ⊕ Nat)} (d : decode cc pc = .ok (.invokevirtual index, 3)) (me : sw_meV y bytes maxL ret C 6) (cl : sw_cl ci C T N ty0) (hb : kdL[b]? = some (.inl (ci, tm))) (hw : Cond.methodLink own index y ∈ wL) (hM : sw_Met l G y bytes maxL ret rm (.ref (G.2.1 b) :: [a1, a2, a3, a4, a5, a6]) μ post) (hR : rm.frames + 1 ≤ R.frames ∧ 8 + (maxL + 11) + rm.locals ≤ R.locals) (hrm : rm.cells = 0 ∧ rm.slots = 0) (hroom : (st.map fun v => v.category).sum ≤ 8) (h : ∀ (v : Option Value) (μ2 : MemT), post v μ2 → Yj l G R κ cc n own μ2 (pc + 3) lv (v.toList ++ st)) : Yj l G R κ cc n own μ pc lv (a6 :: a5 :: a4 :: a3 :: a2 :: a1 :: .ref (G.2.1 b) :: st) := y_callV (As := [a1, a2, a3, a4, a5, a6]) (rest := st) me cl hb hM hw hR hrm rfl hroom rfl d h
theorem y_cS6 {l : Launch} {G : GT} {R : Room} {κ : KT} {cc : ByteArray} {n : Nat} {own : String} {μ : MemT} {pc : Nat} {lv : List (Option Value)} {st : List Value} {y : MethodName} {bytes : ByteArray} {maxL index : Nat} {ret : Option FieldType} {rm : Room} {post : Option Value → MemT → Prop} {a1 a2 a3 a4 a5 a6 : Value} (d : decode cc pc = .ok (.invokestatic index, 3)) (me : sw_meS y bytes maxL ret 6) (hw : Cond.methodLink own index y ∈ wL) (hM : sw_Met l G y bytes maxL ret rm [a1, a2, a3, a4, a5, a6] μ post) (hR : rm.frames + 1 ≤ R.frames ∧ 8 + (maxL + 11) + rm.locals ≤ R.locals) (hrm : rm.cells = 0 ∧ rm.slots = 0) (hroom : (st.map fun v => v.category).sum ≤ 8) (h : ∀ (v : Option Value) (μ2 : MemT), post v μ2 → Yj l G R κ cc n own μ2 (pc + 3) lv (v.toList ++ st)) : Yj l G R κ cc n own μ pc lv (a6 :: a5 :: a4 :: a3 :: a2 :: a1 :: st) := y_callS (As := [a1, a2, a3, a4, a5, a6]) (rest := st) me hM hw hR hrm rfl hroom rfl d h
theorem y_cN6 {l : Launch} {G : GT} {R : Room} {κ : KT} {cc : ByteArray} {n : Nat} {own : String} {μ : MemT} {pc : Nat} {lv : List (Option Value)} {st : List Value} {y : MethodName} {bytes : ByteArray} {maxL index : Nat} {ret : Option FieldType} {rm : Room} {post : Option Value → MemT → Prop} {a1 a2 a3 a4 a5 a6 : Value} {host : String} (d : decode cc pc = .ok (.invokestatic index, 3)) (me : sw_meS y bytes maxL ret 6) (hw : Cond.methodLinkNest own index y host ∈ wL_nest) (hM : sw_Met l G y bytes maxL ret rm [a1, a2, a3, a4, a5, a6] μ post) (hR : rm.frames + 1 ≤ R.frames ∧ 8 + (maxL + 11) + rm.locals ≤ R.locals) (hrm : rm.cells = 0 ∧ rm.slots = 0) (hroom : (st.map fun v => v.category).sum ≤ 8) (h : ∀ (v : Option Value) (μ2 : MemT), post v μ2 → Yj l G R κ cc n own μ2 (pc + 3) lv (v.toList ++ st)) : Yj l G R κ cc n own μ pc lv (a6 :: a5 :: a4 :: a3 :: a2 :: a1 :: st) := y_callSN (As := [a1, a2, a3, a4, a5, a6]) (rest := st) me hM hw hR hrm rfl hroom rfl d h
theorem y_case {l : Launch} {G : GT} {R : Room} {κ : KT} {cc : ByteArray} {n : Nat} {own : String} {μ : MemT} {pc : Nat} {lv : List (Option Value)} {st : List Value} {x : Int32} (k : Int32) (kt : x = k → Yj l G R κ cc n own μ pc lv (.int k :: st)) (kf : ¬ x = k → Yj l G R κ cc n own μ pc lv (.int x :: st)) : Yj l G R κ cc n own μ pc lv (.int x :: st) := by
  by_cases hq : x = k
  · have := kt hq
    subst hq
    exact this
  · exact kf hq
theorem ne_toInt {x k : Int32} (h : ¬ x = k) : ¬ x.toInt = k.toInt := fun q => h (Int32.toInt_inj.mp q)
theorem sw_out3 {x : Int32} (h0 : ¬ x = 0) (h1 : ¬ x = 1) (h2 : ¬ x = 2) : x.toInt < 0 ∨ 2 < x.toInt := by
  have e0 : ¬ x.toInt = 0 := ne_toInt h0
  have e1 : ¬ x.toInt = 1 := ne_toInt h1
  have e2 : ¬ x.toInt = 2 := ne_toInt h2
  omega
theorem sw_out4 {x : Int32} (h0 : ¬ x = 0) (h1 : ¬ x = 1) (h2 : ¬ x = 2) (h3 : ¬ x = 3) : x.toInt < 0 ∨ 3 < x.toInt := by
  have e0 : ¬ x.toInt = 0 := ne_toInt h0
  have e1 : ¬ x.toInt = 1 := ne_toInt h1
  have e2 : ¬ x.toInt = 2 := ne_toInt h2
  have e3 : ¬ x.toInt = 3 := ne_toInt h3
  omega
theorem sw_out5 {x : Int32} (h0 : ¬ x = 0) (h1 : ¬ x = 1) (h2 : ¬ x = 2) (h3 : ¬ x = 3) (h4 : ¬ x = 4) : x.toInt < 0 ∨ 4 < x.toInt := by
  have e0 : ¬ x.toInt = 0 := ne_toInt h0
  have e1 : ¬ x.toInt = 1 := ne_toInt h1
  have e2 : ¬ x.toInt = 2 := ne_toInt h2
  have e3 : ¬ x.toInt = 3 := ne_toInt h3
  have e4 : ¬ x.toInt = 4 := ne_toInt h4
  omega
theorem sw_out6 {x : Int32} (h0 : ¬ x = 0) (h1 : ¬ x = 1) (h2 : ¬ x = 2) (h3 : ¬ x = 3) (h4 : ¬ x = 4) (h5 : ¬ x = 5) : x.toInt < 0 ∨ 5 < x.toInt := by
  have e0 : ¬ x.toInt = 0 := ne_toInt h0
  have e1 : ¬ x.toInt = 1 := ne_toInt h1
  have e2 : ¬ x.toInt = 2 := ne_toInt h2
  have e3 : ¬ x.toInt = 3 := ne_toInt h3
  have e4 : ¬ x.toInt = 4 := ne_toInt h4
  have e5 : ¬ x.toInt = 5 := ne_toInt h5
  omega
theorem sw_out30 {x : Int32} (h0 : ¬ x = 0) (h1 : ¬ x = 1) (h2 : ¬ x = 2) (h3 : ¬ x = 3) (h4 : ¬ x = 4) (h5 : ¬ x = 5) (h6 : ¬ x = 6) (h7 : ¬ x = 7) (h8 : ¬ x = 8) (h9 : ¬ x = 9) (h10 : ¬ x = 10) (h11 : ¬ x = 11) (h12 : ¬ x = 12) (h13 : ¬ x = 13) (h14 : ¬ x = 14) (h15 : ¬ x = 15) (h16 : ¬ x = 16) (h17 : ¬ x = 17) (h18 : ¬ x = 18) (h19 : ¬ x = 19) (h20 : ¬ x = 20) (h21 : ¬ x = 21) (h22 : ¬ x = 22) (h23 : ¬ x = 23) (h24 : ¬ x = 24) (h25 : ¬ x = 25) (h26 : ¬ x = 26) (h27 : ¬ x = 27) (h28 : ¬ x = 28) (h29 : ¬ x = 29) : x.toInt < 0 ∨ 29 < x.toInt := by
  have e0 : ¬ x.toInt = 0 := ne_toInt h0
  have e1 : ¬ x.toInt = 1 := ne_toInt h1
  have e2 : ¬ x.toInt = 2 := ne_toInt h2
  have e3 : ¬ x.toInt = 3 := ne_toInt h3
  have e4 : ¬ x.toInt = 4 := ne_toInt h4
  have e5 : ¬ x.toInt = 5 := ne_toInt h5
  have e6 : ¬ x.toInt = 6 := ne_toInt h6
  have e7 : ¬ x.toInt = 7 := ne_toInt h7
  have e8 : ¬ x.toInt = 8 := ne_toInt h8
  have e9 : ¬ x.toInt = 9 := ne_toInt h9
  have e10 : ¬ x.toInt = 10 := ne_toInt h10
  have e11 : ¬ x.toInt = 11 := ne_toInt h11
  have e12 : ¬ x.toInt = 12 := ne_toInt h12
  have e13 : ¬ x.toInt = 13 := ne_toInt h13
  have e14 : ¬ x.toInt = 14 := ne_toInt h14
  have e15 : ¬ x.toInt = 15 := ne_toInt h15
  have e16 : ¬ x.toInt = 16 := ne_toInt h16
  have e17 : ¬ x.toInt = 17 := ne_toInt h17
  have e18 : ¬ x.toInt = 18 := ne_toInt h18
  have e19 : ¬ x.toInt = 19 := ne_toInt h19
  have e20 : ¬ x.toInt = 20 := ne_toInt h20
  have e21 : ¬ x.toInt = 21 := ne_toInt h21
  have e22 : ¬ x.toInt = 22 := ne_toInt h22
  have e23 : ¬ x.toInt = 23 := ne_toInt h23
  have e24 : ¬ x.toInt = 24 := ne_toInt h24
  have e25 : ¬ x.toInt = 25 := ne_toInt h25
  have e26 : ¬ x.toInt = 26 := ne_toInt h26
  have e27 : ¬ x.toInt = 27 := ne_toInt h27
  have e28 : ¬ x.toInt = 28 := ne_toInt h28
  have e29 : ¬ x.toInt = 29 := ne_toInt h29
  omega
theorem itr_st {α : Type} (step : Nat → α → α) {N j : Nat} (a : α) (hj : j < N) : itr step (N - j) j a = itr step (N - (j + 1)) (j + 1) (step j a) := by
  rw [show N - j = (N - (j + 1)) + 1 by omega, itr_S]
theorem itr_nx {α : Type} {step : Nat → α → α} {N j : Nat} {a a' R : α} (hj : j < N) (hinv : itr step (N - j) j a = R) (h : a' = step j a) : itr step (N - (j + 1)) (j + 1) a' = R := by
  rw [h, ← itr_st step a hj]; exact hinv
theorem itr_ex {α : Type} {step : Nat → α → α} {N : Nat} {a R : α} (hinv : itr step (N - N) N a = R) : a = R := by
  rw [Nat.sub_self] at hinv; exact hinv
theorem fnd_nx {c : Nat → Bool} {N j : Nat} {R : Option Nat} (hj : j < N) (hinv : fnd c (N - j) j = R) (h : c j = false) : fnd c (N - (j + 1)) (j + 1) = R := by
  rw [show N - j = (N - (j + 1)) + 1 by omega, fnd_f _ h] at hinv; exact hinv
theorem fnd_hit {c : Nat → Bool} {N j : Nat} {R : Option Nat} (hj : j < N) (hinv : fnd c (N - j) j = R) (h : c j = true) : R = some j := by
  rw [show N - j = (N - (j + 1)) + 1 by omega, fnd_t _ h] at hinv; exact hinv.symm
theorem fnd_ex {c : Nat → Bool} {N : Nat} {R : Option Nat} (hinv : fnd c (N - N) N = R) : R = none := by
  rw [Nat.sub_self] at hinv; exact hinv.symm
theorem y_loop0 {l : Launch} {G : GT} {R : Room} {κ : KT} {cc : ByteArray} {n : Nat} {own : String} {pc : Nat} (Lv : Nat → List (Option Value)) (M : Nat → MemT) (inv : Nat → Prop) (N : Nat) (hx : inv N  → Yj l G R κ cc n own (M (N) ) pc (Lv (N) ) []) (hb : ∀ (j : Nat) , j < N → inv j  → (inv (j + 1)  → Yj l G R κ cc n own (M (j + 1) ) pc (Lv (j + 1) ) []) → Yj l G R κ cc n own (M (j) ) pc (Lv (j) ) []) : ∀ (j : Nat) , j ≤ N → inv j  → Yj l G R κ cc n own (M (j) ) pc (Lv (j) ) [] := by
  intro j
  have key : ∀ (m j : Nat), j + m = N → inv j  → Yj l G R κ cc n own (M (j) ) pc (Lv (j) ) [] := by
    intro m
    induction m with
    | zero =>
      intro j hj  hi
      have : j = N := by omega
      subst this
      exact hx  hi
    | succ m ih =>
      intro j hj  hi
      exact hb j  (by omega) hi (ih (j + 1) (by omega))
  intro  hj hi
  exact key (N - j) j (by omega)  hi
theorem y_loop1 {l : Launch} {G : GT} {R : Room} {κ : KT} {cc : ByteArray} {n : Nat} {own : String} {pc : Nat} {α : Type} (Lv : Nat → α → List (Option Value)) (M : Nat → α → MemT) (inv : Nat → α → Prop) (N : Nat) (hx : ∀ (a : α), inv N a → Yj l G R κ cc n own (M (N) a) pc (Lv (N) a) []) (hb : ∀ (j : Nat) (a : α), j < N → inv j a → (∀ (a2 : α), inv (j + 1) a2 → Yj l G R κ cc n own (M (j + 1) a2) pc (Lv (j + 1) a2) []) → Yj l G R κ cc n own (M (j) a) pc (Lv (j) a) []) : ∀ (j : Nat) (a : α), j ≤ N → inv j a → Yj l G R κ cc n own (M (j) a) pc (Lv (j) a) [] := by
  intro j
  have key : ∀ (m j : Nat), j + m = N → ∀ (a : α), inv j a → Yj l G R κ cc n own (M (j) a) pc (Lv (j) a) [] := by
    intro m
    induction m with
    | zero =>
      intro j hj a hi
      have : j = N := by omega
      subst this
      exact hx a hi
    | succ m ih =>
      intro j hj a hi
      exact hb j a (by omega) hi (ih (j + 1) (by omega))
  intro a hj hi
  exact key (N - j) j (by omega) a hi
theorem y_loop2 {l : Launch} {G : GT} {R : Room} {κ : KT} {cc : ByteArray} {n : Nat} {own : String} {pc : Nat} {α β : Type} (Lv : Nat → α → β → List (Option Value)) (M : Nat → α → β → MemT) (inv : Nat → α → β → Prop) (N : Nat) (hx : ∀ (a : α) (b : β), inv N a b → Yj l G R κ cc n own (M (N) a b) pc (Lv (N) a b) []) (hb : ∀ (j : Nat) (a : α) (b : β), j < N → inv j a b → (∀ (a2 : α) (b2 : β), inv (j + 1) a2 b2 → Yj l G R κ cc n own (M (j + 1) a2 b2) pc (Lv (j + 1) a2 b2) []) → Yj l G R κ cc n own (M (j) a b) pc (Lv (j) a b) []) : ∀ (j : Nat) (a : α) (b : β), j ≤ N → inv j a b → Yj l G R κ cc n own (M (j) a b) pc (Lv (j) a b) [] := by
  intro j
  have key : ∀ (m j : Nat), j + m = N → ∀ (a : α) (b : β), inv j a b → Yj l G R κ cc n own (M (j) a b) pc (Lv (j) a b) [] := by
    intro m
    induction m with
    | zero =>
      intro j hj a b hi
      have : j = N := by omega
      subst this
      exact hx a b hi
    | succ m ih =>
      intro j hj a b hi
      exact hb j a b (by omega) hi (ih (j + 1) (by omega))
  intro a b hj hi
  exact key (N - j) j (by omega) a b hi
theorem y_loop3 {l : Launch} {G : GT} {R : Room} {κ : KT} {cc : ByteArray} {n : Nat} {own : String} {pc : Nat} {α β γ : Type} (Lv : Nat → α → β → γ → List (Option Value)) (M : Nat → α → β → γ → MemT) (inv : Nat → α → β → γ → Prop) (N : Nat) (hx : ∀ (a : α) (b : β) (c : γ), inv N a b c → Yj l G R κ cc n own (M (N) a b c) pc (Lv (N) a b c) []) (hb : ∀ (j : Nat) (a : α) (b : β) (c : γ), j < N → inv j a b c → (∀ (a2 : α) (b2 : β) (c2 : γ), inv (j + 1) a2 b2 c2 → Yj l G R κ cc n own (M (j + 1) a2 b2 c2) pc (Lv (j + 1) a2 b2 c2) []) → Yj l G R κ cc n own (M (j) a b c) pc (Lv (j) a b c) []) : ∀ (j : Nat) (a : α) (b : β) (c : γ), j ≤ N → inv j a b c → Yj l G R κ cc n own (M (j) a b c) pc (Lv (j) a b c) [] := by
  intro j
  have key : ∀ (m j : Nat), j + m = N → ∀ (a : α) (b : β) (c : γ), inv j a b c → Yj l G R κ cc n own (M (j) a b c) pc (Lv (j) a b c) [] := by
    intro m
    induction m with
    | zero =>
      intro j hj a b c hi
      have : j = N := by omega
      subst this
      exact hx a b c hi
    | succ m ih =>
      intro j hj a b c hi
      exact hb j a b c (by omega) hi (ih (j + 1) (by omega))
  intro a b c hj hi
  exact key (N - j) j (by omega) a b c hi
theorem y_loop4 {l : Launch} {G : GT} {R : Room} {κ : KT} {cc : ByteArray} {n : Nat} {own : String} {pc : Nat} {α β γ δ : Type} (Lv : Nat → α → β → γ → δ → List (Option Value)) (M : Nat → α → β → γ → δ → MemT) (inv : Nat → α → β → γ → δ → Prop) (N : Nat) (hx : ∀ (a : α) (b : β) (c : γ) (d : δ), inv N a b c d → Yj l G R κ cc n own (M (N) a b c d) pc (Lv (N) a b c d) []) (hb : ∀ (j : Nat) (a : α) (b : β) (c : γ) (d : δ), j < N → inv j a b c d → (∀ (a2 : α) (b2 : β) (c2 : γ) (d2 : δ), inv (j + 1) a2 b2 c2 d2 → Yj l G R κ cc n own (M (j + 1) a2 b2 c2 d2) pc (Lv (j + 1) a2 b2 c2 d2) []) → Yj l G R κ cc n own (M (j) a b c d) pc (Lv (j) a b c d) []) : ∀ (j : Nat) (a : α) (b : β) (c : γ) (d : δ), j ≤ N → inv j a b c d → Yj l G R κ cc n own (M (j) a b c d) pc (Lv (j) a b c d) [] := by
  intro j
  have key : ∀ (m j : Nat), j + m = N → ∀ (a : α) (b : β) (c : γ) (d : δ), inv j a b c d → Yj l G R κ cc n own (M (j) a b c d) pc (Lv (j) a b c d) [] := by
    intro m
    induction m with
    | zero =>
      intro j hj a b c d hi
      have : j = N := by omega
      subst this
      exact hx a b c d hi
    | succ m ih =>
      intro j hj a b c d hi
      exact hb j a b c d (by omega) hi (ih (j + 1) (by omega))
  intro a b c d hj hi
  exact key (N - j) j (by omega) a b c d hi
theorem y_loop5 {l : Launch} {G : GT} {R : Room} {κ : KT} {cc : ByteArray} {n : Nat} {own : String} {pc : Nat} {α β γ δ ε : Type} (Lv : Nat → α → β → γ → δ → ε → List (Option Value)) (M : Nat → α → β → γ → δ → ε → MemT) (inv : Nat → α → β → γ → δ → ε → Prop) (N : Nat) (hx : ∀ (a : α) (b : β) (c : γ) (d : δ) (e : ε), inv N a b c d e → Yj l G R κ cc n own (M (N) a b c d e) pc (Lv (N) a b c d e) []) (hb : ∀ (j : Nat) (a : α) (b : β) (c : γ) (d : δ) (e : ε), j < N → inv j a b c d e → (∀ (a2 : α) (b2 : β) (c2 : γ) (d2 : δ) (e2 : ε), inv (j + 1) a2 b2 c2 d2 e2 → Yj l G R κ cc n own (M (j + 1) a2 b2 c2 d2 e2) pc (Lv (j + 1) a2 b2 c2 d2 e2) []) → Yj l G R κ cc n own (M (j) a b c d e) pc (Lv (j) a b c d e) []) : ∀ (j : Nat) (a : α) (b : β) (c : γ) (d : δ) (e : ε), j ≤ N → inv j a b c d e → Yj l G R κ cc n own (M (j) a b c d e) pc (Lv (j) a b c d e) [] := by
  intro j
  have key : ∀ (m j : Nat), j + m = N → ∀ (a : α) (b : β) (c : γ) (d : δ) (e : ε), inv j a b c d e → Yj l G R κ cc n own (M (j) a b c d e) pc (Lv (j) a b c d e) [] := by
    intro m
    induction m with
    | zero =>
      intro j hj a b c d e hi
      have : j = N := by omega
      subst this
      exact hx a b c d e hi
    | succ m ih =>
      intro j hj a b c d e hi
      exact hb j a b c d e (by omega) hi (ih (j + 1) (by omega))
  intro a b c d e hj hi
  exact key (N - j) j (by omega) a b c d e hi
theorem y_loop6 {l : Launch} {G : GT} {R : Room} {κ : KT} {cc : ByteArray} {n : Nat} {own : String} {pc : Nat} {α β γ δ ε ζ : Type} (Lv : Nat → α → β → γ → δ → ε → ζ → List (Option Value)) (M : Nat → α → β → γ → δ → ε → ζ → MemT) (inv : Nat → α → β → γ → δ → ε → ζ → Prop) (N : Nat) (hx : ∀ (a : α) (b : β) (c : γ) (d : δ) (e : ε) (f : ζ), inv N a b c d e f → Yj l G R κ cc n own (M (N) a b c d e f) pc (Lv (N) a b c d e f) []) (hb : ∀ (j : Nat) (a : α) (b : β) (c : γ) (d : δ) (e : ε) (f : ζ), j < N → inv j a b c d e f → (∀ (a2 : α) (b2 : β) (c2 : γ) (d2 : δ) (e2 : ε) (f2 : ζ), inv (j + 1) a2 b2 c2 d2 e2 f2 → Yj l G R κ cc n own (M (j + 1) a2 b2 c2 d2 e2 f2) pc (Lv (j + 1) a2 b2 c2 d2 e2 f2) []) → Yj l G R κ cc n own (M (j) a b c d e f) pc (Lv (j) a b c d e f) []) : ∀ (j : Nat) (a : α) (b : β) (c : γ) (d : δ) (e : ε) (f : ζ), j ≤ N → inv j a b c d e f → Yj l G R κ cc n own (M (j) a b c d e f) pc (Lv (j) a b c d e f) [] := by
  intro j
  have key : ∀ (m j : Nat), j + m = N → ∀ (a : α) (b : β) (c : γ) (d : δ) (e : ε) (f : ζ), inv j a b c d e f → Yj l G R κ cc n own (M (j) a b c d e f) pc (Lv (j) a b c d e f) [] := by
    intro m
    induction m with
    | zero =>
      intro j hj a b c d e f hi
      have : j = N := by omega
      subst this
      exact hx a b c d e f hi
    | succ m ih =>
      intro j hj a b c d e f hi
      exact hb j a b c d e f (by omega) hi (ih (j + 1) (by omega))
  intro a b c d e f hj hi
  exact key (N - j) j (by omega) a b c d e f hi
theorem meJ7_fill_53178 : sw_meS yJ7_fill_53178 cJ7_fill_53178 4 none 2 := ⟨wm_st_J7_fill_53178, wm_ini_J7, wm_cd_J7_fill_53178, by decide +kernel⟩
theorem meX7_person : sw_meV yX7_person cX7_person 5 (some .int) RX7 4 := ⟨wm_im_X7_person, wm_se_X7_person, wm_ini_X7, wm_cd_X7_person, rfl, by decide +kernel⟩
theorem meX7_within : sw_meS yX7_within cX7_within 3 (some .boolean) 3 := ⟨wm_st_X7_within, wm_ini_X7, wm_cd_X7_within, by decide +kernel⟩
theorem meX4_settle : sw_meV yX4_settle cX4_settle 5 none RX4 4 := ⟨wm_im_X4_settle, wm_se_X4_settle, wm_ini_X4, wm_cd_X4_settle, rfl, by decide +kernel⟩
theorem meX4_headcount : sw_meV yX4_headcount cX4_headcount 1 (some .int) RX4 0 := ⟨wm_im_X4_headcount, wm_se_X4_headcount, wm_ini_X4, wm_cd_X4_headcount, rfl, by decide +kernel⟩
theorem meJ6_bitCount_0f7a4 : sw_meS yJ6_bitCount_0f7a4 cJ6_bitCount_0f7a4 1 (some .int) 1 := ⟨wm_st_J6_bitCount_0f7a4, wm_ini_J6, wm_cd_J6_bitCount_0f7a4, by decide +kernel⟩
theorem meX8_person : sw_meV yX8_person cX8_person 5 (some .int) RX8 4 := ⟨wm_im_X8_person, wm_se_X8_person, wm_ini_X8, wm_cd_X8_person, rfl, by decide +kernel⟩
theorem meX8_in : sw_meS yX8_in cX8_in 6 (some .boolean) 3 := ⟨wm_st_X8_in, wm_ini_X8, wm_cd_X8_in, by decide +kernel⟩
theorem meX8_ones : sw_meS yX8_ones cX8_ones 3 (some .int) 1 := ⟨wm_st_X8_ones, wm_ini_X8, wm_cd_X8_ones, by decide +kernel⟩
theorem meX7_leave : sw_meV yX7_leave cX7_leave 2 (some .int) RX7 1 := ⟨wm_im_X7_leave, wm_se_X7_leave, wm_ini_X7, wm_cd_X7_leave, rfl, by decide +kernel⟩
theorem meX4_has : sw_meV yX4_has cX4_has 2 (some .boolean) RX4 1 := ⟨wm_im_X4_has, wm_se_X4_has, wm_ini_X4, wm_cd_X4_has, rfl, by decide +kernel⟩
theorem meX4_remove : sw_meV yX4_remove cX4_remove 2 none RX4 1 := ⟨wm_im_X4_remove, wm_se_X4_remove, wm_ini_X4, wm_cd_X4_remove, rfl, by decide +kernel⟩
theorem meX4_part : sw_meV yX4_part cX4_part 3 none RX4 1 := ⟨wm_im_X4_part, wm_se_X4_part, wm_ini_X4, wm_cd_X4_part, rfl, by decide +kernel⟩
theorem meX8_leave : sw_meV yX8_leave cX8_leave 2 (some .int) RX8 1 := ⟨wm_im_X8_leave, wm_se_X8_leave, wm_ini_X8, wm_cd_X8_leave, rfl, by decide +kernel⟩
theorem meX8_isPerson : sw_meV yX8_isPerson cX8_isPerson 2 (some .boolean) RX8 1 := ⟨wm_im_X8_isPerson, wm_se_X8_isPerson, wm_ini_X8, wm_cd_X8_isPerson, rfl, by decide +kernel⟩
theorem meX8_part : sw_meV yX8_part cX8_part 2 none RX8 1 := ⟨wm_im_X8_part, wm_se_X8_part, wm_ini_X8, wm_cd_X8_part, rfl, by decide +kernel⟩
theorem meX7_marry : sw_meV yX7_marry cX7_marry 4 (some .int) RX7 3 := ⟨wm_im_X7_marry, wm_se_X7_marry, wm_ini_X7, wm_cd_X7_marry, rfl, by decide +kernel⟩
theorem meX4_hasTwo : sw_meV yX4_hasTwo cX4_hasTwo 3 (some .boolean) RX4 2 := ⟨wm_im_X4_hasTwo, wm_se_X4_hasTwo, wm_ini_X4, wm_cd_X4_hasTwo, rfl, by decide +kernel⟩
theorem meX4_mayMarry : sw_meV yX4_mayMarry cX4_mayMarry 3 (some .boolean) RX4 2 := ⟨wm_im_X4_mayMarry, wm_se_X4_mayMarry, wm_ini_X4, wm_cd_X4_mayMarry, rfl, by decide +kernel⟩
theorem meX4_areMarried : sw_meV yX4_areMarried cX4_areMarried 3 (some .boolean) RX4 2 := ⟨wm_im_X4_areMarried, wm_se_X4_areMarried, wm_ini_X4, wm_cd_X4_areMarried, rfl, by decide +kernel⟩
theorem meX4_join : sw_meV yX4_join cX4_join 3 none RX4 2 := ⟨wm_im_X4_join, wm_se_X4_join, wm_ini_X4, wm_cd_X4_join, rfl, by decide +kernel⟩
theorem meX4_marriages : sw_meV yX4_marriages cX4_marriages 3 (some .int) RX4 0 := ⟨wm_im_X4_marriages, wm_se_X4_marriages, wm_ini_X4, wm_cd_X4_marriages, rfl, by decide +kernel⟩
theorem meX8_marry : sw_meV yX8_marry cX8_marry 6 (some .int) RX8 3 := ⟨wm_im_X8_marry, wm_se_X8_marry, wm_ini_X8, wm_cd_X8_marry, rfl, by decide +kernel⟩
theorem meX8_areTwo : sw_meV yX8_areTwo cX8_areTwo 3 (some .boolean) RX8 2 := ⟨wm_im_X8_areTwo, wm_se_X8_areTwo, wm_ini_X8, wm_cd_X8_areTwo, rfl, by decide +kernel⟩
theorem meX8_marriages : sw_meV yX8_marriages cX8_marriages 3 (some .int) RX8 0 := ⟨wm_im_X8_marriages, wm_se_X8_marriages, wm_ini_X8, wm_cd_X8_marriages, rfl, by decide +kernel⟩
theorem meX7_limit : sw_meV yX7_limit cX7_limit 3 (some .int) RX7 1 := ⟨wm_im_X7_limit, wm_se_X7_limit, wm_ini_X7, wm_cd_X7_limit, rfl, by decide +kernel⟩
theorem meX8_limit : sw_meV yX8_limit cX8_limit 3 (some .int) RX8 1 := ⟨wm_im_X8_limit, wm_se_X8_limit, wm_ini_X8, wm_cd_X8_limit, rfl, by decide +kernel⟩
theorem meX7_say : sw_meV yX7_say cX7_say 2 (some .int) RX7 1 := ⟨wm_im_X7_say, wm_se_X7_say, wm_ini_X7, wm_cd_X7_say, rfl, by decide +kernel⟩
theorem meX2_add : sw_meV yX2_add cX2_add 2 (some .boolean) RX2 1 := ⟨wm_im_X2_add, wm_se_X2_add, wm_ini_X2, wm_cd_X2_add, rfl, by decide +kernel⟩
theorem meX8_say : sw_meV yX8_say cX8_say 2 (some .int) RX8 1 := ⟨wm_im_X8_say, wm_se_X8_say, wm_ini_X8, wm_cd_X8_say, rfl, by decide +kernel⟩
theorem meX7_wipe : sw_meV yX7_wipe cX7_wipe 2 (some .int) RX7 0 := ⟨wm_im_X7_wipe, wm_se_X7_wipe, wm_ini_X7, wm_cd_X7_wipe, rfl, by decide +kernel⟩
theorem meX8_wipe : sw_meV yX8_wipe cX8_wipe 2 (some .int) RX8 0 := ⟨wm_im_X8_wipe, wm_se_X8_wipe, wm_ini_X8, wm_cd_X8_wipe, rfl, by decide +kernel⟩
theorem meX7_fault : sw_meV yX7_fault cX7_fault 1 (some .int) RX7 0 := ⟨wm_im_X7_fault, wm_se_X7_fault, wm_ini_X7, wm_cd_X7_fault, rfl, by decide +kernel⟩
theorem meX2_firstFault : sw_meV yX2_firstFault cX2_firstFault 3 (some .int) RX2 0 := ⟨wm_im_X2_firstFault, wm_se_X2_firstFault, wm_ini_X2, wm_cd_X2_firstFault, rfl, by decide +kernel⟩
theorem meX2_after : sw_meS yX2_after cX2_after 2 (some .int) 2 := ⟨wm_st_X2_after, wm_ini_X2, wm_cd_X2_after, by decide +kernel⟩
theorem meX2_afterNothing : sw_meS yX2_afterNothing cX2_afterNothing 1 (some .int) 1 := ⟨wm_st_X2_afterNothing, wm_ini_X2, wm_cd_X2_afterNothing, by decide +kernel⟩
theorem meX2_isLetter : sw_meS yX2_isLetter cX2_isLetter 1 (some .boolean) 1 := ⟨wm_st_X2_isLetter, wm_ini_X2, wm_cd_X2_isLetter, by decide +kernel⟩
theorem meX8_fault : sw_meV yX8_fault cX8_fault 4 (some .int) RX8 0 := ⟨wm_im_X8_fault, wm_se_X8_fault, wm_ini_X8, wm_cd_X8_fault, rfl, by decide +kernel⟩
theorem meX8_beginAct : sw_meV yX8_beginAct cX8_beginAct 2 (some .int) RX8 1 := ⟨wm_im_X8_beginAct, wm_se_X8_beginAct, wm_ini_X8, wm_cd_X8_beginAct, rfl, by decide +kernel⟩
theorem meX8_readNear : sw_meV yX8_readNear cX8_readNear 2 (some .int) RX8 1 := ⟨wm_im_X8_readNear, wm_se_X8_readNear, wm_ini_X8, wm_cd_X8_readNear, rfl, by decide +kernel⟩
theorem meX8_isLetter : sw_meS yX8_isLetter cX8_isLetter 1 (some .boolean) 1 := ⟨wm_st_X8_isLetter, wm_ini_X8, wm_cd_X8_isLetter, by decide +kernel⟩
theorem meX8_sit : sw_meV yX8_sit cX8_sit 3 none RX8 1 := ⟨wm_im_X8_sit, wm_se_X8_sit, wm_ini_X8, wm_cd_X8_sit, rfl, by decide +kernel⟩
theorem meX8_readCold : sw_meV yX8_readCold cX8_readCold 2 (some .int) RX8 1 := ⟨wm_im_X8_readCold, wm_se_X8_readCold, wm_ini_X8, wm_cd_X8_readCold, rfl, by decide +kernel⟩
theorem meX8_readAcross : sw_meV yX8_readAcross cX8_readAcross 3 (some .int) RX8 2 := ⟨wm_im_X8_readAcross, wm_se_X8_readAcross, wm_ini_X8, wm_cd_X8_readAcross, rfl, by decide +kernel⟩
theorem meX7_judge : sw_meV yX7_judge cX7_judge 3 (some .int) RX7 1 := ⟨wm_im_X7_judge, wm_se_X7_judge, wm_ini_X7, wm_cd_X7_judge, rfl, by decide +kernel⟩
theorem meX7_holdMarket : sw_meV yX7_holdMarket cX7_holdMarket 1 (some .int) RX7 0 := ⟨wm_im_X7_holdMarket, wm_se_X7_holdMarket, wm_ini_X7, wm_cd_X7_holdMarket, rfl, by decide +kernel⟩
theorem meX1_hold : sw_meV yX1_hold cX1_hold 4 none RX1 2 := ⟨wm_im_X1_hold, wm_se_X1_hold, wm_ini_X1, wm_cd_X1_hold, rfl, by decide +kernel⟩
theorem meX4_copyFrom : sw_meV yX4_copyFrom cX4_copyFrom 2 none RX4 1 := ⟨wm_im_X4_copyFrom, wm_se_X4_copyFrom, wm_ini_X4, wm_cd_X4_copyFrom, rfl, by decide +kernel⟩
theorem meX1_beginAct : sw_meV yX1_beginAct cX1_beginAct 1 none RX1 0 := ⟨wm_im_X1_beginAct, wm_se_X1_beginAct, wm_ini_X1, wm_cd_X1_beginAct, rfl, by decide +kernel⟩
theorem meX1_read : sw_meV yX1_read cX1_read 2 none RX1 1 := ⟨wm_im_X1_read, wm_se_X1_read, wm_ini_X1, wm_cd_X1_read, rfl, by decide +kernel⟩
theorem meX1_readPerson : sw_meV yX1_readPerson cX1_readPerson 2 none RX1 1 := ⟨wm_im_X1_readPerson, wm_se_X1_readPerson, wm_ini_X1, wm_cd_X1_readPerson, rfl, by decide +kernel⟩
theorem meX1_sit : sw_meV yX1_sit cX1_sit 2 none RX1 1 := ⟨wm_im_X1_sit, wm_se_X1_sit, wm_ini_X1, wm_cd_X1_sit, rfl, by decide +kernel⟩
theorem meX7_holds : sw_meS yX7_holds cX7_holds 2 (some .boolean) 2 := ⟨wm_st_X7_holds, wm_ini_X7, wm_cd_X7_holds, by decide +kernel⟩
theorem meX4_turnCold : sw_meV yX4_turnCold cX4_turnCold 2 none RX4 1 := ⟨wm_im_X4_turnCold, wm_se_X4_turnCold, wm_ini_X4, wm_cd_X4_turnCold, rfl, by decide +kernel⟩
theorem meX1_endAct : sw_meV yX1_endAct cX1_endAct 1 none RX1 0 := ⟨wm_im_X1_endAct, wm_se_X1_endAct, wm_ini_X1, wm_cd_X1_endAct, rfl, by decide +kernel⟩
theorem meX1_breakOff : sw_meV yX1_breakOff cX1_breakOff 2 none RX1 1 := ⟨wm_im_X1_breakOff, wm_se_X1_breakOff, wm_ini_X1, wm_cd_X1_breakOff, rfl, by decide +kernel⟩
theorem meX4_passDay : sw_meV yX4_passDay cX4_passDay 2 none RX4 0 := ⟨wm_im_X4_passDay, wm_se_X4_passDay, wm_ini_X4, wm_cd_X4_passDay, rfl, by decide +kernel⟩
theorem meX4_drifted : sw_meV yX4_drifted cX4_drifted 3 (some .int) RX4 2 := ⟨wm_im_X4_drifted, wm_se_X4_drifted, wm_ini_X4, wm_cd_X4_drifted, rfl, by decide +kernel⟩
theorem meX4_feast : sw_meV yX4_feast cX4_feast 2 none RX4 0 := ⟨wm_im_X4_feast, wm_se_X4_feast, wm_ini_X4, wm_cd_X4_feast, rfl, by decide +kernel⟩
theorem meX1_sell : sw_meV yX1_sell cX1_sell 4 none RX1 0 := ⟨wm_im_X1_sell, wm_se_X1_sell, wm_ini_X1, wm_cd_X1_sell, rfl, by decide +kernel⟩
theorem meX4_sumOver : sw_meV yX4_sumOver cX4_sumOver 5 (some .int) RX4 2 := ⟨wm_im_X4_sumOver, wm_se_X4_sumOver, wm_ini_X4, wm_cd_X4_sumOver, rfl, by decide +kernel⟩
theorem meX1_reasonAgainst : sw_meV yX1_reasonAgainst cX1_reasonAgainst 2 (some .int) RX1 1 := ⟨wm_im_X1_reasonAgainst, wm_se_X1_reasonAgainst, wm_ini_X1, wm_cd_X1_reasonAgainst, rfl, by decide +kernel⟩
theorem meX4_hasAll : sw_meV yX4_hasAll cX4_hasAll 2 (some .boolean) RX4 1 := ⟨wm_im_X4_hasAll, wm_se_X4_hasAll, wm_ini_X4, wm_cd_X4_hasAll, rfl, by decide +kernel⟩
theorem meX4_together : sw_meV yX4_together cX4_together 3 (some .boolean) RX4 1 := ⟨wm_im_X4_together, wm_se_X4_together, wm_ini_X4, wm_cd_X4_together, rfl, by decide +kernel⟩
theorem meX4_poundsOfAll : sw_meV yX4_poundsOfAll cX4_poundsOfAll 4 (some .int) RX4 1 := ⟨wm_im_X4_poundsOfAll, wm_se_X4_poundsOfAll, wm_ini_X4, wm_cd_X4_poundsOfAll, rfl, by decide +kernel⟩
theorem meX4_withCold : sw_meV yX4_withCold cX4_withCold 3 (some .int) RX4 2 := ⟨wm_im_X4_withCold, wm_se_X4_withCold, wm_ini_X4, wm_cd_X4_withCold, rfl, by decide +kernel⟩
theorem meX1_answer : sw_meV yX1_answer cX1_answer 2 (some .int) RX1 1 := ⟨wm_im_X1_answer, wm_se_X1_answer, wm_ini_X1, wm_cd_X1_answer, rfl, by decide +kernel⟩
theorem meX8_judge : sw_meV yX8_judge cX8_judge 3 (some .int) RX8 1 := ⟨wm_im_X8_judge, wm_se_X8_judge, wm_ini_X8, wm_cd_X8_judge, rfl, by decide +kernel⟩
theorem meX8_refusal : sw_meV yX8_refusal cX8_refusal 2 (some .int) RX8 0 := ⟨wm_im_X8_refusal, wm_se_X8_refusal, wm_ini_X8, wm_cd_X8_refusal, rfl, by decide +kernel⟩
theorem meX8_keepNow : sw_meV yX8_keepNow cX8_keepNow 2 none RX8 0 := ⟨wm_im_X8_keepNow, wm_se_X8_keepNow, wm_ini_X8, wm_cd_X8_keepNow, rfl, by decide +kernel⟩
theorem meX8_goMarket : sw_meV yX8_goMarket cX8_goMarket 3 none RX8 0 := ⟨wm_im_X8_goMarket, wm_se_X8_goMarket, wm_ini_X8, wm_cd_X8_goMarket, rfl, by decide +kernel⟩
theorem meX8_whyNot : sw_meV yX8_whyNot cX8_whyNot 2 (some .int) RX8 1 := ⟨wm_im_X8_whyNot, wm_se_X8_whyNot, wm_ini_X8, wm_cd_X8_whyNot, rfl, by decide +kernel⟩
theorem meX8_areTogether : sw_meV yX8_areTogether cX8_areTogether 4 (some .boolean) RX8 1 := ⟨wm_im_X8_areTogether, wm_se_X8_areTogether, wm_ini_X8, wm_cd_X8_areTogether, rfl, by decide +kernel⟩
theorem meX8_swornOf : sw_meV yX8_swornOf cX8_swornOf 4 (some .int) RX8 1 := ⟨wm_im_X8_swornOf, wm_se_X8_swornOf, wm_ini_X8, wm_cd_X8_swornOf, rfl, by decide +kernel⟩
theorem meX8_happen : sw_meV yX8_happen cX8_happen 2 none RX8 1 := ⟨wm_im_X8_happen, wm_se_X8_happen, wm_ini_X8, wm_cd_X8_happen, rfl, by decide +kernel⟩
theorem meX8_sell : sw_meV yX8_sell cX8_sell 4 none RX8 1 := ⟨wm_im_X8_sell, wm_se_X8_sell, wm_ini_X8, wm_cd_X8_sell, rfl, by decide +kernel⟩
theorem meX8_poundsOf : sw_meV yX8_poundsOf cX8_poundsOf 4 (some .int) RX8 1 := ⟨wm_im_X8_poundsOf, wm_se_X8_poundsOf, wm_ini_X8, wm_cd_X8_poundsOf, rfl, by decide +kernel⟩
theorem meX8_pounds : sw_meV yX8_pounds cX8_pounds 2 (some .int) RX8 1 := ⟨wm_im_X8_pounds, wm_se_X8_pounds, wm_ini_X8, wm_cd_X8_pounds, rfl, by decide +kernel⟩
theorem meX8_size : sw_meS yX8_size cX8_size 1 (some .int) 1 := ⟨wm_st_X8_size, wm_ini_X8, wm_cd_X8_size, by decide +kernel⟩
theorem meX8_passDay : sw_meV yX8_passDay cX8_passDay 2 none RX8 0 := ⟨wm_im_X8_passDay, wm_se_X8_passDay, wm_ini_X8, wm_cd_X8_passDay, rfl, by decide +kernel⟩
theorem meX8_bounded : sw_meS yX8_bounded cX8_bounded 1 (some .int) 1 := ⟨wm_st_X8_bounded, wm_ini_X8, wm_cd_X8_bounded, by decide +kernel⟩
theorem meX8_feast : sw_meV yX8_feast cX8_feast 2 none RX8 0 := ⟨wm_im_X8_feast, wm_se_X8_feast, wm_ini_X8, wm_cd_X8_feast, rfl, by decide +kernel⟩
theorem meX8_putBack : sw_meV yX8_putBack cX8_putBack 2 none RX8 0 := ⟨wm_im_X8_putBack, wm_se_X8_putBack, wm_ini_X8, wm_cd_X8_putBack, rfl, by decide +kernel⟩
theorem meX7_behind : sw_meV yX7_behind cX7_behind 5 (some .int) RX7 2 := ⟨wm_im_X7_behind, wm_se_X7_behind, wm_ini_X7, wm_cd_X7_behind, rfl, by decide +kernel⟩
theorem meX4_poundsOf : sw_meV yX4_poundsOf cX4_poundsOf 2 (some .int) RX4 1 := ⟨wm_im_X4_poundsOf, wm_se_X4_poundsOf, wm_ini_X4, wm_cd_X4_poundsOf, rfl, by decide +kernel⟩
theorem meX8_behind : sw_meV yX8_behind cX8_behind 4 (some .int) RX8 2 := ⟨wm_im_X8_behind, wm_se_X8_behind, wm_ini_X8, wm_cd_X8_behind, rfl, by decide +kernel⟩
theorem meX7_done : sw_meV yX7_done cX7_done 2 (some .int) RX7 0 := ⟨wm_im_X7_done, wm_se_X7_done, wm_ini_X7, wm_cd_X7_done, rfl, by decide +kernel⟩
theorem meX8_done : sw_meV yX8_done cX8_done 2 (some .int) RX8 0 := ⟨wm_im_X8_done, wm_se_X8_done, wm_ini_X8, wm_cd_X8_done, rfl, by decide +kernel⟩
theorem meX7_weighs : sw_meV yX7_weighs cX7_weighs 2 (some .int) RX7 1 := ⟨wm_im_X7_weighs, wm_se_X7_weighs, wm_ini_X7, wm_cd_X7_weighs, rfl, by decide +kernel⟩
theorem meX8_weighs : sw_meV yX8_weighs cX8_weighs 2 (some .int) RX8 1 := ⟨wm_im_X8_weighs, wm_se_X8_weighs, wm_ini_X8, wm_cd_X8_weighs, rfl, by decide +kernel⟩
theorem meX7_off : sw_meV yX7_off cX7_off 2 (some .int) RX7 1 := ⟨wm_im_X7_off, wm_se_X7_off, wm_ini_X7, wm_cd_X7_off, rfl, by decide +kernel⟩
theorem meX8_off : sw_meV yX8_off cX8_off 2 (some .int) RX8 1 := ⟨wm_im_X8_off, wm_se_X8_off, wm_ini_X8, wm_cd_X8_off, rfl, by decide +kernel⟩
theorem meX7_out : sw_meV yX7_out cX7_out 2 (some .int) RX7 1 := ⟨wm_im_X7_out, wm_se_X7_out, wm_ini_X7, wm_cd_X7_out, rfl, by decide +kernel⟩
theorem meX4_firstDayOff : sw_meV yX4_firstDayOff cX4_firstDayOff 4 (some .int) RX4 1 := ⟨wm_im_X4_firstDayOff, wm_se_X4_firstDayOff, wm_ini_X4, wm_cd_X4_firstDayOff, rfl, by decide +kernel⟩
theorem meX8_out : sw_meV yX8_out cX8_out 4 (some .int) RX8 1 := ⟨wm_im_X8_out, wm_se_X8_out, wm_ini_X8, wm_cd_X8_out, rfl, by decide +kernel⟩
theorem meX7_even : sw_meV yX7_even cX7_even 3 (some .int) RX7 2 := ⟨wm_im_X7_even, wm_se_X7_even, wm_ini_X7, wm_cd_X7_even, rfl, by decide +kernel⟩
theorem meX4_firstDayAlike : sw_meV yX4_firstDayAlike cX4_firstDayAlike 6 (some .int) RX4 2 := ⟨wm_im_X4_firstDayAlike, wm_se_X4_firstDayAlike, wm_ini_X4, wm_cd_X4_firstDayAlike, rfl, by decide +kernel⟩
theorem meX8_even : sw_meV yX8_even cX8_even 5 (some .int) RX8 2 := ⟨wm_im_X8_even, wm_se_X8_even, wm_ini_X8, wm_cd_X8_even, rfl, by decide +kernel⟩
theorem meX7_make : sw_meV yX7_make cX7_make 4 (some .int) RX7 3 := ⟨wm_im_X7_make, wm_se_X7_make, wm_ini_X7, wm_cd_X7_make, rfl, by decide +kernel⟩
theorem meX3_seatAll : sw_meV yX3_seatAll cX3_seatAll 8 none RX3 3 := ⟨wm_im_X3_seatAll, wm_se_X3_seatAll, wm_ini_X3, wm_cd_X3_seatAll, rfl, by decide +kernel⟩
theorem meX3_fillRows : sw_meV yX3_fillRows cX3_fillRows 9 none RX3 1 := ⟨wm_im_X3_fillRows, wm_se_X3_fillRows, wm_ini_X3, wm_cd_X3_fillRows, rfl, by decide +kernel⟩
theorem meX4_partner : sw_meV yX4_partner cX4_partner 2 (some .int) RX4 1 := ⟨wm_im_X4_partner, wm_se_X4_partner, wm_ini_X4, wm_cd_X4_partner, rfl, by decide +kernel⟩
theorem meJ7_fill_031fb : sw_meS yJ7_fill_031fb cJ7_fill_031fb 4 none 2 := ⟨wm_st_J7_fill_031fb, wm_ini_J7, wm_cd_J7_fill_031fb, by decide +kernel⟩
theorem meX7_subsetsOf : sw_meS yX7_subsetsOf cX7_subsetsOf 1 (some .int) 1 := ⟨wm_st_X7_subsetsOf, wm_ini_X7, wm_cd_X7_subsetsOf, by decide +kernel⟩
theorem meX3_mayIt : sw_meV yX3_mayIt cX3_mayIt 2 (some .boolean) RX3 1 := ⟨wm_im_X3_mayIt, wm_se_X3_mayIt, wm_ini_X3, wm_cd_X3_mayIt, rfl, by decide +kernel⟩
theorem meX3_seatSecond : sw_meV yX3_seatSecond cX3_seatSecond 9 none RX3 4 := ⟨wm_im_X3_seatSecond, wm_se_X3_seatSecond, wm_ini_X3, wm_cd_X3_seatSecond, rfl, by decide +kernel⟩
theorem meX3_note : sw_meV yX3_note cX3_note 5 none RX3 4 := ⟨wm_im_X3_note, wm_se_X3_note, wm_ini_X3, wm_cd_X3_note, rfl, by decide +kernel⟩
theorem meX3_keepFewest : sw_meV yX3_keepFewest cX3_keepFewest 4 none RX3 2 := ⟨wm_im_X3_keepFewest, wm_se_X3_keepFewest, wm_ini_X3, wm_cd_X3_keepFewest, rfl, by decide +kernel⟩
theorem meX7_nextSubset : sw_meS yX7_nextSubset cX7_nextSubset 2 (some .int) 2 := ⟨wm_st_X7_nextSubset, wm_ini_X7, wm_cd_X7_nextSubset, by decide +kernel⟩
theorem meX8_make : sw_meV yX8_make cX8_make 10 (some .int) RX8 3 := ⟨wm_im_X8_make, wm_se_X8_make, wm_ini_X8, wm_cd_X8_make, rfl, by decide +kernel⟩
theorem meX8_seat : sw_meV yX8_seat cX8_seat 4 (some .boolean) RX8 1 := ⟨wm_im_X8_seat, wm_se_X8_seat, wm_ini_X8, wm_cd_X8_seat, rfl, by decide +kernel⟩
theorem meX8_difference : sw_meV yX8_difference cX8_difference 2 (some .int) RX8 1 := ⟨wm_im_X8_difference, wm_se_X8_difference, wm_ini_X8, wm_cd_X8_difference, rfl, by decide +kernel⟩
theorem meX7_near : sw_meV yX7_near cX7_near 3 (some .int) RX7 2 := ⟨wm_im_X7_near, wm_se_X7_near, wm_ini_X7, wm_cd_X7_near, rfl, by decide +kernel⟩
theorem meX8_near : sw_meV yX8_near cX8_near 6 (some .int) RX8 2 := ⟨wm_im_X8_near, wm_se_X8_near, wm_ini_X8, wm_cd_X8_near, rfl, by decide +kernel⟩
theorem meX7_gap : sw_meV yX7_gap cX7_gap 2 (some .int) RX7 1 := ⟨wm_im_X7_gap, wm_se_X7_gap, wm_ini_X7, wm_cd_X7_gap, rfl, by decide +kernel⟩
theorem meX3_leastUnmade : sw_meV yX3_leastUnmade cX3_leastUnmade 2 (some .int) RX3 0 := ⟨wm_im_X3_leastUnmade, wm_se_X3_leastUnmade, wm_ini_X3, wm_cd_X3_leastUnmade, rfl, by decide +kernel⟩
theorem meX8_gap : sw_meV yX8_gap cX8_gap 3 (some .int) RX8 1 := ⟨wm_im_X8_gap, wm_se_X8_gap, wm_ini_X8, wm_cd_X8_gap, rfl, by decide +kernel⟩
theorem meX7_assize : sw_meV yX7_assize cX7_assize 2 (some .int) RX7 1 := ⟨wm_im_X7_assize, wm_se_X7_assize, wm_ini_X7, wm_cd_X7_assize, rfl, by decide +kernel⟩
theorem meX4_ranked : sw_meV yX4_ranked cX4_ranked 3 (some .int) RX4 1 := ⟨wm_im_X4_ranked, wm_se_X4_ranked, wm_ini_X4, wm_cd_X4_ranked, rfl, by decide +kernel⟩
theorem meX4_howManyAhead : sw_meV yX4_howManyAhead cX4_howManyAhead 5 (some .int) RX4 1 := ⟨wm_im_X4_howManyAhead, wm_se_X4_howManyAhead, wm_ini_X4, wm_cd_X4_howManyAhead, rfl, by decide +kernel⟩
theorem meX8_assize : sw_meV yX8_assize cX8_assize 5 (some .int) RX8 1 := ⟨wm_im_X8_assize, wm_se_X8_assize, wm_ini_X8, wm_cd_X8_assize, rfl, by decide +kernel⟩
theorem meX7_just : sw_meV yX7_just cX7_just 1 (some .int) RX7 0 := ⟨wm_im_X7_just, wm_se_X7_just, wm_ini_X7, wm_cd_X7_just, rfl, by decide +kernel⟩
theorem meX4_mostAlike : sw_meV yX4_mostAlike cX4_mostAlike 3 (some .int) RX4 0 := ⟨wm_im_X4_mostAlike, wm_se_X4_mostAlike, wm_ini_X4, wm_cd_X4_mostAlike, rfl, by decide +kernel⟩
theorem meX4_howManyLike : sw_meV yX4_howManyLike cX4_howManyLike 4 (some .int) RX4 1 := ⟨wm_im_X4_howManyLike, wm_se_X4_howManyLike, wm_ini_X4, wm_cd_X4_howManyLike, rfl, by decide +kernel⟩
theorem meX8_just : sw_meV yX8_just cX8_just 5 (some .int) RX8 0 := ⟨wm_im_X8_just, wm_se_X8_just, wm_ini_X8, wm_cd_X8_just, rfl, by decide +kernel⟩
theorem meX7_price : sw_meV yX7_price cX7_price 4 (some .int) RX7 3 := ⟨wm_im_X7_price, wm_se_X7_price, wm_ini_X7, wm_cd_X7_price, rfl, by decide +kernel⟩
theorem meX3_sellDearest : sw_meV yX3_sellDearest cX3_sellDearest 10 none RX3 3 := ⟨wm_im_X3_sellDearest, wm_se_X3_sellDearest, wm_ini_X3, wm_cd_X3_sellDearest, rfl, by decide +kernel⟩
theorem meX8_price : sw_meV yX8_price cX8_price 9 (some .int) RX8 3 := ⟨wm_im_X8_price, wm_se_X8_price, wm_ini_X8, wm_cd_X8_price, rfl, by decide +kernel⟩
theorem meX7_seen : sw_meV yX7_seen cX7_seen 4 (some .int) RX7 3 := ⟨wm_im_X7_seen, wm_se_X7_seen, wm_ini_X7, wm_cd_X7_seen, rfl, by decide +kernel⟩
theorem meX4_mayBeWeighed : sw_meV yX4_mayBeWeighed cX4_mayBeWeighed 3 (some .boolean) RX4 2 := ⟨wm_im_X4_mayBeWeighed, wm_se_X4_mayBeWeighed, wm_ini_X4, wm_cd_X4_mayBeWeighed, rfl, by decide +kernel⟩
theorem meX4_addSight : sw_meV yX4_addSight cX4_addSight 4 (some .boolean) RX4 3 := ⟨wm_im_X4_addSight, wm_se_X4_addSight, wm_ini_X4, wm_cd_X4_addSight, rfl, by decide +kernel⟩
theorem meX8_seen : sw_meV yX8_seen cX8_seen 4 (some .int) RX8 3 := ⟨wm_im_X8_seen, wm_se_X8_seen, wm_ini_X8, wm_cd_X8_seen, rfl, by decide +kernel⟩
theorem meX8_areSides : sw_meV yX8_areSides cX8_areSides 3 (some .boolean) RX8 2 := ⟨wm_im_X8_areSides, wm_se_X8_areSides, wm_ini_X8, wm_cd_X8_areSides, rfl, by decide +kernel⟩
theorem meX7_forget : sw_meV yX7_forget cX7_forget 2 (some .int) RX7 0 := ⟨wm_im_X7_forget, wm_se_X7_forget, wm_ini_X7, wm_cd_X7_forget, rfl, by decide +kernel⟩
theorem meX8_forget : sw_meV yX8_forget cX8_forget 2 (some .int) RX8 0 := ⟨wm_im_X8_forget, wm_se_X8_forget, wm_ini_X8, wm_cd_X8_forget, rfl, by decide +kernel⟩
theorem meX7_airs : sw_meV yX7_airs cX7_airs 2 (some .int) RX7 1 := ⟨wm_im_X7_airs, wm_se_X7_airs, wm_ini_X7, wm_cd_X7_airs, rfl, by decide +kernel⟩
theorem meX5_find : sw_meV yX5_find cX5_find 3 none RX5 1 := ⟨wm_im_X5_find, wm_se_X5_find, wm_ini_X5, wm_cd_X5_find, rfl, by decide +kernel⟩
theorem meX5_fillLeads : sw_meV yX5_fillLeads cX5_fillLeads 3 none RX5 1 := ⟨wm_im_X5_fillLeads, wm_se_X5_fillLeads, wm_ini_X5, wm_cd_X5_fillLeads, rfl, by decide +kernel⟩
theorem meX5_addIfSeen : sw_meV yX5_addIfSeen cX5_addIfSeen 4 none RX5 3 := ⟨wm_im_X5_addIfSeen, wm_se_X5_addIfSeen, wm_ini_X5, wm_cd_X5_addIfSeen, rfl, by decide +kernel⟩
theorem meX5_isAsSeen : sw_meV yX5_isAsSeen cX5_isAsSeen 6 (some .boolean) RX5 3 := ⟨wm_im_X5_isAsSeen, wm_se_X5_isAsSeen, wm_ini_X5, wm_cd_X5_isAsSeen, rfl, by decide +kernel⟩
theorem meX7_balance : sw_meS yX7_balance cX7_balance 2 (some .int) 2 := ⟨wm_st_X7_balance, wm_ini_X7, wm_cd_X7_balance, by decide +kernel⟩
theorem meX5_findOf : sw_meV yX5_findOf cX5_findOf 4 none RX5 2 := ⟨wm_im_X5_findOf, wm_se_X5_findOf, wm_ini_X5, wm_cd_X5_findOf, rfl, by decide +kernel⟩
theorem meX5_suspects : sw_meV yX5_suspects cX5_suspects 3 (some .int) RX5 0 := ⟨wm_im_X5_suspects, wm_se_X5_suspects, wm_ini_X5, wm_cd_X5_suspects, rfl, by decide +kernel⟩
theorem meX8_airs : sw_meV yX8_airs cX8_airs 4 (some .int) RX8 1 := ⟨wm_im_X8_airs, wm_se_X8_airs, wm_ini_X8, wm_cd_X8_airs, rfl, by decide +kernel⟩
theorem meX8_findWorlds : sw_meV yX8_findWorlds cX8_findWorlds 3 none RX8 0 := ⟨wm_im_X8_findWorlds, wm_se_X8_findWorlds, wm_ini_X8, wm_cd_X8_findWorlds, rfl, by decide +kernel⟩
theorem meX8_isWorld : sw_meV yX8_isWorld cX8_isWorld 5 (some .boolean) RX8 2 := ⟨wm_im_X8_isWorld, wm_se_X8_isWorld, wm_ini_X8, wm_cd_X8_isWorld, rfl, by decide +kernel⟩
theorem meX8_howAcross : sw_meV yX8_howAcross cX8_howAcross 6 (some .int) RX8 4 := ⟨wm_im_X8_howAcross, wm_se_X8_howAcross, wm_ini_X8, wm_cd_X8_howAcross, rfl, by decide +kernel⟩
theorem meX8_airyOf : sw_meV yX8_airyOf cX8_airyOf 7 (some .int) RX8 3 := ⟨wm_im_X8_airyOf, wm_se_X8_airyOf, wm_ini_X8, wm_cd_X8_airyOf, rfl, by decide +kernel⟩
theorem meX8_addWorld : sw_meV yX8_addWorld cX8_addWorld 3 none RX8 2 := ⟨wm_im_X8_addWorld, wm_se_X8_addWorld, wm_ini_X8, wm_cd_X8_addWorld, rfl, by decide +kernel⟩
theorem meX7_air : sw_meV yX7_air cX7_air 2 (some .int) RX7 1 := ⟨wm_im_X7_air, wm_se_X7_air, wm_ini_X7, wm_cd_X7_air, rfl, by decide +kernel⟩
theorem meX5_leastMore : sw_meV yX5_leastMore cX5_leastMore 3 (some .int) RX5 1 := ⟨wm_im_X5_leastMore, wm_se_X5_leastMore, wm_ini_X5, wm_cd_X5_leastMore, rfl, by decide +kernel⟩
theorem meX8_air : sw_meV yX8_air cX8_air 3 (some .int) RX8 1 := ⟨wm_im_X8_air, wm_se_X8_air, wm_ini_X8, wm_cd_X8_air, rfl, by decide +kernel⟩
theorem meX7_cross : sw_meV yX7_cross cX7_cross 2 (some .int) RX7 1 := ⟨wm_im_X7_cross, wm_se_X7_cross, wm_ini_X7, wm_cd_X7_cross, rfl, by decide +kernel⟩
theorem meX5_choosePair : sw_meV yX5_choosePair cX5_choosePair 4 none RX5 1 := ⟨wm_im_X5_choosePair, wm_se_X5_choosePair, wm_ini_X5, wm_cd_X5_choosePair, rfl, by decide +kernel⟩
theorem meX5_tryPair : sw_meV yX5_tryPair cX5_tryPair 7 none RX5 3 := ⟨wm_im_X5_tryPair, wm_se_X5_tryPair, wm_ini_X5, wm_cd_X5_tryPair, rfl, by decide +kernel⟩
theorem meX8_cross : sw_meV yX8_cross cX8_cross 6 (some .int) RX8 1 := ⟨wm_im_X8_cross, wm_se_X8_cross, wm_ini_X8, wm_cd_X8_cross, rfl, by decide +kernel⟩
theorem meX8_mostLeft : sw_meV yX8_mostLeft cX8_mostLeft 7 (some .int) RX8 2 := ⟨wm_im_X8_mostLeft, wm_se_X8_mostLeft, wm_ini_X8, wm_cd_X8_mostLeft, rfl, by decide +kernel⟩
theorem meX7_chance : sw_meV yX7_chance cX7_chance 7 (some .long) RX7 6 := ⟨wm_im_X7_chance, wm_se_X7_chance, wm_ini_X7, wm_cd_X7_chance, rfl, by decide +kernel⟩
theorem meX0_setHeavier : sw_meV yX0_setHeavier cX0_setHeavier 16 none RX0 5 := ⟨wm_im_X0_setHeavier, wm_se_X0_setHeavier, wm_ini_X0, wm_cd_X0_setHeavier, rfl, by decide +kernel⟩
theorem meX0_power : sw_meS yX0_power cX0_power 5 (some .long) 2 := ⟨wm_st_X0_power, wm_ini_X0, wm_cd_X0_power, by decide +kernel⟩
theorem meX0_put : sw_meV yX0_put cX0_put 7 none RX0 2 := ⟨wm_im_X0_put, wm_se_X0_put, wm_ini_X0, wm_cd_X0_put, rfl, by decide +kernel⟩
theorem meX0_sharedDivisor : sw_meS yX0_sharedDivisor cX0_sharedDivisor 11 (some .long) 2 := ⟨wm_st_X0_sharedDivisor, wm_ini_X0, wm_cd_X0_sharedDivisor, by decide +kernel⟩
theorem meX0_setMean : sw_meV yX0_setMean cX0_setMean 8 none RX0 5 := ⟨wm_im_X0_setMean, wm_se_X0_setMean, wm_ini_X0, wm_cd_X0_setMean, rfl, by decide +kernel⟩
theorem meX8_chance : sw_meV yX8_chance cX8_chance 20 (some .long) RX8 6 := ⟨wm_im_X8_chance, wm_se_X8_chance, wm_ini_X8, wm_cd_X8_chance, rfl, by decide +kernel⟩
theorem meX8_lowest : sw_meS yX8_lowest cX8_lowest 11 (some .long) 3 := ⟨wm_st_X8_lowest, wm_ini_X8, wm_cd_X8_lowest, by decide +kernel⟩
theorem meX7_year : sw_meV yX7_year cX7_year 4 (some .int) RX7 3 := ⟨wm_im_X7_year, wm_se_X7_year, wm_ini_X7, wm_cd_X7_year, rfl, by decide +kernel⟩
theorem meX6_pass : sw_meV yX6_pass cX6_pass 6 none RX6 3 := ⟨wm_im_X6_pass, wm_se_X6_pass, wm_ini_X6, wm_cd_X6_pass, rfl, by decide +kernel⟩
theorem meX6_sell : sw_meV yX6_sell cX6_sell 5 none RX6 1 := ⟨wm_im_X6_sell, wm_se_X6_sell, wm_ini_X6, wm_cd_X6_sell, rfl, by decide +kernel⟩
theorem meX8_year : sw_meV yX8_year cX8_year 11 (some .int) RX8 3 := ⟨wm_im_X8_year, wm_se_X8_year, wm_ini_X8, wm_cd_X8_year, rfl, by decide +kernel⟩
theorem meX7_image : sw_meV yX7_image cX7_image 2 (some .int) RX7 1 := ⟨wm_im_X7_image, wm_se_X7_image, wm_ini_X7, wm_cd_X7_image, rfl, by decide +kernel⟩
theorem meX8_image : sw_meV yX8_image cX8_image 2 (some .int) RX8 1 := ⟨wm_im_X8_image, wm_se_X8_image, wm_ini_X8, wm_cd_X8_image, rfl, by decide +kernel⟩
theorem meX8_passAll : sw_meV yX8_passAll cX8_passAll 2 none RX8 0 := ⟨wm_im_X8_passAll, wm_se_X8_passAll, wm_ini_X8, wm_cd_X8_passAll, rfl, by decide +kernel⟩
theorem meX8_pass : sw_meV yX8_pass cX8_pass 3 (some .int) RX8 1 := ⟨wm_im_X8_pass, wm_se_X8_pass, wm_ini_X8, wm_cd_X8_pass, rfl, by decide +kernel⟩
theorem meX7_restore : sw_meV yX7_restore cX7_restore 2 (some .int) RX7 1 := ⟨wm_im_X7_restore, wm_se_X7_restore, wm_ini_X7, wm_cd_X7_restore, rfl, by decide +kernel⟩
theorem meX8_restore : sw_meV yX8_restore cX8_restore 2 (some .int) RX8 1 := ⟨wm_im_X8_restore, wm_se_X8_restore, wm_ini_X8, wm_cd_X8_restore, rfl, by decide +kernel⟩
theorem meX7_told : sw_meV yX7_told cX7_told 2 (some .int) RX7 1 := ⟨wm_im_X7_told, wm_se_X7_told, wm_ini_X7, wm_cd_X7_told, rfl, by decide +kernel⟩
theorem meX7_tellPerson : sw_meV yX7_tellPerson cX7_tellPerson 3 (some .int) RX7 2 := ⟨wm_im_X7_tellPerson, wm_se_X7_tellPerson, wm_ini_X7, wm_cd_X7_tellPerson, rfl, by decide +kernel⟩
theorem meX8_told : sw_meV yX8_told cX8_told 2 (some .int) RX8 1 := ⟨wm_im_X8_told, wm_se_X8_told, wm_ini_X8, wm_cd_X8_told, rfl, by decide +kernel⟩
theorem meX8_toldOf : sw_meV yX8_toldOf cX8_toldOf 3 (some .int) RX8 2 := ⟨wm_im_X8_toldOf, wm_se_X8_toldOf, wm_ini_X8, wm_cd_X8_toldOf, rfl, by decide +kernel⟩
