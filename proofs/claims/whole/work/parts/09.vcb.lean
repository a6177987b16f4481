theorem vX6_has_0 {X : Nat × (Int → Int)} {h : HP} {Q : Int → HP → Prop} {x1 : Int} (H : ((x1 < 0 → (Q 0 h)) ∧ (¬ (x1 < 0) → ((h 4 6 ≤ x1 → (Q 0 h)) ∧ (¬ (h 4 6 ≤ x1) → (Q 1 h)))))) : Wd mX6_has X 0 [(2, 4), (0, x1)] [] h Q := by
  refine s_iload_n 1 1 rfl dX6_has_0 rfl rfl ?_
  refine s_if_lt 4 16 rfl dX6_has_1 (by decide) (fun c1 => ?_) (fun c1 => ?_)
  · replace H := H.1 c1
    refine s_iconst 17 rfl dX6_has_16 ⟨by decide, by decide⟩ ?_
    exact s_zret (S := []) dX6_has_17 rfl (Or.inl rfl) H
  · replace H := H.2 c1
    refine s_iload_n 5 1 rfl dX6_has_4 rfl rfl ?_
    refine s_aload_n 6 0 rfl dX6_has_5 rfl rfl ?_
    refine s_getf 9 4 6 rfl dX6_has_6 ck6 rfl (by decide) rfl (by decide) w153 rfl (v := (0, h 4 6)) rfl ?_
    refine s_icmp_ge 12 16 rfl dX6_has_9 (by decide) (fun c0 => ?_) (fun c0 => ?_)
    · replace H := H.1 c0
      refine s_iconst 17 rfl dX6_has_16 ⟨by decide, by decide⟩ ?_
      exact s_zret (S := []) dX6_has_17 rfl (Or.inl rfl) H
    · replace H := H.2 c0
      refine s_iconst 13 rfl dX6_has_12 ⟨by decide, by decide⟩ ?_
      refine s_goto 17 dX6_has_13 (by decide) ?_
      exact s_zret (S := []) dX6_has_17 rfl (Or.inr rfl) H
theorem vX6_endOf_0 {X : Nat × (Int → Int)} {h : HP} {Q : Int → HP → Prop} {x1 : Int} (H : 0 ≤ x1 ∧ x1 < 300 ∧ inI (h 21 x1 + h 22 x1) ∧ Q (h 21 x1 + h 22 x1) h) : Wd mX6_endOf X 0 [(2, 4), (0, x1)] [] h Q := by
  refine s_aload_n 1 0 rfl dX6_endOf_0 rfl rfl ?_
  refine s_getf 4 4 3 rfl dX6_endOf_1 ck6 rfl (by decide) rfl (by decide) w145 rfl (v := (2, 21)) rfl ?_
  refine s_iload_n 5 1 rfl dX6_endOf_4 rfl rfl ?_
  have c0 := H.1
  replace H := H.2
  have c1 := H.1
  replace H := H.2
  refine s_iald 6 rfl dX6_endOf_5 ia21 c0 c1 (v9 := h 21 x1) rfl ?_
  refine s_aload_n 7 0 rfl dX6_endOf_6 rfl rfl ?_
  refine s_getf 10 4 4 rfl dX6_endOf_7 ck6 rfl (by decide) rfl (by decide) w148 rfl (v := (2, 22)) rfl ?_
  refine s_iload_n 11 1 rfl dX6_endOf_10 rfl rfl ?_
  refine s_iald 12 rfl dX6_endOf_11 ia22 c0 c1 (v9 := h 22 x1) rfl ?_
  have c2 := H.1
  replace H := H.2
  refine s_iadd 13 rfl dX6_endOf_12 c2 ?_
  exact s_iret (S := []) dX6_endOf_13 rfl H
theorem vX6_shownBehind_0 {X : Nat × (Int → Int)} {h : HP} {Q : Int → HP → Prop} {x1 x2 : Int} (H : 0 ≤ x1 ∧ x1 < 600 ∧ ((¬ h 20 x1 = (-1) → (0 ≤ x2 ∧ x2 < 5 ∧ IA (15 + x2) 600 ∧ Q (h (15 + x2) x1) h)) ∧ (h 20 x1 = (-1) → (Q (-32768) h)))) : Wd mX6_shownBehind X 0 [(2, 4), (0, x1), (0, x2)] [] h Q := by
  refine s_aload_n 1 0 rfl dX6_shownBehind_0 rfl rfl ?_
  refine s_getf 4 4 2 rfl dX6_shownBehind_1 ck6 rfl (by decide) rfl (by decide) w143 rfl (v := (2, 20)) rfl ?_
  refine s_iload_n 5 1 rfl dX6_shownBehind_4 rfl rfl ?_
  have c0 := H.1
  replace H := H.2
  have c1 := H.1
  replace H := H.2
  refine s_iald 6 rfl dX6_shownBehind_5 ia20 c0 c1 (v9 := h 20 x1) rfl ?_
  refine s_iconst 7 rfl dX6_shownBehind_6 ⟨by decide, by decide⟩ ?_
  refine s_icmp_ne 10 16 rfl dX6_shownBehind_7 (by decide) (fun c5 => ?_) (fun c5 => ?_)
  · replace H := H.1 c5
    refine s_aload_n 17 0 rfl dX6_shownBehind_16 rfl rfl ?_
    refine s_getf 20 4 0 rfl dX6_shownBehind_17 ck6 rfl (by decide) rfl (by decide) w139 rfl (v := (2, 14)) rfl ?_
    refine s_iload_n 21 2 rfl dX6_shownBehind_20 rfl rfl ?_
    have c2 := H.1
    replace H := H.2
    have c3 := H.1
    replace H := H.2
    refine s_aald 22 rfl dX6_shownBehind_21 c2 c3 ?_
    refine s_iload_n 23 1 rfl dX6_shownBehind_22 rfl rfl ?_
    have c4 := H.1
    replace H := H.2
    refine s_iald 24 rfl dX6_shownBehind_23 c4 c0 c1 (v9 := h (15 + x2) x1) rfl ?_
    exact s_iret (S := []) dX6_shownBehind_24 rfl H
  · replace H := H.2 c5
    refine s_sipush 13 rfl dX6_shownBehind_10 (by decide) ⟨by decide, by decide⟩ ?_
    refine s_goto 24 dX6_shownBehind_13 (by decide) ?_
    exact s_iret (S := []) dX6_shownBehind_24 rfl H
theorem vX6_keep_0 {X : Nat × (Int → Int)} {h : HP} {Q : Int → HP → Prop} {x1 x2 : Int} (H : 0 ≤ x1 ∧ x1 < 600 ∧ Q 0 (xu (xu h 15 x1 x2) 20 x1 0)) : Wd mX6_keep X 0 [(2, 4), (0, x1), (0, x2)] [] h Q := by
  refine s_aload_n 1 0 rfl dX6_keep_0 rfl rfl ?_
  refine s_getf 4 4 0 rfl dX6_keep_1 ck6 rfl (by decide) rfl (by decide) w139 rfl (v := (2, 14)) rfl ?_
  refine s_iconst 5 rfl dX6_keep_4 ⟨by decide, by decide⟩ ?_
  refine s_aald 6 rfl dX6_keep_5 (by decide) (by decide) ?_
  refine s_iload_n 7 1 rfl dX6_keep_6 rfl rfl ?_
  refine s_iload_n 8 2 rfl dX6_keep_7 rfl rfl ?_
  have c0 := H.1
  replace H := H.2
  have c1 := H.1
  replace H := H.2
  refine s_iast 9 rfl dX6_keep_8 ia15 c0 c1 ?_
  refine s_aload_n 10 0 rfl dX6_keep_9 rfl rfl ?_
  refine s_getf 13 4 2 rfl dX6_keep_10 ck6 rfl (by decide) rfl (by decide) w143 rfl (v := (2, 20)) rfl ?_
  refine s_iload_n 14 1 rfl dX6_keep_13 rfl rfl ?_
  refine s_iconst 15 rfl dX6_keep_14 ⟨by decide, by decide⟩ ?_
  refine s_iast 16 rfl dX6_keep_15 ia20 c0 c1 ?_
  exact s_vret (S := []) dX6_keep_16 rfl H
theorem vX6_mendBetween_0 {X : Nat × (Int → Int)} {h : HP} {Q : Int → HP → Prop} {x1 x2 : Int} (H : inI (x2 - x1) ∧ 0 ≤ x1 ∧ x1 < 600 ∧ 0 ≤ x2 ∧ x2 < 600 ∧ Wd mX6_mendBetween X 27 [(2, 4), (0, x1), (9, 0), (0, x2 - x1), (0, h 15 x1), (0, h 15 x2), (0, 1)] [] h Q) : Wd mX6_mendBetween X 0 [(2, 4), (0, x1), (0, x2), (9, 0), (9, 0), (9, 0), (9, 0)] [] h Q := by
  refine s_iload_n 1 2 rfl dX6_mendBetween_0 rfl rfl ?_
  refine s_iload_n 2 1 rfl dX6_mendBetween_1 rfl rfl ?_
  have c0 := H.1
  replace H := H.2
  refine s_isub 3 rfl dX6_mendBetween_2 c0 ?_
  refine s_istore_n 4 3 rfl dX6_mendBetween_3 rfl (by decide) (L2 := [(2, 4), (0, x1), (0, x2), (0, x2 - x1), (9, 0), (9, 0), (9, 0)]) rfl ?_
  refine s_aload_n 5 0 rfl dX6_mendBetween_4 rfl rfl ?_
  refine s_getf 8 4 0 rfl dX6_mendBetween_5 ck6 rfl (by decide) rfl (by decide) w139 rfl (v := (2, 14)) rfl ?_
  refine s_iconst 9 rfl dX6_mendBetween_8 ⟨by decide, by decide⟩ ?_
  refine s_aald 10 rfl dX6_mendBetween_9 (by decide) (by decide) ?_
  refine s_iload_n 11 1 rfl dX6_mendBetween_10 rfl rfl ?_
  have c1 := H.1
  replace H := H.2
  have c2 := H.1
  replace H := H.2
  refine s_iald 12 rfl dX6_mendBetween_11 ia15 c1 c2 (v9 := h 15 x1) rfl ?_
  refine s_istore 14 4 rfl dX6_mendBetween_12 (by decide) (L2 := [(2, 4), (0, x1), (0, x2), (0, x2 - x1), (0, h 15 x1), (9, 0), (9, 0)]) rfl ?_
  refine s_aload_n 15 0 rfl dX6_mendBetween_14 rfl rfl ?_
  refine s_getf 18 4 0 rfl dX6_mendBetween_15 ck6 rfl (by decide) rfl (by decide) w139 rfl (v := (2, 14)) rfl ?_
  refine s_iconst 19 rfl dX6_mendBetween_18 ⟨by decide, by decide⟩ ?_
  refine s_aald 20 rfl dX6_mendBetween_19 (by decide) (by decide) ?_
  refine s_iload_n 21 2 rfl dX6_mendBetween_20 rfl rfl ?_
  have c3 := H.1
  replace H := H.2
  have c4 := H.1
  replace H := H.2
  refine s_iald 22 rfl dX6_mendBetween_21 ia15 c3 c4 (v9 := h 15 x2) rfl ?_
  refine s_istore 24 5 rfl dX6_mendBetween_22 (by decide) (L2 := [(2, 4), (0, x1), (0, x2), (0, x2 - x1), (0, h 15 x1), (0, h 15 x2), (9, 0)]) rfl ?_
  refine s_iconst 25 rfl dX6_mendBetween_24 ⟨by decide, by decide⟩ ?_
  refine s_istore 27 6 rfl dX6_mendBetween_25 (by decide) (L2 := [(2, 4), (0, x1), (0, x2), (0, x2 - x1), (0, h 15 x1), (0, h 15 x2), (0, 1)]) rfl ?_
  exact s_less [(2, 4), (0, x1), (9, 0), (0, x2 - x1), (0, h 15 x1), (0, h 15 x2), (0, 1)] ⟨Or.inr rfl, Or.inr rfl, Or.inl rfl, Or.inr rfl, Or.inr rfl, Or.inr rfl, Or.inr rfl, trivial⟩ H
theorem vX6_mendBetween_27 {X : Nat × (Int → Int)} {h : HP} {Q : Int → HP → Prop} {x1 x3 x4 x5 x6 : Int} (H : ((x3 ≤ x6 → (Q 0 h)) ∧ (¬ (x3 ≤ x6) → (inI (x1 + x6) ∧ inI (x3 - x6) ∧ inJ (x4 * (x3 - x6)) ∧ inJ (x5 * x6) ∧ inJ (x4 * (x3 - x6) + x5 * x6) ∧ Wd mX8_meanDown X 0 [(1, x4 * (x3 - x6) + x5 * x6), (9, 0), (0, x3)] [] h (fun r6 h7 => Wd mX6_keep X 0 [(2, 4), (0, x1 + x6), (0, r6)] [] h7 (fun _ h9 => inI (h9 4 8 + 1) ∧ inI (x6 + 1) ∧ Wd mX6_mendBetween X 27 [(2, 4), (0, x1), (9, 0), (0, x3), (0, x4), (0, x5), (0, x6 + 1)] [] (xu h9 4 8 (h9 4 8 + 1)) Q)))))) : Wd mX6_mendBetween X 27 [(2, 4), (0, x1), (9, 0), (0, x3), (0, x4), (0, x5), (0, x6)] [] h Q := by
  refine s_iload 29 6 rfl dX6_mendBetween_27 rfl ?_
  refine s_iload_n 30 3 rfl dX6_mendBetween_29 rfl rfl ?_
  refine s_icmp_ge 33 78 rfl dX6_mendBetween_30 (by decide) (fun c11 => ?_) (fun c11 => ?_)
  · replace H := H.1 c11
    exact s_vret (S := []) dX6_mendBetween_78 rfl H
  · replace H := H.2 c11
    refine s_aload_n 34 0 rfl dX6_mendBetween_33 rfl rfl ?_
    refine s_iload_n 35 1 rfl dX6_mendBetween_34 rfl rfl ?_
    refine s_iload 37 6 rfl dX6_mendBetween_35 rfl ?_
    have c0 := H.1
    replace H := H.2
    refine s_iadd 38 rfl dX6_mendBetween_37 c0 ?_
    refine s_iload 40 4 rfl dX6_mendBetween_38 rfl ?_
    refine s_i2l 41 rfl dX6_mendBetween_40 ?_
    refine s_iload_n 42 3 rfl dX6_mendBetween_41 rfl rfl ?_
    refine s_iload 44 6 rfl dX6_mendBetween_42 rfl ?_
    have c1 := H.1
    replace H := H.2
    refine s_isub 45 rfl dX6_mendBetween_44 c1 ?_
    refine s_i2l 46 rfl dX6_mendBetween_45 ?_
    have c2 := H.1
    replace H := H.2
    refine s_lmul 47 rfl dX6_mendBetween_46 c2 ?_
    refine s_iload 49 5 rfl dX6_mendBetween_47 rfl ?_
    refine s_i2l 50 rfl dX6_mendBetween_49 ?_
    refine s_iload 52 6 rfl dX6_mendBetween_50 rfl ?_
    refine s_i2l 53 rfl dX6_mendBetween_52 ?_
    have c3 := H.1
    replace H := H.2
    refine s_lmul 54 rfl dX6_mendBetween_53 c3 ?_
    have c4 := H.1
    replace H := H.2
    refine s_ladd 55 rfl dX6_mendBetween_54 c4 ?_
    refine s_iload_n 56 3 rfl dX6_mendBetween_55 rfl rfl ?_
    refine s_callN (mj := mX8_meanDown) (S := [(0, x1 + x6), (2, 4)]) 59 [(1, x4 * (x3 - x6) + x5 * x6), (0, x3)] [(1, x4 * (x3 - x6) + x5 * x6), (9, 0), (0, x3)] rfl dX6_mendBetween_56 okX8_meanDown ⟨Or.inr ⟨rfl, rfl⟩, rfl⟩ w442 rfl npX8_meanDown (Nat.le_of_ble_eq_true rfl) (by decide) (Nat.le_of_ble_eq_true rfl) rfl (Wd.imp H (fun r6 h7 H => ?_))
    show Wd mX6_mendBetween X 59 [(2, 4), (0, x1), (9, 0), (0, x3), (0, x4), (0, x5), (0, x6)] [(0, r6), (0, x1 + x6), (2, 4)] h7 Q
    refine s_callV (mj := mX6_keep) (S := []) 62 [(0, x1 + x6), (0, r6)] [(2, 4), (0, x1 + x6), (0, r6)] 4 rfl dX6_mendBetween_59 okX6_keep w433 w435 w2 rfl (by decide) rfl rfl rfl rfl npX6_keep (Nat.le_of_ble_eq_true rfl) (by decide) (Nat.le_of_ble_eq_true rfl) rfl (Wd.imp H (fun _ h9 H => ?_))
    show Wd mX6_mendBetween X 62 [(2, 4), (0, x1), (9, 0), (0, x3), (0, x4), (0, x5), (0, x6)] [] h9 Q
    refine s_aload_n 63 0 rfl dX6_mendBetween_62 rfl rfl ?_
    refine s_dup 64 rfl dX6_mendBetween_63 (by decide : ¬ (2 : Nat) = 1) ?_
    refine s_getf 67 4 8 rfl dX6_mendBetween_64 ck6 rfl (by decide) rfl (by decide) w158 rfl (v := (0, h9 4 8)) rfl ?_
    refine s_iconst 68 rfl dX6_mendBetween_67 ⟨by decide, by decide⟩ ?_
    have c9 := H.1
    replace H := H.2
    refine s_iadd 69 rfl dX6_mendBetween_68 c9 ?_
    refine s_putI 72 4 8 rfl dX6_mendBetween_69 ck6 rfl (by decide) rfl (by decide) w158 rfl rfl rfl ?_
    have c10 := H.1
    replace H := H.2
    refine s_iinc 75 6 rfl dX6_mendBetween_72 (by decide) (z := x6) rfl (L2 := [(2, 4), (0, x1), (9, 0), (0, x3), (0, x4), (0, x5), (0, x6 + 1)]) rfl c10 ?_
    refine s_goto 27 dX6_mendBetween_75 (by decide) ?_
    exact H
theorem vX6_mendGaps_0 {X : Nat × (Int → Int)} {h : HP} {Q : Int → HP → Prop} {x2 : Int} (H : Wd mX6_mendGaps X 15 [(2, 4), (2, 3), (0, x2), (0, (-1)), (0, 0)] [] (xu (xu h 4 7 0) 4 8 0) Q) : Wd mX6_mendGaps X 0 [(2, 4), (2, 3), (0, x2), (9, 0), (9, 0)] [] h Q := by
  refine s_aload_n 1 0 rfl dX6_mendGaps_0 rfl rfl ?_
  refine s_iconst 2 rfl dX6_mendGaps_1 ⟨by decide, by decide⟩ ?_
  refine s_putI 5 4 7 rfl dX6_mendGaps_2 ck6 rfl (by decide) rfl (by decide) w156 rfl rfl rfl ?_
  refine s_aload_n 6 0 rfl dX6_mendGaps_5 rfl rfl ?_
  refine s_iconst 7 rfl dX6_mendGaps_6 ⟨by decide, by decide⟩ ?_
  refine s_putI 10 4 8 rfl dX6_mendGaps_7 ck6 rfl (by decide) rfl (by decide) w158 rfl rfl rfl ?_
  refine s_iconst 11 rfl dX6_mendGaps_10 ⟨by decide, by decide⟩ ?_
  refine s_istore_n 12 3 rfl dX6_mendGaps_11 rfl (by decide) (L2 := [(2, 4), (2, 3), (0, x2), (0, (-1)), (9, 0)]) rfl ?_
  refine s_iconst 13 rfl dX6_mendGaps_12 ⟨by decide, by decide⟩ ?_
  refine s_istore 15 4 rfl dX6_mendGaps_13 (by decide) (L2 := [(2, 4), (2, 3), (0, x2), (0, (-1)), (0, 0)]) rfl ?_
  exact H
theorem vX6_mendGaps_15 {X : Nat × (Int → Int)} {h : HP} {Q : Int → HP → Prop} {x2 x3 x4 : Int} (H : ((h 3 2 ≤ x4 → (Q 0 h)) ∧ (¬ (h 3 2 ≤ x4) → (0 ≤ x4 ∧ x4 < 600 ∧ ((¬ h 12 x4 = (-32768) → (Wd mX6_keep X 0 [(2, 4), (0, x4), (0, h 12 x4)] [] h (fun _ h4 => ((x3 = (-1) → (inI (x4 + 1) ∧ Wd mX6_mendGaps X 15 [(2, 4), (2, 3), (0, x2), (0, x4), (0, x4 + 1)] [] h4 Q)) ∧ (¬ x3 = (-1) → (inI (x4 - x3) ∧ inI (x4 - x3 - 1) ∧ ((x2 < (x4 - x3 - 1) → (inI (x4 + 1) ∧ Wd mX6_mendGaps X 15 [(2, 4), (2, 3), (0, x2), (0, x4), (0, x4 + 1)] [] h4 Q)) ∧ (¬ (x2 < (x4 - x3 - 1)) → (Wd mX6_mendBetween X 0 [(2, 4), (0, x3), (0, x4), (9, 0), (9, 0), (9, 0), (9, 0)] [] h4 (fun _ h10 => inI (x4 + 1) ∧ Wd mX6_mendGaps X 15 [(2, 4), (2, 3), (0, x2), (0, x4), (0, x4 + 1)] [] h10 Q)))))))))) ∧ (h 12 x4 = (-32768) → (inI (h 4 7 + 1) ∧ inI (x4 + 1) ∧ Wd mX6_mendGaps X 15 [(2, 4), (2, 3), (0, x2), (0, x3), (0, x4 + 1)] [] (xu (xu h 4 7 (h 4 7 + 1)) 20 x4 (-1)) Q))))))) : Wd mX6_mendGaps X 15 [(2, 4), (2, 3), (0, x2), (0, x3), (0, x4)] [] h Q := by
  refine s_iload 17 4 rfl dX6_mendGaps_15 rfl ?_
  refine s_aload_n 18 1 rfl dX6_mendGaps_17 rfl rfl ?_
  refine s_getf 21 3 2 rfl dX6_mendGaps_18 ck3 rfl (by decide) rfl (by decide) w123 rfl (v := (0, h 3 2)) rfl ?_
  refine s_icmp_ge 24 102 rfl dX6_mendGaps_21 (by decide) (fun c16 => ?_) (fun c16 => ?_)
  · replace H := H.1 c16
    exact s_vret (S := []) dX6_mendGaps_102 rfl H
  · replace H := H.2 c16
    refine s_aload_n 25 1 rfl dX6_mendGaps_24 rfl rfl ?_
    refine s_getf 28 3 0 rfl dX6_mendGaps_25 ck3 rfl (by decide) rfl (by decide) w117 rfl (v := (2, 12)) rfl ?_
    refine s_iload 30 4 rfl dX6_mendGaps_28 rfl ?_
    have c0 := H.1
    replace H := H.2
    have c1 := H.1
    replace H := H.2
    refine s_iald 31 rfl dX6_mendGaps_30 ia12 c0 c1 (v9 := h 12 x4) rfl ?_
    refine s_sipush 34 rfl dX6_mendGaps_31 (by decide) ⟨by decide, by decide⟩ ?_
    refine s_icmp_ne 37 58 rfl dX6_mendGaps_34 (by decide) (fun c15 => ?_) (fun c15 => ?_)
    · replace H := H.1 c15
      refine s_aload_n 59 0 rfl dX6_mendGaps_58 rfl rfl ?_
      refine s_iload 61 4 rfl dX6_mendGaps_59 rfl ?_
      refine s_aload_n 62 1 rfl dX6_mendGaps_61 rfl rfl ?_
      refine s_getf 65 3 0 rfl dX6_mendGaps_62 ck3 rfl (by decide) rfl (by decide) w117 rfl (v := (2, 12)) rfl ?_
      refine s_iload 67 4 rfl dX6_mendGaps_65 rfl ?_
      refine s_iald 68 rfl dX6_mendGaps_67 ia12 c0 c1 (v9 := h 12 x4) rfl ?_
      refine s_callV (mj := mX6_keep) (S := []) 71 [(0, x4), (0, h 12 x4)] [(2, 4), (0, x4), (0, h 12 x4)] 4 rfl dX6_mendGaps_68 okX6_keep w433 w435 w2 rfl (by decide) rfl rfl rfl rfl npX6_keep (Nat.le_of_ble_eq_true rfl) (by decide) (Nat.le_of_ble_eq_true rfl) rfl (Wd.imp H (fun _ h4 H => ?_))
      show Wd mX6_mendGaps X 71 [(2, 4), (2, 3), (0, x2), (0, x3), (0, x4)] [] h4 Q
      refine s_iload_n 72 3 rfl dX6_mendGaps_71 rfl rfl ?_
      refine s_iconst 73 rfl dX6_mendGaps_72 ⟨by decide, by decide⟩ ?_
      refine s_icmp_eq 76 93 rfl dX6_mendGaps_73 (by decide) (fun c12 => ?_) (fun c12 => ?_)
      · replace H := H.1 c12
        refine s_iload 95 4 rfl dX6_mendGaps_93 rfl ?_
        refine s_istore_n 96 3 rfl dX6_mendGaps_95 rfl (by decide) (L2 := [(2, 4), (2, 3), (0, x2), (0, x4), (0, x4)]) rfl ?_
        have c4 := H.1
        replace H := H.2
        refine s_iinc 99 4 rfl dX6_mendGaps_96 (by decide) (z := x4) rfl (L2 := [(2, 4), (2, 3), (0, x2), (0, x4), (0, x4 + 1)]) rfl c4 ?_
        refine s_goto 15 dX6_mendGaps_99 (by decide) ?_
        exact H
      · replace H := H.2 c12
        refine s_iload 78 4 rfl dX6_mendGaps_76 rfl ?_
        refine s_iload_n 79 3 rfl dX6_mendGaps_78 rfl rfl ?_
        have c5 := H.1
        replace H := H.2
        refine s_isub 80 rfl dX6_mendGaps_79 c5 ?_
        refine s_iconst 81 rfl dX6_mendGaps_80 ⟨by decide, by decide⟩ ?_
        have c6 := H.1
        replace H := H.2
        refine s_isub 82 rfl dX6_mendGaps_81 c6 ?_
        refine s_iload_n 83 2 rfl dX6_mendGaps_82 rfl rfl ?_
        refine s_icmp_gt 86 93 rfl dX6_mendGaps_83 (by decide) (fun c11 => ?_) (fun c11 => ?_)
        · replace H := H.1 c11
          refine s_iload 95 4 rfl dX6_mendGaps_93 rfl ?_
          refine s_istore_n 96 3 rfl dX6_mendGaps_95 rfl (by decide) (L2 := [(2, 4), (2, 3), (0, x2), (0, x4), (0, x4)]) rfl ?_
          have c7 := H.1
          replace H := H.2
          refine s_iinc 99 4 rfl dX6_mendGaps_96 (by decide) (z := x4) rfl (L2 := [(2, 4), (2, 3), (0, x2), (0, x4), (0, x4 + 1)]) rfl c7 ?_
          refine s_goto 15 dX6_mendGaps_99 (by decide) ?_
          exact H
        · replace H := H.2 c11
          refine s_aload_n 87 0 rfl dX6_mendGaps_86 rfl rfl ?_
          refine s_iload_n 88 3 rfl dX6_mendGaps_87 rfl rfl ?_
          refine s_iload 90 4 rfl dX6_mendGaps_88 rfl ?_
          refine s_callV (mj := mX6_mendBetween) (S := []) 93 [(0, x3), (0, x4)] [(2, 4), (0, x3), (0, x4), (9, 0), (9, 0), (9, 0), (9, 0)] 4 rfl dX6_mendGaps_90 okX6_mendBetween w437 w439 w3 rfl (by decide) rfl rfl rfl rfl npX6_mendBetween (Nat.le_of_ble_eq_true rfl) (by decide) (Nat.le_of_ble_eq_true rfl) rfl (Wd.imp H (fun _ h10 H => ?_))
          show Wd mX6_mendGaps X 93 [(2, 4), (2, 3), (0, x2), (0, x3), (0, x4)] [] h10 Q
          refine s_iload 95 4 rfl dX6_mendGaps_93 rfl ?_
          refine s_istore_n 96 3 rfl dX6_mendGaps_95 rfl (by decide) (L2 := [(2, 4), (2, 3), (0, x2), (0, x4), (0, x4)]) rfl ?_
          have c10 := H.1
          replace H := H.2
          refine s_iinc 99 4 rfl dX6_mendGaps_96 (by decide) (z := x4) rfl (L2 := [(2, 4), (2, 3), (0, x2), (0, x4), (0, x4 + 1)]) rfl c10 ?_
          refine s_goto 15 dX6_mendGaps_99 (by decide) ?_
          exact H
    · replace H := H.2 c15
      refine s_aload_n 38 0 rfl dX6_mendGaps_37 rfl rfl ?_
      refine s_dup 39 rfl dX6_mendGaps_38 (by decide : ¬ (2 : Nat) = 1) ?_
      refine s_getf 42 4 7 rfl dX6_mendGaps_39 ck6 rfl (by decide) rfl (by decide) w156 rfl (v := (0, h 4 7)) rfl ?_
      refine s_iconst 43 rfl dX6_mendGaps_42 ⟨by decide, by decide⟩ ?_
      have c13 := H.1
      replace H := H.2
      refine s_iadd 44 rfl dX6_mendGaps_43 c13 ?_
      refine s_putI 47 4 7 rfl dX6_mendGaps_44 ck6 rfl (by decide) rfl (by decide) w156 rfl rfl rfl ?_
      refine s_aload_n 48 0 rfl dX6_mendGaps_47 rfl rfl ?_
      refine s_getf 51 4 2 rfl dX6_mendGaps_48 ck6 rfl (by decide) rfl (by decide) w143 rfl (v := (2, 20)) rfl ?_
      refine s_iload 53 4 rfl dX6_mendGaps_51 rfl ?_
      refine s_iconst 54 rfl dX6_mendGaps_53 ⟨by decide, by decide⟩ ?_
      refine s_iast 55 rfl dX6_mendGaps_54 ia20 c0 c1 ?_
      refine s_goto 96 dX6_mendGaps_55 (by decide) ?_
      have c14 := H.1
      replace H := H.2
      refine s_iinc 99 4 rfl dX6_mendGaps_96 (by decide) (z := x4) rfl (L2 := [(2, 4), (2, 3), (0, x2), (0, x3), (0, x4 + 1)]) rfl c14 ?_
      refine s_goto 15 dX6_mendGaps_99 (by decide) ?_
      exact H
theorem vX6_split_0 {X : Nat × (Int → Int)} {h : HP} {Q : Int → HP → Prop} {x1 : Int} (H : Wd mX6_split X 9 [(2, 4), (0, x1), (0, 0), (0, 0)] [] (xu h 4 6 0) Q) : Wd mX6_split X 0 [(2, 4), (0, x1), (9, 0), (9, 0)] [] h Q := by
  refine s_aload_n 1 0 rfl dX6_split_0 rfl rfl ?_
  refine s_iconst 2 rfl dX6_split_1 ⟨by decide, by decide⟩ ?_
  refine s_putI 5 4 6 rfl dX6_split_2 ck6 rfl (by decide) rfl (by decide) w153 rfl rfl rfl ?_
  refine s_iconst 6 rfl dX6_split_5 ⟨by decide, by decide⟩ ?_
  refine s_istore_n 7 2 rfl dX6_split_6 rfl (by decide) (L2 := [(2, 4), (0, x1), (0, 0), (9, 0)]) rfl ?_
  refine s_iconst 8 rfl dX6_split_7 ⟨by decide, by decide⟩ ?_
  refine s_istore_n 9 3 rfl dX6_split_8 rfl (by decide) (L2 := [(2, 4), (0, x1), (0, 0), (0, 0)]) rfl ?_
  exact H
theorem vX6_split_9 {X : Nat × (Int → Int)} {h : HP} {Q : Int → HP → Prop} {x1 x2 x3 : Int} (H : ((x1 ≤ x3 → (Q 0 h)) ∧ (¬ (x1 ≤ x3) → (0 ≤ x3 ∧ x3 < 600 ∧ ((¬ h 20 x3 = (-1) → ((¬ x2 = 0 → (inI (h 4 6 - 1) ∧ 0 ≤ h 4 6 - 1 ∧ h 4 6 - 1 < 300 ∧ inI (h 22 (h 4 6 - 1) + 1) ∧ inI (x3 + 1) ∧ Wd mX6_split X 9 [(2, 4), (0, x1), (0, x2), (0, x3 + 1)] [] (xu (xu h 20 x3 (h 4 6 - 1)) 22 (h 4 6 - 1) (h 22 (h 4 6 - 1) + 1)) Q)) ∧ (x2 = 0 → ((300 ≤ h 4 6 → (inI (h 4 6 - 1) ∧ 0 ≤ h 4 6 - 1 ∧ h 4 6 - 1 < 300 ∧ inI (h 22 (h 4 6 - 1) + 1) ∧ inI (x3 + 1) ∧ Wd mX6_split X 9 [(2, 4), (0, x1), (0, x2), (0, x3 + 1)] [] (xu (xu h 20 x3 (h 4 6 - 1)) 22 (h 4 6 - 1) (h 22 (h 4 6 - 1) + 1)) Q)) ∧ (¬ (300 ≤ h 4 6) → (0 ≤ h 4 6 ∧ h 4 6 < 300 ∧ inI (h 4 6 + 1) ∧ inI (h 4 6 + 1 - 1) ∧ 0 ≤ h 4 6 + 1 - 1 ∧ h 4 6 + 1 - 1 < 300 ∧ inI ((xu (xu h 21 (h 4 6) x3) 22 (h 4 6) 0) 22 (h 4 6 + 1 - 1) + 1) ∧ inI (x3 + 1) ∧ Wd mX6_split X 9 [(2, 4), (0, x1), (0, 1), (0, x3 + 1)] [] (xu (xu (xu (xu (xu h 21 (h 4 6) x3) 22 (h 4 6) 0) 4 6 (h 4 6 + 1)) 20 x3 (h 4 6 + 1 - 1)) 22 (h 4 6 + 1 - 1) ((xu (xu h 21 (h 4 6) x3) 22 (h 4 6) 0) 22 (h 4 6 + 1 - 1) + 1)) Q)))))) ∧ (h 20 x3 = (-1) → (inI (x3 + 1) ∧ Wd mX6_split X 9 [(2, 4), (0, x1), (0, 0), (0, x3 + 1)] [] h Q))))))) : Wd mX6_split X 9 [(2, 4), (0, x1), (0, x2), (0, x3)] [] h Q := by
  refine s_iload_n 10 3 rfl dX6_split_9 rfl rfl ?_
  refine s_iload_n 11 1 rfl dX6_split_10 rfl rfl ?_
  refine s_icmp_ge 14 110 rfl dX6_split_11 (by decide) (fun c24 => ?_) (fun c24 => ?_)
  · replace H := H.1 c24
    exact s_vret (S := []) dX6_split_110 rfl H
  · replace H := H.2 c24
    refine s_aload_n 15 0 rfl dX6_split_14 rfl rfl ?_
    refine s_getf 18 4 2 rfl dX6_split_15 ck6 rfl (by decide) rfl (by decide) w143 rfl (v := (2, 20)) rfl ?_
    refine s_iload_n 19 3 rfl dX6_split_18 rfl rfl ?_
    have c0 := H.1
    replace H := H.2
    have c1 := H.1
    replace H := H.2
    refine s_iald 20 rfl dX6_split_19 ia20 c0 c1 (v9 := h 20 x3) rfl ?_
    refine s_iconst 21 rfl dX6_split_20 ⟨by decide, by decide⟩ ?_
    refine s_icmp_ne 24 29 rfl dX6_split_21 (by decide) (fun c23 => ?_) (fun c23 => ?_)
    · replace H := H.1 c23
      refine s_iload_n 30 2 rfl dX6_split_29 rfl rfl ?_
      refine s_if_ne 33 77 rfl dX6_split_30 (by decide) (fun c21 => ?_) (fun c21 => ?_)
      · replace H := H.1 c21
        refine s_aload_n 78 0 rfl dX6_split_77 rfl rfl ?_
        refine s_getf 81 4 2 rfl dX6_split_78 ck6 rfl (by decide) rfl (by decide) w143 rfl (v := (2, 20)) rfl ?_
        refine s_iload_n 82 3 rfl dX6_split_81 rfl rfl ?_
        refine s_aload_n 83 0 rfl dX6_split_82 rfl rfl ?_
        refine s_getf 86 4 6 rfl dX6_split_83 ck6 rfl (by decide) rfl (by decide) w153 rfl (v := (0, h 4 6)) rfl ?_
        refine s_iconst 87 rfl dX6_split_86 ⟨by decide, by decide⟩ ?_
        have c2 := H.1
        replace H := H.2
        refine s_isub 88 rfl dX6_split_87 c2 ?_
        refine s_iast 89 rfl dX6_split_88 ia20 c0 c1 ?_
        refine s_aload_n 90 0 rfl dX6_split_89 rfl rfl ?_
        refine s_getf 93 4 4 rfl dX6_split_90 ck6 rfl (by decide) rfl (by decide) w148 rfl (v := (2, 22)) rfl ?_
        refine s_aload_n 94 0 rfl dX6_split_93 rfl rfl ?_
        refine s_getf 97 4 6 rfl dX6_split_94 ck6 rfl (by decide) rfl (by decide) w153 rfl (v := (0, h 4 6)) (by show (0, (xu h 20 x3 (h 4 6 - 1)) 4 6) = _; rw [(xu_k (by decide))]) ?_
        refine s_iconst 98 rfl dX6_split_97 ⟨by decide, by decide⟩ ?_
        refine s_isub 99 rfl dX6_split_98 c2 ?_
        refine s_dup2 100 rfl dX6_split_99 (by decide : ¬ (0 : Nat) = 1) (by decide : ¬ (2 : Nat) = 1) ?_
        have c3 := H.1
        replace H := H.2
        have c4 := H.1
        replace H := H.2
        refine s_iald 101 rfl dX6_split_100 ia22 c3 c4 (v9 := h 22 (h 4 6 - 1)) (xu_k (by decide)) ?_
        refine s_iconst 102 rfl dX6_split_101 ⟨by decide, by decide⟩ ?_
        have c5 := H.1
        replace H := H.2
        refine s_iadd 103 rfl dX6_split_102 c5 ?_
        refine s_iast 104 rfl dX6_split_103 ia22 c3 c4 ?_
        have c6 := H.1
        replace H := H.2
        refine s_iinc 107 3 rfl dX6_split_104 (by decide) (z := x3) rfl (L2 := [(2, 4), (0, x1), (0, x2), (0, x3 + 1)]) rfl c6 ?_
        refine s_goto 9 dX6_split_107 (by decide) ?_
        exact H
      · replace H := H.2 c21
        refine s_aload_n 34 0 rfl dX6_split_33 rfl rfl ?_
        refine s_getf 37 4 6 rfl dX6_split_34 ck6 rfl (by decide) rfl (by decide) w153 rfl (v := (0, h 4 6)) rfl ?_
        refine s_aload_n 38 0 rfl dX6_split_37 rfl rfl ?_
        refine s_getf 41 4 3 rfl dX6_split_38 ck6 rfl (by decide) rfl (by decide) w145 rfl (v := (2, 21)) rfl ?_
        refine s_alenI 42 rfl dX6_split_41 ia21 ?_
        refine s_icmp_ge 45 77 rfl dX6_split_42 (by decide) (fun c20 => ?_) (fun c20 => ?_)
        · replace H := H.1 c20
          refine s_aload_n 78 0 rfl dX6_split_77 rfl rfl ?_
          refine s_getf 81 4 2 rfl dX6_split_78 ck6 rfl (by decide) rfl (by decide) w143 rfl (v := (2, 20)) rfl ?_
          refine s_iload_n 82 3 rfl dX6_split_81 rfl rfl ?_
          refine s_aload_n 83 0 rfl dX6_split_82 rfl rfl ?_
          refine s_getf 86 4 6 rfl dX6_split_83 ck6 rfl (by decide) rfl (by decide) w153 rfl (v := (0, h 4 6)) rfl ?_
          refine s_iconst 87 rfl dX6_split_86 ⟨by decide, by decide⟩ ?_
          have c7 := H.1
          replace H := H.2
          refine s_isub 88 rfl dX6_split_87 c7 ?_
          refine s_iast 89 rfl dX6_split_88 ia20 c0 c1 ?_
          refine s_aload_n 90 0 rfl dX6_split_89 rfl rfl ?_
          refine s_getf 93 4 4 rfl dX6_split_90 ck6 rfl (by decide) rfl (by decide) w148 rfl (v := (2, 22)) rfl ?_
          refine s_aload_n 94 0 rfl dX6_split_93 rfl rfl ?_
          refine s_getf 97 4 6 rfl dX6_split_94 ck6 rfl (by decide) rfl (by decide) w153 rfl (v := (0, h 4 6)) (by show (0, (xu h 20 x3 (h 4 6 - 1)) 4 6) = _; rw [(xu_k (by decide))]) ?_
          refine s_iconst 98 rfl dX6_split_97 ⟨by decide, by decide⟩ ?_
          refine s_isub 99 rfl dX6_split_98 c7 ?_
          refine s_dup2 100 rfl dX6_split_99 (by decide : ¬ (0 : Nat) = 1) (by decide : ¬ (2 : Nat) = 1) ?_
          have c8 := H.1
          replace H := H.2
          have c9 := H.1
          replace H := H.2
          refine s_iald 101 rfl dX6_split_100 ia22 c8 c9 (v9 := h 22 (h 4 6 - 1)) (xu_k (by decide)) ?_
          refine s_iconst 102 rfl dX6_split_101 ⟨by decide, by decide⟩ ?_
          have c10 := H.1
          replace H := H.2
          refine s_iadd 103 rfl dX6_split_102 c10 ?_
          refine s_iast 104 rfl dX6_split_103 ia22 c8 c9 ?_
          have c11 := H.1
          replace H := H.2
          refine s_iinc 107 3 rfl dX6_split_104 (by decide) (z := x3) rfl (L2 := [(2, 4), (0, x1), (0, x2), (0, x3 + 1)]) rfl c11 ?_
          refine s_goto 9 dX6_split_107 (by decide) ?_
          exact H
        · replace H := H.2 c20
          refine s_aload_n 46 0 rfl dX6_split_45 rfl rfl ?_
          refine s_getf 49 4 3 rfl dX6_split_46 ck6 rfl (by decide) rfl (by decide) w145 rfl (v := (2, 21)) rfl ?_
          refine s_aload_n 50 0 rfl dX6_split_49 rfl rfl ?_
          refine s_getf 53 4 6 rfl dX6_split_50 ck6 rfl (by decide) rfl (by decide) w153 rfl (v := (0, h 4 6)) rfl ?_
          refine s_iload_n 54 3 rfl dX6_split_53 rfl rfl ?_
          have c12 := H.1
          replace H := H.2
          have c13 := H.1
          replace H := H.2
          refine s_iast 55 rfl dX6_split_54 ia21 c12 c13 ?_
          refine s_aload_n 56 0 rfl dX6_split_55 rfl rfl ?_
          refine s_getf 59 4 4 rfl dX6_split_56 ck6 rfl (by decide) rfl (by decide) w148 rfl (v := (2, 22)) rfl ?_
          refine s_aload_n 60 0 rfl dX6_split_59 rfl rfl ?_
          refine s_getf 63 4 6 rfl dX6_split_60 ck6 rfl (by decide) rfl (by decide) w153 rfl (v := (0, h 4 6)) (by show (0, (xu h 21 (h 4 6) x3) 4 6) = _; rw [(xu_k (by decide))]) ?_
          refine s_iconst 64 rfl dX6_split_63 ⟨by decide, by decide⟩ ?_
          refine s_iast 65 rfl dX6_split_64 ia22 c12 c13 ?_
          refine s_aload_n 66 0 rfl dX6_split_65 rfl rfl ?_
          refine s_dup 67 rfl dX6_split_66 (by decide : ¬ (2 : Nat) = 1) ?_
          refine s_getf 70 4 6 rfl dX6_split_67 ck6 rfl (by decide) rfl (by decide) w153 rfl (v := (0, h 4 6)) (by show (0, (xu (xu h 21 (h 4 6) x3) 22 (h 4 6) 0) 4 6) = _; rw [((xu_k (by decide)).trans (xu_k (by decide)))]) ?_
          refine s_iconst 71 rfl dX6_split_70 ⟨by decide, by decide⟩ ?_
          have c14 := H.1
          replace H := H.2
          refine s_iadd 72 rfl dX6_split_71 c14 ?_
          refine s_putI 75 4 6 rfl dX6_split_72 ck6 rfl (by decide) rfl (by decide) w153 rfl rfl rfl ?_
          refine s_iconst 76 rfl dX6_split_75 ⟨by decide, by decide⟩ ?_
          refine s_istore_n 77 2 rfl dX6_split_76 rfl (by decide) (L2 := [(2, 4), (0, x1), (0, 1), (0, x3)]) rfl ?_
          refine s_aload_n 78 0 rfl dX6_split_77 rfl rfl ?_
          refine s_getf 81 4 2 rfl dX6_split_78 ck6 rfl (by decide) rfl (by decide) w143 rfl (v := (2, 20)) rfl ?_
          refine s_iload_n 82 3 rfl dX6_split_81 rfl rfl ?_
          refine s_aload_n 83 0 rfl dX6_split_82 rfl rfl ?_
          refine s_getf 86 4 6 rfl dX6_split_83 ck6 rfl (by decide) rfl (by decide) w153 rfl (v := (0, h 4 6 + 1)) (by show (0, (xu (xu (xu h 21 (h 4 6) x3) 22 (h 4 6) 0) 4 6 (h 4 6 + 1)) 4 6) = _; rw [(xu_s _ _ _ _)]) ?_
          refine s_iconst 87 rfl dX6_split_86 ⟨by decide, by decide⟩ ?_
          have c15 := H.1
          replace H := H.2
          refine s_isub 88 rfl dX6_split_87 c15 ?_
          refine s_iast 89 rfl dX6_split_88 ia20 c0 c1 ?_
          refine s_aload_n 90 0 rfl dX6_split_89 rfl rfl ?_
          refine s_getf 93 4 4 rfl dX6_split_90 ck6 rfl (by decide) rfl (by decide) w148 rfl (v := (2, 22)) rfl ?_
          refine s_aload_n 94 0 rfl dX6_split_93 rfl rfl ?_
          refine s_getf 97 4 6 rfl dX6_split_94 ck6 rfl (by decide) rfl (by decide) w153 rfl (v := (0, h 4 6 + 1)) (by show (0, (xu (xu (xu (xu h 21 (h 4 6) x3) 22 (h 4 6) 0) 4 6 (h 4 6 + 1)) 20 x3 (h 4 6 + 1 - 1)) 4 6) = _; rw [((xu_k (by decide)).trans (xu_s _ _ _ _))]) ?_
          refine s_iconst 98 rfl dX6_split_97 ⟨by decide, by decide⟩ ?_
          refine s_isub 99 rfl dX6_split_98 c15 ?_
          refine s_dup2 100 rfl dX6_split_99 (by decide : ¬ (0 : Nat) = 1) (by decide : ¬ (2 : Nat) = 1) ?_
          have c16 := H.1
          replace H := H.2
          have c17 := H.1
          replace H := H.2
          refine s_iald 101 rfl dX6_split_100 ia22 c16 c17 (v9 := (xu (xu h 21 (h 4 6) x3) 22 (h 4 6) 0) 22 (h 4 6 + 1 - 1)) ((xu_k (by decide)).trans (xu_k (by decide))) ?_
          refine s_iconst 102 rfl dX6_split_101 ⟨by decide, by decide⟩ ?_
          have c18 := H.1
          replace H := H.2
          refine s_iadd 103 rfl dX6_split_102 c18 ?_
          refine s_iast 104 rfl dX6_split_103 ia22 c16 c17 ?_
          have c19 := H.1
          replace H := H.2
          refine s_iinc 107 3 rfl dX6_split_104 (by decide) (z := x3) rfl (L2 := [(2, 4), (0, x1), (0, 1), (0, x3 + 1)]) rfl c19 ?_
          refine s_goto 9 dX6_split_107 (by decide) ?_
          exact H
    · replace H := H.2 c23
      refine s_iconst 25 rfl dX6_split_24 ⟨by decide, by decide⟩ ?_
      refine s_istore_n 26 2 rfl dX6_split_25 rfl (by decide) (L2 := [(2, 4), (0, x1), (0, 0), (0, x3)]) rfl ?_
      refine s_goto 104 dX6_split_26 (by decide) ?_
      have c22 := H.1
      replace H := H.2
      refine s_iinc 107 3 rfl dX6_split_104 (by decide) (z := x3) rfl (L2 := [(2, 4), (0, x1), (0, 0), (0, x3 + 1)]) rfl c22 ?_
      refine s_goto 9 dX6_split_107 (by decide) ?_
      exact H
theorem vX6_lookThrough_0 {X : Nat × (Int → Int)} {h : HP} {Q : Int → HP → Prop} (H : Wd mX6_lookThrough X 2 [(2, 4), (2, 2), (0, 0), (9, 0)] [] h Q) : Wd mX6_lookThrough X 0 [(2, 4), (2, 2), (9, 0), (9, 0)] [] h Q := by
  refine s_iconst 1 rfl dX6_lookThrough_0 ⟨by decide, by decide⟩ ?_
  refine s_istore_n 2 2 rfl dX6_lookThrough_1 rfl (by decide) (L2 := [(2, 4), (2, 2), (0, 0), (9, 0)]) rfl ?_
  exact H
theorem vX6_lookThrough_2 {X : Nat × (Int → Int)} {h : HP} {Q : Int → HP → Prop} {x2 : Int} (H : ((h 2 2 ≤ x2 → (0 ≤ h 2 2 ∧ h 2 2 < 5 ∧ inI (15 + h 2 2) ∧ Q 0 (xu h 4 1 (15 + h 2 2)))) ∧ (¬ (h 2 2 ≤ x2) → (Wd mX6_lookThrough X 12 [(2, 4), (2, 2), (0, x2), (0, 0)] [] h Q)))) : Wd mX6_lookThrough X 2 [(2, 4), (2, 2), (0, x2), (9, 0)] [] h Q := by
  refine s_iload_n 3 2 rfl dX6_lookThrough_2 rfl rfl ?_
  refine s_aload_n 4 1 rfl dX6_lookThrough_3 rfl rfl ?_
  refine s_getf 7 2 2 rfl dX6_lookThrough_4 ck1 rfl (by decide) rfl (by decide) w102 rfl (v := (0, h 2 2)) rfl ?_
  refine s_icmp_ge 10 62 rfl dX6_lookThrough_7 (by decide) (fun c3 => ?_) (fun c3 => ?_)
  · replace H := H.1 c3
    refine s_aload_n 63 0 rfl dX6_lookThrough_62 rfl rfl ?_
    refine s_aload_n 64 0 rfl dX6_lookThrough_63 rfl rfl ?_
    refine s_getf 67 4 0 rfl dX6_lookThrough_64 ck6 rfl (by decide) rfl (by decide) w139 rfl (v := (2, 14)) rfl ?_
    refine s_aload_n 68 1 rfl dX6_lookThrough_67 rfl rfl ?_
    refine s_getf 71 2 2 rfl dX6_lookThrough_68 ck1 rfl (by decide) rfl (by decide) w102 rfl (v := (0, h 2 2)) rfl ?_
    have c0 := H.1
    replace H := H.2
    have c1 := H.1
    replace H := H.2
    refine s_aald 72 rfl dX6_lookThrough_71 c0 c1 ?_
    have c2 := H.1
    replace H := H.2
    refine s_putR 75 4 1 rfl dX6_lookThrough_72 ck6 rfl (by decide) rfl (by decide) w140 rfl rfl rfl c2 ?_
    exact s_vret (S := []) dX6_lookThrough_75 rfl H
  · replace H := H.2 c3
    refine s_iconst 11 rfl dX6_lookThrough_10 ⟨by decide, by decide⟩ ?_
    refine s_istore_n 12 3 rfl dX6_lookThrough_11 rfl (by decide) (L2 := [(2, 4), (2, 2), (0, x2), (0, 0)]) rfl ?_
    exact H
theorem vX6_lookThrough_12 {X : Nat × (Int → Int)} {h : HP} {Q : Int → HP → Prop} {x2 x3 : Int} (H : ((h 4 6 ≤ x3 → (inI (x2 + 1) ∧ Wd mX6_lookThrough X 2 [(2, 4), (2, 2), (0, x2 + 1), (9, 0)] [] h Q)) ∧ (¬ (h 4 6 ≤ x3) → (0 ≤ x2 ∧ x2 < 5 ∧ inI (x2 + 1) ∧ 0 ≤ x2 + 1 ∧ x2 + 1 < 5 ∧ 0 ≤ x3 ∧ x3 < 300 ∧ Wd mX6_endOf X 0 [(2, 4), (0, x3)] [] h (fun r9 h10 => Wd mX1_show X 0 [(2, 2), (0, x2), (2, 15 + x2), (2, 15 + (x2 + 1)), (0, h 21 x3), (0, r9), (9, 0), (9, 0)] [] h10 (fun _ h12 => inI (x3 + 1) ∧ Wd mX6_lookThrough X 12 [(2, 4), (2, 2), (0, x2), (0, x3 + 1)] [] h12 Q)))))) : Wd mX6_lookThrough X 12 [(2, 4), (2, 2), (0, x2), (0, x3)] [] h Q := by
  refine s_iload_n 13 3 rfl dX6_lookThrough_12 rfl rfl ?_
  refine s_aload_n 14 0 rfl dX6_lookThrough_13 rfl rfl ?_
  refine s_getf 17 4 6 rfl dX6_lookThrough_14 ck6 rfl (by decide) rfl (by decide) w153 rfl (v := (0, h 4 6)) rfl ?_
  refine s_icmp_ge 20 56 rfl dX6_lookThrough_17 (by decide) (fun c13 => ?_) (fun c13 => ?_)
  · replace H := H.1 c13
    have c0 := H.1
    replace H := H.2
    refine s_iinc 59 2 rfl dX6_lookThrough_56 (by decide) (z := x2) rfl (L2 := [(2, 4), (2, 2), (0, x2 + 1), (0, x3)]) rfl c0 ?_
    refine s_goto 2 dX6_lookThrough_59 (by decide) ?_
    exact s_less [(2, 4), (2, 2), (0, x2 + 1), (9, 0)] ⟨Or.inr rfl, Or.inr rfl, Or.inr rfl, Or.inl rfl, trivial⟩ H
  · replace H := H.2 c13
    refine s_aload_n 21 1 rfl dX6_lookThrough_20 rfl rfl ?_
    refine s_iload_n 22 2 rfl dX6_lookThrough_21 rfl rfl ?_
    refine s_aload_n 23 0 rfl dX6_lookThrough_22 rfl rfl ?_
    refine s_getf 26 4 0 rfl dX6_lookThrough_23 ck6 rfl (by decide) rfl (by decide) w139 rfl (v := (2, 14)) rfl ?_
    refine s_iload_n 27 2 rfl dX6_lookThrough_26 rfl rfl ?_
    have c1 := H.1
    replace H := H.2
    have c2 := H.1
    replace H := H.2
    refine s_aald 28 rfl dX6_lookThrough_27 c1 c2 ?_
    refine s_aload_n 29 0 rfl dX6_lookThrough_28 rfl rfl ?_
    refine s_getf 32 4 0 rfl dX6_lookThrough_29 ck6 rfl (by decide) rfl (by decide) w139 rfl (v := (2, 14)) rfl ?_
    refine s_iload_n 33 2 rfl dX6_lookThrough_32 rfl rfl ?_
    refine s_iconst 34 rfl dX6_lookThrough_33 ⟨by decide, by decide⟩ ?_
    have c3 := H.1
    replace H := H.2
    refine s_iadd 35 rfl dX6_lookThrough_34 c3 ?_
    have c4 := H.1
    replace H := H.2
    have c5 := H.1
    replace H := H.2
    refine s_aald 36 rfl dX6_lookThrough_35 c4 c5 ?_
    refine s_aload_n 37 0 rfl dX6_lookThrough_36 rfl rfl ?_
    refine s_getf 40 4 3 rfl dX6_lookThrough_37 ck6 rfl (by decide) rfl (by decide) w145 rfl (v := (2, 21)) rfl ?_
    refine s_iload_n 41 3 rfl dX6_lookThrough_40 rfl rfl ?_
    have c6 := H.1
    replace H := H.2
    have c7 := H.1
    replace H := H.2
    refine s_iald 42 rfl dX6_lookThrough_41 ia21 c6 c7 (v9 := h 21 x3) rfl ?_
    refine s_aload_n 43 0 rfl dX6_lookThrough_42 rfl rfl ?_
    refine s_iload_n 44 3 rfl dX6_lookThrough_43 rfl rfl ?_
    refine s_callV (mj := mX6_endOf) (S := [(0, h 21 x3), (2, 15 + (x2 + 1)), (2, 15 + x2), (0, x2), (2, 2)]) 47 [(0, x3)] [(2, 4), (0, x3)] 4 rfl dX6_lookThrough_44 okX6_endOf w455 w456 w457 rfl (by decide) rfl rfl rfl rfl npX6_endOf (Nat.le_of_ble_eq_true rfl) (by decide) (Nat.le_of_ble_eq_true rfl) rfl (Wd.imp H (fun r9 h10 H => ?_))
    show Wd mX6_lookThrough X 47 [(2, 4), (2, 2), (0, x2), (0, x3)] [(0, r9), (0, h 21 x3), (2, 15 + (x2 + 1)), (2, 15 + x2), (0, x2), (2, 2)] h10 Q
    refine s_callV (mj := mX1_show) (S := []) 50 [(0, x2), (2, 15 + x2), (2, 15 + (x2 + 1)), (0, h 21 x3), (0, r9)] [(2, 2), (0, x2), (2, 15 + x2), (2, 15 + (x2 + 1)), (0, h 21 x3), (0, r9), (9, 0), (9, 0)] 2 rfl dX6_lookThrough_47 okX1_show w459 w460 w461 rfl (by decide) rfl rfl rfl rfl npX1_show (Nat.le_of_ble_eq_true rfl) (by decide) (Nat.le_of_ble_eq_true rfl) rfl (Wd.imp H (fun _ h12 H => ?_))
    show Wd mX6_lookThrough X 50 [(2, 4), (2, 2), (0, x2), (0, x3)] [] h12 Q
    have c12 := H.1
    replace H := H.2
    refine s_iinc 53 3 rfl dX6_lookThrough_50 (by decide) (z := x3) rfl (L2 := [(2, 4), (2, 2), (0, x2), (0, x3 + 1)]) rfl c12 ?_
    refine s_goto 12 dX6_lookThrough_53 (by decide) ?_
    exact H
theorem vX6_meanOf_0 {X : Nat × (Int → Int)} {h : HP} {Q : Int → HP → Prop} {x1 : Int} (H : Wd mX6_endOf X 0 [(2, 4), (0, x1)] [] h (fun r1 h2 => 0 ≤ x1 ∧ x1 < 300 ∧ Wd mX6_meanOf X 17 [(2, 4), (0, x1), (1, 0), (9, 0), (0, r1), (0, h2 21 x1)] [] h2 Q)) : Wd mX6_meanOf X 0 [(2, 4), (0, x1), (9, 0), (9, 0), (9, 0), (9, 0)] [] h Q := by
  refine s_lconst 1 0 rfl dX6_meanOf_0 (by decide) ⟨by decide, by decide⟩ ?_
  refine s_lstore_n 2 2 rfl dX6_meanOf_1 rfl (by decide) (L2 := [(2, 4), (0, x1), (1, 0), (9, 0), (9, 0), (9, 0)]) rfl ?_
  refine s_aload_n 3 0 rfl dX6_meanOf_2 rfl rfl ?_
  refine s_iload_n 4 1 rfl dX6_meanOf_3 rfl rfl ?_
  refine s_callV (mj := mX6_endOf) (S := []) 7 [(0, x1)] [(2, 4), (0, x1)] 4 rfl dX6_meanOf_4 okX6_endOf w455 w456 w457 rfl (by decide) rfl rfl rfl rfl npX6_endOf (Nat.le_of_ble_eq_true rfl) (by decide) (Nat.le_of_ble_eq_true rfl) rfl (Wd.imp H (fun r1 h2 H => ?_))
  show Wd mX6_meanOf X 7 [(2, 4), (0, x1), (1, 0), (9, 0), (9, 0), (9, 0)] [(0, r1)] h2 Q
  refine s_istore 9 4 rfl dX6_meanOf_7 (by decide) (L2 := [(2, 4), (0, x1), (1, 0), (9, 0), (0, r1), (9, 0)]) rfl ?_
  refine s_aload_n 10 0 rfl dX6_meanOf_9 rfl rfl ?_
  refine s_getf 13 4 3 rfl dX6_meanOf_10 ck6 rfl (by decide) rfl (by decide) w145 rfl (v := (2, 21)) rfl ?_
  refine s_iload_n 14 1 rfl dX6_meanOf_13 rfl rfl ?_
  have c2 := H.1
  replace H := H.2
  have c3 := H.1
  replace H := H.2
  refine s_iald 15 rfl dX6_meanOf_14 ia21 c2 c3 (v9 := h2 21 x1) rfl ?_
  refine s_istore 17 5 rfl dX6_meanOf_15 (by decide) (L2 := [(2, 4), (0, x1), (1, 0), (9, 0), (0, r1), (0, h2 21 x1)]) rfl ?_
  exact H
theorem vX6_meanOf_17 {X : Nat × (Int → Int)} {h : HP} {Q : Int → HP → Prop} {x1 x2 x4 x5 : Int} (H : ((x4 ≤ x5 → (0 ≤ x1 ∧ x1 < 300 ∧ Wd mX8_meanDown X 0 [(1, x2), (9, 0), (0, h 22 x1)] [] h (fun r3 h4 => Q r3 h4))) ∧ (¬ (x4 ≤ x5) → (IA (h 4 1) 600 ∧ 0 ≤ x5 ∧ x5 < 600 ∧ inJ (x2 + h (h 4 1) x5) ∧ inI (x5 + 1) ∧ Wd mX6_meanOf X 17 [(2, 4), (0, x1), (1, x2 + h (h 4 1) x5), (9, 0), (0, x4), (0, x5 + 1)] [] h Q)))) : Wd mX6_meanOf X 17 [(2, 4), (0, x1), (1, x2), (9, 0), (0, x4), (0, x5)] [] h Q := by
  refine s_iload 19 5 rfl dX6_meanOf_17 rfl ?_
  refine s_iload 21 4 rfl dX6_meanOf_19 rfl ?_
  refine s_icmp_ge 24 41 rfl dX6_meanOf_21 (by decide) (fun c9 => ?_) (fun c9 => ?_)
  · replace H := H.1 c9
    refine s_lload_n 42 2 rfl dX6_meanOf_41 rfl rfl ?_
    refine s_aload_n 43 0 rfl dX6_meanOf_42 rfl rfl ?_
    refine s_getf 46 4 4 rfl dX6_meanOf_43 ck6 rfl (by decide) rfl (by decide) w148 rfl (v := (2, 22)) rfl ?_
    refine s_iload_n 47 1 rfl dX6_meanOf_46 rfl rfl ?_
    have c0 := H.1
    replace H := H.2
    have c1 := H.1
    replace H := H.2
    refine s_iald 48 rfl dX6_meanOf_47 ia22 c0 c1 (v9 := h 22 x1) rfl ?_
    refine s_callN (mj := mX8_meanDown) (S := []) 51 [(1, x2), (0, h 22 x1)] [(1, x2), (9, 0), (0, h 22 x1)] rfl dX6_meanOf_48 okX8_meanDown ⟨Or.inr ⟨rfl, rfl⟩, rfl⟩ w442 rfl npX8_meanDown (Nat.le_of_ble_eq_true rfl) (by decide) (Nat.le_of_ble_eq_true rfl) rfl (Wd.imp H (fun r3 h4 H => ?_))
    show Wd mX6_meanOf X 51 [(2, 4), (0, x1), (1, x2), (9, 0), (0, x4), (0, x5)] [(0, r3)] h4 Q
    exact s_iret (S := []) dX6_meanOf_51 rfl H
  · replace H := H.2 c9
    refine s_lload_n 25 2 rfl dX6_meanOf_24 rfl rfl ?_
    refine s_aload_n 26 0 rfl dX6_meanOf_25 rfl rfl ?_
    refine s_getf 29 4 1 rfl dX6_meanOf_26 ck6 rfl (by decide) rfl (by decide) w140 rfl (v := (2, h 4 1)) rfl ?_
    refine s_iload 31 5 rfl dX6_meanOf_29 rfl ?_
    have c4 := H.1
    replace H := H.2
    have c5 := H.1
    replace H := H.2
    have c6 := H.1
    replace H := H.2
    refine s_iald 32 rfl dX6_meanOf_31 c4 c5 c6 (v9 := h (h 4 1) x5) rfl ?_
    refine s_i2l 33 rfl dX6_meanOf_32 ?_
    have c7 := H.1
    replace H := H.2
    refine s_ladd 34 rfl dX6_meanOf_33 c7 ?_
    refine s_lstore_n 35 2 rfl dX6_meanOf_34 rfl (by decide) (L2 := [(2, 4), (0, x1), (1, x2 + h (h 4 1) x5), (9, 0), (0, x4), (0, x5)]) rfl ?_
    have c8 := H.1
    replace H := H.2
    refine s_iinc 38 5 rfl dX6_meanOf_35 (by decide) (z := x5) rfl (L2 := [(2, 4), (0, x1), (1, x2 + h (h 4 1) x5), (9, 0), (0, x4), (0, x5 + 1)]) rfl c8 ?_
    refine s_goto 17 dX6_meanOf_38 (by decide) ?_
    exact H
theorem vX6_middleOf_0 {X : Nat × (Int → Int)} {h : HP} {Q : Int → HP → Prop} {x1 : Int} (H : Wd mX5_clear X 0 [(2, 8)] [] h (fun _ h2 => Wd mX6_endOf X 0 [(2, 4), (0, x1)] [] h2 (fun r3 h4 => 0 ≤ x1 ∧ x1 < 300 ∧ Wd mX6_middleOf X 18 [(2, 4), (0, x1), (2, 8), (0, r3), (0, h4 21 x1)] [] h4 Q))) : Wd mX6_middleOf X 0 [(2, 4), (0, x1), (2, 8), (9, 0), (9, 0)] [] h Q := by
  refine s_aload_n 1 2 rfl dX6_middleOf_0 rfl rfl ?_
  refine s_callV (mj := mX5_clear) (S := []) 4 [] [(2, 8)] 8 rfl dX6_middleOf_1 okX5_clear w488 w489 w490 rfl (by decide) rfl rfl rfl rfl npX5_clear (Nat.le_of_ble_eq_true rfl) (by decide) (Nat.le_of_ble_eq_true rfl) rfl (Wd.imp H (fun _ h2 H => ?_))
  show Wd mX6_middleOf X 4 [(2, 4), (0, x1), (2, 8), (9, 0), (9, 0)] [] h2 Q
  refine s_aload_n 5 0 rfl dX6_middleOf_4 rfl rfl ?_
  refine s_iload_n 6 1 rfl dX6_middleOf_5 rfl rfl ?_
  refine s_callV (mj := mX6_endOf) (S := []) 9 [(0, x1)] [(2, 4), (0, x1)] 4 rfl dX6_middleOf_6 okX6_endOf w455 w456 w457 rfl (by decide) rfl rfl rfl rfl npX6_endOf (Nat.le_of_ble_eq_true rfl) (by decide) (Nat.le_of_ble_eq_true rfl) rfl (Wd.imp H (fun r3 h4 H => ?_))
  show Wd mX6_middleOf X 9 [(2, 4), (0, x1), (2, 8), (9, 0), (9, 0)] [(0, r3)] h4 Q
  refine s_istore_n 10 3 rfl dX6_middleOf_9 rfl (by decide) (L2 := [(2, 4), (0, x1), (2, 8), (0, r3), (9, 0)]) rfl ?_
  refine s_aload_n 11 0 rfl dX6_middleOf_10 rfl rfl ?_
  refine s_getf 14 4 3 rfl dX6_middleOf_11 ck6 rfl (by decide) rfl (by decide) w145 rfl (v := (2, 21)) rfl ?_
  refine s_iload_n 15 1 rfl dX6_middleOf_14 rfl rfl ?_
  have c4 := H.1
  replace H := H.2
  have c5 := H.1
  replace H := H.2
  refine s_iald 16 rfl dX6_middleOf_15 ia21 c4 c5 (v9 := h4 21 x1) rfl ?_
  refine s_istore 18 4 rfl dX6_middleOf_16 (by decide) (L2 := [(2, 4), (0, x1), (2, 8), (0, r3), (0, h4 21 x1)]) rfl ?_
  exact H
theorem vX6_middleOf_18 {X : Nat × (Int → Int)} {h : HP} {Q : Int → HP → Prop} {x1 x3 x4 : Int} (H : ((x3 ≤ x4 → (Wd mX5_sort X 0 [(2, 8), (9, 0), (9, 0)] [] h (fun _ h2 => 0 ≤ x1 ∧ x1 < 300 ∧ inI (h2 22 x1 - 1) ∧ inI (Int.tdiv (h2 22 x1 - 1) 2) ∧ Wd mX5_keyAt X 0 [(2, 8), (0, Int.tdiv (h2 22 x1 - 1) 2)] [] h2 (fun r7 h8 => inI r7 ∧ Q r7 h8)))) ∧ (¬ (x3 ≤ x4) → (IA (h 4 1) 600 ∧ 0 ≤ x4 ∧ x4 < 600 ∧ Wd mX5_add X 0 [(2, 8), (1, h (h 4 1) x4), (9, 0)] [] h (fun _ h14 => inI (x4 + 1) ∧ Wd mX6_middleOf X 18 [(2, 4), (0, x1), (2, 8), (0, x3), (0, x4 + 1)] [] h14 Q))))) : Wd mX6_middleOf X 18 [(2, 4), (0, x1), (2, 8), (0, x3), (0, x4)] [] h Q := by
  refine s_iload 20 4 rfl dX6_middleOf_18 rfl ?_
  refine s_iload_n 21 3 rfl dX6_middleOf_20 rfl rfl ?_
  refine s_icmp_ge 24 42 rfl dX6_middleOf_21 (by decide) (fun c15 => ?_) (fun c15 => ?_)
  · replace H := H.1 c15
    refine s_aload_n 43 2 rfl dX6_middleOf_42 rfl rfl ?_
    refine s_callV (mj := mX5_sort) (S := []) 46 [] [(2, 8), (9, 0), (9, 0)] 8 rfl dX6_middleOf_43 okX5_sort w496 w497 w498 rfl (by decide) rfl rfl rfl rfl npX5_sort (Nat.le_of_ble_eq_true rfl) (by decide) (Nat.le_of_ble_eq_true rfl) rfl (Wd.imp H (fun _ h2 H => ?_))
    show Wd mX6_middleOf X 46 [(2, 4), (0, x1), (2, 8), (0, x3), (0, x4)] [] h2 Q
    refine s_aload_n 47 2 rfl dX6_middleOf_46 rfl rfl ?_
    refine s_aload_n 48 0 rfl dX6_middleOf_47 rfl rfl ?_
    refine s_getf 51 4 4 rfl dX6_middleOf_48 ck6 rfl (by decide) rfl (by decide) w148 rfl (v := (2, 22)) rfl ?_
    refine s_iload_n 52 1 rfl dX6_middleOf_51 rfl rfl ?_
    have c2 := H.1
    replace H := H.2
    have c3 := H.1
    replace H := H.2
    refine s_iald 53 rfl dX6_middleOf_52 ia22 c2 c3 (v9 := h2 22 x1) rfl ?_
    refine s_iconst 54 rfl dX6_middleOf_53 ⟨by decide, by decide⟩ ?_
    have c4 := H.1
    replace H := H.2
    refine s_isub 55 rfl dX6_middleOf_54 c4 ?_
    refine s_iconst 56 rfl dX6_middleOf_55 ⟨by decide, by decide⟩ ?_
    have c5 := H.1
    replace H := H.2
    refine s_idiv 57 rfl dX6_middleOf_56 (by decide) c5 ?_
    refine s_callV (mj := mX5_keyAt) (S := []) 60 [(0, Int.tdiv (h2 22 x1 - 1) 2)] [(2, 8), (0, Int.tdiv (h2 22 x1 - 1) 2)] 8 rfl dX6_middleOf_57 okX5_keyAt w505 w506 w507 rfl (by decide) rfl rfl rfl rfl npX5_keyAt (Nat.le_of_ble_eq_true rfl) (by decide) (Nat.le_of_ble_eq_true rfl) rfl (Wd.imp H (fun r7 h8 H => ?_))
    show Wd mX6_middleOf X 60 [(2, 4), (0, x1), (2, 8), (0, x3), (0, x4)] [(1, r7)] h8 Q
    have c8 := H.1
    replace H := H.2
    refine s_l2i 61 rfl dX6_middleOf_60 c8 ?_
    exact s_iret (S := []) dX6_middleOf_61 rfl H
  · replace H := H.2 c15
    refine s_aload_n 25 2 rfl dX6_middleOf_24 rfl rfl ?_
    refine s_aload_n 26 0 rfl dX6_middleOf_25 rfl rfl ?_
    refine s_getf 29 4 1 rfl dX6_middleOf_26 ck6 rfl (by decide) rfl (by decide) w140 rfl (v := (2, h 4 1)) rfl ?_
    refine s_iload 31 4 rfl dX6_middleOf_29 rfl ?_
    have c9 := H.1
    replace H := H.2
    have c10 := H.1
    replace H := H.2
    have c11 := H.1
    replace H := H.2
    refine s_iald 32 rfl dX6_middleOf_31 c9 c10 c11 (v9 := h (h 4 1) x4) rfl ?_
    refine s_i2l 33 rfl dX6_middleOf_32 ?_
    refine s_callV (mj := mX5_add) (S := []) 36 [(1, h (h 4 1) x4)] [(2, 8), (1, h (h 4 1) x4), (9, 0)] 8 rfl dX6_middleOf_33 okX5_add w492 w493 w494 rfl (by decide) rfl rfl rfl rfl npX5_add (Nat.le_of_ble_eq_true rfl) (by decide) (Nat.le_of_ble_eq_true rfl) rfl (Wd.imp H (fun _ h14 H => ?_))
    show Wd mX6_middleOf X 36 [(2, 4), (0, x1), (2, 8), (0, x3), (0, x4)] [] h14 Q
    have c14 := H.1
    replace H := H.2
    refine s_iinc 39 4 rfl dX6_middleOf_36 (by decide) (z := x4) rfl (L2 := [(2, 4), (0, x1), (2, 8), (0, x3), (0, x4 + 1)]) rfl c14 ?_
    refine s_goto 18 dX6_middleOf_39 (by decide) ?_
    exact H
theorem vX6_findLevels_0 {X : Nat × (Int → Int)} {h : HP} {Q : Int → HP → Prop} (H : Wd mX6_findLevels X 2 [(2, 4), (2, 1), (2, 8), (0, 0)] [] h Q) : Wd mX6_findLevels X 0 [(2, 4), (2, 1), (2, 8), (9, 0)] [] h Q := by
  refine s_iconst 1 rfl dX6_findLevels_0 ⟨by decide, by decide⟩ ?_
  refine s_istore_n 2 3 rfl dX6_findLevels_1 rfl (by decide) (L2 := [(2, 4), (2, 1), (2, 8), (0, 0)]) rfl ?_
  exact H
theorem vX6_findLevels_2 {X : Nat × (Int → Int)} {h : HP} {Q : Int → HP → Prop} {x3 : Int} (H : ((h 4 6 ≤ x3 → (Q 0 h)) ∧ (¬ (h 4 6 ≤ x3) → ((¬ h 1 1 = 1 ∧ ¬ h 1 1 = 2 → (0 ≤ x3 ∧ x3 < 300 ∧ inI (x3 + 1) ∧ Wd mX6_findLevels X 2 [(2, 4), (2, 1), (2, 8), (0, x3 + 1)] [] (xu h 23 x3 (h 1 2)) Q)) ∧ (h 1 1 = 1 → (Wd mX6_meanOf X 0 [(2, 4), (0, x3), (9, 0), (9, 0), (9, 0), (9, 0)] [] h (fun r5 h6 => 0 ≤ x3 ∧ x3 < 300 ∧ inI (x3 + 1) ∧ Wd mX6_findLevels X 2 [(2, 4), (2, 1), (2, 8), (0, x3 + 1)] [] (xu h6 23 x3 r5) Q))) ∧ (h 1 1 = 2 → (Wd mX6_middleOf X 0 [(2, 4), (0, x3), (2, 8), (9, 0), (9, 0)] [] h (fun r10 h11 => 0 ≤ x3 ∧ x3 < 300 ∧ inI (x3 + 1) ∧ Wd mX6_findLevels X 2 [(2, 4), (2, 1), (2, 8), (0, x3 + 1)] [] (xu h11 23 x3 r10) Q))))))) : Wd mX6_findLevels X 2 [(2, 4), (2, 1), (2, 8), (0, x3)] [] h Q := by
  refine s_iload_n 3 3 rfl dX6_findLevels_2 rfl rfl ?_
  refine s_aload_n 4 0 rfl dX6_findLevels_3 rfl rfl ?_
  refine s_getf 7 4 6 rfl dX6_findLevels_4 ck6 rfl (by decide) rfl (by decide) w153 rfl (v := (0, h 4 6)) rfl ?_
  refine s_icmp_ge 10 85 rfl dX6_findLevels_7 (by decide) (fun c14 => ?_) (fun c14 => ?_)
  · replace H := H.1 c14
    exact s_vret (S := []) dX6_findLevels_85 rfl H
  · replace H := H.2 c14
    refine s_aload_n 11 1 rfl dX6_findLevels_10 rfl rfl ?_
    refine s_getf 14 1 1 rfl dX6_findLevels_11 ck4 rfl (by decide) rfl (by decide) w71 rfl (v := (0, h 1 1)) rfl ?_
    rcases (by omega : (¬ h 1 1 = 1 ∧ ¬ h 1 1 = 2) ∨ h 1 1 = 1 ∨ h 1 1 = 2) with c0 | c0 | c0
    · refine s_lsw (off := 55) 69 dX6_findLevels_14 (by decide) (by rw [Op.lookupswitch.offset_cons, if_neg (fun e9 => c0.1 e9.symm), Op.lookupswitch.offset_cons, if_neg (fun e9 => c0.2 e9.symm)] <;> rfl) (by decide) ?_
      replace H := H.1 c0
      refine s_aload_n 70 0 rfl dX6_findLevels_69 rfl rfl ?_
      refine s_getf 73 4 5 rfl dX6_findLevels_70 ck6 rfl (by decide) rfl (by decide) w150 rfl (v := (2, 23)) rfl ?_
      refine s_iload_n 74 3 rfl dX6_findLevels_73 rfl rfl ?_
      refine s_aload_n 75 1 rfl dX6_findLevels_74 rfl rfl ?_
      refine s_getf 78 1 2 rfl dX6_findLevels_75 ck4 rfl (by decide) rfl (by decide) w74 rfl (v := (0, h 1 2)) rfl ?_
      have c1 := H.1
      replace H := H.2
      have c2 := H.1
      replace H := H.2
      refine s_iast 79 rfl dX6_findLevels_78 ia23 c1 c2 ?_
      have c3 := H.1
      replace H := H.2
      refine s_iinc 82 3 rfl dX6_findLevels_79 (by decide) (z := x3) rfl (L2 := [(2, 4), (2, 1), (2, 8), (0, x3 + 1)]) rfl c3 ?_
      refine s_goto 2 dX6_findLevels_82 (by decide) ?_
      exact H
    · refine s_lsw (off := 26) 40 dX6_findLevels_14 (by decide) (by rw [c0] <;> rfl) (by decide) ?_
      replace H := H.2.1 c0
      refine s_aload_n 41 0 rfl dX6_findLevels_40 rfl rfl ?_
      refine s_getf 44 4 5 rfl dX6_findLevels_41 ck6 rfl (by decide) rfl (by decide) w150 rfl (v := (2, 23)) rfl ?_
      refine s_iload_n 45 3 rfl dX6_findLevels_44 rfl rfl ?_
      refine s_aload_n 46 0 rfl dX6_findLevels_45 rfl rfl ?_
      refine s_iload_n 47 3 rfl dX6_findLevels_46 rfl rfl ?_
      refine s_callV (mj := mX6_meanOf) (S := [(0, x3), (2, 23)]) 50 [(0, x3)] [(2, 4), (0, x3), (9, 0), (9, 0), (9, 0), (9, 0)] 4 rfl dX6_findLevels_47 okX6_meanOf w480 w482 w4 rfl (by decide) rfl rfl rfl rfl npX6_meanOf (Nat.le_of_ble_eq_true rfl) (by decide) (Nat.le_of_ble_eq_true rfl) rfl (Wd.imp H (fun r5 h6 H => ?_))
      show Wd mX6_findLevels X 50 [(2, 4), (2, 1), (2, 8), (0, x3)] [(0, r5), (0, x3), (2, 23)] h6 Q
      have c6 := H.1
      replace H := H.2
      have c7 := H.1
      replace H := H.2
      refine s_iast 51 rfl dX6_findLevels_50 ia23 c6 c7 ?_
      refine s_goto 79 dX6_findLevels_51 (by decide) ?_
      have c8 := H.1
      replace H := H.2
      refine s_iinc 82 3 rfl dX6_findLevels_79 (by decide) (z := x3) rfl (L2 := [(2, 4), (2, 1), (2, 8), (0, x3 + 1)]) rfl c8 ?_
      refine s_goto 2 dX6_findLevels_82 (by decide) ?_
      exact H
    · refine s_lsw (off := 40) 54 dX6_findLevels_14 (by decide) (by rw [c0] <;> rfl) (by decide) ?_
      replace H := H.2.2 c0
      refine s_aload_n 55 0 rfl dX6_findLevels_54 rfl rfl ?_
      refine s_getf 58 4 5 rfl dX6_findLevels_55 ck6 rfl (by decide) rfl (by decide) w150 rfl (v := (2, 23)) rfl ?_
      refine s_iload_n 59 3 rfl dX6_findLevels_58 rfl rfl ?_
      refine s_aload_n 60 0 rfl dX6_findLevels_59 rfl rfl ?_
      refine s_iload_n 61 3 rfl dX6_findLevels_60 rfl rfl ?_
      refine s_aload_n 62 2 rfl dX6_findLevels_61 rfl rfl ?_
      refine s_callV (mj := mX6_middleOf) (S := [(0, x3), (2, 23)]) 65 [(0, x3), (2, 8)] [(2, 4), (0, x3), (2, 8), (9, 0), (9, 0)] 4 rfl dX6_findLevels_62 okX6_middleOf w484 w486 w5 rfl (by decide) rfl rfl rfl rfl npX6_middleOf (Nat.le_of_ble_eq_true rfl) (by decide) (Nat.le_of_ble_eq_true rfl) rfl (Wd.imp H (fun r10 h11 H => ?_))
      show Wd mX6_findLevels X 65 [(2, 4), (2, 1), (2, 8), (0, x3)] [(0, r10), (0, x3), (2, 23)] h11 Q
      have c11 := H.1
      replace H := H.2
      have c12 := H.1
      replace H := H.2
      refine s_iast 66 rfl dX6_findLevels_65 ia23 c11 c12 ?_
      refine s_goto 79 dX6_findLevels_66 (by decide) ?_
      have c13 := H.1
      replace H := H.2
      refine s_iinc 82 3 rfl dX6_findLevels_79 (by decide) (z := x3) rfl (L2 := [(2, 4), (2, 1), (2, 8), (0, x3 + 1)]) rfl c13 ?_
      refine s_goto 2 dX6_findLevels_82 (by decide) ?_
      exact H
theorem vX6_topIn_0 {X : Nat × (Int → Int)} {h : HP} {Q : Int → HP → Prop} {x1 x2 : Int} (H : Wd mX6_topIn X 5 [(2, 4), (9, 0), (0, x2), (0, x1), (0, x1)] [] h Q) : Wd mX6_topIn X 0 [(2, 4), (0, x1), (0, x2), (9, 0), (9, 0)] [] h Q := by
  refine s_iload_n 1 1 rfl dX6_topIn_0 rfl rfl ?_
  refine s_istore_n 2 3 rfl dX6_topIn_1 rfl (by decide) (L2 := [(2, 4), (0, x1), (0, x2), (0, x1), (9, 0)]) rfl ?_
  refine s_iload_n 3 1 rfl dX6_topIn_2 rfl rfl ?_
  refine s_istore 5 4 rfl dX6_topIn_3 (by decide) (L2 := [(2, 4), (0, x1), (0, x2), (0, x1), (0, x1)]) rfl ?_
  exact s_less [(2, 4), (9, 0), (0, x2), (0, x1), (0, x1)] ⟨Or.inr rfl, Or.inl rfl, Or.inr rfl, Or.inr rfl, Or.inr rfl, trivial⟩ H
theorem vX6_topIn_5 {X : Nat × (Int → Int)} {h : HP} {Q : Int → HP → Prop} {x2 x3 x4 : Int} (H : ((x2 ≤ x4 → (Q x3 h)) ∧ (¬ (x2 ≤ x4) → (IA (h 4 1) 600 ∧ 0 ≤ x4 ∧ x4 < 600 ∧ 0 ≤ x3 ∧ x3 < 600 ∧ ((h (h 4 1) x4 ≤ h (h 4 1) x3 → (inI (x4 + 1) ∧ Wd mX6_topIn X 5 [(2, 4), (9, 0), (0, x2), (0, x3), (0, x4 + 1)] [] h Q)) ∧ (¬ (h (h 4 1) x4 ≤ h (h 4 1) x3) → (inI (x4 + 1) ∧ Wd mX6_topIn X 5 [(2, 4), (9, 0), (0, x2), (0, x4), (0, x4 + 1)] [] h Q))))))) : Wd mX6_topIn X 5 [(2, 4), (9, 0), (0, x2), (0, x3), (0, x4)] [] h Q := by
  refine s_iload 7 4 rfl dX6_topIn_5 rfl ?_
  refine s_iload_n 8 2 rfl dX6_topIn_7 rfl rfl ?_
  refine s_icmp_ge 11 36 rfl dX6_topIn_8 (by decide) (fun c8 => ?_) (fun c8 => ?_)
  · replace H := H.1 c8
    refine s_iload_n 37 3 rfl dX6_topIn_36 rfl rfl ?_
    exact s_iret (S := []) dX6_topIn_37 rfl H
  · replace H := H.2 c8
    refine s_aload_n 12 0 rfl dX6_topIn_11 rfl rfl ?_
    refine s_getf 15 4 1 rfl dX6_topIn_12 ck6 rfl (by decide) rfl (by decide) w140 rfl (v := (2, h 4 1)) rfl ?_
    refine s_iload 17 4 rfl dX6_topIn_15 rfl ?_
    have c0 := H.1
    replace H := H.2
    have c1 := H.1
    replace H := H.2
    have c2 := H.1
    replace H := H.2
    refine s_iald 18 rfl dX6_topIn_17 c0 c1 c2 (v9 := h (h 4 1) x4) rfl ?_
    refine s_aload_n 19 0 rfl dX6_topIn_18 rfl rfl ?_
    refine s_getf 22 4 1 rfl dX6_topIn_19 ck6 rfl (by decide) rfl (by decide) w140 rfl (v := (2, h 4 1)) rfl ?_
    refine s_iload_n 23 3 rfl dX6_topIn_22 rfl rfl ?_
    have c3 := H.1
    replace H := H.2
    have c4 := H.1
    replace H := H.2
    refine s_iald 24 rfl dX6_topIn_23 c0 c3 c4 (v9 := h (h 4 1) x3) rfl ?_
    refine s_icmp_le 27 30 rfl dX6_topIn_24 (by decide) (fun c7 => ?_) (fun c7 => ?_)
    · replace H := H.1 c7
      have c5 := H.1
      replace H := H.2
      refine s_iinc 33 4 rfl dX6_topIn_30 (by decide) (z := x4) rfl (L2 := [(2, 4), (9, 0), (0, x2), (0, x3), (0, x4 + 1)]) rfl c5 ?_
      refine s_goto 5 dX6_topIn_33 (by decide) ?_
      exact H
    · replace H := H.2 c7
      refine s_iload 29 4 rfl dX6_topIn_27 rfl ?_
      refine s_istore_n 30 3 rfl dX6_topIn_29 rfl (by decide) (L2 := [(2, 4), (9, 0), (0, x2), (0, x4), (0, x4)]) rfl ?_
      have c6 := H.1
      replace H := H.2
      refine s_iinc 33 4 rfl dX6_topIn_30 (by decide) (z := x4) rfl (L2 := [(2, 4), (9, 0), (0, x2), (0, x4), (0, x4 + 1)]) rfl c6 ?_
      refine s_goto 5 dX6_topIn_33 (by decide) ?_
      exact H
theorem vX6_leastIn_0 {X : Nat × (Int → Int)} {h : HP} {Q : Int → HP → Prop} {x1 x2 : Int} (H : IA (h 4 1) 600 ∧ 0 ≤ x1 ∧ x1 < 600 ∧ Wd mX6_leastIn X 10 [(2, 4), (9, 0), (0, x2), (0, h (h 4 1) x1), (0, x1)] [] h Q) : Wd mX6_leastIn X 0 [(2, 4), (0, x1), (0, x2), (9, 0), (9, 0)] [] h Q := by
  refine s_aload_n 1 0 rfl dX6_leastIn_0 rfl rfl ?_
  refine s_getf 4 4 1 rfl dX6_leastIn_1 ck6 rfl (by decide) rfl (by decide) w140 rfl (v := (2, h 4 1)) rfl ?_
  refine s_iload_n 5 1 rfl dX6_leastIn_4 rfl rfl ?_
  have c0 := H.1
  replace H := H.2
  have c1 := H.1
  replace H := H.2
  have c2 := H.1
  replace H := H.2
  refine s_iald 6 rfl dX6_leastIn_5 c0 c1 c2 (v9 := h (h 4 1) x1) rfl ?_
  refine s_istore_n 7 3 rfl dX6_leastIn_6 rfl (by decide) (L2 := [(2, 4), (0, x1), (0, x2), (0, h (h 4 1) x1), (9, 0)]) rfl ?_
  refine s_iload_n 8 1 rfl dX6_leastIn_7 rfl rfl ?_
  refine s_istore 10 4 rfl dX6_leastIn_8 (by decide) (L2 := [(2, 4), (0, x1), (0, x2), (0, h (h 4 1) x1), (0, x1)]) rfl ?_
  exact s_less [(2, 4), (9, 0), (0, x2), (0, h (h 4 1) x1), (0, x1)] ⟨Or.inr rfl, Or.inl rfl, Or.inr rfl, Or.inr rfl, Or.inr rfl, trivial⟩ H
theorem vX6_leastIn_10 {X : Nat × (Int → Int)} {h : HP} {Q : Int → HP → Prop} {x2 x3 x4 : Int} (H : ((x2 ≤ x4 → (Q x3 h)) ∧ (¬ (x2 ≤ x4) → (IA (h 4 1) 600 ∧ 0 ≤ x4 ∧ x4 < 600 ∧ Wd mJ9_min_7cf53 X 0 [(0, x3), (0, h (h 4 1) x4)] [] h (fun r4 h5 => inI (x4 + 1) ∧ Wd mX6_leastIn X 10 [(2, 4), (9, 0), (0, x2), (0, r4), (0, x4 + 1)] [] h5 Q))))) : Wd mX6_leastIn X 10 [(2, 4), (9, 0), (0, x2), (0, x3), (0, x4)] [] h Q := by
  refine s_iload 12 4 rfl dX6_leastIn_10 rfl ?_
  refine s_iload_n 13 2 rfl dX6_leastIn_12 rfl rfl ?_
  refine s_icmp_ge 16 34 rfl dX6_leastIn_13 (by decide) (fun c6 => ?_) (fun c6 => ?_)
  · replace H := H.1 c6
    refine s_iload_n 35 3 rfl dX6_leastIn_34 rfl rfl ?_
    exact s_iret (S := []) dX6_leastIn_35 rfl H
  · replace H := H.2 c6
    refine s_iload_n 17 3 rfl dX6_leastIn_16 rfl rfl ?_
    refine s_aload_n 18 0 rfl dX6_leastIn_17 rfl rfl ?_
    refine s_getf 21 4 1 rfl dX6_leastIn_18 ck6 rfl (by decide) rfl (by decide) w140 rfl (v := (2, h 4 1)) rfl ?_
    refine s_iload 23 4 rfl dX6_leastIn_21 rfl ?_
    have c0 := H.1
    replace H := H.2
    have c1 := H.1
    replace H := H.2
    have c2 := H.1
    replace H := H.2
    refine s_iald 24 rfl dX6_leastIn_23 c0 c1 c2 (v9 := h (h 4 1) x4) rfl ?_
    refine s_callS (mj := mJ9_min_7cf53) (S := []) 27 [(0, x3), (0, h (h 4 1) x4)] [(0, x3), (0, h (h 4 1) x4)] rfl dX6_leastIn_24 okJ9_min_7cf53 w538 w468 rfl npJ9_min_7cf53 (Nat.le_of_ble_eq_true rfl) (by decide) (Nat.le_of_ble_eq_true rfl) rfl (Wd.imp H (fun r4 h5 H => ?_))
    show Wd mX6_leastIn X 27 [(2, 4), (9, 0), (0, x2), (0, x3), (0, x4)] [(0, r4)] h5 Q
    refine s_istore_n 28 3 rfl dX6_leastIn_27 rfl (by decide) (L2 := [(2, 4), (9, 0), (0, x2), (0, r4), (0, x4)]) rfl ?_
    have c5 := H.1
    replace H := H.2
    refine s_iinc 31 4 rfl dX6_leastIn_28 (by decide) (z := x4) rfl (L2 := [(2, 4), (9, 0), (0, x2), (0, r4), (0, x4 + 1)]) rfl c5 ?_
    refine s_goto 10 dX6_leastIn_31 (by decide) ?_
    exact H
theorem vX6_nextCrossing_0 {X : Nat × (Int → Int)} {h : HP} {Q : Int → HP → Prop} {x1 x2 x3 : Int} (H : Wd mX6_endOf X 0 [(2, 4), (0, x1)] [] h (fun r1 h2 => Wd mX6_nextCrossing X 13 [(2, 4), (0, x1), (9, 0), (0, x3), (0, 0), (0, r1), (0, x2), (9, 0)] [] h2 Q)) : Wd mX6_nextCrossing X 0 [(2, 4), (0, x1), (0, x2), (0, x3), (9, 0), (9, 0), (9, 0), (9, 0)] [] h Q := by
  refine s_iconst 1 rfl dX6_nextCrossing_0 ⟨by decide, by decide⟩ ?_
  refine s_istore 3 4 rfl dX6_nextCrossing_1 (by decide) (L2 := [(2, 4), (0, x1), (0, x2), (0, x3), (0, 0), (9, 0), (9, 0), (9, 0)]) rfl ?_
  refine s_aload_n 4 0 rfl dX6_nextCrossing_3 rfl rfl ?_
  refine s_iload_n 5 1 rfl dX6_nextCrossing_4 rfl rfl ?_
  refine s_callV (mj := mX6_endOf) (S := []) 8 [(0, x1)] [(2, 4), (0, x1)] 4 rfl dX6_nextCrossing_5 okX6_endOf w455 w456 w457 rfl (by decide) rfl rfl rfl rfl npX6_endOf (Nat.le_of_ble_eq_true rfl) (by decide) (Nat.le_of_ble_eq_true rfl) rfl (Wd.imp H (fun r1 h2 H => ?_))
  show Wd mX6_nextCrossing X 8 [(2, 4), (0, x1), (0, x2), (0, x3), (0, 0), (9, 0), (9, 0), (9, 0)] [(0, r1)] h2 Q
  refine s_istore 10 5 rfl dX6_nextCrossing_8 (by decide) (L2 := [(2, 4), (0, x1), (0, x2), (0, x3), (0, 0), (0, r1), (9, 0), (9, 0)]) rfl ?_
  refine s_iload_n 11 2 rfl dX6_nextCrossing_10 rfl rfl ?_
  refine s_istore 13 6 rfl dX6_nextCrossing_11 (by decide) (L2 := [(2, 4), (0, x1), (0, x2), (0, x3), (0, 0), (0, r1), (0, x2), (9, 0)]) rfl ?_
  exact s_less [(2, 4), (0, x1), (9, 0), (0, x3), (0, 0), (0, r1), (0, x2), (9, 0)] ⟨Or.inr rfl, Or.inr rfl, Or.inl rfl, Or.inr rfl, Or.inr rfl, Or.inr rfl, Or.inr rfl, Or.inl rfl, trivial⟩ H
theorem vX6_nextCrossing_13 {X : Nat × (Int → Int)} {h : HP} {Q : Int → HP → Prop} {x1 x3 x4 x5 x6 : Int} (H : ((x5 ≤ x6 → (Q (-1) h)) ∧ (¬ (x5 ≤ x6) → (IA (h 4 1) 600 ∧ 0 ≤ x6 ∧ x6 < 600 ∧ 0 ≤ x1 ∧ x1 < 300 ∧ inI (h (h 4 1) x6 - h 23 x1) ∧ inI (-x3) ∧ (((-x3) ≤ (h (h 4 1) x6 - h 23 x1) → ((x4 = 0 → (inI (x6 + 1) ∧ Wd mX6_nextCrossing X 13 [(2, 4), (0, x1), (9, 0), (0, x3), (0, x4), (0, x5), (0, x6 + 1), (9, 0)] [] h Q)) ∧ (¬ x4 = 0 → (((h (h 4 1) x6 - h 23 x1) ≤ x3 → (inI (x6 + 1) ∧ Wd mX6_nextCrossing X 13 [(2, 4), (0, x1), (9, 0), (0, x3), (0, x4), (0, x5), (0, x6 + 1), (9, 0)] [] h Q)) ∧ (¬ ((h (h 4 1) x6 - h 23 x1) ≤ x3) → (Q x6 h)))))) ∧ (¬ ((-x3) ≤ (h (h 4 1) x6 - h 23 x1)) → (inI (x6 + 1) ∧ Wd mX6_nextCrossing X 13 [(2, 4), (0, x1), (9, 0), (0, x3), (0, 1), (0, x5), (0, x6 + 1), (9, 0)] [] h Q))))))) : Wd mX6_nextCrossing X 13 [(2, 4), (0, x1), (9, 0), (0, x3), (0, x4), (0, x5), (0, x6), (9, 0)] [] h Q := by
  refine s_iload 15 6 rfl dX6_nextCrossing_13 rfl ?_
  refine s_iload 17 5 rfl dX6_nextCrossing_15 rfl ?_
  refine s_icmp_ge 20 69 rfl dX6_nextCrossing_17 (by decide) (fun c13 => ?_) (fun c13 => ?_)
  · replace H := H.1 c13
    refine s_iconst 70 rfl dX6_nextCrossing_69 ⟨by decide, by decide⟩ ?_
    exact s_iret (S := []) dX6_nextCrossing_70 rfl H
  · replace H := H.2 c13
    refine s_aload_n 21 0 rfl dX6_nextCrossing_20 rfl rfl ?_
    refine s_getf 24 4 1 rfl dX6_nextCrossing_21 ck6 rfl (by decide) rfl (by decide) w140 rfl (v := (2, h 4 1)) rfl ?_
    refine s_iload 26 6 rfl dX6_nextCrossing_24 rfl ?_
    have c0 := H.1
    replace H := H.2
    have c1 := H.1
    replace H := H.2
    have c2 := H.1
    replace H := H.2
    refine s_iald 27 rfl dX6_nextCrossing_26 c0 c1 c2 (v9 := h (h 4 1) x6) rfl ?_
    refine s_aload_n 28 0 rfl dX6_nextCrossing_27 rfl rfl ?_
    refine s_getf 31 4 5 rfl dX6_nextCrossing_28 ck6 rfl (by decide) rfl (by decide) w150 rfl (v := (2, 23)) rfl ?_
    refine s_iload_n 32 1 rfl dX6_nextCrossing_31 rfl rfl ?_
    have c3 := H.1
    replace H := H.2
    have c4 := H.1
    replace H := H.2
    refine s_iald 33 rfl dX6_nextCrossing_32 ia23 c3 c4 (v9 := h 23 x1) rfl ?_
    have c5 := H.1
    replace H := H.2
    refine s_isub 34 rfl dX6_nextCrossing_33 c5 ?_
    refine s_istore 36 7 rfl dX6_nextCrossing_34 (by decide) (L2 := [(2, 4), (0, x1), (9, 0), (0, x3), (0, x4), (0, x5), (0, x6), (0, h (h 4 1) x6 - h 23 x1)]) rfl ?_
    refine s_iload 38 7 rfl dX6_nextCrossing_36 rfl ?_
    refine s_iload_n 39 3 rfl dX6_nextCrossing_38 rfl rfl ?_
    have c6 := H.1
    replace H := H.2
    refine s_ineg 40 rfl dX6_nextCrossing_39 c6 ?_
    refine s_icmp_ge 43 49 rfl dX6_nextCrossing_40 (by decide) (fun c12 => ?_) (fun c12 => ?_)
    · replace H := H.1 c12
      refine s_iload 51 4 rfl dX6_nextCrossing_49 rfl ?_
      refine s_if_eq 54 63 rfl dX6_nextCrossing_51 (by decide) (fun c10 => ?_) (fun c10 => ?_)
      · replace H := H.1 c10
        have c7 := H.1
        replace H := H.2
        refine s_iinc 66 6 rfl dX6_nextCrossing_63 (by decide) (z := x6) rfl (L2 := [(2, 4), (0, x1), (9, 0), (0, x3), (0, x4), (0, x5), (0, x6 + 1), (0, h (h 4 1) x6 - h 23 x1)]) rfl c7 ?_
        refine s_goto 13 dX6_nextCrossing_66 (by decide) ?_
        exact s_less [(2, 4), (0, x1), (9, 0), (0, x3), (0, x4), (0, x5), (0, x6 + 1), (9, 0)] ⟨Or.inr rfl, Or.inr rfl, Or.inl rfl, Or.inr rfl, Or.inr rfl, Or.inr rfl, Or.inr rfl, Or.inl rfl, trivial⟩ H
      · replace H := H.2 c10
        refine s_iload 56 7 rfl dX6_nextCrossing_54 rfl ?_
        refine s_iload_n 57 3 rfl dX6_nextCrossing_56 rfl rfl ?_
        refine s_icmp_le 60 63 rfl dX6_nextCrossing_57 (by decide) (fun c9 => ?_) (fun c9 => ?_)
        · replace H := H.1 c9
          have c8 := H.1
          replace H := H.2
          refine s_iinc 66 6 rfl dX6_nextCrossing_63 (by decide) (z := x6) rfl (L2 := [(2, 4), (0, x1), (9, 0), (0, x3), (0, x4), (0, x5), (0, x6 + 1), (0, h (h 4 1) x6 - h 23 x1)]) rfl c8 ?_
          refine s_goto 13 dX6_nextCrossing_66 (by decide) ?_
          exact s_less [(2, 4), (0, x1), (9, 0), (0, x3), (0, x4), (0, x5), (0, x6 + 1), (9, 0)] ⟨Or.inr rfl, Or.inr rfl, Or.inl rfl, Or.inr rfl, Or.inr rfl, Or.inr rfl, Or.inr rfl, Or.inl rfl, trivial⟩ H
        · replace H := H.2 c9
          refine s_iload 62 6 rfl dX6_nextCrossing_60 rfl ?_
          exact s_iret (S := []) dX6_nextCrossing_62 rfl H
    · replace H := H.2 c12
      refine s_iconst 44 rfl dX6_nextCrossing_43 ⟨by decide, by decide⟩ ?_
      refine s_istore 46 4 rfl dX6_nextCrossing_44 (by decide) (L2 := [(2, 4), (0, x1), (9, 0), (0, x3), (0, 1), (0, x5), (0, x6), (0, h (h 4 1) x6 - h 23 x1)]) rfl ?_
      refine s_goto 63 dX6_nextCrossing_46 (by decide) ?_
      have c11 := H.1
      replace H := H.2
      refine s_iinc 66 6 rfl dX6_nextCrossing_63 (by decide) (z := x6) rfl (L2 := [(2, 4), (0, x1), (9, 0), (0, x3), (0, 1), (0, x5), (0, x6 + 1), (0, h (h 4 1) x6 - h 23 x1)]) rfl c11 ?_
      refine s_goto 13 dX6_nextCrossing_66 (by decide) ?_
      exact s_less [(2, 4), (0, x1), (9, 0), (0, x3), (0, 1), (0, x5), (0, x6 + 1), (9, 0)] ⟨Or.inr rfl, Or.inr rfl, Or.inl rfl, Or.inr rfl, Or.inr rfl, Or.inr rfl, Or.inr rfl, Or.inl rfl, trivial⟩ H
theorem vX6_wavesBy_0 {X : Nat × (Int → Int)} {h : HP} {Q : Int → HP → Prop} {x1 : Int} (H : Wd mX6_wavesBy X 4 [(2, 4), (0, x1), (0, 0), (0, 0), (9, 0), (9, 0), (9, 0)] [] h Q) : Wd mX6_wavesBy X 0 [(2, 4), (0, x1), (9, 0), (9, 0), (9, 0), (9, 0), (9, 0)] [] h Q := by
  refine s_iconst 1 rfl dX6_wavesBy_0 ⟨by decide, by decide⟩ ?_
  refine s_istore_n 2 2 rfl dX6_wavesBy_1 rfl (by decide) (L2 := [(2, 4), (0, x1), (0, 0), (9, 0), (9, 0), (9, 0), (9, 0)]) rfl ?_
  refine s_iconst 3 rfl dX6_wavesBy_2 ⟨by decide, by decide⟩ ?_
  refine s_istore_n 4 3 rfl dX6_wavesBy_3 rfl (by decide) (L2 := [(2, 4), (0, x1), (0, 0), (0, 0), (9, 0), (9, 0), (9, 0)]) rfl ?_
  exact H
theorem vX6_wavesBy_4 {X : Nat × (Int → Int)} {h : HP} {Q : Int → HP → Prop} {x1 x2 x3 : Int} (H : ((h 4 6 ≤ x3 → (Q x2 h)) ∧ (¬ (h 4 6 ≤ x3) → (0 ≤ x3 ∧ x3 < 300 ∧ Wd mX6_nextCrossing X 0 [(2, 4), (0, x3), (0, h 21 x3), (0, x1), (9, 0), (9, 0), (9, 0), (9, 0)] [] h (fun r3 h4 => Wd mX6_wavesBy X 32 [(2, 4), (0, x1), (0, x2), (0, x3), (0, 0), (0, r3), (0, 0)] [] h4 Q))))) : Wd mX6_wavesBy X 4 [(2, 4), (0, x1), (0, x2), (0, x3), (9, 0), (9, 0), (9, 0)] [] h Q := by
  refine s_iload_n 5 3 rfl dX6_wavesBy_4 rfl rfl ?_
  refine s_aload_n 6 0 rfl dX6_wavesBy_5 rfl rfl ?_
  refine s_getf 9 4 6 rfl dX6_wavesBy_6 ck6 rfl (by decide) rfl (by decide) w153 rfl (v := (0, h 4 6)) rfl ?_
  refine s_icmp_ge 12 87 rfl dX6_wavesBy_9 (by decide) (fun c4 => ?_) (fun c4 => ?_)
  · replace H := H.1 c4
    refine s_iload_n 88 2 rfl dX6_wavesBy_87 rfl rfl ?_
    exact s_iret (S := []) dX6_wavesBy_88 rfl H
  · replace H := H.2 c4
    refine s_iconst 13 rfl dX6_wavesBy_12 ⟨by decide, by decide⟩ ?_
    refine s_istore 15 4 rfl dX6_wavesBy_13 (by decide) (L2 := [(2, 4), (0, x1), (0, x2), (0, x3), (0, 0), (9, 0), (9, 0)]) rfl ?_
    refine s_aload_n 16 0 rfl dX6_wavesBy_15 rfl rfl ?_
    refine s_iload_n 17 3 rfl dX6_wavesBy_16 rfl rfl ?_
    refine s_aload_n 18 0 rfl dX6_wavesBy_17 rfl rfl ?_
    refine s_getf 21 4 3 rfl dX6_wavesBy_18 ck6 rfl (by decide) rfl (by decide) w145 rfl (v := (2, 21)) rfl ?_
    refine s_iload_n 22 3 rfl dX6_wavesBy_21 rfl rfl ?_
    have c0 := H.1
    replace H := H.2
    have c1 := H.1
    replace H := H.2
    refine s_iald 23 rfl dX6_wavesBy_22 ia21 c0 c1 (v9 := h 21 x3) rfl ?_
    refine s_iload_n 24 1 rfl dX6_wavesBy_23 rfl rfl ?_
    refine s_callV (mj := mX6_nextCrossing) (S := []) 27 [(0, x3), (0, h 21 x3), (0, x1)] [(2, 4), (0, x3), (0, h 21 x3), (0, x1), (9, 0), (9, 0), (9, 0), (9, 0)] 4 rfl dX6_wavesBy_24 okX6_nextCrossing w711 w523 w524 rfl (by decide) rfl rfl rfl rfl npX6_nextCrossing (Nat.le_of_ble_eq_true rfl) (by decide) (Nat.le_of_ble_eq_true rfl) rfl (Wd.imp H (fun r3 h4 H => ?_))
    show Wd mX6_wavesBy X 27 [(2, 4), (0, x1), (0, x2), (0, x3), (0, 0), (9, 0), (9, 0)] [(0, r3)] h4 Q
    refine s_istore 29 5 rfl dX6_wavesBy_27 (by decide) (L2 := [(2, 4), (0, x1), (0, x2), (0, x3), (0, 0), (0, r3), (9, 0)]) rfl ?_
    refine s_iconst 30 rfl dX6_wavesBy_29 ⟨by decide, by decide⟩ ?_
    refine s_istore 32 6 rfl dX6_wavesBy_30 (by decide) (L2 := [(2, 4), (0, x1), (0, x2), (0, x3), (0, 0), (0, r3), (0, 0)]) rfl ?_
    exact H
theorem vX6_wavesBy_32 {X : Nat × (Int → Int)} {h : HP} {Q : Int → HP → Prop} {x1 x2 x3 x4 x5 x6 : Int} (H : 0 ≤ x3 ∧ x3 < 300 ∧ ((h 22 x3 ≤ x6 → (inI (x4 - 1) ∧ Wd mJ9_max_7cf53 X 0 [(0, 0), (0, x4 - 1)] [] h (fun r4 h5 => inI (x2 + r4) ∧ inI (x3 + 1) ∧ Wd mX6_wavesBy X 4 [(2, 4), (0, x1), (0, x2 + r4), (0, x3 + 1), (9, 0), (9, 0), (9, 0)] [] h5 Q))) ∧ (¬ (h 22 x3 ≤ x6) → ((x5 = (-1) → (inI (x4 - 1) ∧ Wd mJ9_max_7cf53 X 0 [(0, 0), (0, x4 - 1)] [] h (fun r9 h10 => inI (x2 + r9) ∧ inI (x3 + 1) ∧ Wd mX6_wavesBy X 4 [(2, 4), (0, x1), (0, x2 + r9), (0, x3 + 1), (9, 0), (9, 0), (9, 0)] [] h10 Q))) ∧ (¬ x5 = (-1) → (inI (x4 + 1) ∧ inI (x5 + 1) ∧ Wd mX6_nextCrossing X 0 [(2, 4), (0, x3), (0, x5 + 1), (0, x1), (9, 0), (9, 0), (9, 0), (9, 0)] [] h (fun r15 h16 => inI (x6 + 1) ∧ Wd mX6_wavesBy X 32 [(2, 4), (0, x1), (0, x2), (0, x3), (0, x4 + 1), (0, r15), (0, x6 + 1)] [] h16 Q))))))) : Wd mX6_wavesBy X 32 [(2, 4), (0, x1), (0, x2), (0, x3), (0, x4), (0, x5), (0, x6)] [] h Q := by
  refine s_iload 34 6 rfl dX6_wavesBy_32 rfl ?_
  refine s_aload_n 35 0 rfl dX6_wavesBy_34 rfl rfl ?_
  refine s_getf 38 4 4 rfl dX6_wavesBy_35 ck6 rfl (by decide) rfl (by decide) w148 rfl (v := (2, 22)) rfl ?_
  refine s_iload_n 39 3 rfl dX6_wavesBy_38 rfl rfl ?_
  have c0 := H.1
  replace H := H.2
  have c1 := H.1
  replace H := H.2
  refine s_iald 40 rfl dX6_wavesBy_39 ia22 c0 c1 (v9 := h 22 x3) rfl ?_
  refine s_icmp_ge 43 70 rfl dX6_wavesBy_40 (by decide) (fun c18 => ?_) (fun c18 => ?_)
  · replace H := H.1 c18
    refine s_iload_n 71 2 rfl dX6_wavesBy_70 rfl rfl ?_
    refine s_iconst 72 rfl dX6_wavesBy_71 ⟨by decide, by decide⟩ ?_
    refine s_iload 74 4 rfl dX6_wavesBy_72 rfl ?_
    refine s_iconst 75 rfl dX6_wavesBy_74 ⟨by decide, by decide⟩ ?_
    have c2 := H.1
    replace H := H.2
    refine s_isub 76 rfl dX6_wavesBy_75 c2 ?_
    refine s_callS (mj := mJ9_max_7cf53) (S := [(0, x2)]) 79 [(0, 0), (0, x4 - 1)] [(0, 0), (0, x4 - 1)] rfl dX6_wavesBy_76 okJ9_max_7cf53 w712 w471 rfl npJ9_max_7cf53 (Nat.le_of_ble_eq_true rfl) (by decide) (Nat.le_of_ble_eq_true rfl) rfl (Wd.imp H (fun r4 h5 H => ?_))
    show Wd mX6_wavesBy X 79 [(2, 4), (0, x1), (0, x2), (0, x3), (0, x4), (0, x5), (0, x6)] [(0, r4), (0, x2)] h5 Q
    have c5 := H.1
    replace H := H.2
    refine s_iadd 80 rfl dX6_wavesBy_79 c5 ?_
    refine s_istore_n 81 2 rfl dX6_wavesBy_80 rfl (by decide) (L2 := [(2, 4), (0, x1), (0, x2 + r4), (0, x3), (0, x4), (0, x5), (0, x6)]) rfl ?_
    have c6 := H.1
    replace H := H.2
    refine s_iinc 84 3 rfl dX6_wavesBy_81 (by decide) (z := x3) rfl (L2 := [(2, 4), (0, x1), (0, x2 + r4), (0, x3 + 1), (0, x4), (0, x5), (0, x6)]) rfl c6 ?_
    refine s_goto 4 dX6_wavesBy_84 (by decide) ?_
    exact s_less [(2, 4), (0, x1), (0, x2 + r4), (0, x3 + 1), (9, 0), (9, 0), (9, 0)] ⟨Or.inr rfl, Or.inr rfl, Or.inr rfl, Or.inr rfl, Or.inl rfl, Or.inl rfl, Or.inl rfl, trivial⟩ H
  · replace H := H.2 c18
    refine s_iload 45 5 rfl dX6_wavesBy_43 rfl ?_
    refine s_iconst 46 rfl dX6_wavesBy_45 ⟨by decide, by decide⟩ ?_
    refine s_icmp_eq 49 70 rfl dX6_wavesBy_46 (by decide) (fun c17 => ?_) (fun c17 => ?_)
    · replace H := H.1 c17
      refine s_iload_n 71 2 rfl dX6_wavesBy_70 rfl rfl ?_
      refine s_iconst 72 rfl dX6_wavesBy_71 ⟨by decide, by decide⟩ ?_
      refine s_iload 74 4 rfl dX6_wavesBy_72 rfl ?_
      refine s_iconst 75 rfl dX6_wavesBy_74 ⟨by decide, by decide⟩ ?_
      have c7 := H.1
      replace H := H.2
      refine s_isub 76 rfl dX6_wavesBy_75 c7 ?_
      refine s_callS (mj := mJ9_max_7cf53) (S := [(0, x2)]) 79 [(0, 0), (0, x4 - 1)] [(0, 0), (0, x4 - 1)] rfl dX6_wavesBy_76 okJ9_max_7cf53 w712 w471 rfl npJ9_max_7cf53 (Nat.le_of_ble_eq_true rfl) (by decide) (Nat.le_of_ble_eq_true rfl) rfl (Wd.imp H (fun r9 h10 H => ?_))
      show Wd mX6_wavesBy X 79 [(2, 4), (0, x1), (0, x2), (0, x3), (0, x4), (0, x5), (0, x6)] [(0, r9), (0, x2)] h10 Q
      have c10 := H.1
      replace H := H.2
      refine s_iadd 80 rfl dX6_wavesBy_79 c10 ?_
      refine s_istore_n 81 2 rfl dX6_wavesBy_80 rfl (by decide) (L2 := [(2, 4), (0, x1), (0, x2 + r9), (0, x3), (0, x4), (0, x5), (0, x6)]) rfl ?_
      have c11 := H.1
      replace H := H.2
      refine s_iinc 84 3 rfl dX6_wavesBy_81 (by decide) (z := x3) rfl (L2 := [(2, 4), (0, x1), (0, x2 + r9), (0, x3 + 1), (0, x4), (0, x5), (0, x6)]) rfl c11 ?_
      refine s_goto 4 dX6_wavesBy_84 (by decide) ?_
      exact s_less [(2, 4), (0, x1), (0, x2 + r9), (0, x3 + 1), (9, 0), (9, 0), (9, 0)] ⟨Or.inr rfl, Or.inr rfl, Or.inr rfl, Or.inr rfl, Or.inl rfl, Or.inl rfl, Or.inl rfl, trivial⟩ H
    · replace H := H.2 c17
      have c12 := H.1
      replace H := H.2
      refine s_iinc 52 4 rfl dX6_wavesBy_49 (by decide) (z := x4) rfl (L2 := [(2, 4), (0, x1), (0, x2), (0, x3), (0, x4 + 1), (0, x5), (0, x6)]) rfl c12 ?_
      refine s_aload_n 53 0 rfl dX6_wavesBy_52 rfl rfl ?_
      refine s_iload_n 54 3 rfl dX6_wavesBy_53 rfl rfl ?_
      refine s_iload 56 5 rfl dX6_wavesBy_54 rfl ?_
      refine s_iconst 57 rfl dX6_wavesBy_56 ⟨by decide, by decide⟩ ?_
      have c13 := H.1
      replace H := H.2
      refine s_iadd 58 rfl dX6_wavesBy_57 c13 ?_
      refine s_iload_n 59 1 rfl dX6_wavesBy_58 rfl rfl ?_
      refine s_callV (mj := mX6_nextCrossing) (S := []) 62 [(0, x3), (0, x5 + 1), (0, x1)] [(2, 4), (0, x3), (0, x5 + 1), (0, x1), (9, 0), (9, 0), (9, 0), (9, 0)] 4 rfl dX6_wavesBy_59 okX6_nextCrossing w711 w523 w524 rfl (by decide) rfl rfl rfl rfl npX6_nextCrossing (Nat.le_of_ble_eq_true rfl) (by decide) (Nat.le_of_ble_eq_true rfl) rfl (Wd.imp H (fun r15 h16 H => ?_))
      show Wd mX6_wavesBy X 62 [(2, 4), (0, x1), (0, x2), (0, x3), (0, x4 + 1), (0, x5), (0, x6)] [(0, r15)] h16 Q
      refine s_istore 64 5 rfl dX6_wavesBy_62 (by decide) (L2 := [(2, 4), (0, x1), (0, x2), (0, x3), (0, x4 + 1), (0, r15), (0, x6)]) rfl ?_
      have c16 := H.1
      replace H := H.2
      refine s_iinc 67 6 rfl dX6_wavesBy_64 (by decide) (z := x6) rfl (L2 := [(2, 4), (0, x1), (0, x2), (0, x3), (0, x4 + 1), (0, r15), (0, x6 + 1)]) rfl c16 ?_
      refine s_goto 32 dX6_wavesBy_67 (by decide) ?_
      exact H
theorem vX6_latestOutside_0 {X : Nat × (Int → Int)} {h : HP} {Q : Int → HP → Prop} {x1 x2 x3 : Int} (H : inI (x2 - 1) ∧ Wd mX6_latestOutside X 5 [(2, 4), (0, x1), (9, 0), (0, x3), (0, x2 - 1), (9, 0)] [] h Q) : Wd mX6_latestOutside X 0 [(2, 4), (0, x1), (0, x2), (0, x3), (9, 0), (9, 0)] [] h Q := by
  refine s_iload_n 1 2 rfl dX6_latestOutside_0 rfl rfl ?_
  refine s_iconst 2 rfl dX6_latestOutside_1 ⟨by decide, by decide⟩ ?_
  have c0 := H.1
  replace H := H.2
  refine s_isub 3 rfl dX6_latestOutside_2 c0 ?_
  refine s_istore 5 4 rfl dX6_latestOutside_3 (by decide) (L2 := [(2, 4), (0, x1), (0, x2), (0, x3), (0, x2 - 1), (9, 0)]) rfl ?_
  exact s_less [(2, 4), (0, x1), (9, 0), (0, x3), (0, x2 - 1), (9, 0)] ⟨Or.inr rfl, Or.inr rfl, Or.inl rfl, Or.inr rfl, Or.inr rfl, Or.inl rfl, trivial⟩ H
theorem vX6_latestOutside_5 {X : Nat × (Int → Int)} {h : HP} {Q : Int → HP → Prop} {x1 x3 x4 : Int} (H : 0 ≤ x1 ∧ x1 < 300 ∧ ((x4 < h 21 x1 → (Q 0 h)) ∧ (¬ (x4 < h 21 x1) → (IA (h 4 1) 600 ∧ 0 ≤ x4 ∧ x4 < 600 ∧ inI (h (h 4 1) x4 - h 23 x1) ∧ ((x3 < (h (h 4 1) x4 - h 23 x1) → (Q (h (h 4 1) x4 - h 23 x1) h)) ∧ (¬ (x3 < (h (h 4 1) x4 - h 23 x1)) → (inI (-x3) ∧ (((-x3) ≤ (h (h 4 1) x4 - h 23 x1) → (inI (x4 + (-1)) ∧ Wd mX6_latestOutside X 5 [(2, 4), (0, x1), (9, 0), (0, x3), (0, x4 + (-1)), (9, 0)] [] h Q)) ∧ (¬ ((-x3) ≤ (h (h 4 1) x4 - h 23 x1)) → (Q (h (h 4 1) x4 - h 23 x1) h)))))))))) : Wd mX6_latestOutside X 5 [(2, 4), (0, x1), (9, 0), (0, x3), (0, x4), (9, 0)] [] h Q := by
  refine s_iload 7 4 rfl dX6_latestOutside_5 rfl ?_
  refine s_aload_n 8 0 rfl dX6_latestOutside_7 rfl rfl ?_
  refine s_getf 11 4 3 rfl dX6_latestOutside_8 ck6 rfl (by decide) rfl (by decide) w145 rfl (v := (2, 21)) rfl ?_
  refine s_iload_n 12 1 rfl dX6_latestOutside_11 rfl rfl ?_
  have c0 := H.1
  replace H := H.2
  have c1 := H.1
  replace H := H.2
  refine s_iald 13 rfl dX6_latestOutside_12 ia21 c0 c1 (v9 := h 21 x1) rfl ?_
  refine s_icmp_lt 16 54 rfl dX6_latestOutside_13 (by decide) (fun c10 => ?_) (fun c10 => ?_)
  · replace H := H.1 c10
    refine s_iconst 55 rfl dX6_latestOutside_54 ⟨by decide, by decide⟩ ?_
    exact s_iret (S := []) dX6_latestOutside_55 rfl H
  · replace H := H.2 c10
    refine s_aload_n 17 0 rfl dX6_latestOutside_16 rfl rfl ?_
    refine s_getf 20 4 1 rfl dX6_latestOutside_17 ck6 rfl (by decide) rfl (by decide) w140 rfl (v := (2, h 4 1)) rfl ?_
    refine s_iload 22 4 rfl dX6_latestOutside_20 rfl ?_
    have c2 := H.1
    replace H := H.2
    have c3 := H.1
    replace H := H.2
    have c4 := H.1
    replace H := H.2
    refine s_iald 23 rfl dX6_latestOutside_22 c2 c3 c4 (v9 := h (h 4 1) x4) rfl ?_
    refine s_aload_n 24 0 rfl dX6_latestOutside_23 rfl rfl ?_
    refine s_getf 27 4 5 rfl dX6_latestOutside_24 ck6 rfl (by decide) rfl (by decide) w150 rfl (v := (2, 23)) rfl ?_
    refine s_iload_n 28 1 rfl dX6_latestOutside_27 rfl rfl ?_
    refine s_iald 29 rfl dX6_latestOutside_28 ia23 c0 c1 (v9 := h 23 x1) rfl ?_
    have c5 := H.1
    replace H := H.2
    refine s_isub 30 rfl dX6_latestOutside_29 c5 ?_
    refine s_istore 32 5 rfl dX6_latestOutside_30 (by decide) (L2 := [(2, 4), (0, x1), (9, 0), (0, x3), (0, x4), (0, h (h 4 1) x4 - h 23 x1)]) rfl ?_
    refine s_iload 34 5 rfl dX6_latestOutside_32 rfl ?_
    refine s_iload_n 35 3 rfl dX6_latestOutside_34 rfl rfl ?_
    refine s_icmp_gt 38 45 rfl dX6_latestOutside_35 (by decide) (fun c9 => ?_) (fun c9 => ?_)
    · replace H := H.1 c9
      refine s_iload 47 5 rfl dX6_latestOutside_45 rfl ?_
      exact s_iret (S := []) dX6_latestOutside_47 rfl H
    · replace H := H.2 c9
      refine s_iload 40 5 rfl dX6_latestOutside_38 rfl ?_
      refine s_iload_n 41 3 rfl dX6_latestOutside_40 rfl rfl ?_
      have c6 := H.1
      replace H := H.2
      refine s_ineg 42 rfl dX6_latestOutside_41 c6 ?_
      refine s_icmp_ge 45 48 rfl dX6_latestOutside_42 (by decide) (fun c8 => ?_) (fun c8 => ?_)
      · replace H := H.1 c8
        have c7 := H.1
        replace H := H.2
        refine s_iinc 51 4 rfl dX6_latestOutside_48 (by decide) (z := x4) rfl (L2 := [(2, 4), (0, x1), (9, 0), (0, x3), (0, x4 + (-1)), (0, h (h 4 1) x4 - h 23 x1)]) rfl c7 ?_
        refine s_goto 5 dX6_latestOutside_51 (by decide) ?_
        exact s_less [(2, 4), (0, x1), (9, 0), (0, x3), (0, x4 + (-1)), (9, 0)] ⟨Or.inr rfl, Or.inr rfl, Or.inl rfl, Or.inr rfl, Or.inr rfl, Or.inl rfl, trivial⟩ H
      · replace H := H.2 c8
        refine s_iload 47 5 rfl dX6_latestOutside_45 rfl ?_
        exact s_iret (S := []) dX6_latestOutside_47 rfl H
theorem vX6_bandAgainst_0 {X : Nat × (Int → Int)} {h : HP} {Q : Int → HP → Prop} {x1 x2 x3 x4 : Int} (H : Wd mX6_latestOutside X 0 [(2, 4), (0, x1), (0, x2), (0, x4), (9, 0), (9, 0)] [] h (fun r1 h2 => Wd mX6_bandAgainst X 13 [(2, 4), (0, x1), (9, 0), (0, x3), (0, x4), (0, r1), (0, x2), (9, 0)] [] h2 Q)) : Wd mX6_bandAgainst X 0 [(2, 4), (0, x1), (0, x2), (0, x3), (0, x4), (9, 0), (9, 0), (9, 0)] [] h Q := by
  refine s_aload_n 1 0 rfl dX6_bandAgainst_0 rfl rfl ?_
  refine s_iload_n 2 1 rfl dX6_bandAgainst_1 rfl rfl ?_
  refine s_iload_n 3 2 rfl dX6_bandAgainst_2 rfl rfl ?_
  refine s_iload 5 4 rfl dX6_bandAgainst_3 rfl ?_
  refine s_callV (mj := mX6_latestOutside) (S := []) 8 [(0, x1), (0, x2), (0, x4)] [(2, 4), (0, x1), (0, x2), (0, x4), (9, 0), (9, 0)] 4 rfl dX6_bandAgainst_5 okX6_latestOutside w725 w727 w10 rfl (by decide) rfl rfl rfl rfl npX6_latestOutside (Nat.le_of_ble_eq_true rfl) (by decide) (Nat.le_of_ble_eq_true rfl) rfl (Wd.imp H (fun r1 h2 H => ?_))
  show Wd mX6_bandAgainst X 8 [(2, 4), (0, x1), (0, x2), (0, x3), (0, x4), (9, 0), (9, 0), (9, 0)] [(0, r1)] h2 Q
  refine s_istore 10 5 rfl dX6_bandAgainst_8 (by decide) (L2 := [(2, 4), (0, x1), (0, x2), (0, x3), (0, x4), (0, r1), (9, 0), (9, 0)]) rfl ?_
  refine s_iload_n 11 2 rfl dX6_bandAgainst_10 rfl rfl ?_
  refine s_istore 13 6 rfl dX6_bandAgainst_11 (by decide) (L2 := [(2, 4), (0, x1), (0, x2), (0, x3), (0, x4), (0, r1), (0, x2), (9, 0)]) rfl ?_
  exact s_less [(2, 4), (0, x1), (9, 0), (0, x3), (0, x4), (0, r1), (0, x2), (9, 0)] ⟨Or.inr rfl, Or.inr rfl, Or.inl rfl, Or.inr rfl, Or.inr rfl, Or.inr rfl, Or.inr rfl, Or.inl rfl, trivial⟩ H
theorem vX6_bandAgainst_13 {X : Nat × (Int → Int)} {h : HP} {Q : Int → HP → Prop} {x1 x3 x4 x5 x6 : Int} (H : ((x3 ≤ x6 → (Q x4 h)) ∧ (¬ (x3 ≤ x6) → (IA (h 4 1) 600 ∧ 0 ≤ x6 ∧ x6 < 600 ∧ 0 ≤ x1 ∧ x1 < 300 ∧ inI (h (h 4 1) x6 - h 23 x1) ∧ (((h (h 4 1) x6 - h 23 x1) ≤ x4 → ((x4 < (h (h 4 1) x6 - h 23 x1) → (inI (x6 + 1) ∧ Wd mX6_bandAgainst X 13 [(2, 4), (0, x1), (9, 0), (0, x3), (0, x4), (0, h (h 4 1) x6 - h 23 x1), (0, x6 + 1), (9, 0)] [] h Q)) ∧ (¬ (x4 < (h (h 4 1) x6 - h 23 x1)) → (inI (-x4) ∧ (((-x4) ≤ (h (h 4 1) x6 - h 23 x1) → (inI (x6 + 1) ∧ Wd mX6_bandAgainst X 13 [(2, 4), (0, x1), (9, 0), (0, x3), (0, x4), (0, x5), (0, x6 + 1), (9, 0)] [] h Q)) ∧ (¬ ((-x4) ≤ (h (h 4 1) x6 - h 23 x1)) → (inI (x6 + 1) ∧ Wd mX6_bandAgainst X 13 [(2, 4), (0, x1), (9, 0), (0, x3), (0, x4), (0, h (h 4 1) x6 - h 23 x1), (0, x6 + 1), (9, 0)] [] h Q))))))) ∧ (¬ ((h (h 4 1) x6 - h 23 x1) ≤ x4) → ((0 ≤ x5 → ((x4 < (h (h 4 1) x6 - h 23 x1) → (inI (x6 + 1) ∧ Wd mX6_bandAgainst X 13 [(2, 4), (0, x1), (9, 0), (0, x3), (0, x4), (0, h (h 4 1) x6 - h 23 x1), (0, x6 + 1), (9, 0)] [] h Q)) ∧ (¬ (x4 < (h (h 4 1) x6 - h 23 x1)) → (inI (-x4) ∧ (((-x4) ≤ (h (h 4 1) x6 - h 23 x1) → (inI (x6 + 1) ∧ Wd mX6_bandAgainst X 13 [(2, 4), (0, x1), (9, 0), (0, x3), (0, x4), (0, x5), (0, x6 + 1), (9, 0)] [] h Q)) ∧ (¬ ((-x4) ≤ (h (h 4 1) x6 - h 23 x1)) → (inI (x6 + 1) ∧ Wd mX6_bandAgainst X 13 [(2, 4), (0, x1), (9, 0), (0, x3), (0, x4), (0, h (h 4 1) x6 - h 23 x1), (0, x6 + 1), (9, 0)] [] h Q))))))) ∧ (¬ (0 ≤ x5) → (inI (-x5) ∧ Wd mJ9_min_7cf53 X 0 [(0, h (h 4 1) x6 - h 23 x1), (0, (-x5))] [] h (fun r20 h21 => Q r20 h21)))))))))) : Wd mX6_bandAgainst X 13 [(2, 4), (0, x1), (9, 0), (0, x3), (0, x4), (0, x5), (0, x6), (9, 0)] [] h Q := by
  refine s_iload 15 6 rfl dX6_bandAgainst_13 rfl ?_
  refine s_iload_n 16 3 rfl dX6_bandAgainst_15 rfl rfl ?_
  refine s_icmp_ge 19 81 rfl dX6_bandAgainst_16 (by decide) (fun c23 => ?_) (fun c23 => ?_)
  · replace H := H.1 c23
    refine s_iload 83 4 rfl dX6_bandAgainst_81 rfl ?_
    exact s_iret (S := []) dX6_bandAgainst_83 rfl H
  · replace H := H.2 c23
    refine s_aload_n 20 0 rfl dX6_bandAgainst_19 rfl rfl ?_
    refine s_getf 23 4 1 rfl dX6_bandAgainst_20 ck6 rfl (by decide) rfl (by decide) w140 rfl (v := (2, h 4 1)) rfl ?_
    refine s_iload 25 6 rfl dX6_bandAgainst_23 rfl ?_
    have c0 := H.1
    replace H := H.2
    have c1 := H.1
    replace H := H.2
    have c2 := H.1
    replace H := H.2
    refine s_iald 26 rfl dX6_bandAgainst_25 c0 c1 c2 (v9 := h (h 4 1) x6) rfl ?_
    refine s_aload_n 27 0 rfl dX6_bandAgainst_26 rfl rfl ?_
    refine s_getf 30 4 5 rfl dX6_bandAgainst_27 ck6 rfl (by decide) rfl (by decide) w150 rfl (v := (2, 23)) rfl ?_
    refine s_iload_n 31 1 rfl dX6_bandAgainst_30 rfl rfl ?_
    have c3 := H.1
    replace H := H.2
    have c4 := H.1
    replace H := H.2
    refine s_iald 32 rfl dX6_bandAgainst_31 ia23 c3 c4 (v9 := h 23 x1) rfl ?_
    have c5 := H.1
    replace H := H.2
    refine s_isub 33 rfl dX6_bandAgainst_32 c5 ?_
    refine s_istore 35 7 rfl dX6_bandAgainst_33 (by decide) (L2 := [(2, 4), (0, x1), (9, 0), (0, x3), (0, x4), (0, x5), (0, x6), (0, h (h 4 1) x6 - h 23 x1)]) rfl ?_
    refine s_iload 37 7 rfl dX6_bandAgainst_35 rfl ?_
    refine s_iload 39 4 rfl dX6_bandAgainst_37 rfl ?_
    refine s_icmp_le 42 56 rfl dX6_bandAgainst_39 (by decide) (fun c22 => ?_) (fun c22 => ?_)
    · replace H := H.1 c22
      refine s_iload 58 7 rfl dX6_bandAgainst_56 rfl ?_
      refine s_iload 60 4 rfl dX6_bandAgainst_58 rfl ?_
      refine s_icmp_gt 63 71 rfl dX6_bandAgainst_60 (by decide) (fun c11 => ?_) (fun c11 => ?_)
      · replace H := H.1 c11
        refine s_iload 73 7 rfl dX6_bandAgainst_71 rfl ?_
        refine s_istore 75 5 rfl dX6_bandAgainst_73 (by decide) (L2 := [(2, 4), (0, x1), (9, 0), (0, x3), (0, x4), (0, h (h 4 1) x6 - h 23 x1), (0, x6), (0, h (h 4 1) x6 - h 23 x1)]) rfl ?_
        have c6 := H.1
        replace H := H.2
        refine s_iinc 78 6 rfl dX6_bandAgainst_75 (by decide) (z := x6) rfl (L2 := [(2, 4), (0, x1), (9, 0), (0, x3), (0, x4), (0, h (h 4 1) x6 - h 23 x1), (0, x6 + 1), (0, h (h 4 1) x6 - h 23 x1)]) rfl c6 ?_
        refine s_goto 13 dX6_bandAgainst_78 (by decide) ?_
        exact s_less [(2, 4), (0, x1), (9, 0), (0, x3), (0, x4), (0, h (h 4 1) x6 - h 23 x1), (0, x6 + 1), (9, 0)] ⟨Or.inr rfl, Or.inr rfl, Or.inl rfl, Or.inr rfl, Or.inr rfl, Or.inr rfl, Or.inr rfl, Or.inl rfl, trivial⟩ H
      · replace H := H.2 c11
        refine s_iload 65 7 rfl dX6_bandAgainst_63 rfl ?_
        refine s_iload 67 4 rfl dX6_bandAgainst_65 rfl ?_
        have c7 := H.1
        replace H := H.2
        refine s_ineg 68 rfl dX6_bandAgainst_67 c7 ?_
        refine s_icmp_ge 71 75 rfl dX6_bandAgainst_68 (by decide) (fun c10 => ?_) (fun c10 => ?_)
        · replace H := H.1 c10
          have c8 := H.1
          replace H := H.2
          refine s_iinc 78 6 rfl dX6_bandAgainst_75 (by decide) (z := x6) rfl (L2 := [(2, 4), (0, x1), (9, 0), (0, x3), (0, x4), (0, x5), (0, x6 + 1), (0, h (h 4 1) x6 - h 23 x1)]) rfl c8 ?_
          refine s_goto 13 dX6_bandAgainst_78 (by decide) ?_
          exact s_less [(2, 4), (0, x1), (9, 0), (0, x3), (0, x4), (0, x5), (0, x6 + 1), (9, 0)] ⟨Or.inr rfl, Or.inr rfl, Or.inl rfl, Or.inr rfl, Or.inr rfl, Or.inr rfl, Or.inr rfl, Or.inl rfl, trivial⟩ H
        · replace H := H.2 c10
          refine s_iload 73 7 rfl dX6_bandAgainst_71 rfl ?_
          refine s_istore 75 5 rfl dX6_bandAgainst_73 (by decide) (L2 := [(2, 4), (0, x1), (9, 0), (0, x3), (0, x4), (0, h (h 4 1) x6 - h 23 x1), (0, x6), (0, h (h 4 1) x6 - h 23 x1)]) rfl ?_
          have c9 := H.1
          replace H := H.2
          refine s_iinc 78 6 rfl dX6_bandAgainst_75 (by decide) (z := x6) rfl (L2 := [(2, 4), (0, x1), (9, 0), (0, x3), (0, x4), (0, h (h 4 1) x6 - h 23 x1), (0, x6 + 1), (0, h (h 4 1) x6 - h 23 x1)]) rfl c9 ?_
          refine s_goto 13 dX6_bandAgainst_78 (by decide) ?_
          exact s_less [(2, 4), (0, x1), (9, 0), (0, x3), (0, x4), (0, h (h 4 1) x6 - h 23 x1), (0, x6 + 1), (9, 0)] ⟨Or.inr rfl, Or.inr rfl, Or.inl rfl, Or.inr rfl, Or.inr rfl, Or.inr rfl, Or.inr rfl, Or.inl rfl, trivial⟩ H
    · replace H := H.2 c22
      refine s_iload 44 5 rfl dX6_bandAgainst_42 rfl ?_
      refine s_if_ge 47 56 rfl dX6_bandAgainst_44 (by decide) (fun c21 => ?_) (fun c21 => ?_)
      · replace H := H.1 c21
        refine s_iload 58 7 rfl dX6_bandAgainst_56 rfl ?_
        refine s_iload 60 4 rfl dX6_bandAgainst_58 rfl ?_
        refine s_icmp_gt 63 71 rfl dX6_bandAgainst_60 (by decide) (fun c17 => ?_) (fun c17 => ?_)
        · replace H := H.1 c17
          refine s_iload 73 7 rfl dX6_bandAgainst_71 rfl ?_
          refine s_istore 75 5 rfl dX6_bandAgainst_73 (by decide) (L2 := [(2, 4), (0, x1), (9, 0), (0, x3), (0, x4), (0, h (h 4 1) x6 - h 23 x1), (0, x6), (0, h (h 4 1) x6 - h 23 x1)]) rfl ?_
          have c12 := H.1
          replace H := H.2
          refine s_iinc 78 6 rfl dX6_bandAgainst_75 (by decide) (z := x6) rfl (L2 := [(2, 4), (0, x1), (9, 0), (0, x3), (0, x4), (0, h (h 4 1) x6 - h 23 x1), (0, x6 + 1), (0, h (h 4 1) x6 - h 23 x1)]) rfl c12 ?_
          refine s_goto 13 dX6_bandAgainst_78 (by decide) ?_
          exact s_less [(2, 4), (0, x1), (9, 0), (0, x3), (0, x4), (0, h (h 4 1) x6 - h 23 x1), (0, x6 + 1), (9, 0)] ⟨Or.inr rfl, Or.inr rfl, Or.inl rfl, Or.inr rfl, Or.inr rfl, Or.inr rfl, Or.inr rfl, Or.inl rfl, trivial⟩ H
        · replace H := H.2 c17
          refine s_iload 65 7 rfl dX6_bandAgainst_63 rfl ?_
          refine s_iload 67 4 rfl dX6_bandAgainst_65 rfl ?_
          have c13 := H.1
          replace H := H.2
          refine s_ineg 68 rfl dX6_bandAgainst_67 c13 ?_
          refine s_icmp_ge 71 75 rfl dX6_bandAgainst_68 (by decide) (fun c16 => ?_) (fun c16 => ?_)
          · replace H := H.1 c16
            have c14 := H.1
            replace H := H.2
            refine s_iinc 78 6 rfl dX6_bandAgainst_75 (by decide) (z := x6) rfl (L2 := [(2, 4), (0, x1), (9, 0), (0, x3), (0, x4), (0, x5), (0, x6 + 1), (0, h (h 4 1) x6 - h 23 x1)]) rfl c14 ?_
            refine s_goto 13 dX6_bandAgainst_78 (by decide) ?_
            exact s_less [(2, 4), (0, x1), (9, 0), (0, x3), (0, x4), (0, x5), (0, x6 + 1), (9, 0)] ⟨Or.inr rfl, Or.inr rfl, Or.inl rfl, Or.inr rfl, Or.inr rfl, Or.inr rfl, Or.inr rfl, Or.inl rfl, trivial⟩ H
          · replace H := H.2 c16
            refine s_iload 73 7 rfl dX6_bandAgainst_71 rfl ?_
            refine s_istore 75 5 rfl dX6_bandAgainst_73 (by decide) (L2 := [(2, 4), (0, x1), (9, 0), (0, x3), (0, x4), (0, h (h 4 1) x6 - h 23 x1), (0, x6), (0, h (h 4 1) x6 - h 23 x1)]) rfl ?_
            have c15 := H.1
            replace H := H.2
            refine s_iinc 78 6 rfl dX6_bandAgainst_75 (by decide) (z := x6) rfl (L2 := [(2, 4), (0, x1), (9, 0), (0, x3), (0, x4), (0, h (h 4 1) x6 - h 23 x1), (0, x6 + 1), (0, h (h 4 1) x6 - h 23 x1)]) rfl c15 ?_
            refine s_goto 13 dX6_bandAgainst_78 (by decide) ?_
            exact s_less [(2, 4), (0, x1), (9, 0), (0, x3), (0, x4), (0, h (h 4 1) x6 - h 23 x1), (0, x6 + 1), (9, 0)] ⟨Or.inr rfl, Or.inr rfl, Or.inl rfl, Or.inr rfl, Or.inr rfl, Or.inr rfl, Or.inr rfl, Or.inl rfl, trivial⟩ H
      · replace H := H.2 c21
        refine s_iload 49 7 rfl dX6_bandAgainst_47 rfl ?_
        refine s_iload 51 5 rfl dX6_bandAgainst_49 rfl ?_
        have c18 := H.1
        replace H := H.2
        refine s_ineg 52 rfl dX6_bandAgainst_51 c18 ?_
        refine s_callS (mj := mJ9_min_7cf53) (S := []) 55 [(0, h (h 4 1) x6 - h 23 x1), (0, (-x5))] [(0, h (h 4 1) x6 - h 23 x1), (0, (-x5))] rfl dX6_bandAgainst_52 okJ9_min_7cf53 w538 w468 rfl npJ9_min_7cf53 (Nat.le_of_ble_eq_true rfl) (by decide) (Nat.le_of_ble_eq_true rfl) rfl (Wd.imp H (fun r20 h21 H => ?_))
        show Wd mX6_bandAgainst X 55 [(2, 4), (0, x1), (9, 0), (0, x3), (0, x4), (0, x5), (0, x6), (0, h (h 4 1) x6 - h 23 x1)] [(0, r20)] h21 Q
        exact s_iret (S := []) dX6_bandAgainst_55 rfl H
theorem vX7_has_0 {X : Nat × (Int → Int)} {h : HP} {Q : Int → HP → Prop} {x1 : Int} (H : ((x1 < 0 → (Q 0 h)) ∧ (¬ (x1 < 0) → ((h 5 10 ≤ x1 → (Q 0 h)) ∧ (¬ (h 5 10 ≤ x1) → (Q 1 h)))))) : Wd mX7_has X 0 [(2, 5), (0, x1)] [] h Q := by
  refine s_iload_n 1 1 rfl dX7_has_0 rfl rfl ?_
  refine s_if_lt 4 16 rfl dX7_has_1 (by decide) (fun c1 => ?_) (fun c1 => ?_)
  · replace H := H.1 c1
    refine s_iconst 17 rfl dX7_has_16 ⟨by decide, by decide⟩ ?_
    exact s_zret (S := []) dX7_has_17 rfl (Or.inl rfl) H
  · replace H := H.2 c1
    refine s_iload_n 5 1 rfl dX7_has_4 rfl rfl ?_
    refine s_aload_n 6 0 rfl dX7_has_5 rfl rfl ?_
    refine s_getf 9 5 10 rfl dX7_has_6 ck7 rfl (by decide) rfl (by decide) w208 rfl (v := (0, h 5 10)) rfl ?_
    refine s_icmp_ge 12 16 rfl dX7_has_9 (by decide) (fun c0 => ?_) (fun c0 => ?_)
    · replace H := H.1 c0
      refine s_iconst 17 rfl dX7_has_16 ⟨by decide, by decide⟩ ?_
      exact s_zret (S := []) dX7_has_17 rfl (Or.inl rfl) H
    · replace H := H.2 c0
      refine s_iconst 13 rfl dX7_has_12 ⟨by decide, by decide⟩ ?_
      refine s_goto 17 dX7_has_13 (by decide) ?_
      exact s_zret (S := []) dX7_has_17 rfl (Or.inr rfl) H
theorem vX7_endOf_0 {X : Nat × (Int → Int)} {h : HP} {Q : Int → HP → Prop} {x1 : Int} (H : 0 ≤ x1 ∧ x1 < 300 ∧ inI (h 25 x1 + h 26 x1) ∧ Q (h 25 x1 + h 26 x1) h) : Wd mX7_endOf X 0 [(2, 5), (0, x1)] [] h Q := by
  refine s_aload_n 1 0 rfl dX7_endOf_0 rfl rfl ?_
  refine s_getf 4 5 1 rfl dX7_endOf_1 ck7 rfl (by decide) rfl (by decide) w187 rfl (v := (2, 25)) rfl ?_
  refine s_iload_n 5 1 rfl dX7_endOf_4 rfl rfl ?_
  have c0 := H.1
  replace H := H.2
  have c1 := H.1
  replace H := H.2
  refine s_iald 6 rfl dX7_endOf_5 ia25 c0 c1 (v9 := h 25 x1) rfl ?_
  refine s_aload_n 7 0 rfl dX7_endOf_6 rfl rfl ?_
  refine s_getf 10 5 2 rfl dX7_endOf_7 ck7 rfl (by decide) rfl (by decide) w189 rfl (v := (2, 26)) rfl ?_
  refine s_iload_n 11 1 rfl dX7_endOf_10 rfl rfl ?_
  refine s_iald 12 rfl dX7_endOf_11 ia26 c0 c1 (v9 := h 26 x1) rfl ?_
  have c2 := H.1
  replace H := H.2
  refine s_iadd 13 rfl dX7_endOf_12 c2 ?_
  exact s_iret (S := []) dX7_endOf_13 rfl H
theorem vX7_add_0 {X : Nat × (Int → Int)} {h : HP} {Q : Int → HP → Prop} {x2 x3 x4 : Int} (H : ((h 5 10 < 300 → (Wd mX6_topIn X 0 [(2, 4), (0, x3), (0, x4), (9, 0), (9, 0)] [] h (fun r1 h2 => 0 ≤ h2 5 10 ∧ h2 5 10 < 300 ∧ inI (x4 - x3) ∧ IA (h2 4 1) 600 ∧ 0 ≤ r1 ∧ r1 < 600 ∧ Wd mX6_leastIn X 0 [(2, 4), (0, x3), (0, x4), (9, 0), (9, 0)] [] (xu (xu h2 25 (h2 5 10) x3) 26 (h2 5 10) (x4 - x3)) (fun r9 h10 => inI ((xu (xu h2 25 (h2 5 10) x3) 26 (h2 5 10) (x4 - x3)) (h2 4 1) r1 - r9) ∧ IA (h10 4 1) 600 ∧ 0 ≤ x2 ∧ x2 < 300 ∧ inI ((xu h10 27 (h2 5 10) ((xu (xu h2 25 (h2 5 10) x3) 26 (h2 5 10) (x4 - x3)) (h2 4 1) r1 - r9)) (h10 4 1) r1 - h10 23 x2) ∧ 0 ≤ h10 5 10 ∧ h10 5 10 < 300 ∧ Wd mX7_add X 116 [(2, 5), (9, 0), (9, 0), (9, 0), (0, x4), (9, 0), (0, x3)] [] (xu (xu (xu (xu h10 27 (h2 5 10) ((xu (xu h2 25 (h2 5 10) x3) 26 (h2 5 10) (x4 - x3)) (h2 4 1) r1 - r9)) 28 (h10 5 10) ((xu h10 27 (h2 5 10) ((xu (xu h2 25 (h2 5 10) x3) 26 (h2 5 10) (x4 - x3)) (h2 4 1) r1 - r9)) (h10 4 1) r1 - h10 23 x2)) 29 (h10 5 10) r1) 30 (h10 5 10) x2) Q)))) ∧ (¬ (h 5 10 < 300) → (Q 0 h)))) : Wd mX7_add X 0 [(2, 5), (2, 4), (0, x2), (0, x3), (0, x4), (9, 0), (9, 0)] [] h Q := by
  refine s_aload_n 1 0 rfl dX7_add_0 rfl rfl ?_
  refine s_getf 4 5 10 rfl dX7_add_1 ck7 rfl (by decide) rfl (by decide) w208 rfl (v := (0, h 5 10)) rfl ?_
  refine s_aload_n 5 0 rfl dX7_add_4 rfl rfl ?_
  refine s_getf 8 5 1 rfl dX7_add_5 ck7 rfl (by decide) rfl (by decide) w187 rfl (v := (2, 25)) rfl ?_
  refine s_alenI 9 rfl dX7_add_8 ia25 ?_
  refine s_icmp_lt 12 13 rfl dX7_add_9 (by decide) (fun c17 => ?_) (fun c17 => ?_)
  · replace H := H.1 c17
    refine s_aload_n 14 1 rfl dX7_add_13 rfl rfl ?_
    refine s_iload_n 15 3 rfl dX7_add_14 rfl rfl ?_
    refine s_iload 17 4 rfl dX7_add_15 rfl ?_
    refine s_callV (mj := mX6_topIn) (S := []) 20 [(0, x3), (0, x4)] [(2, 4), (0, x3), (0, x4), (9, 0), (9, 0)] 4 rfl dX7_add_17 okX6_topIn w530 w531 w532 rfl (by decide) rfl rfl rfl rfl npX6_topIn (Nat.le_of_ble_eq_true rfl) (by decide) (Nat.le_of_ble_eq_true rfl) rfl (Wd.imp H (fun r1 h2 H => ?_))
    show Wd mX7_add X 20 [(2, 5), (2, 4), (0, x2), (0, x3), (0, x4), (9, 0), (9, 0)] [(0, r1)] h2 Q
    refine s_istore 22 5 rfl dX7_add_20 (by decide) (L2 := [(2, 5), (2, 4), (0, x2), (0, x3), (0, x4), (0, r1), (9, 0)]) rfl ?_
    refine s_aload_n 23 0 rfl dX7_add_22 rfl rfl ?_
    refine s_getf 26 5 1 rfl dX7_add_23 ck7 rfl (by decide) rfl (by decide) w187 rfl (v := (2, 25)) rfl ?_
    refine s_aload_n 27 0 rfl dX7_add_26 rfl rfl ?_
    refine s_getf 30 5 10 rfl dX7_add_27 ck7 rfl (by decide) rfl (by decide) w208 rfl (v := (0, h2 5 10)) rfl ?_
    refine s_iload_n 31 3 rfl dX7_add_30 rfl rfl ?_
    have c2 := H.1
    replace H := H.2
    have c3 := H.1
    replace H := H.2
    refine s_iast 32 rfl dX7_add_31 ia25 c2 c3 ?_
    refine s_aload_n 33 0 rfl dX7_add_32 rfl rfl ?_
    refine s_getf 36 5 2 rfl dX7_add_33 ck7 rfl (by decide) rfl (by decide) w189 rfl (v := (2, 26)) rfl ?_
    refine s_aload_n 37 0 rfl dX7_add_36 rfl rfl ?_
    refine s_getf 40 5 10 rfl dX7_add_37 ck7 rfl (by decide) rfl (by decide) w208 rfl (v := (0, h2 5 10)) (by show (0, (xu h2 25 (h2 5 10) x3) 5 10) = _; rw [(xu_k (by decide))]) ?_
    refine s_iload 42 4 rfl dX7_add_40 rfl ?_
    refine s_iload_n 43 3 rfl dX7_add_42 rfl rfl ?_
    have c4 := H.1
    replace H := H.2
    refine s_isub 44 rfl dX7_add_43 c4 ?_
    refine s_iast 45 rfl dX7_add_44 ia26 c2 c3 ?_
    refine s_aload_n 46 0 rfl dX7_add_45 rfl rfl ?_
    refine s_getf 49 5 3 rfl dX7_add_46 ck7 rfl (by decide) rfl (by decide) w192 rfl (v := (2, 27)) rfl ?_
    refine s_aload_n 50 0 rfl dX7_add_49 rfl rfl ?_
    refine s_getf 53 5 10 rfl dX7_add_50 ck7 rfl (by decide) rfl (by decide) w208 rfl (v := (0, h2 5 10)) (by show (0, (xu (xu h2 25 (h2 5 10) x3) 26 (h2 5 10) (x4 - x3)) 5 10) = _; rw [((xu_k (by decide)).trans (xu_k (by decide)))]) ?_
    refine s_aload_n 54 1 rfl dX7_add_53 rfl rfl ?_
    refine s_getf 57 4 1 rfl dX7_add_54 ck6 rfl (by decide) rfl (by decide) w141 rfl (v := (2, h2 4 1)) (by show (2, (xu (xu h2 25 (h2 5 10) x3) 26 (h2 5 10) (x4 - x3)) 4 1) = _; rw [((xu_k (by decide)).trans (xu_k (by decide)))]) ?_
    refine s_iload 59 5 rfl dX7_add_57 rfl ?_
    have c5 := H.1
    replace H := H.2
    have c6 := H.1
    replace H := H.2
    have c7 := H.1
    replace H := H.2
    refine s_iald 60 rfl dX7_add_59 c5 c6 c7 (v9 := (xu (xu h2 25 (h2 5 10) x3) 26 (h2 5 10) (x4 - x3)) (h2 4 1) r1) rfl ?_
    refine s_aload_n 61 1 rfl dX7_add_60 rfl rfl ?_
    refine s_iload_n 62 3 rfl dX7_add_61 rfl rfl ?_
    refine s_iload 64 4 rfl dX7_add_62 rfl ?_
    refine s_callV (mj := mX6_leastIn) (S := [(0, (xu (xu h2 25 (h2 5 10) x3) 26 (h2 5 10) (x4 - x3)) (h2 4 1) r1), (0, h2 5 10), (2, 27)]) 67 [(0, x3), (0, x4)] [(2, 4), (0, x3), (0, x4), (9, 0), (9, 0)] 4 rfl dX7_add_64 okX6_leastIn w534 w535 w536 rfl (by decide) rfl rfl rfl rfl npX6_leastIn (Nat.le_of_ble_eq_true rfl) (by decide) (Nat.le_of_ble_eq_true rfl) rfl (Wd.imp H (fun r9 h10 H => ?_))
    show Wd mX7_add X 67 [(2, 5), (2, 4), (0, x2), (0, x3), (0, x4), (0, r1), (9, 0)] [(0, r9), (0, (xu (xu h2 25 (h2 5 10) x3) 26 (h2 5 10) (x4 - x3)) (h2 4 1) r1), (0, h2 5 10), (2, 27)] h10 Q
    have c10 := H.1
    replace H := H.2
    refine s_isub 68 rfl dX7_add_67 c10 ?_
    refine s_iast 69 rfl dX7_add_68 ia27 c2 c3 ?_
    refine s_aload_n 70 0 rfl dX7_add_69 rfl rfl ?_
    refine s_getf 73 5 4 rfl dX7_add_70 ck7 rfl (by decide) rfl (by decide) w195 rfl (v := (2, 28)) rfl ?_
    refine s_aload_n 74 0 rfl dX7_add_73 rfl rfl ?_
    refine s_getf 77 5 10 rfl dX7_add_74 ck7 rfl (by decide) rfl (by decide) w208 rfl (v := (0, h10 5 10)) (by show (0, (xu h10 27 (h2 5 10) ((xu (xu h2 25 (h2 5 10) x3) 26 (h2 5 10) (x4 - x3)) (h2 4 1) r1 - r9)) 5 10) = _; rw [(xu_k (by decide))]) ?_
    refine s_aload_n 78 1 rfl dX7_add_77 rfl rfl ?_
    refine s_getf 81 4 1 rfl dX7_add_78 ck6 rfl (by decide) rfl (by decide) w141 rfl (v := (2, h10 4 1)) (by show (2, (xu h10 27 (h2 5 10) ((xu (xu h2 25 (h2 5 10) x3) 26 (h2 5 10) (x4 - x3)) (h2 4 1) r1 - r9)) 4 1) = _; rw [(xu_k (by decide))]) ?_
    refine s_iload 83 5 rfl dX7_add_81 rfl ?_
    have c11 := H.1
    replace H := H.2
    refine s_iald 84 rfl dX7_add_83 c11 c6 c7 (v9 := (xu h10 27 (h2 5 10) ((xu (xu h2 25 (h2 5 10) x3) 26 (h2 5 10) (x4 - x3)) (h2 4 1) r1 - r9)) (h10 4 1) r1) rfl ?_
    refine s_aload_n 85 1 rfl dX7_add_84 rfl rfl ?_
    refine s_getf 88 4 5 rfl dX7_add_85 ck6 rfl (by decide) rfl (by decide) w151 rfl (v := (2, 23)) rfl ?_
    refine s_iload_n 89 2 rfl dX7_add_88 rfl rfl ?_
    have c12 := H.1
    replace H := H.2
    have c13 := H.1
    replace H := H.2
    refine s_iald 90 rfl dX7_add_89 ia23 c12 c13 (v9 := h10 23 x2) (xu_k (by decide)) ?_
    have c14 := H.1
    replace H := H.2
    refine s_isub 91 rfl dX7_add_90 c14 ?_
    have c15 := H.1
    replace H := H.2
    have c16 := H.1
    replace H := H.2
    refine s_iast 92 rfl dX7_add_91 ia28 c15 c16 ?_
    refine s_aload_n 93 0 rfl dX7_add_92 rfl rfl ?_
    refine s_getf 96 5 5 rfl dX7_add_93 ck7 rfl (by decide) rfl (by decide) w197 rfl (v := (2, 29)) rfl ?_
    refine s_aload_n 97 0 rfl dX7_add_96 rfl rfl ?_
    refine s_getf 100 5 10 rfl dX7_add_97 ck7 rfl (by decide) rfl (by decide) w208 rfl (v := (0, h10 5 10)) (by show (0, (xu (xu h10 27 (h2 5 10) ((xu (xu h2 25 (h2 5 10) x3) 26 (h2 5 10) (x4 - x3)) (h2 4 1) r1 - r9)) 28 (h10 5 10) ((xu h10 27 (h2 5 10) ((xu (xu h2 25 (h2 5 10) x3) 26 (h2 5 10) (x4 - x3)) (h2 4 1) r1 - r9)) (h10 4 1) r1 - h10 23 x2)) 5 10) = _; rw [((xu_k (by decide)).trans (xu_k (by decide)))]) ?_
    refine s_iload 102 5 rfl dX7_add_100 rfl ?_
    refine s_iast 103 rfl dX7_add_102 ia29 c15 c16 ?_
    refine s_aload_n 104 0 rfl dX7_add_103 rfl rfl ?_
    refine s_getf 107 5 6 rfl dX7_add_104 ck7 rfl (by decide) rfl (by decide) w199 rfl (v := (2, 30)) rfl ?_
    refine s_aload_n 108 0 rfl dX7_add_107 rfl rfl ?_
    refine s_getf 111 5 10 rfl dX7_add_108 ck7 rfl (by decide) rfl (by decide) w208 rfl (v := (0, h10 5 10)) (by show (0, (xu (xu (xu h10 27 (h2 5 10) ((xu (xu h2 25 (h2 5 10) x3) 26 (h2 5 10) (x4 - x3)) (h2 4 1) r1 - r9)) 28 (h10 5 10) ((xu h10 27 (h2 5 10) ((xu (xu h2 25 (h2 5 10) x3) 26 (h2 5 10) (x4 - x3)) (h2 4 1) r1 - r9)) (h10 4 1) r1 - h10 23 x2)) 29 (h10 5 10) r1) 5 10) = _; rw [((xu_k (by decide)).trans ((xu_k (by decide)).trans (xu_k (by decide))))]) ?_
    refine s_iload_n 112 2 rfl dX7_add_111 rfl rfl ?_
    refine s_iast 113 rfl dX7_add_112 ia30 c15 c16 ?_
    refine s_iload_n 114 3 rfl dX7_add_113 rfl rfl ?_
    refine s_istore 116 6 rfl dX7_add_114 (by decide) (L2 := [(2, 5), (2, 4), (0, x2), (0, x3), (0, x4), (0, r1), (0, x3)]) rfl ?_
    exact s_less [(2, 5), (9, 0), (9, 0), (9, 0), (0, x4), (9, 0), (0, x3)] ⟨Or.inr rfl, Or.inl rfl, Or.inl rfl, Or.inl rfl, Or.inr rfl, Or.inl rfl, Or.inr rfl, trivial⟩ H
  · replace H := H.2 c17
    exact s_vret (S := []) dX7_add_12 rfl H
theorem vX7_add_116 {X : Nat × (Int → Int)} {h : HP} {Q : Int → HP → Prop} {x4 x6 : Int} (H : ((x4 ≤ x6 → (inI (h 5 10 + 1) ∧ Q 0 (xu h 5 10 (h 5 10 + 1)))) ∧ (¬ (x4 ≤ x6) → (0 ≤ x6 ∧ x6 < 600 ∧ inI (x6 + 1) ∧ Wd mX7_add X 116 [(2, 5), (9, 0), (9, 0), (9, 0), (0, x4), (9, 0), (0, x6 + 1)] [] (xu h 24 x6 (h 5 10)) Q)))) : Wd mX7_add X 116 [(2, 5), (9, 0), (9, 0), (9, 0), (0, x4), (9, 0), (0, x6)] [] h Q := by
  refine s_iload 118 6 rfl dX7_add_116 rfl ?_
  refine s_iload 120 4 rfl dX7_add_118 rfl ?_
  refine s_icmp_ge 123 140 rfl dX7_add_120 (by decide) (fun c4 => ?_) (fun c4 => ?_)
  · replace H := H.1 c4
    refine s_aload_n 141 0 rfl dX7_add_140 rfl rfl ?_
    refine s_dup 142 rfl dX7_add_141 (by decide : ¬ (2 : Nat) = 1) ?_
    refine s_getf 145 5 10 rfl dX7_add_142 ck7 rfl (by decide) rfl (by decide) w208 rfl (v := (0, h 5 10)) rfl ?_
    refine s_iconst 146 rfl dX7_add_145 ⟨by decide, by decide⟩ ?_
    have c0 := H.1
    replace H := H.2
    refine s_iadd 147 rfl dX7_add_146 c0 ?_
    refine s_putI 150 5 10 rfl dX7_add_147 ck7 rfl (by decide) rfl (by decide) w208 rfl rfl rfl ?_
    exact s_vret (S := []) dX7_add_150 rfl H
  · replace H := H.2 c4
    refine s_aload_n 124 0 rfl dX7_add_123 rfl rfl ?_
    refine s_getf 127 5 0 rfl dX7_add_124 ck7 rfl (by decide) rfl (by decide) w185 rfl (v := (2, 24)) rfl ?_
    refine s_iload 129 6 rfl dX7_add_127 rfl ?_
    refine s_aload_n 130 0 rfl dX7_add_129 rfl rfl ?_
    refine s_getf 133 5 10 rfl dX7_add_130 ck7 rfl (by decide) rfl (by decide) w208 rfl (v := (0, h 5 10)) rfl ?_
    have c1 := H.1
    replace H := H.2
    have c2 := H.1
    replace H := H.2
    refine s_iast 134 rfl dX7_add_133 ia24 c1 c2 ?_
    have c3 := H.1
    replace H := H.2
    refine s_iinc 137 6 rfl dX7_add_134 (by decide) (z := x6) rfl (L2 := [(2, 5), (9, 0), (9, 0), (9, 0), (0, x4), (9, 0), (0, x6 + 1)]) rfl c3 ?_
    refine s_goto 116 dX7_add_137 (by decide) ?_
    exact H
theorem vX7_findIn_0 {X : Nat × (Int → Int)} {h : HP} {Q : Int → HP → Prop} {x2 x3 : Int} (H : 0 ≤ x2 ∧ x2 < 300 ∧ Wd mX6_endOf X 0 [(2, 4), (0, x2)] [] h (fun r3 h4 => Wd mX6_nextCrossing X 0 [(2, 4), (0, x2), (0, h 21 x2), (0, x3), (9, 0), (9, 0), (9, 0), (9, 0)] [] h4 (fun r5 h6 => ((¬ r5 = (-1) → (inI (r5 - h 21 x2) ∧ Wd mX7_findIn X 67 [(2, 5), (2, 4), (0, x2), (0, x3), (9, 0), (0, r3), (0, h4 5 10), (0, r5), (0, h 21 x2), (9, 0)] [] (xu (xu h6 32 x2 (r5 - h 21 x2)) 33 x2 0) Q)) ∧ (r5 = (-1) → (inI (r3 - h 21 x2) ∧ Wd mX7_findIn X 67 [(2, 5), (2, 4), (0, x2), (0, x3), (9, 0), (0, r3), (0, h4 5 10), (0, r5), (0, h 21 x2), (9, 0)] [] (xu (xu h6 32 x2 (r3 - h 21 x2)) 33 x2 0) Q)))))) : Wd mX7_findIn X 0 [(2, 5), (2, 4), (0, x2), (0, x3), (9, 0), (9, 0), (9, 0), (9, 0), (9, 0), (9, 0)] [] h Q := by
  refine s_aload_n 1 1 rfl dX7_findIn_0 rfl rfl ?_
  refine s_getf 4 4 3 rfl dX7_findIn_1 ck6 rfl (by decide) rfl (by decide) w146 rfl (v := (2, 21)) rfl ?_
  refine s_iload_n 5 2 rfl dX7_findIn_4 rfl rfl ?_
  have c0 := H.1
  replace H := H.2
  have c1 := H.1
  replace H := H.2
  refine s_iald 6 rfl dX7_findIn_5 ia21 c0 c1 (v9 := h 21 x2) rfl ?_
  refine s_istore 8 4 rfl dX7_findIn_6 (by decide) (L2 := [(2, 5), (2, 4), (0, x2), (0, x3), (0, h 21 x2), (9, 0), (9, 0), (9, 0), (9, 0), (9, 0)]) rfl ?_
  refine s_aload_n 9 1 rfl dX7_findIn_8 rfl rfl ?_
  refine s_iload_n 10 2 rfl dX7_findIn_9 rfl rfl ?_
  refine s_callV (mj := mX6_endOf) (S := []) 13 [(0, x2)] [(2, 4), (0, x2)] 4 rfl dX7_findIn_10 okX6_endOf w521 w456 w457 rfl (by decide) rfl rfl rfl rfl npX6_endOf (Nat.le_of_ble_eq_true rfl) (by decide) (Nat.le_of_ble_eq_true rfl) rfl (Wd.imp H (fun r3 h4 H => ?_))
  show Wd mX7_findIn X 13 [(2, 5), (2, 4), (0, x2), (0, x3), (0, h 21 x2), (9, 0), (9, 0), (9, 0), (9, 0), (9, 0)] [(0, r3)] h4 Q
  refine s_istore 15 5 rfl dX7_findIn_13 (by decide) (L2 := [(2, 5), (2, 4), (0, x2), (0, x3), (0, h 21 x2), (0, r3), (9, 0), (9, 0), (9, 0), (9, 0)]) rfl ?_
  refine s_aload_n 16 0 rfl dX7_findIn_15 rfl rfl ?_
  refine s_getf 19 5 10 rfl dX7_findIn_16 ck7 rfl (by decide) rfl (by decide) w208 rfl (v := (0, h4 5 10)) rfl ?_
  refine s_istore 21 6 rfl dX7_findIn_19 (by decide) (L2 := [(2, 5), (2, 4), (0, x2), (0, x3), (0, h 21 x2), (0, r3), (0, h4 5 10), (9, 0), (9, 0), (9, 0)]) rfl ?_
  refine s_aload_n 22 1 rfl dX7_findIn_21 rfl rfl ?_
  refine s_iload_n 23 2 rfl dX7_findIn_22 rfl rfl ?_
  refine s_iload 25 4 rfl dX7_findIn_23 rfl ?_
  refine s_iload_n 26 3 rfl dX7_findIn_25 rfl rfl ?_
  refine s_callV (mj := mX6_nextCrossing) (S := []) 29 [(0, x2), (0, h 21 x2), (0, x3)] [(2, 4), (0, x2), (0, h 21 x2), (0, x3), (9, 0), (9, 0), (9, 0), (9, 0)] 4 rfl dX7_findIn_26 okX6_nextCrossing w522 w523 w524 rfl (by decide) rfl rfl rfl rfl npX6_nextCrossing (Nat.le_of_ble_eq_true rfl) (by decide) (Nat.le_of_ble_eq_true rfl) rfl (Wd.imp H (fun r5 h6 H => ?_))
  show Wd mX7_findIn X 29 [(2, 5), (2, 4), (0, x2), (0, x3), (0, h 21 x2), (0, r3), (0, h4 5 10), (9, 0), (9, 0), (9, 0)] [(0, r5)] h6 Q
  refine s_istore 31 7 rfl dX7_findIn_29 (by decide) (L2 := [(2, 5), (2, 4), (0, x2), (0, x3), (0, h 21 x2), (0, r3), (0, h4 5 10), (0, r5), (9, 0), (9, 0)]) rfl ?_
  refine s_aload_n 32 0 rfl dX7_findIn_31 rfl rfl ?_
  refine s_getf 35 5 8 rfl dX7_findIn_32 ck7 rfl (by decide) rfl (by decide) w204 rfl (v := (2, 32)) rfl ?_
  refine s_iload_n 36 2 rfl dX7_findIn_35 rfl rfl ?_
  refine s_iload 38 7 rfl dX7_findIn_36 rfl ?_
  refine s_iconst 39 rfl dX7_findIn_38 ⟨by decide, by decide⟩ ?_
  refine s_icmp_ne 42 50 rfl dX7_findIn_39 (by decide) (fun c8 => ?_) (fun c8 => ?_)
  · replace H := H.1 c8
    refine s_iload 52 7 rfl dX7_findIn_50 rfl ?_
    refine s_iload 54 4 rfl dX7_findIn_52 rfl ?_
    have c6 := H.1
    replace H := H.2
    refine s_isub 55 rfl dX7_findIn_54 c6 ?_
    refine s_iast 56 rfl dX7_findIn_55 ia32 c0 c1 ?_
    refine s_aload_n 57 0 rfl dX7_findIn_56 rfl rfl ?_
    refine s_getf 60 5 9 rfl dX7_findIn_57 ck7 rfl (by decide) rfl (by decide) w206 rfl (v := (2, 33)) rfl ?_
    refine s_iload_n 61 2 rfl dX7_findIn_60 rfl rfl ?_
    refine s_iconst 62 rfl dX7_findIn_61 ⟨by decide, by decide⟩ ?_
    refine s_iast 63 rfl dX7_findIn_62 ia33 c0 c1 ?_
    refine s_iload 65 4 rfl dX7_findIn_63 rfl ?_
    refine s_istore 67 8 rfl dX7_findIn_65 (by decide) (L2 := [(2, 5), (2, 4), (0, x2), (0, x3), (0, h 21 x2), (0, r3), (0, h4 5 10), (0, r5), (0, h 21 x2), (9, 0)]) rfl ?_
    exact s_less [(2, 5), (2, 4), (0, x2), (0, x3), (9, 0), (0, r3), (0, h4 5 10), (0, r5), (0, h 21 x2), (9, 0)] ⟨Or.inr rfl, Or.inr rfl, Or.inr rfl, Or.inr rfl, Or.inl rfl, Or.inr rfl, Or.inr rfl, Or.inr rfl, Or.inr rfl, Or.inl rfl, trivial⟩ H
  · replace H := H.2 c8
    refine s_iload 44 5 rfl dX7_findIn_42 rfl ?_
    refine s_iload 46 4 rfl dX7_findIn_44 rfl ?_
    have c7 := H.1
    replace H := H.2
    refine s_isub 47 rfl dX7_findIn_46 c7 ?_
    refine s_goto 55 dX7_findIn_47 (by decide) ?_
    refine s_iast 56 rfl dX7_findIn_55 ia32 c0 c1 ?_
    refine s_aload_n 57 0 rfl dX7_findIn_56 rfl rfl ?_
    refine s_getf 60 5 9 rfl dX7_findIn_57 ck7 rfl (by decide) rfl (by decide) w206 rfl (v := (2, 33)) rfl ?_
    refine s_iload_n 61 2 rfl dX7_findIn_60 rfl rfl ?_
    refine s_iconst 62 rfl dX7_findIn_61 ⟨by decide, by decide⟩ ?_
    refine s_iast 63 rfl dX7_findIn_62 ia33 c0 c1 ?_
    refine s_iload 65 4 rfl dX7_findIn_63 rfl ?_
    refine s_istore 67 8 rfl dX7_findIn_65 (by decide) (L2 := [(2, 5), (2, 4), (0, x2), (0, x3), (0, h 21 x2), (0, r3), (0, h4 5 10), (0, r5), (0, h 21 x2), (9, 0)]) rfl ?_
    exact s_less [(2, 5), (2, 4), (0, x2), (0, x3), (9, 0), (0, r3), (0, h4 5 10), (0, r5), (0, h 21 x2), (9, 0)] ⟨Or.inr rfl, Or.inr rfl, Or.inr rfl, Or.inr rfl, Or.inl rfl, Or.inr rfl, Or.inr rfl, Or.inr rfl, Or.inr rfl, Or.inl rfl, trivial⟩ H
theorem vX7_findIn_67 {X : Nat × (Int → Int)} {h : HP} {Q : Int → HP → Prop} {x2 x3 x5 x6 x7 x8 : Int} (H : ((x5 ≤ x8 → (inI (h 5 10 - x6) ∧ 0 ≤ x2 ∧ x2 < 300 ∧ Q 0 (xu h 31 x2 (h 5 10 - x6)))) ∧ (¬ (x5 ≤ x8) → ((x7 = (-1) → (inI (h 5 10 - x6) ∧ 0 ≤ x2 ∧ x2 < 300 ∧ Q 0 (xu h 31 x2 (h 5 10 - x6)))) ∧ (¬ x7 = (-1) → (inI (x7 + 1) ∧ Wd mX6_nextCrossing X 0 [(2, 4), (0, x2), (0, x7 + 1), (0, x3), (9, 0), (9, 0), (9, 0), (9, 0)] [] h (fun r8 h9 => ((¬ r8 = (-1) → (Wd mX7_add X 0 [(2, 5), (2, 4), (0, x2), (0, x7), (0, r8), (9, 0), (9, 0)] [] h9 (fun _ h11 => inI (x8 + 1) ∧ Wd mX7_findIn X 67 [(2, 5), (2, 4), (0, x2), (0, x3), (9, 0), (0, x5), (0, x6), (0, r8), (0, x8 + 1), (9, 0)] [] h11 Q))) ∧ (r8 = (-1) → (inI (x5 - x7) ∧ 0 ≤ x2 ∧ x2 < 300 ∧ inI (x8 + 1) ∧ Wd mX7_findIn X 67 [(2, 5), (2, 4), (0, x2), (0, x3), (9, 0), (0, x5), (0, x6), (0, r8), (0, x8 + 1), (9, 0)] [] (xu h9 33 x2 (x5 - x7)) Q)))))))))) : Wd mX7_findIn X 67 [(2, 5), (2, 4), (0, x2), (0, x3), (9, 0), (0, x5), (0, x6), (0, x7), (0, x8), (9, 0)] [] h Q := by
  refine s_iload 69 8 rfl dX7_findIn_67 rfl ?_
  refine s_iload 71 5 rfl dX7_findIn_69 rfl ?_
  refine s_icmp_ge 74 132 rfl dX7_findIn_71 (by decide) (fun c18 => ?_) (fun c18 => ?_)
  · replace H := H.1 c18
    refine s_aload_n 133 0 rfl dX7_findIn_132 rfl rfl ?_
    refine s_getf 136 5 7 rfl dX7_findIn_133 ck7 rfl (by decide) rfl (by decide) w202 rfl (v := (2, 31)) rfl ?_
    refine s_iload_n 137 2 rfl dX7_findIn_136 rfl rfl ?_
    refine s_aload_n 138 0 rfl dX7_findIn_137 rfl rfl ?_
    refine s_getf 141 5 10 rfl dX7_findIn_138 ck7 rfl (by decide) rfl (by decide) w208 rfl (v := (0, h 5 10)) rfl ?_
    refine s_iload 143 6 rfl dX7_findIn_141 rfl ?_
    have c0 := H.1
    replace H := H.2
    refine s_isub 144 rfl dX7_findIn_143 c0 ?_
    have c1 := H.1
    replace H := H.2
    have c2 := H.1
    replace H := H.2
    refine s_iast 145 rfl dX7_findIn_144 ia31 c1 c2 ?_
    exact s_vret (S := []) dX7_findIn_145 rfl H
  · replace H := H.2 c18
    refine s_iload 76 7 rfl dX7_findIn_74 rfl ?_
    refine s_iconst 77 rfl dX7_findIn_76 ⟨by decide, by decide⟩ ?_
    refine s_icmp_eq 80 132 rfl dX7_findIn_77 (by decide) (fun c17 => ?_) (fun c17 => ?_)
    · replace H := H.1 c17
      refine s_aload_n 133 0 rfl dX7_findIn_132 rfl rfl ?_
      refine s_getf 136 5 7 rfl dX7_findIn_133 ck7 rfl (by decide) rfl (by decide) w202 rfl (v := (2, 31)) rfl ?_
      refine s_iload_n 137 2 rfl dX7_findIn_136 rfl rfl ?_
      refine s_aload_n 138 0 rfl dX7_findIn_137 rfl rfl ?_
      refine s_getf 141 5 10 rfl dX7_findIn_138 ck7 rfl (by decide) rfl (by decide) w208 rfl (v := (0, h 5 10)) rfl ?_
      refine s_iload 143 6 rfl dX7_findIn_141 rfl ?_
      have c3 := H.1
      replace H := H.2
      refine s_isub 144 rfl dX7_findIn_143 c3 ?_
      have c4 := H.1
      replace H := H.2
      have c5 := H.1
      replace H := H.2
      refine s_iast 145 rfl dX7_findIn_144 ia31 c4 c5 ?_
      exact s_vret (S := []) dX7_findIn_145 rfl H
    · replace H := H.2 c17
      refine s_aload_n 81 1 rfl dX7_findIn_80 rfl rfl ?_
      refine s_iload_n 82 2 rfl dX7_findIn_81 rfl rfl ?_
      refine s_iload 84 7 rfl dX7_findIn_82 rfl ?_
      refine s_iconst 85 rfl dX7_findIn_84 ⟨by decide, by decide⟩ ?_
      have c6 := H.1
      replace H := H.2
      refine s_iadd 86 rfl dX7_findIn_85 c6 ?_
      refine s_iload_n 87 3 rfl dX7_findIn_86 rfl rfl ?_
      refine s_callV (mj := mX6_nextCrossing) (S := []) 90 [(0, x2), (0, x7 + 1), (0, x3)] [(2, 4), (0, x2), (0, x7 + 1), (0, x3), (9, 0), (9, 0), (9, 0), (9, 0)] 4 rfl dX7_findIn_87 okX6_nextCrossing w522 w523 w524 rfl (by decide) rfl rfl rfl rfl npX6_nextCrossing (Nat.le_of_ble_eq_true rfl) (by decide) (Nat.le_of_ble_eq_true rfl) rfl (Wd.imp H (fun r8 h9 H => ?_))
      show Wd mX7_findIn X 90 [(2, 5), (2, 4), (0, x2), (0, x3), (9, 0), (0, x5), (0, x6), (0, x7), (0, x8), (9, 0)] [(0, r8)] h9 Q
      refine s_istore 92 9 rfl dX7_findIn_90 (by decide) (L2 := [(2, 5), (2, 4), (0, x2), (0, x3), (9, 0), (0, x5), (0, x6), (0, x7), (0, x8), (0, r8)]) rfl ?_
      refine s_iload 94 9 rfl dX7_findIn_92 rfl ?_
      refine s_iconst 95 rfl dX7_findIn_94 ⟨by decide, by decide⟩ ?_
      refine s_icmp_ne 98 112 rfl dX7_findIn_95 (by decide) (fun c16 => ?_) (fun c16 => ?_)
      · replace H := H.1 c16
        refine s_aload_n 113 0 rfl dX7_findIn_112 rfl rfl ?_
        refine s_aload_n 114 1 rfl dX7_findIn_113 rfl rfl ?_
        refine s_iload_n 115 2 rfl dX7_findIn_114 rfl rfl ?_
        refine s_iload 117 7 rfl dX7_findIn_115 rfl ?_
        refine s_iload 119 9 rfl dX7_findIn_117 rfl ?_
        refine s_callV (mj := mX7_add) (S := []) 122 [(2, 4), (0, x2), (0, x7), (0, r8)] [(2, 5), (2, 4), (0, x2), (0, x7), (0, r8), (9, 0), (9, 0)] 5 rfl dX7_findIn_119 okX7_add w526 w528 w8 rfl (by decide) rfl rfl rfl rfl npX7_add (Nat.le_of_ble_eq_true rfl) (by decide) (Nat.le_of_ble_eq_true rfl) rfl (Wd.imp H (fun _ h11 H => ?_))
        show Wd mX7_findIn X 122 [(2, 5), (2, 4), (0, x2), (0, x3), (9, 0), (0, x5), (0, x6), (0, x7), (0, x8), (0, r8)] [] h11 Q
        refine s_iload 124 9 rfl dX7_findIn_122 rfl ?_
        refine s_istore 126 7 rfl dX7_findIn_124 (by decide) (L2 := [(2, 5), (2, 4), (0, x2), (0, x3), (9, 0), (0, x5), (0, x6), (0, r8), (0, x8), (0, r8)]) rfl ?_
        have c11 := H.1
        replace H := H.2
        refine s_iinc 129 8 rfl dX7_findIn_126 (by decide) (z := x8) rfl (L2 := [(2, 5), (2, 4), (0, x2), (0, x3), (9, 0), (0, x5), (0, x6), (0, r8), (0, x8 + 1), (0, r8)]) rfl c11 ?_
        refine s_goto 67 dX7_findIn_129 (by decide) ?_
        exact s_less [(2, 5), (2, 4), (0, x2), (0, x3), (9, 0), (0, x5), (0, x6), (0, r8), (0, x8 + 1), (9, 0)] ⟨Or.inr rfl, Or.inr rfl, Or.inr rfl, Or.inr rfl, Or.inl rfl, Or.inr rfl, Or.inr rfl, Or.inr rfl, Or.inr rfl, Or.inl rfl, trivial⟩ H
      · replace H := H.2 c16
        refine s_aload_n 99 0 rfl dX7_findIn_98 rfl rfl ?_
        refine s_getf 102 5 9 rfl dX7_findIn_99 ck7 rfl (by decide) rfl (by decide) w206 rfl (v := (2, 33)) rfl ?_
        refine s_iload_n 103 2 rfl dX7_findIn_102 rfl rfl ?_
        refine s_iload 105 5 rfl dX7_findIn_103 rfl ?_
        refine s_iload 107 7 rfl dX7_findIn_105 rfl ?_
        have c12 := H.1
        replace H := H.2
        refine s_isub 108 rfl dX7_findIn_107 c12 ?_
        have c13 := H.1
        replace H := H.2
        have c14 := H.1
        replace H := H.2
        refine s_iast 109 rfl dX7_findIn_108 ia33 c13 c14 ?_
        refine s_goto 122 dX7_findIn_109 (by decide) ?_
        refine s_iload 124 9 rfl dX7_findIn_122 rfl ?_
        refine s_istore 126 7 rfl dX7_findIn_124 (by decide) (L2 := [(2, 5), (2, 4), (0, x2), (0, x3), (9, 0), (0, x5), (0, x6), (0, r8), (0, x8), (0, r8)]) rfl ?_
        have c15 := H.1
        replace H := H.2
        refine s_iinc 129 8 rfl dX7_findIn_126 (by decide) (z := x8) rfl (L2 := [(2, 5), (2, 4), (0, x2), (0, x3), (9, 0), (0, x5), (0, x6), (0, r8), (0, x8 + 1), (0, r8)]) rfl c15 ?_
        refine s_goto 67 dX7_findIn_129 (by decide) ?_
        exact s_less [(2, 5), (2, 4), (0, x2), (0, x3), (9, 0), (0, x5), (0, x6), (0, r8), (0, x8 + 1), (9, 0)] ⟨Or.inr rfl, Or.inr rfl, Or.inr rfl, Or.inr rfl, Or.inl rfl, Or.inr rfl, Or.inr rfl, Or.inr rfl, Or.inr rfl, Or.inl rfl, trivial⟩ H
theorem vX7_find_0 {X : Nat × (Int → Int)} {h : HP} {Q : Int → HP → Prop} {x2 x3 : Int} (H : Wd mX7_find X 8 [(2, 5), (2, 4), (0, x2), (0, x3), (0, 0)] [] (xu h 5 10 0) Q) : Wd mX7_find X 0 [(2, 5), (2, 4), (0, x2), (0, x3), (9, 0)] [] h Q := by
  refine s_aload_n 1 0 rfl dX7_find_0 rfl rfl ?_
  refine s_iconst 2 rfl dX7_find_1 ⟨by decide, by decide⟩ ?_
  refine s_putI 5 5 10 rfl dX7_find_2 ck7 rfl (by decide) rfl (by decide) w208 rfl rfl rfl ?_
  refine s_iconst 6 rfl dX7_find_5 ⟨by decide, by decide⟩ ?_
  refine s_istore 8 4 rfl dX7_find_6 (by decide) (L2 := [(2, 5), (2, 4), (0, x2), (0, x3), (0, 0)]) rfl ?_
  exact H
theorem vX7_find_8 {X : Nat × (Int → Int)} {h : HP} {Q : Int → HP → Prop} {x2 x3 x4 : Int} (H : ((x2 ≤ x4 → (Wd mX7_find X 31 [(2, 5), (2, 4), (9, 0), (0, x3), (0, 0)] [] h Q)) ∧ (¬ (x2 ≤ x4) → (0 ≤ x4 ∧ x4 < 600 ∧ inI (x4 + 1) ∧ Wd mX7_find X 8 [(2, 5), (2, 4), (0, x2), (0, x3), (0, x4 + 1)] [] (xu h 24 x4 (-1)) Q)))) : Wd mX7_find X 8 [(2, 5), (2, 4), (0, x2), (0, x3), (0, x4)] [] h Q := by
  refine s_iload 10 4 rfl dX7_find_8 rfl ?_
  refine s_iload_n 11 2 rfl dX7_find_10 rfl rfl ?_
  refine s_icmp_ge 14 28 rfl dX7_find_11 (by decide) (fun c3 => ?_) (fun c3 => ?_)
  · replace H := H.1 c3
    refine s_iconst 29 rfl dX7_find_28 ⟨by decide, by decide⟩ ?_
    refine s_istore 31 4 rfl dX7_find_29 (by decide) (L2 := [(2, 5), (2, 4), (0, x2), (0, x3), (0, 0)]) rfl ?_
    exact s_less [(2, 5), (2, 4), (9, 0), (0, x3), (0, 0)] ⟨Or.inr rfl, Or.inr rfl, Or.inl rfl, Or.inr rfl, Or.inr rfl, trivial⟩ H
  · replace H := H.2 c3
    refine s_aload_n 15 0 rfl dX7_find_14 rfl rfl ?_
    refine s_getf 18 5 0 rfl dX7_find_15 ck7 rfl (by decide) rfl (by decide) w185 rfl (v := (2, 24)) rfl ?_
    refine s_iload 20 4 rfl dX7_find_18 rfl ?_
    refine s_iconst 21 rfl dX7_find_20 ⟨by decide, by decide⟩ ?_
    have c0 := H.1
    replace H := H.2
    have c1 := H.1
    replace H := H.2
    refine s_iast 22 rfl dX7_find_21 ia24 c0 c1 ?_
    have c2 := H.1
    replace H := H.2
    refine s_iinc 25 4 rfl dX7_find_22 (by decide) (z := x4) rfl (L2 := [(2, 5), (2, 4), (0, x2), (0, x3), (0, x4 + 1)]) rfl c2 ?_
    refine s_goto 8 dX7_find_25 (by decide) ?_
    exact H
theorem vX7_find_31 {X : Nat × (Int → Int)} {h : HP} {Q : Int → HP → Prop} {x3 x4 : Int} (H : ((h 4 6 ≤ x4 → (Q 0 h)) ∧ (¬ (h 4 6 ≤ x4) → (Wd mX7_findIn X 0 [(2, 5), (2, 4), (0, x4), (0, x3), (9, 0), (9, 0), (9, 0), (9, 0), (9, 0), (9, 0)] [] h (fun _ h2 => inI (x4 + 1) ∧ Wd mX7_find X 31 [(2, 5), (2, 4), (9, 0), (0, x3), (0, x4 + 1)] [] h2 Q))))) : Wd mX7_find X 31 [(2, 5), (2, 4), (9, 0), (0, x3), (0, x4)] [] h Q := by
  refine s_iload 33 4 rfl dX7_find_31 rfl ?_
  refine s_aload_n 34 1 rfl dX7_find_33 rfl rfl ?_
  refine s_getf 37 4 6 rfl dX7_find_34 ck6 rfl (by decide) rfl (by decide) w154 rfl (v := (0, h 4 6)) rfl ?_
  refine s_icmp_ge 40 54 rfl dX7_find_37 (by decide) (fun c3 => ?_) (fun c3 => ?_)
  · replace H := H.1 c3
    exact s_vret (S := []) dX7_find_54 rfl H
  · replace H := H.2 c3
    refine s_aload_n 41 0 rfl dX7_find_40 rfl rfl ?_
    refine s_aload_n 42 1 rfl dX7_find_41 rfl rfl ?_
    refine s_iload 44 4 rfl dX7_find_42 rfl ?_
    refine s_iload_n 45 3 rfl dX7_find_44 rfl rfl ?_
    refine s_callV (mj := mX7_findIn) (S := []) 48 [(2, 4), (0, x4), (0, x3)] [(2, 5), (2, 4), (0, x4), (0, x3), (9, 0), (9, 0), (9, 0), (9, 0), (9, 0), (9, 0)] 5 rfl dX7_find_45 okX7_findIn w517 w519 w7 rfl (by decide) rfl rfl rfl rfl npX7_findIn (Nat.le_of_ble_eq_true rfl) (by decide) (Nat.le_of_ble_eq_true rfl) rfl (Wd.imp H (fun _ h2 H => ?_))
    show Wd mX7_find X 48 [(2, 5), (2, 4), (9, 0), (0, x3), (0, x4)] [] h2 Q
    have c2 := H.1
    replace H := H.2
    refine s_iinc 51 4 rfl dX7_find_48 (by decide) (z := x4) rfl (L2 := [(2, 5), (2, 4), (9, 0), (0, x3), (0, x4 + 1)]) rfl c2 ?_
    refine s_goto 31 dX7_find_51 (by decide) ?_
    exact H
theorem vX7_periodsFrom_0 {X : Nat × (Int → Int)} {h : HP} {Q : Int → HP → Prop} {x1 x2 : Int} (H : Wd mX7_periodsFrom X 5 [(2, 5), (9, 0), (0, x2), (0, 0), (0, x1)] [] h Q) : Wd mX7_periodsFrom X 0 [(2, 5), (0, x1), (0, x2), (9, 0), (9, 0)] [] h Q := by
  refine s_iconst 1 rfl dX7_periodsFrom_0 ⟨by decide, by decide⟩ ?_
  refine s_istore_n 2 3 rfl dX7_periodsFrom_1 rfl (by decide) (L2 := [(2, 5), (0, x1), (0, x2), (0, 0), (9, 0)]) rfl ?_
  refine s_iload_n 3 1 rfl dX7_periodsFrom_2 rfl rfl ?_
  refine s_istore 5 4 rfl dX7_periodsFrom_3 (by decide) (L2 := [(2, 5), (0, x1), (0, x2), (0, 0), (0, x1)]) rfl ?_
  exact s_less [(2, 5), (9, 0), (0, x2), (0, 0), (0, x1)] ⟨Or.inr rfl, Or.inl rfl, Or.inr rfl, Or.inr rfl, Or.inr rfl, trivial⟩ H
theorem vX7_periodsFrom_5 {X : Nat × (Int → Int)} {h : HP} {Q : Int → HP → Prop} {x2 x3 x4 : Int} (H : ((x2 ≤ x4 → (Q x3 h)) ∧ (¬ (x2 ≤ x4) → (0 ≤ x4 ∧ x4 < 300 ∧ inI (x3 + h 26 x4) ∧ inI (x4 + 1) ∧ Wd mX7_periodsFrom X 5 [(2, 5), (9, 0), (0, x2), (0, x3 + h 26 x4), (0, x4 + 1)] [] h Q)))) : Wd mX7_periodsFrom X 5 [(2, 5), (9, 0), (0, x2), (0, x3), (0, x4)] [] h Q := by
  refine s_iload 7 4 rfl dX7_periodsFrom_5 rfl ?_
  refine s_iload_n 8 2 rfl dX7_periodsFrom_7 rfl rfl ?_
  refine s_icmp_ge 11 27 rfl dX7_periodsFrom_8 (by decide) (fun c4 => ?_) (fun c4 => ?_)
  · replace H := H.1 c4
    refine s_iload_n 28 3 rfl dX7_periodsFrom_27 rfl rfl ?_
    exact s_iret (S := []) dX7_periodsFrom_28 rfl H
  · replace H := H.2 c4
    refine s_iload_n 12 3 rfl dX7_periodsFrom_11 rfl rfl ?_
    refine s_aload_n 13 0 rfl dX7_periodsFrom_12 rfl rfl ?_
    refine s_getf 16 5 2 rfl dX7_periodsFrom_13 ck7 rfl (by decide) rfl (by decide) w189 rfl (v := (2, 26)) rfl ?_
    refine s_iload 18 4 rfl dX7_periodsFrom_16 rfl ?_
    have c0 := H.1
    replace H := H.2
    have c1 := H.1
    replace H := H.2
    refine s_iald 19 rfl dX7_periodsFrom_18 ia26 c0 c1 (v9 := h 26 x4) rfl ?_
    have c2 := H.1
    replace H := H.2
    refine s_iadd 20 rfl dX7_periodsFrom_19 c2 ?_
    refine s_istore_n 21 3 rfl dX7_periodsFrom_20 rfl (by decide) (L2 := [(2, 5), (9, 0), (0, x2), (0, x3 + h 26 x4), (0, x4)]) rfl ?_
    have c3 := H.1
    replace H := H.2
    refine s_iinc 24 4 rfl dX7_periodsFrom_21 (by decide) (z := x4) rfl (L2 := [(2, 5), (9, 0), (0, x2), (0, x3 + h 26 x4), (0, x4 + 1)]) rfl c3 ?_
    refine s_goto 5 dX7_periodsFrom_24 (by decide) ?_
    exact H
theorem vX7_squaresFrom_0 {X : Nat × (Int → Int)} {h : HP} {Q : Int → HP → Prop} {x1 x2 : Int} (H : Wd mX7_squaresFrom X 5 [(2, 5), (9, 0), (0, x2), (1, 0), (9, 0), (0, x1)] [] h Q) : Wd mX7_squaresFrom X 0 [(2, 5), (0, x1), (0, x2), (9, 0), (9, 0), (9, 0)] [] h Q := by
  refine s_lconst 1 0 rfl dX7_squaresFrom_0 (by decide) ⟨by decide, by decide⟩ ?_
  refine s_lstore_n 2 3 rfl dX7_squaresFrom_1 rfl (by decide) (L2 := [(2, 5), (0, x1), (0, x2), (1, 0), (9, 0), (9, 0)]) rfl ?_
  refine s_iload_n 3 1 rfl dX7_squaresFrom_2 rfl rfl ?_
  refine s_istore 5 5 rfl dX7_squaresFrom_3 (by decide) (L2 := [(2, 5), (0, x1), (0, x2), (1, 0), (9, 0), (0, x1)]) rfl ?_
  exact s_less [(2, 5), (9, 0), (0, x2), (1, 0), (9, 0), (0, x1)] ⟨Or.inr rfl, Or.inl rfl, Or.inr rfl, Or.inr rfl, Or.inl rfl, Or.inr rfl, trivial⟩ H
theorem vX7_squaresFrom_5 {X : Nat × (Int → Int)} {h : HP} {Q : Int → HP → Prop} {x2 x3 x5 : Int} (H : ((x2 ≤ x5 → (Q x3 h)) ∧ (¬ (x2 ≤ x5) → (0 ≤ x5 ∧ x5 < 300 ∧ inJ (h 27 x5 * h 27 x5) ∧ inJ (x3 + h 27 x5 * h 27 x5) ∧ inI (x5 + 1) ∧ Wd mX7_squaresFrom X 5 [(2, 5), (9, 0), (0, x2), (1, x3 + h 27 x5 * h 27 x5), (9, 0), (0, x5 + 1)] [] h Q)))) : Wd mX7_squaresFrom X 5 [(2, 5), (9, 0), (0, x2), (1, x3), (9, 0), (0, x5)] [] h Q := by
  refine s_iload 7 5 rfl dX7_squaresFrom_5 rfl ?_
  refine s_iload_n 8 2 rfl dX7_squaresFrom_7 rfl rfl ?_
  refine s_icmp_ge 11 37 rfl dX7_squaresFrom_8 (by decide) (fun c5 => ?_) (fun c5 => ?_)
  · replace H := H.1 c5
    refine s_lload_n 38 3 rfl dX7_squaresFrom_37 rfl rfl ?_
    exact s_lret (S := []) dX7_squaresFrom_38 rfl H
  · replace H := H.2 c5
    refine s_lload_n 12 3 rfl dX7_squaresFrom_11 rfl rfl ?_
    refine s_aload_n 13 0 rfl dX7_squaresFrom_12 rfl rfl ?_
    refine s_getf 16 5 3 rfl dX7_squaresFrom_13 ck7 rfl (by decide) rfl (by decide) w192 rfl (v := (2, 27)) rfl ?_
    refine s_iload 18 5 rfl dX7_squaresFrom_16 rfl ?_
    have c0 := H.1
    replace H := H.2
    have c1 := H.1
    replace H := H.2
    refine s_iald 19 rfl dX7_squaresFrom_18 ia27 c0 c1 (v9 := h 27 x5) rfl ?_
    refine s_i2l 20 rfl dX7_squaresFrom_19 ?_
    refine s_aload_n 21 0 rfl dX7_squaresFrom_20 rfl rfl ?_
    refine s_getf 24 5 3 rfl dX7_squaresFrom_21 ck7 rfl (by decide) rfl (by decide) w192 rfl (v := (2, 27)) rfl ?_
    refine s_iload 26 5 rfl dX7_squaresFrom_24 rfl ?_
    refine s_iald 27 rfl dX7_squaresFrom_26 ia27 c0 c1 (v9 := h 27 x5) rfl ?_
    refine s_i2l 28 rfl dX7_squaresFrom_27 ?_
    have c2 := H.1
    replace H := H.2
    refine s_lmul 29 rfl dX7_squaresFrom_28 c2 ?_
    have c3 := H.1
    replace H := H.2
    refine s_ladd 30 rfl dX7_squaresFrom_29 c3 ?_
    refine s_lstore_n 31 3 rfl dX7_squaresFrom_30 rfl (by decide) (L2 := [(2, 5), (9, 0), (0, x2), (1, x3 + h 27 x5 * h 27 x5), (9, 0), (0, x5)]) rfl ?_
    have c4 := H.1
    replace H := H.2
    refine s_iinc 34 5 rfl dX7_squaresFrom_31 (by decide) (z := x5) rfl (L2 := [(2, 5), (9, 0), (0, x2), (1, x3 + h 27 x5 * h 27 x5), (9, 0), (0, x5 + 1)]) rfl c4 ?_
    refine s_goto 5 dX7_squaresFrom_34 (by decide) ?_
    exact H
