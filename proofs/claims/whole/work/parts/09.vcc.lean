theorem vX8_meanDown_0 {X : Nat × (Int → Int)} {h : HP} {Q : Int → HP → Prop} {x0 x2 : Int} (H : ((1 ≤ x2 → (Wd mJ9_floorDiv_f86c9 X 0 [(1, x0), (9, 0), (1, x2), (9, 0), (9, 0), (9, 0)] [] h (fun r1 h2 => inI r1 ∧ Q r1 h2))) ∧ (¬ (1 ≤ x2) → (Q 0 h)))) : Wd mX8_meanDown X 0 [(1, x0), (9, 0), (0, x2)] [] h Q := by
  refine s_iload_n 1 2 rfl dX8_meanDown_0 rfl rfl ?_
  refine s_iconst 2 rfl dX8_meanDown_1 ⟨by decide, by decide⟩ ?_
  refine s_icmp_ge 5 9 rfl dX8_meanDown_2 (by decide) (fun c3 => ?_) (fun c3 => ?_)
  · replace H := H.1 c3
    refine s_lload_n 10 0 rfl dX8_meanDown_9 rfl rfl ?_
    refine s_iload_n 11 2 rfl dX8_meanDown_10 rfl rfl ?_
    refine s_i2l 12 rfl dX8_meanDown_11 ?_
    refine s_callS (mj := mJ9_floorDiv_f86c9) (S := []) 15 [(1, x0), (1, x2)] [(1, x0), (9, 0), (1, x2), (9, 0), (9, 0), (9, 0)] rfl dX8_meanDown_12 okJ9_floorDiv_f86c9 w444 w445 rfl npJ9_floorDiv_f86c9 (Nat.le_of_ble_eq_true rfl) (by decide) (Nat.le_of_ble_eq_true rfl) rfl (Wd.imp H (fun r1 h2 H => ?_))
    show Wd mX8_meanDown X 15 [(1, x0), (9, 0), (0, x2)] [(1, r1)] h2 Q
    have c2 := H.1
    replace H := H.2
    refine s_l2i 16 rfl dX8_meanDown_15 c2 ?_
    exact s_iret (S := []) dX8_meanDown_16 rfl H
  · replace H := H.2 c3
    refine s_iconst 6 rfl dX8_meanDown_5 ⟨by decide, by decide⟩ ?_
    refine s_goto 16 dX8_meanDown_6 (by decide) ?_
    exact s_iret (S := []) dX8_meanDown_16 rfl H
theorem vX8_heave_0 {X : Nat × (Int → Int)} {h : HP} {Q : Int → HP → Prop} {x1 : Int} (H : Wd mX3_canCome X 0 [(0, x1)] [] h (fun r1 h2 => ((r1 = 0 → (Q (-1) h2)) ∧ (¬ r1 = 0 → (Wd mX3_room X 0 [(2, 3)] [] h2 (fun r3 h4 => ((1 ≤ r3 → (Wd mX3_add X 0 [(2, 3), (0, x1)] [] h4 (fun _ h6 => Q (h6 3 2) (xu h6 0 8 1)))) ∧ (¬ (1 ≤ r3) → (Q (-1) h4))))))))) : Wd mX8_heave X 0 [(2, 0), (0, x1)] [] h Q := by
  refine s_iload_n 1 1 rfl dX8_heave_0 rfl rfl ?_
  refine s_callS (mj := mX3_canCome) (S := []) 4 [(0, x1)] [(0, x1)] rfl dX8_heave_1 okX3_canCome w338 w339 rfl npX3_canCome (Nat.le_of_ble_eq_true rfl) (by decide) (Nat.le_of_ble_eq_true rfl) rfl (Wd.imp H (fun r1 h2 H => ?_))
  show Wd mX8_heave X 4 [(2, 0), (0, x1)] [(0, r1)] h2 Q
  refine s_if_eq 7 18 rfl dX8_heave_4 (by decide) (fun c7 => ?_) (fun c7 => ?_)
  · replace H := H.1 c7
    refine s_iconst 19 rfl dX8_heave_18 ⟨by decide, by decide⟩ ?_
    exact s_iret (S := []) dX8_heave_19 rfl H
  · replace H := H.2 c7
    refine s_aload_n 8 0 rfl dX8_heave_7 rfl rfl ?_
    refine s_getf 11 0 2 rfl dX8_heave_8 ck8 rfl (by decide) rfl (by decide) w308 rfl (v := (2, 3)) rfl ?_
    refine s_callV (mj := mX3_room) (S := []) 14 [] [(2, 3)] 3 rfl dX8_heave_11 okX3_room w341 w342 w343 rfl (by decide) rfl rfl rfl rfl npX3_room (Nat.le_of_ble_eq_true rfl) (by decide) (Nat.le_of_ble_eq_true rfl) rfl (Wd.imp H (fun r3 h4 H => ?_))
    show Wd mX8_heave X 14 [(2, 0), (0, x1)] [(0, r3)] h4 Q
    refine s_iconst 15 rfl dX8_heave_14 ⟨by decide, by decide⟩ ?_
    refine s_icmp_ge 18 20 rfl dX8_heave_15 (by decide) (fun c6 => ?_) (fun c6 => ?_)
    · replace H := H.1 c6
      refine s_aload_n 21 0 rfl dX8_heave_20 rfl rfl ?_
      refine s_getf 24 0 2 rfl dX8_heave_21 ck8 rfl (by decide) rfl (by decide) w308 rfl (v := (2, 3)) rfl ?_
      refine s_iload_n 25 1 rfl dX8_heave_24 rfl rfl ?_
      refine s_callV (mj := mX3_add) (S := []) 28 [(0, x1)] [(2, 3), (0, x1)] 3 rfl dX8_heave_25 okX3_add w345 w346 w347 rfl (by decide) rfl rfl rfl rfl npX3_add (Nat.le_of_ble_eq_true rfl) (by decide) (Nat.le_of_ble_eq_true rfl) rfl (Wd.imp H (fun _ h6 H => ?_))
      show Wd mX8_heave X 28 [(2, 0), (0, x1)] [] h6 Q
      refine s_aload_n 29 0 rfl dX8_heave_28 rfl rfl ?_
      refine s_iconst 30 rfl dX8_heave_29 ⟨by decide, by decide⟩ ?_
      refine s_putZ 33 0 8 rfl dX8_heave_30 ck8 rfl (by decide) rfl (by decide) w314 rfl rfl rfl (Or.inr rfl) ?_
      refine s_aload_n 34 0 rfl dX8_heave_33 rfl rfl ?_
      refine s_getf 37 0 2 rfl dX8_heave_34 ck8 rfl (by decide) rfl (by decide) w308 rfl (v := (2, 3)) rfl ?_
      refine s_getf 40 3 2 rfl dX8_heave_37 ck3 rfl (by decide) rfl (by decide) w121 rfl (v := (0, h6 3 2)) (by show (0, (xu h6 0 8 1) 3 2) = _; rw [(xu_k (by decide))]) ?_
      exact s_iret (S := []) dX8_heave_40 rfl H
    · replace H := H.2 c6
      refine s_iconst 19 rfl dX8_heave_18 ⟨by decide, by decide⟩ ?_
      exact s_iret (S := []) dX8_heave_19 rfl H
theorem vX8_four_0 {X : Nat × (Int → Int)} {h : HP} {Q : Int → HP → Prop} {x1 : Int} (H : Wd mX3_canCome X 0 [(0, Int.bmod (Int.bmod ((Int64.ofInt x1 >>> ((Int32.ofInt 48).toInt64 &&& 63)).toInt) 4294967296) 65536)] [] h (fun r1 h2 => ((r1 = 0 → (Q (-1) h2)) ∧ (¬ r1 = 0 → (Wd mX3_canCome X 0 [(0, Int.bmod (Int.bmod ((Int64.ofInt x1 >>> ((Int32.ofInt 32).toInt64 &&& 63)).toInt) 4294967296) 65536)] [] h2 (fun r4 h5 => ((r4 = 0 → (Q (-1) h5)) ∧ (¬ r4 = 0 → (Wd mX3_canCome X 0 [(0, Int.bmod (Int.bmod ((Int64.ofInt x1 >>> ((Int32.ofInt 16).toInt64 &&& 63)).toInt) 4294967296) 65536)] [] h5 (fun r7 h8 => ((r7 = 0 → (Q (-1) h8)) ∧ (¬ r7 = 0 → (Wd mX3_canCome X 0 [(0, Int.bmod (Int.bmod x1 4294967296) 65536)] [] h8 (fun r10 h11 => ((r10 = 0 → (Q (-1) h11)) ∧ (¬ r10 = 0 → (Wd mX3_room X 0 [(2, 3)] [] h11 (fun r14 h15 => ((4 ≤ r14 → (Wd mX3_add X 0 [(2, 3), (0, Int.bmod (Int.bmod ((Int64.ofInt x1 >>> ((Int32.ofInt 48).toInt64 &&& 63)).toInt) 4294967296) 65536)] [] h15 (fun _ h17 => Wd mX3_add X 0 [(2, 3), (0, Int.bmod (Int.bmod ((Int64.ofInt x1 >>> ((Int32.ofInt 32).toInt64 &&& 63)).toInt) 4294967296) 65536)] [] h17 (fun _ h19 => Wd mX3_add X 0 [(2, 3), (0, Int.bmod (Int.bmod ((Int64.ofInt x1 >>> ((Int32.ofInt 16).toInt64 &&& 63)).toInt) 4294967296) 65536)] [] h19 (fun _ h21 => Wd mX3_add X 0 [(2, 3), (0, Int.bmod (Int.bmod x1 4294967296) 65536)] [] h21 (fun _ h23 => Q (h23 3 2) (xu h23 0 8 1))))))) ∧ (¬ (4 ≤ r14) → (Q (-1) h15))))))))))))))))))))) : Wd mX8_four X 0 [(2, 0), (1, x1), (9, 0), (9, 0), (9, 0), (9, 0), (9, 0), (9, 0)] [] h Q := by
  refine s_lload_n 1 1 rfl dX8_four_0 rfl rfl ?_
  refine s_bipush 3 rfl dX8_four_1 (by decide) ⟨by decide, by decide⟩ ?_
  refine s_lshr 4 rfl dX8_four_3 ?_
  refine s_l2iw 5 rfl dX8_four_4 ?_
  refine s_i2s 6 rfl dX8_four_5 ?_
  refine s_istore_n 7 3 rfl dX8_four_6 rfl (by decide) (L2 := [(2, 0), (1, x1), (9, 0), (0, Int.bmod (Int.bmod ((Int64.ofInt x1 >>> ((Int32.ofInt 48).toInt64 &&& 63)).toInt) 4294967296) 65536), (9, 0), (9, 0), (9, 0), (9, 0)]) rfl ?_
  refine s_lload_n 8 1 rfl dX8_four_7 rfl rfl ?_
  refine s_bipush 10 rfl dX8_four_8 (by decide) ⟨by decide, by decide⟩ ?_
  refine s_lshr 11 rfl dX8_four_10 ?_
  refine s_l2iw 12 rfl dX8_four_11 ?_
  refine s_i2s 13 rfl dX8_four_12 ?_
  refine s_istore 15 4 rfl dX8_four_13 (by decide) (L2 := [(2, 0), (1, x1), (9, 0), (0, Int.bmod (Int.bmod ((Int64.ofInt x1 >>> ((Int32.ofInt 48).toInt64 &&& 63)).toInt) 4294967296) 65536), (0, Int.bmod (Int.bmod ((Int64.ofInt x1 >>> ((Int32.ofInt 32).toInt64 &&& 63)).toInt) 4294967296) 65536), (9, 0), (9, 0), (9, 0)]) rfl ?_
  refine s_lload_n 16 1 rfl dX8_four_15 rfl rfl ?_
  refine s_bipush 18 rfl dX8_four_16 (by decide) ⟨by decide, by decide⟩ ?_
  refine s_lshr 19 rfl dX8_four_18 ?_
  refine s_l2iw 20 rfl dX8_four_19 ?_
  refine s_i2s 21 rfl dX8_four_20 ?_
  refine s_istore 23 5 rfl dX8_four_21 (by decide) (L2 := [(2, 0), (1, x1), (9, 0), (0, Int.bmod (Int.bmod ((Int64.ofInt x1 >>> ((Int32.ofInt 48).toInt64 &&& 63)).toInt) 4294967296) 65536), (0, Int.bmod (Int.bmod ((Int64.ofInt x1 >>> ((Int32.ofInt 32).toInt64 &&& 63)).toInt) 4294967296) 65536), (0, Int.bmod (Int.bmod ((Int64.ofInt x1 >>> ((Int32.ofInt 16).toInt64 &&& 63)).toInt) 4294967296) 65536), (9, 0), (9, 0)]) rfl ?_
  refine s_lload_n 24 1 rfl dX8_four_23 rfl rfl ?_
  refine s_l2iw 25 rfl dX8_four_24 ?_
  refine s_i2s 26 rfl dX8_four_25 ?_
  refine s_istore 28 6 rfl dX8_four_26 (by decide) (L2 := [(2, 0), (1, x1), (9, 0), (0, Int.bmod (Int.bmod ((Int64.ofInt x1 >>> ((Int32.ofInt 48).toInt64 &&& 63)).toInt) 4294967296) 65536), (0, Int.bmod (Int.bmod ((Int64.ofInt x1 >>> ((Int32.ofInt 32).toInt64 &&& 63)).toInt) 4294967296) 65536), (0, Int.bmod (Int.bmod ((Int64.ofInt x1 >>> ((Int32.ofInt 16).toInt64 &&& 63)).toInt) 4294967296) 65536), (0, Int.bmod (Int.bmod x1 4294967296) 65536), (9, 0)]) rfl ?_
  refine s_iload_n 29 3 rfl dX8_four_28 rfl rfl ?_
  refine s_callS (mj := mX3_canCome) (S := []) 32 [(0, Int.bmod (Int.bmod ((Int64.ofInt x1 >>> ((Int32.ofInt 48).toInt64 &&& 63)).toInt) 4294967296) 65536)] [(0, Int.bmod (Int.bmod ((Int64.ofInt x1 >>> ((Int32.ofInt 48).toInt64 &&& 63)).toInt) 4294967296) 65536)] rfl dX8_four_29 okX3_canCome w338 w339 rfl npX3_canCome (Nat.le_of_ble_eq_true rfl) (by decide) (Nat.le_of_ble_eq_true rfl) rfl (Wd.imp H (fun r1 h2 H => ?_))
  show Wd mX8_four X 32 [(2, 0), (1, x1), (9, 0), (0, Int.bmod (Int.bmod ((Int64.ofInt x1 >>> ((Int32.ofInt 48).toInt64 &&& 63)).toInt) 4294967296) 65536), (0, Int.bmod (Int.bmod ((Int64.ofInt x1 >>> ((Int32.ofInt 32).toInt64 &&& 63)).toInt) 4294967296) 65536), (0, Int.bmod (Int.bmod ((Int64.ofInt x1 >>> ((Int32.ofInt 16).toInt64 &&& 63)).toInt) 4294967296) 65536), (0, Int.bmod (Int.bmod x1 4294967296) 65536), (9, 0)] [(0, r1)] h2 Q
  refine s_if_eq 35 63 rfl dX8_four_32 (by decide) (fun c27 => ?_) (fun c27 => ?_)
  · replace H := H.1 c27
    refine s_iconst 64 rfl dX8_four_63 ⟨by decide, by decide⟩ ?_
    refine s_istore 66 7 rfl dX8_four_64 (by decide) (L2 := [(2, 0), (1, x1), (9, 0), (0, Int.bmod (Int.bmod ((Int64.ofInt x1 >>> ((Int32.ofInt 48).toInt64 &&& 63)).toInt) 4294967296) 65536), (0, Int.bmod (Int.bmod ((Int64.ofInt x1 >>> ((Int32.ofInt 32).toInt64 &&& 63)).toInt) 4294967296) 65536), (0, Int.bmod (Int.bmod ((Int64.ofInt x1 >>> ((Int32.ofInt 16).toInt64 &&& 63)).toInt) 4294967296) 65536), (0, Int.bmod (Int.bmod x1 4294967296) 65536), (0, 0)]) rfl ?_
    refine s_iload 68 7 rfl dX8_four_66 rfl ?_
    refine s_if_eq 71 82 rfl dX8_four_68 (by decide) (fun c2 => ?_) (fun c2 => ?_)
    · refine s_iconst 83 rfl dX8_four_82 ⟨by decide, by decide⟩ ?_
      exact s_iret (S := []) dX8_four_83 rfl H
    · exact absurd (by decide) c2
  · replace H := H.2 c27
    refine s_iload 37 4 rfl dX8_four_35 rfl ?_
    refine s_callS (mj := mX3_canCome) (S := []) 40 [(0, Int.bmod (Int.bmod ((Int64.ofInt x1 >>> ((Int32.ofInt 32).toInt64 &&& 63)).toInt) 4294967296) 65536)] [(0, Int.bmod (Int.bmod ((Int64.ofInt x1 >>> ((Int32.ofInt 32).toInt64 &&& 63)).toInt) 4294967296) 65536)] rfl dX8_four_37 okX3_canCome w338 w339 rfl npX3_canCome (Nat.le_of_ble_eq_true rfl) (by decide) (Nat.le_of_ble_eq_true rfl) rfl (Wd.imp H (fun r4 h5 H => ?_))
    show Wd mX8_four X 40 [(2, 0), (1, x1), (9, 0), (0, Int.bmod (Int.bmod ((Int64.ofInt x1 >>> ((Int32.ofInt 48).toInt64 &&& 63)).toInt) 4294967296) 65536), (0, Int.bmod (Int.bmod ((Int64.ofInt x1 >>> ((Int32.ofInt 32).toInt64 &&& 63)).toInt) 4294967296) 65536), (0, Int.bmod (Int.bmod ((Int64.ofInt x1 >>> ((Int32.ofInt 16).toInt64 &&& 63)).toInt) 4294967296) 65536), (0, Int.bmod (Int.bmod x1 4294967296) 65536), (9, 0)] [(0, r4)] h5 Q
    refine s_if_eq 43 63 rfl dX8_four_40 (by decide) (fun c26 => ?_) (fun c26 => ?_)
    · replace H := H.1 c26
      refine s_iconst 64 rfl dX8_four_63 ⟨by decide, by decide⟩ ?_
      refine s_istore 66 7 rfl dX8_four_64 (by decide) (L2 := [(2, 0), (1, x1), (9, 0), (0, Int.bmod (Int.bmod ((Int64.ofInt x1 >>> ((Int32.ofInt 48).toInt64 &&& 63)).toInt) 4294967296) 65536), (0, Int.bmod (Int.bmod ((Int64.ofInt x1 >>> ((Int32.ofInt 32).toInt64 &&& 63)).toInt) 4294967296) 65536), (0, Int.bmod (Int.bmod ((Int64.ofInt x1 >>> ((Int32.ofInt 16).toInt64 &&& 63)).toInt) 4294967296) 65536), (0, Int.bmod (Int.bmod x1 4294967296) 65536), (0, 0)]) rfl ?_
      refine s_iload 68 7 rfl dX8_four_66 rfl ?_
      refine s_if_eq 71 82 rfl dX8_four_68 (by decide) (fun c5 => ?_) (fun c5 => ?_)
      · refine s_iconst 83 rfl dX8_four_82 ⟨by decide, by decide⟩ ?_
        exact s_iret (S := []) dX8_four_83 rfl H
      · exact absurd (by decide) c5
    · replace H := H.2 c26
      refine s_iload 45 5 rfl dX8_four_43 rfl ?_
      refine s_callS (mj := mX3_canCome) (S := []) 48 [(0, Int.bmod (Int.bmod ((Int64.ofInt x1 >>> ((Int32.ofInt 16).toInt64 &&& 63)).toInt) 4294967296) 65536)] [(0, Int.bmod (Int.bmod ((Int64.ofInt x1 >>> ((Int32.ofInt 16).toInt64 &&& 63)).toInt) 4294967296) 65536)] rfl dX8_four_45 okX3_canCome w338 w339 rfl npX3_canCome (Nat.le_of_ble_eq_true rfl) (by decide) (Nat.le_of_ble_eq_true rfl) rfl (Wd.imp H (fun r7 h8 H => ?_))
      show Wd mX8_four X 48 [(2, 0), (1, x1), (9, 0), (0, Int.bmod (Int.bmod ((Int64.ofInt x1 >>> ((Int32.ofInt 48).toInt64 &&& 63)).toInt) 4294967296) 65536), (0, Int.bmod (Int.bmod ((Int64.ofInt x1 >>> ((Int32.ofInt 32).toInt64 &&& 63)).toInt) 4294967296) 65536), (0, Int.bmod (Int.bmod ((Int64.ofInt x1 >>> ((Int32.ofInt 16).toInt64 &&& 63)).toInt) 4294967296) 65536), (0, Int.bmod (Int.bmod x1 4294967296) 65536), (9, 0)] [(0, r7)] h8 Q
      refine s_if_eq 51 63 rfl dX8_four_48 (by decide) (fun c25 => ?_) (fun c25 => ?_)
      · replace H := H.1 c25
        refine s_iconst 64 rfl dX8_four_63 ⟨by decide, by decide⟩ ?_
        refine s_istore 66 7 rfl dX8_four_64 (by decide) (L2 := [(2, 0), (1, x1), (9, 0), (0, Int.bmod (Int.bmod ((Int64.ofInt x1 >>> ((Int32.ofInt 48).toInt64 &&& 63)).toInt) 4294967296) 65536), (0, Int.bmod (Int.bmod ((Int64.ofInt x1 >>> ((Int32.ofInt 32).toInt64 &&& 63)).toInt) 4294967296) 65536), (0, Int.bmod (Int.bmod ((Int64.ofInt x1 >>> ((Int32.ofInt 16).toInt64 &&& 63)).toInt) 4294967296) 65536), (0, Int.bmod (Int.bmod x1 4294967296) 65536), (0, 0)]) rfl ?_
        refine s_iload 68 7 rfl dX8_four_66 rfl ?_
        refine s_if_eq 71 82 rfl dX8_four_68 (by decide) (fun c8 => ?_) (fun c8 => ?_)
        · refine s_iconst 83 rfl dX8_four_82 ⟨by decide, by decide⟩ ?_
          exact s_iret (S := []) dX8_four_83 rfl H
        · exact absurd (by decide) c8
      · replace H := H.2 c25
        refine s_iload 53 6 rfl dX8_four_51 rfl ?_
        refine s_callS (mj := mX3_canCome) (S := []) 56 [(0, Int.bmod (Int.bmod x1 4294967296) 65536)] [(0, Int.bmod (Int.bmod x1 4294967296) 65536)] rfl dX8_four_53 okX3_canCome w338 w339 rfl npX3_canCome (Nat.le_of_ble_eq_true rfl) (by decide) (Nat.le_of_ble_eq_true rfl) rfl (Wd.imp H (fun r10 h11 H => ?_))
        show Wd mX8_four X 56 [(2, 0), (1, x1), (9, 0), (0, Int.bmod (Int.bmod ((Int64.ofInt x1 >>> ((Int32.ofInt 48).toInt64 &&& 63)).toInt) 4294967296) 65536), (0, Int.bmod (Int.bmod ((Int64.ofInt x1 >>> ((Int32.ofInt 32).toInt64 &&& 63)).toInt) 4294967296) 65536), (0, Int.bmod (Int.bmod ((Int64.ofInt x1 >>> ((Int32.ofInt 16).toInt64 &&& 63)).toInt) 4294967296) 65536), (0, Int.bmod (Int.bmod x1 4294967296) 65536), (9, 0)] [(0, r10)] h11 Q
        refine s_if_eq 59 63 rfl dX8_four_56 (by decide) (fun c24 => ?_) (fun c24 => ?_)
        · replace H := H.1 c24
          refine s_iconst 64 rfl dX8_four_63 ⟨by decide, by decide⟩ ?_
          refine s_istore 66 7 rfl dX8_four_64 (by decide) (L2 := [(2, 0), (1, x1), (9, 0), (0, Int.bmod (Int.bmod ((Int64.ofInt x1 >>> ((Int32.ofInt 48).toInt64 &&& 63)).toInt) 4294967296) 65536), (0, Int.bmod (Int.bmod ((Int64.ofInt x1 >>> ((Int32.ofInt 32).toInt64 &&& 63)).toInt) 4294967296) 65536), (0, Int.bmod (Int.bmod ((Int64.ofInt x1 >>> ((Int32.ofInt 16).toInt64 &&& 63)).toInt) 4294967296) 65536), (0, Int.bmod (Int.bmod x1 4294967296) 65536), (0, 0)]) rfl ?_
          refine s_iload 68 7 rfl dX8_four_66 rfl ?_
          refine s_if_eq 71 82 rfl dX8_four_68 (by decide) (fun c11 => ?_) (fun c11 => ?_)
          · refine s_iconst 83 rfl dX8_four_82 ⟨by decide, by decide⟩ ?_
            exact s_iret (S := []) dX8_four_83 rfl H
          · exact absurd (by decide) c11
        · replace H := H.2 c24
          refine s_iconst 60 rfl dX8_four_59 ⟨by decide, by decide⟩ ?_
          refine s_goto 64 dX8_four_60 (by decide) ?_
          refine s_istore 66 7 rfl dX8_four_64 (by decide) (L2 := [(2, 0), (1, x1), (9, 0), (0, Int.bmod (Int.bmod ((Int64.ofInt x1 >>> ((Int32.ofInt 48).toInt64 &&& 63)).toInt) 4294967296) 65536), (0, Int.bmod (Int.bmod ((Int64.ofInt x1 >>> ((Int32.ofInt 32).toInt64 &&& 63)).toInt) 4294967296) 65536), (0, Int.bmod (Int.bmod ((Int64.ofInt x1 >>> ((Int32.ofInt 16).toInt64 &&& 63)).toInt) 4294967296) 65536), (0, Int.bmod (Int.bmod x1 4294967296) 65536), (0, 1)]) rfl ?_
          refine s_iload 68 7 rfl dX8_four_66 rfl ?_
          refine s_if_eq 71 82 rfl dX8_four_68 (by decide) (fun c12 => ?_) (fun c12 => ?_)
          · exact absurd c12 (by decide)
          · refine s_aload_n 72 0 rfl dX8_four_71 rfl rfl ?_
            refine s_getf 75 0 2 rfl dX8_four_72 ck8 rfl (by decide) rfl (by decide) w308 rfl (v := (2, 3)) rfl ?_
            refine s_callV (mj := mX3_room) (S := []) 78 [] [(2, 3)] 3 rfl dX8_four_75 okX3_room w341 w342 w343 rfl (by decide) rfl rfl rfl rfl npX3_room (Nat.le_of_ble_eq_true rfl) (by decide) (Nat.le_of_ble_eq_true rfl) rfl (Wd.imp H (fun r14 h15 H => ?_))
            show Wd mX8_four X 78 [(2, 0), (1, x1), (9, 0), (0, Int.bmod (Int.bmod ((Int64.ofInt x1 >>> ((Int32.ofInt 48).toInt64 &&& 63)).toInt) 4294967296) 65536), (0, Int.bmod (Int.bmod ((Int64.ofInt x1 >>> ((Int32.ofInt 32).toInt64 &&& 63)).toInt) 4294967296) 65536), (0, Int.bmod (Int.bmod ((Int64.ofInt x1 >>> ((Int32.ofInt 16).toInt64 &&& 63)).toInt) 4294967296) 65536), (0, Int.bmod (Int.bmod x1 4294967296) 65536), (0, 1)] [(0, r14)] h15 Q
            refine s_iconst 79 rfl dX8_four_78 ⟨by decide, by decide⟩ ?_
            refine s_icmp_ge 82 84 rfl dX8_four_79 (by decide) (fun c23 => ?_) (fun c23 => ?_)
            · replace H := H.1 c23
              refine s_aload_n 85 0 rfl dX8_four_84 rfl rfl ?_
              refine s_getf 88 0 2 rfl dX8_four_85 ck8 rfl (by decide) rfl (by decide) w308 rfl (v := (2, 3)) rfl ?_
              refine s_iload_n 89 3 rfl dX8_four_88 rfl rfl ?_
              refine s_callV (mj := mX3_add) (S := []) 92 [(0, Int.bmod (Int.bmod ((Int64.ofInt x1 >>> ((Int32.ofInt 48).toInt64 &&& 63)).toInt) 4294967296) 65536)] [(2, 3), (0, Int.bmod (Int.bmod ((Int64.ofInt x1 >>> ((Int32.ofInt 48).toInt64 &&& 63)).toInt) 4294967296) 65536)] 3 rfl dX8_four_89 okX3_add w345 w346 w347 rfl (by decide) rfl rfl rfl rfl npX3_add (Nat.le_of_ble_eq_true rfl) (by decide) (Nat.le_of_ble_eq_true rfl) rfl (Wd.imp H (fun _ h17 H => ?_))
              show Wd mX8_four X 92 [(2, 0), (1, x1), (9, 0), (0, Int.bmod (Int.bmod ((Int64.ofInt x1 >>> ((Int32.ofInt 48).toInt64 &&& 63)).toInt) 4294967296) 65536), (0, Int.bmod (Int.bmod ((Int64.ofInt x1 >>> ((Int32.ofInt 32).toInt64 &&& 63)).toInt) 4294967296) 65536), (0, Int.bmod (Int.bmod ((Int64.ofInt x1 >>> ((Int32.ofInt 16).toInt64 &&& 63)).toInt) 4294967296) 65536), (0, Int.bmod (Int.bmod x1 4294967296) 65536), (0, 1)] [] h17 Q
              refine s_aload_n 93 0 rfl dX8_four_92 rfl rfl ?_
              refine s_getf 96 0 2 rfl dX8_four_93 ck8 rfl (by decide) rfl (by decide) w308 rfl (v := (2, 3)) rfl ?_
              refine s_iload 98 4 rfl dX8_four_96 rfl ?_
              refine s_callV (mj := mX3_add) (S := []) 101 [(0, Int.bmod (Int.bmod ((Int64.ofInt x1 >>> ((Int32.ofInt 32).toInt64 &&& 63)).toInt) 4294967296) 65536)] [(2, 3), (0, Int.bmod (Int.bmod ((Int64.ofInt x1 >>> ((Int32.ofInt 32).toInt64 &&& 63)).toInt) 4294967296) 65536)] 3 rfl dX8_four_98 okX3_add w345 w346 w347 rfl (by decide) rfl rfl rfl rfl npX3_add (Nat.le_of_ble_eq_true rfl) (by decide) (Nat.le_of_ble_eq_true rfl) rfl (Wd.imp H (fun _ h19 H => ?_))
              show Wd mX8_four X 101 [(2, 0), (1, x1), (9, 0), (0, Int.bmod (Int.bmod ((Int64.ofInt x1 >>> ((Int32.ofInt 48).toInt64 &&& 63)).toInt) 4294967296) 65536), (0, Int.bmod (Int.bmod ((Int64.ofInt x1 >>> ((Int32.ofInt 32).toInt64 &&& 63)).toInt) 4294967296) 65536), (0, Int.bmod (Int.bmod ((Int64.ofInt x1 >>> ((Int32.ofInt 16).toInt64 &&& 63)).toInt) 4294967296) 65536), (0, Int.bmod (Int.bmod x1 4294967296) 65536), (0, 1)] [] h19 Q
              refine s_aload_n 102 0 rfl dX8_four_101 rfl rfl ?_
              refine s_getf 105 0 2 rfl dX8_four_102 ck8 rfl (by decide) rfl (by decide) w308 rfl (v := (2, 3)) rfl ?_
              refine s_iload 107 5 rfl dX8_four_105 rfl ?_
              refine s_callV (mj := mX3_add) (S := []) 110 [(0, Int.bmod (Int.bmod ((Int64.ofInt x1 >>> ((Int32.ofInt 16).toInt64 &&& 63)).toInt) 4294967296) 65536)] [(2, 3), (0, Int.bmod (Int.bmod ((Int64.ofInt x1 >>> ((Int32.ofInt 16).toInt64 &&& 63)).toInt) 4294967296) 65536)] 3 rfl dX8_four_107 okX3_add w345 w346 w347 rfl (by decide) rfl rfl rfl rfl npX3_add (Nat.le_of_ble_eq_true rfl) (by decide) (Nat.le_of_ble_eq_true rfl) rfl (Wd.imp H (fun _ h21 H => ?_))
              show Wd mX8_four X 110 [(2, 0), (1, x1), (9, 0), (0, Int.bmod (Int.bmod ((Int64.ofInt x1 >>> ((Int32.ofInt 48).toInt64 &&& 63)).toInt) 4294967296) 65536), (0, Int.bmod (Int.bmod ((Int64.ofInt x1 >>> ((Int32.ofInt 32).toInt64 &&& 63)).toInt) 4294967296) 65536), (0, Int.bmod (Int.bmod ((Int64.ofInt x1 >>> ((Int32.ofInt 16).toInt64 &&& 63)).toInt) 4294967296) 65536), (0, Int.bmod (Int.bmod x1 4294967296) 65536), (0, 1)] [] h21 Q
              refine s_aload_n 111 0 rfl dX8_four_110 rfl rfl ?_
              refine s_getf 114 0 2 rfl dX8_four_111 ck8 rfl (by decide) rfl (by decide) w308 rfl (v := (2, 3)) rfl ?_
              refine s_iload 116 6 rfl dX8_four_114 rfl ?_
              refine s_callV (mj := mX3_add) (S := []) 119 [(0, Int.bmod (Int.bmod x1 4294967296) 65536)] [(2, 3), (0, Int.bmod (Int.bmod x1 4294967296) 65536)] 3 rfl dX8_four_116 okX3_add w345 w346 w347 rfl (by decide) rfl rfl rfl rfl npX3_add (Nat.le_of_ble_eq_true rfl) (by decide) (Nat.le_of_ble_eq_true rfl) rfl (Wd.imp H (fun _ h23 H => ?_))
              show Wd mX8_four X 119 [(2, 0), (1, x1), (9, 0), (0, Int.bmod (Int.bmod ((Int64.ofInt x1 >>> ((Int32.ofInt 48).toInt64 &&& 63)).toInt) 4294967296) 65536), (0, Int.bmod (Int.bmod ((Int64.ofInt x1 >>> ((Int32.ofInt 32).toInt64 &&& 63)).toInt) 4294967296) 65536), (0, Int.bmod (Int.bmod ((Int64.ofInt x1 >>> ((Int32.ofInt 16).toInt64 &&& 63)).toInt) 4294967296) 65536), (0, Int.bmod (Int.bmod x1 4294967296) 65536), (0, 1)] [] h23 Q
              refine s_aload_n 120 0 rfl dX8_four_119 rfl rfl ?_
              refine s_iconst 121 rfl dX8_four_120 ⟨by decide, by decide⟩ ?_
              refine s_putZ 124 0 8 rfl dX8_four_121 ck8 rfl (by decide) rfl (by decide) w314 rfl rfl rfl (Or.inr rfl) ?_
              refine s_aload_n 125 0 rfl dX8_four_124 rfl rfl ?_
              refine s_getf 128 0 2 rfl dX8_four_125 ck8 rfl (by decide) rfl (by decide) w308 rfl (v := (2, 3)) rfl ?_
              refine s_getf 131 3 2 rfl dX8_four_128 ck3 rfl (by decide) rfl (by decide) w121 rfl (v := (0, h23 3 2)) (by show (0, (xu h23 0 8 1) 3 2) = _; rw [(xu_k (by decide))]) ?_
              exact s_iret (S := []) dX8_four_131 rfl H
            · replace H := H.2 c23
              refine s_iconst 83 rfl dX8_four_82 ⟨by decide, by decide⟩ ?_
              exact s_iret (S := []) dX8_four_83 rfl H
theorem vX8_forget_0 {X : Nat × (Int → Int)} {h : HP} {Q : Int → HP → Prop} {x1 : Int} (H : ((x1 < 0 → (Q (-1) h)) ∧ (¬ (x1 < 0) → ((x1 ≤ h 3 2 → (Wd mX3_drop X 0 [(2, 3), (0, x1), (9, 0)] [] h (fun _ h2 => Q (h2 3 2) (xu h2 0 8 1)))) ∧ (¬ (x1 ≤ h 3 2) → (Q (-1) h)))))) : Wd mX8_forget X 0 [(2, 0), (0, x1)] [] h Q := by
  refine s_iload_n 1 1 rfl dX8_forget_0 rfl rfl ?_
  refine s_if_lt 4 15 rfl dX8_forget_1 (by decide) (fun c3 => ?_) (fun c3 => ?_)
  · replace H := H.1 c3
    refine s_iconst 16 rfl dX8_forget_15 ⟨by decide, by decide⟩ ?_
    exact s_iret (S := []) dX8_forget_16 rfl H
  · replace H := H.2 c3
    refine s_iload_n 5 1 rfl dX8_forget_4 rfl rfl ?_
    refine s_aload_n 6 0 rfl dX8_forget_5 rfl rfl ?_
    refine s_getf 9 0 2 rfl dX8_forget_6 ck8 rfl (by decide) rfl (by decide) w308 rfl (v := (2, 3)) rfl ?_
    refine s_getf 12 3 2 rfl dX8_forget_9 ck3 rfl (by decide) rfl (by decide) w121 rfl (v := (0, h 3 2)) rfl ?_
    refine s_icmp_le 15 17 rfl dX8_forget_12 (by decide) (fun c2 => ?_) (fun c2 => ?_)
    · replace H := H.1 c2
      refine s_aload_n 18 0 rfl dX8_forget_17 rfl rfl ?_
      refine s_getf 21 0 2 rfl dX8_forget_18 ck8 rfl (by decide) rfl (by decide) w308 rfl (v := (2, 3)) rfl ?_
      refine s_iload_n 22 1 rfl dX8_forget_21 rfl rfl ?_
      refine s_callV (mj := mX3_drop) (S := []) 25 [(0, x1)] [(2, 3), (0, x1), (9, 0)] 3 rfl dX8_forget_22 okX3_drop w357 w358 w359 rfl (by decide) rfl rfl rfl rfl npX3_drop (Nat.le_of_ble_eq_true rfl) (by decide) (Nat.le_of_ble_eq_true rfl) rfl (Wd.imp H (fun _ h2 H => ?_))
      show Wd mX8_forget X 25 [(2, 0), (0, x1)] [] h2 Q
      refine s_aload_n 26 0 rfl dX8_forget_25 rfl rfl ?_
      refine s_iconst 27 rfl dX8_forget_26 ⟨by decide, by decide⟩ ?_
      refine s_putZ 30 0 8 rfl dX8_forget_27 ck8 rfl (by decide) rfl (by decide) w314 rfl rfl rfl (Or.inr rfl) ?_
      refine s_aload_n 31 0 rfl dX8_forget_30 rfl rfl ?_
      refine s_getf 34 0 2 rfl dX8_forget_31 ck8 rfl (by decide) rfl (by decide) w308 rfl (v := (2, 3)) rfl ?_
      refine s_getf 37 3 2 rfl dX8_forget_34 ck3 rfl (by decide) rfl (by decide) w121 rfl (v := (0, h2 3 2)) (by show (0, (xu h2 0 8 1) 3 2) = _; rw [(xu_k (by decide))]) ?_
      exact s_iret (S := []) dX8_forget_37 rfl H
    · replace H := H.2 c2
      refine s_iconst 16 rfl dX8_forget_15 ⟨by decide, by decide⟩ ?_
      exact s_iret (S := []) dX8_forget_16 rfl H
theorem vX8_changed_0 {X : Nat × (Int → Int)} {h : HP} {Q : Int → HP → Prop} {x1 : Int} (H : ((x1 = 0 → ((x1 = 0 ∨ x1 = 1) ∧ Q x1 h)) ∧ (¬ x1 = 0 → ((x1 = 0 ∨ x1 = 1) ∧ Q x1 (xu h 0 8 1))))) : Wd mX8_changed X 0 [(2, 0), (0, x1)] [] h Q := by
  refine s_iload_n 1 1 rfl dX8_changed_0 rfl rfl ?_
  refine s_if_eq 4 9 rfl dX8_changed_1 (by decide) (fun c0 => ?_) (fun c0 => ?_)
  · replace H := H.1 c0
    refine s_iload_n 10 1 rfl dX8_changed_9 rfl rfl ?_
    exact s_zret (S := []) dX8_changed_10 rfl H.1 H.2
  · replace H := H.2 c0
    refine s_aload_n 5 0 rfl dX8_changed_4 rfl rfl ?_
    refine s_iconst 6 rfl dX8_changed_5 ⟨by decide, by decide⟩ ?_
    refine s_putZ 9 0 8 rfl dX8_changed_6 ck8 rfl (by decide) rfl (by decide) w314 rfl rfl rfl (Or.inr rfl) ?_
    refine s_iload_n 10 1 rfl dX8_changed_9 rfl rfl ?_
    exact s_zret (S := []) dX8_changed_10 rfl H.1 H.2
theorem vX8_set_0 {X : Nat × (Int → Int)} {h : HP} {Q : Int → HP → Prop} {x1 x2 : Int} (H : Wd mX4_changeNumber X 0 [(2, 1), (0, x1), (0, x2)] [] h (fun r1 h2 => Wd mX8_changed X 0 [(2, 0), (0, r1)] [] h2 (fun r3 h4 => (r3 = 0 ∨ r3 = 1) ∧ Q r3 h4))) : Wd mX8_set X 0 [(2, 0), (0, x1), (0, x2)] [] h Q := by
  refine s_aload_n 1 0 rfl dX8_set_0 rfl rfl ?_
  refine s_aload_n 2 0 rfl dX8_set_1 rfl rfl ?_
  refine s_getf 5 0 0 rfl dX8_set_2 ck8 rfl (by decide) rfl (by decide) w306 rfl (v := (2, 1)) rfl ?_
  refine s_iload_n 6 1 rfl dX8_set_5 rfl rfl ?_
  refine s_iload_n 7 2 rfl dX8_set_6 rfl rfl ?_
  refine s_callV (mj := mX4_changeNumber) (S := [(2, 0)]) 10 [(0, x1), (0, x2)] [(2, 1), (0, x1), (0, x2)] 1 rfl dX8_set_7 okX4_changeNumber w365 w366 w367 rfl (by decide) rfl rfl rfl rfl npX4_changeNumber (Nat.le_of_ble_eq_true rfl) (by decide) (Nat.le_of_ble_eq_true rfl) rfl (Wd.imp H (fun r1 h2 H => ?_))
  show Wd mX8_set X 10 [(2, 0), (0, x1), (0, x2)] [(0, r1), (2, 0)] h2 Q
  refine s_callV (mj := mX8_changed) (S := []) 13 [(0, r1)] [(2, 0), (0, r1)] 0 rfl dX8_set_10 okX8_changed w373 w375 w0 rfl (by decide) rfl rfl rfl rfl npX8_changed (Nat.le_of_ble_eq_true rfl) (by decide) (Nat.le_of_ble_eq_true rfl) rfl (Wd.imp H (fun r3 h4 H => ?_))
  show Wd mX8_set X 13 [(2, 0), (0, x1), (0, x2)] [(0, r3)] h4 Q
  exact s_zret (S := []) dX8_set_13 rfl H.1 H.2
theorem vX8_level_0 {X : Nat × (Int → Int)} {h : HP} {Q : Int → HP → Prop} {x1 x2 : Int} (H : Wd mX4_changeRule X 0 [(2, 1), (0, x1), (0, x2), (9, 0)] [] h (fun r1 h2 => Wd mX8_changed X 0 [(2, 0), (0, r1)] [] h2 (fun r3 h4 => (r3 = 0 ∨ r3 = 1) ∧ Q r3 h4))) : Wd mX8_level X 0 [(2, 0), (0, x1), (0, x2)] [] h Q := by
  refine s_aload_n 1 0 rfl dX8_level_0 rfl rfl ?_
  refine s_aload_n 2 0 rfl dX8_level_1 rfl rfl ?_
  refine s_getf 5 0 0 rfl dX8_level_2 ck8 rfl (by decide) rfl (by decide) w306 rfl (v := (2, 1)) rfl ?_
  refine s_iload_n 6 1 rfl dX8_level_5 rfl rfl ?_
  refine s_iload_n 7 2 rfl dX8_level_6 rfl rfl ?_
  refine s_callV (mj := mX4_changeRule) (S := [(2, 0)]) 10 [(0, x1), (0, x2)] [(2, 1), (0, x1), (0, x2), (9, 0)] 1 rfl dX8_level_7 okX4_changeRule w381 w382 w383 rfl (by decide) rfl rfl rfl rfl npX4_changeRule (Nat.le_of_ble_eq_true rfl) (by decide) (Nat.le_of_ble_eq_true rfl) rfl (Wd.imp H (fun r1 h2 H => ?_))
  show Wd mX8_level X 10 [(2, 0), (0, x1), (0, x2)] [(0, r1), (2, 0)] h2 Q
  refine s_callV (mj := mX8_changed) (S := []) 13 [(0, r1)] [(2, 0), (0, r1)] 0 rfl dX8_level_10 okX8_changed w373 w375 w0 rfl (by decide) rfl rfl rfl rfl npX8_changed (Nat.le_of_ble_eq_true rfl) (by decide) (Nat.le_of_ble_eq_true rfl) rfl (Wd.imp H (fun r3 h4 H => ?_))
  show Wd mX8_level X 13 [(2, 0), (0, x1), (0, x2)] [(0, r3)] h4 Q
  exact s_zret (S := []) dX8_level_13 rfl H.1 H.2
theorem vX8_mark_0 {X : Nat × (Int → Int)} {h : HP} {Q : Int → HP → Prop} {x1 x2 : Int} (H : Wd mX4_changeMark X 0 [(2, 1), (0, x1), (0, x2), (9, 0)] [] h (fun r1 h2 => Wd mX8_changed X 0 [(2, 0), (0, r1)] [] h2 (fun r3 h4 => (r3 = 0 ∨ r3 = 1) ∧ Q r3 h4))) : Wd mX8_mark X 0 [(2, 0), (0, x1), (0, x2)] [] h Q := by
  refine s_aload_n 1 0 rfl dX8_mark_0 rfl rfl ?_
  refine s_aload_n 2 0 rfl dX8_mark_1 rfl rfl ?_
  refine s_getf 5 0 0 rfl dX8_mark_2 ck8 rfl (by decide) rfl (by decide) w306 rfl (v := (2, 1)) rfl ?_
  refine s_iload_n 6 1 rfl dX8_mark_5 rfl rfl ?_
  refine s_iload_n 7 2 rfl dX8_mark_6 rfl rfl ?_
  refine s_callV (mj := mX4_changeMark) (S := [(2, 0)]) 10 [(0, x1), (0, x2)] [(2, 1), (0, x1), (0, x2), (9, 0)] 1 rfl dX8_mark_7 okX4_changeMark w389 w390 w391 rfl (by decide) rfl rfl rfl rfl npX4_changeMark (Nat.le_of_ble_eq_true rfl) (by decide) (Nat.le_of_ble_eq_true rfl) rfl (Wd.imp H (fun r1 h2 H => ?_))
  show Wd mX8_mark X 10 [(2, 0), (0, x1), (0, x2)] [(0, r1), (2, 0)] h2 Q
  refine s_callV (mj := mX8_changed) (S := []) 13 [(0, r1)] [(2, 0), (0, r1)] 0 rfl dX8_mark_10 okX8_changed w373 w375 w0 rfl (by decide) rfl rfl rfl rfl npX8_changed (Nat.le_of_ble_eq_true rfl) (by decide) (Nat.le_of_ble_eq_true rfl) rfl (Wd.imp H (fun r3 h4 H => ?_))
  show Wd mX8_mark X 13 [(2, 0), (0, x1), (0, x2)] [(0, r3)] h4 Q
  exact s_zret (S := []) dX8_mark_13 rfl H.1 H.2
theorem vX8_lens_0 {X : Nat × (Int → Int)} {h : HP} {Q : Int → HP → Prop} {x1 x2 : Int} (H : Wd mX1_canBe X 0 [(0, x1), (0, x2)] [] h (fun r1 h2 => ((r1 = 0 → (Q (-1) h2)) ∧ (¬ r1 = 0 → ((h2 2 2 < 4 → (Wd mX1_lay X 0 [(2, 2), (0, x1), (0, x2)] [] h2 (fun _ h4 => Q (h4 2 2) (xu h4 0 8 1)))) ∧ (¬ (h2 2 2 < 4) → (Q (-1) h2))))))) : Wd mX8_lens X 0 [(2, 0), (0, x1), (0, x2)] [] h Q := by
  refine s_iload_n 1 1 rfl dX8_lens_0 rfl rfl ?_
  refine s_iload_n 2 2 rfl dX8_lens_1 rfl rfl ?_
  refine s_callS (mj := mX1_canBe) (S := []) 5 [(0, x1), (0, x2)] [(0, x1), (0, x2)] rfl dX8_lens_2 okX1_canBe w398 w399 rfl npX1_canBe (Nat.le_of_ble_eq_true rfl) (by decide) (Nat.le_of_ble_eq_true rfl) rfl (Wd.imp H (fun r1 h2 H => ?_))
  show Wd mX8_lens X 5 [(2, 0), (0, x1), (0, x2)] [(0, r1)] h2 Q
  refine s_if_eq 8 19 rfl dX8_lens_5 (by decide) (fun c5 => ?_) (fun c5 => ?_)
  · replace H := H.1 c5
    refine s_iconst 20 rfl dX8_lens_19 ⟨by decide, by decide⟩ ?_
    exact s_iret (S := []) dX8_lens_20 rfl H
  · replace H := H.2 c5
    refine s_aload_n 9 0 rfl dX8_lens_8 rfl rfl ?_
    refine s_getf 12 0 1 rfl dX8_lens_9 ck8 rfl (by decide) rfl (by decide) w307 rfl (v := (2, 2)) rfl ?_
    refine s_getf 15 2 2 rfl dX8_lens_12 ck1 rfl (by decide) rfl (by decide) w101 rfl (v := (0, h2 2 2)) rfl ?_
    refine s_iconst 16 rfl dX8_lens_15 ⟨by decide, by decide⟩ ?_
    refine s_icmp_lt 19 21 rfl dX8_lens_16 (by decide) (fun c4 => ?_) (fun c4 => ?_)
    · replace H := H.1 c4
      refine s_aload_n 22 0 rfl dX8_lens_21 rfl rfl ?_
      refine s_getf 25 0 1 rfl dX8_lens_22 ck8 rfl (by decide) rfl (by decide) w307 rfl (v := (2, 2)) rfl ?_
      refine s_iload_n 26 1 rfl dX8_lens_25 rfl rfl ?_
      refine s_iload_n 27 2 rfl dX8_lens_26 rfl rfl ?_
      refine s_callV (mj := mX1_lay) (S := []) 30 [(0, x1), (0, x2)] [(2, 2), (0, x1), (0, x2)] 2 rfl dX8_lens_27 okX1_lay w405 w406 w407 rfl (by decide) rfl rfl rfl rfl npX1_lay (Nat.le_of_ble_eq_true rfl) (by decide) (Nat.le_of_ble_eq_true rfl) rfl (Wd.imp H (fun _ h4 H => ?_))
      show Wd mX8_lens X 30 [(2, 0), (0, x1), (0, x2)] [] h4 Q
      refine s_aload_n 31 0 rfl dX8_lens_30 rfl rfl ?_
      refine s_iconst 32 rfl dX8_lens_31 ⟨by decide, by decide⟩ ?_
      refine s_putZ 35 0 8 rfl dX8_lens_32 ck8 rfl (by decide) rfl (by decide) w314 rfl rfl rfl (Or.inr rfl) ?_
      refine s_aload_n 36 0 rfl dX8_lens_35 rfl rfl ?_
      refine s_getf 39 0 1 rfl dX8_lens_36 ck8 rfl (by decide) rfl (by decide) w307 rfl (v := (2, 2)) rfl ?_
      refine s_getf 42 2 2 rfl dX8_lens_39 ck1 rfl (by decide) rfl (by decide) w101 rfl (v := (0, h4 2 2)) (by show (0, (xu h4 0 8 1) 2 2) = _; rw [(xu_k (by decide))]) ?_
      exact s_iret (S := []) dX8_lens_42 rfl H
    · replace H := H.2 c4
      refine s_iconst 20 rfl dX8_lens_19 ⟨by decide, by decide⟩ ?_
      exact s_iret (S := []) dX8_lens_20 rfl H
theorem vX8_off_0 {X : Nat × (Int → Int)} {h : HP} {Q : Int → HP → Prop} (H : ((1 ≤ h 2 2 → (Wd mX1_takeOff X 0 [(2, 2)] [] h (fun _ h2 => Q (h2 2 2) (xu h2 0 8 1)))) ∧ (¬ (1 ≤ h 2 2) → (Q (-1) h)))) : Wd mX8_off X 0 [(2, 0)] [] h Q := by
  refine s_aload_n 1 0 rfl dX8_off_0 rfl rfl ?_
  refine s_getf 4 0 1 rfl dX8_off_1 ck8 rfl (by decide) rfl (by decide) w307 rfl (v := (2, 2)) rfl ?_
  refine s_getf 7 2 2 rfl dX8_off_4 ck1 rfl (by decide) rfl (by decide) w101 rfl (v := (0, h 2 2)) rfl ?_
  refine s_iconst 8 rfl dX8_off_7 ⟨by decide, by decide⟩ ?_
  refine s_icmp_ge 11 13 rfl dX8_off_8 (by decide) (fun c2 => ?_) (fun c2 => ?_)
  · replace H := H.1 c2
    refine s_aload_n 14 0 rfl dX8_off_13 rfl rfl ?_
    refine s_getf 17 0 1 rfl dX8_off_14 ck8 rfl (by decide) rfl (by decide) w307 rfl (v := (2, 2)) rfl ?_
    refine s_callV (mj := mX1_takeOff) (S := []) 20 [] [(2, 2)] 2 rfl dX8_off_17 okX1_takeOff w413 w414 w415 rfl (by decide) rfl rfl rfl rfl npX1_takeOff (Nat.le_of_ble_eq_true rfl) (by decide) (Nat.le_of_ble_eq_true rfl) rfl (Wd.imp H (fun _ h2 H => ?_))
    show Wd mX8_off X 20 [(2, 0)] [] h2 Q
    refine s_aload_n 21 0 rfl dX8_off_20 rfl rfl ?_
    refine s_iconst 22 rfl dX8_off_21 ⟨by decide, by decide⟩ ?_
    refine s_putZ 25 0 8 rfl dX8_off_22 ck8 rfl (by decide) rfl (by decide) w314 rfl rfl rfl (Or.inr rfl) ?_
    refine s_aload_n 26 0 rfl dX8_off_25 rfl rfl ?_
    refine s_getf 29 0 1 rfl dX8_off_26 ck8 rfl (by decide) rfl (by decide) w307 rfl (v := (2, 2)) rfl ?_
    refine s_getf 32 2 2 rfl dX8_off_29 ck1 rfl (by decide) rfl (by decide) w101 rfl (v := (0, h2 2 2)) (by show (0, (xu h2 0 8 1) 2 2) = _; rw [(xu_k (by decide))]) ?_
    exact s_iret (S := []) dX8_off_32 rfl H
  · replace H := H.2 c2
    refine s_iconst 12 rfl dX8_off_11 ⟨by decide, by decide⟩ ?_
    exact s_iret (S := []) dX8_off_12 rfl H
theorem vX8_refresh_0 {X : Nat × (Int → Int)} {h : HP} {Q : Int → HP → Prop} (H : ((¬ h 0 8 = 0 → (Wd mX4_mend X 0 [(2, 1)] [] (xu h 0 8 0) (fun r1 h2 => Wd mX6_mendGaps X 0 [(2, 4), (2, 3), (0, r1), (9, 0), (9, 0)] [] h2 (fun _ h4 => Wd mX6_split X 0 [(2, 4), (0, h4 3 2), (9, 0), (9, 0)] [] h4 (fun _ h6 => Wd mX6_lookThrough X 0 [(2, 4), (2, 2), (9, 0), (9, 0)] [] h6 (fun _ h8 => Wd mX6_findLevels X 0 [(2, 4), (2, 1), (2, 8), (9, 0)] [] h8 (fun _ h10 => Wd mX4_band X 0 [(2, 1)] [] h10 (fun r11 h12 => Wd mX7_find X 0 [(2, 5), (2, 4), (0, h10 3 2), (0, r11), (9, 0)] [] h12 (fun _ h14 => Wd mX2_rank X 0 [(2, 6), (2, 5), (2, 8), (9, 0), (9, 0)] [] h14 (fun _ h16 => Wd mX2_weigh X 0 [(2, 6), (2, 5), (2, 1), (9, 0)] [] h16 (fun _ h18 => Wd mX0_find X 0 [(2, 7), (2, 5), (2, 6), (2, 1), (9, 0), (9, 0), (9, 0), (9, 0)] [] h18 (fun _ h20 => Q 0 h20)))))))))))) ∧ (h 0 8 = 0 → (Q 0 h)))) : Wd mX8_refresh X 0 [(2, 0)] [] h Q := by
  refine s_aload_n 1 0 rfl dX8_refresh_0 rfl rfl ?_
  refine s_getf 4 0 8 rfl dX8_refresh_1 ck8 rfl (by decide) rfl (by decide) w314 rfl (v := (0, h 0 8)) rfl ?_
  refine s_if_ne 7 8 rfl dX8_refresh_4 (by decide) (fun c20 => ?_) (fun c20 => ?_)
  · replace H := H.1 c20
    refine s_aload_n 9 0 rfl dX8_refresh_8 rfl rfl ?_
    refine s_iconst 10 rfl dX8_refresh_9 ⟨by decide, by decide⟩ ?_
    refine s_putZ 13 0 8 rfl dX8_refresh_10 ck8 rfl (by decide) rfl (by decide) w314 rfl rfl rfl (Or.inl rfl) ?_
    refine s_aload_n 14 0 rfl dX8_refresh_13 rfl rfl ?_
    refine s_getf 17 0 3 rfl dX8_refresh_14 ck8 rfl (by decide) rfl (by decide) w309 rfl (v := (2, 4)) rfl ?_
    refine s_aload_n 18 0 rfl dX8_refresh_17 rfl rfl ?_
    refine s_getf 21 0 2 rfl dX8_refresh_18 ck8 rfl (by decide) rfl (by decide) w308 rfl (v := (2, 3)) rfl ?_
    refine s_aload_n 22 0 rfl dX8_refresh_21 rfl rfl ?_
    refine s_getf 25 0 0 rfl dX8_refresh_22 ck8 rfl (by decide) rfl (by decide) w306 rfl (v := (2, 1)) rfl ?_
    refine s_callV (mj := mX4_mend) (S := [(2, 3), (2, 4)]) 28 [] [(2, 1)] 1 rfl dX8_refresh_25 okX4_mend w425 w426 w427 rfl (by decide) rfl rfl rfl rfl npX4_mend (Nat.le_of_ble_eq_true rfl) (by decide) (Nat.le_of_ble_eq_true rfl) rfl (Wd.imp H (fun r1 h2 H => ?_))
    show Wd mX8_refresh X 28 [(2, 0)] [(0, r1), (2, 3), (2, 4)] h2 Q
    refine s_callV (mj := mX6_mendGaps) (S := []) 31 [(2, 3), (0, r1)] [(2, 4), (2, 3), (0, r1), (9, 0), (9, 0)] 4 rfl dX8_refresh_28 okX6_mendGaps w429 w430 w431 rfl (by decide) rfl rfl rfl rfl npX6_mendGaps (Nat.le_of_ble_eq_true rfl) (by decide) (Nat.le_of_ble_eq_true rfl) rfl (Wd.imp H (fun _ h4 H => ?_))
    show Wd mX8_refresh X 31 [(2, 0)] [] h4 Q
    refine s_aload_n 32 0 rfl dX8_refresh_31 rfl rfl ?_
    refine s_getf 35 0 3 rfl dX8_refresh_32 ck8 rfl (by decide) rfl (by decide) w309 rfl (v := (2, 4)) rfl ?_
    refine s_aload_n 36 0 rfl dX8_refresh_35 rfl rfl ?_
    refine s_getf 39 0 2 rfl dX8_refresh_36 ck8 rfl (by decide) rfl (by decide) w308 rfl (v := (2, 3)) rfl ?_
    refine s_getf 42 3 2 rfl dX8_refresh_39 ck3 rfl (by decide) rfl (by decide) w121 rfl (v := (0, h4 3 2)) rfl ?_
    refine s_callV (mj := mX6_split) (S := []) 45 [(0, h4 3 2)] [(2, 4), (0, h4 3 2), (9, 0), (9, 0)] 4 rfl dX8_refresh_42 okX6_split w447 w448 w449 rfl (by decide) rfl rfl rfl rfl npX6_split (Nat.le_of_ble_eq_true rfl) (by decide) (Nat.le_of_ble_eq_true rfl) rfl (Wd.imp H (fun _ h6 H => ?_))
    show Wd mX8_refresh X 45 [(2, 0)] [] h6 Q
    refine s_aload_n 46 0 rfl dX8_refresh_45 rfl rfl ?_
    refine s_getf 49 0 3 rfl dX8_refresh_46 ck8 rfl (by decide) rfl (by decide) w309 rfl (v := (2, 4)) rfl ?_
    refine s_aload_n 50 0 rfl dX8_refresh_49 rfl rfl ?_
    refine s_getf 53 0 1 rfl dX8_refresh_50 ck8 rfl (by decide) rfl (by decide) w307 rfl (v := (2, 2)) rfl ?_
    refine s_callV (mj := mX6_lookThrough) (S := []) 56 [(2, 2)] [(2, 4), (2, 2), (9, 0), (9, 0)] 4 rfl dX8_refresh_53 okX6_lookThrough w451 w452 w453 rfl (by decide) rfl rfl rfl rfl npX6_lookThrough (Nat.le_of_ble_eq_true rfl) (by decide) (Nat.le_of_ble_eq_true rfl) rfl (Wd.imp H (fun _ h8 H => ?_))
    show Wd mX8_refresh X 56 [(2, 0)] [] h8 Q
    refine s_aload_n 57 0 rfl dX8_refresh_56 rfl rfl ?_
    refine s_getf 60 0 3 rfl dX8_refresh_57 ck8 rfl (by decide) rfl (by decide) w309 rfl (v := (2, 4)) rfl ?_
    refine s_aload_n 61 0 rfl dX8_refresh_60 rfl rfl ?_
    refine s_getf 64 0 0 rfl dX8_refresh_61 ck8 rfl (by decide) rfl (by decide) w306 rfl (v := (2, 1)) rfl ?_
    refine s_aload_n 65 0 rfl dX8_refresh_64 rfl rfl ?_
    refine s_getf 68 0 7 rfl dX8_refresh_65 ck8 rfl (by decide) rfl (by decide) w313 rfl (v := (2, 8)) rfl ?_
    refine s_callV (mj := mX6_findLevels) (S := []) 71 [(2, 1), (2, 8)] [(2, 4), (2, 1), (2, 8), (9, 0)] 4 rfl dX8_refresh_68 okX6_findLevels w476 w477 w478 rfl (by decide) rfl rfl rfl rfl npX6_findLevels (Nat.le_of_ble_eq_true rfl) (by decide) (Nat.le_of_ble_eq_true rfl) rfl (Wd.imp H (fun _ h10 H => ?_))
    show Wd mX8_refresh X 71 [(2, 0)] [] h10 Q
    refine s_aload_n 72 0 rfl dX8_refresh_71 rfl rfl ?_
    refine s_getf 75 0 4 rfl dX8_refresh_72 ck8 rfl (by decide) rfl (by decide) w310 rfl (v := (2, 5)) rfl ?_
    refine s_aload_n 76 0 rfl dX8_refresh_75 rfl rfl ?_
    refine s_getf 79 0 3 rfl dX8_refresh_76 ck8 rfl (by decide) rfl (by decide) w309 rfl (v := (2, 4)) rfl ?_
    refine s_aload_n 80 0 rfl dX8_refresh_79 rfl rfl ?_
    refine s_getf 83 0 2 rfl dX8_refresh_80 ck8 rfl (by decide) rfl (by decide) w308 rfl (v := (2, 3)) rfl ?_
    refine s_getf 86 3 2 rfl dX8_refresh_83 ck3 rfl (by decide) rfl (by decide) w121 rfl (v := (0, h10 3 2)) rfl ?_
    refine s_aload_n 87 0 rfl dX8_refresh_86 rfl rfl ?_
    refine s_getf 90 0 0 rfl dX8_refresh_87 ck8 rfl (by decide) rfl (by decide) w306 rfl (v := (2, 1)) rfl ?_
    refine s_callV (mj := mX4_band) (S := [(0, h10 3 2), (2, 4), (2, 5)]) 93 [] [(2, 1)] 1 rfl dX8_refresh_90 okX4_band w509 w510 w511 rfl (by decide) rfl rfl rfl rfl npX4_band (Nat.le_of_ble_eq_true rfl) (by decide) (Nat.le_of_ble_eq_true rfl) rfl (Wd.imp H (fun r11 h12 H => ?_))
    show Wd mX8_refresh X 93 [(2, 0)] [(0, r11), (0, h10 3 2), (2, 4), (2, 5)] h12 Q
    refine s_callV (mj := mX7_find) (S := []) 96 [(2, 4), (0, h10 3 2), (0, r11)] [(2, 5), (2, 4), (0, h10 3 2), (0, r11), (9, 0)] 5 rfl dX8_refresh_93 okX7_find w513 w514 w515 rfl (by decide) rfl rfl rfl rfl npX7_find (Nat.le_of_ble_eq_true rfl) (by decide) (Nat.le_of_ble_eq_true rfl) rfl (Wd.imp H (fun _ h14 H => ?_))
    show Wd mX8_refresh X 96 [(2, 0)] [] h14 Q
    refine s_aload_n 97 0 rfl dX8_refresh_96 rfl rfl ?_
    refine s_getf 100 0 5 rfl dX8_refresh_97 ck8 rfl (by decide) rfl (by decide) w311 rfl (v := (2, 6)) rfl ?_
    refine s_aload_n 101 0 rfl dX8_refresh_100 rfl rfl ?_
    refine s_getf 104 0 4 rfl dX8_refresh_101 ck8 rfl (by decide) rfl (by decide) w310 rfl (v := (2, 5)) rfl ?_
    refine s_aload_n 105 0 rfl dX8_refresh_104 rfl rfl ?_
    refine s_getf 108 0 7 rfl dX8_refresh_105 ck8 rfl (by decide) rfl (by decide) w313 rfl (v := (2, 8)) rfl ?_
    refine s_callV (mj := mX2_rank) (S := []) 111 [(2, 5), (2, 8)] [(2, 6), (2, 5), (2, 8), (9, 0), (9, 0)] 6 rfl dX8_refresh_108 okX2_rank w539 w540 w541 rfl (by decide) rfl rfl rfl rfl npX2_rank (Nat.le_of_ble_eq_true rfl) (by decide) (Nat.le_of_ble_eq_true rfl) rfl (Wd.imp H (fun _ h16 H => ?_))
    show Wd mX8_refresh X 111 [(2, 0)] [] h16 Q
    refine s_aload_n 112 0 rfl dX8_refresh_111 rfl rfl ?_
    refine s_getf 115 0 5 rfl dX8_refresh_112 ck8 rfl (by decide) rfl (by decide) w311 rfl (v := (2, 6)) rfl ?_
    refine s_aload_n 116 0 rfl dX8_refresh_115 rfl rfl ?_
    refine s_getf 119 0 4 rfl dX8_refresh_116 ck8 rfl (by decide) rfl (by decide) w310 rfl (v := (2, 5)) rfl ?_
    refine s_aload_n 120 0 rfl dX8_refresh_119 rfl rfl ?_
    refine s_getf 123 0 0 rfl dX8_refresh_120 ck8 rfl (by decide) rfl (by decide) w306 rfl (v := (2, 1)) rfl ?_
    refine s_callV (mj := mX2_weigh) (S := []) 126 [(2, 5), (2, 1)] [(2, 6), (2, 5), (2, 1), (9, 0)] 6 rfl dX8_refresh_123 okX2_weigh w551 w552 w553 rfl (by decide) rfl rfl rfl rfl npX2_weigh (Nat.le_of_ble_eq_true rfl) (by decide) (Nat.le_of_ble_eq_true rfl) rfl (Wd.imp H (fun _ h18 H => ?_))
    show Wd mX8_refresh X 126 [(2, 0)] [] h18 Q
    refine s_aload_n 127 0 rfl dX8_refresh_126 rfl rfl ?_
    refine s_getf 130 0 6 rfl dX8_refresh_127 ck8 rfl (by decide) rfl (by decide) w312 rfl (v := (2, 7)) rfl ?_
    refine s_aload_n 131 0 rfl dX8_refresh_130 rfl rfl ?_
    refine s_getf 134 0 4 rfl dX8_refresh_131 ck8 rfl (by decide) rfl (by decide) w310 rfl (v := (2, 5)) rfl ?_
    refine s_aload_n 135 0 rfl dX8_refresh_134 rfl rfl ?_
    refine s_getf 138 0 5 rfl dX8_refresh_135 ck8 rfl (by decide) rfl (by decide) w311 rfl (v := (2, 6)) rfl ?_
    refine s_aload_n 139 0 rfl dX8_refresh_138 rfl rfl ?_
    refine s_getf 142 0 0 rfl dX8_refresh_139 ck8 rfl (by decide) rfl (by decide) w306 rfl (v := (2, 1)) rfl ?_
    refine s_callV (mj := mX0_find) (S := []) 145 [(2, 5), (2, 6), (2, 1)] [(2, 7), (2, 5), (2, 6), (2, 1), (9, 0), (9, 0), (9, 0), (9, 0)] 7 rfl dX8_refresh_142 okX0_find w568 w569 w570 rfl (by decide) rfl rfl rfl rfl npX0_find (Nat.le_of_ble_eq_true rfl) (by decide) (Nat.le_of_ble_eq_true rfl) rfl (Wd.imp H (fun _ h20 H => ?_))
    show Wd mX8_refresh X 145 [(2, 0)] [] h20 Q
    exact s_vret (S := []) dX8_refresh_145 rfl H
  · replace H := H.2 c20
    exact s_vret (S := []) dX8_refresh_7 rfl H
theorem vX8_count_0 {X : Nat × (Int → Int)} {h : HP} {Q : Int → HP → Prop} {x1 : Int} (H : Wd mX8_refresh X 0 [(2, 0)] [] h (fun _ h2 => ((x1 < 0 ∨ 15 < x1 → (Q (-1) h2)) ∧ (x1 = 0 → (Q (h2 3 2) h2)) ∧ (x1 = 1 → (Q (h2 4 6) h2)) ∧ (x1 = 2 → (Q (h2 5 10) h2)) ∧ (x1 = 3 → (Q (h2 6 2) h2)) ∧ (x1 = 4 → (Q (h2 7 3) h2)) ∧ (x1 = 5 → (Q (h2 2 2) h2)) ∧ (x1 = 6 → (Wd mX3_namesGiven X 0 [(2, 3), (9, 0), (9, 0)] [] h2 (fun r4 h5 => Q r4 h5))) ∧ (x1 = 7 → (Wd mX4_mend X 0 [(2, 1)] [] h2 (fun r6 h7 => Q r6 h7))) ∧ (x1 = 8 → (Wd mX4_band X 0 [(2, 1)] [] h2 (fun r8 h9 => Q r8 h9))) ∧ (x1 = 9 → (Wd mX4_factor X 0 [(2, 1)] [] h2 (fun r10 h11 => Q r10 h11))) ∧ (x1 = 10 → (Wd mX4_least X 0 [(2, 1)] [] h2 (fun r12 h13 => Q r12 h13))) ∧ (x1 = 11 → (Q (h2 1 1) h2)) ∧ (x1 = 12 → (Q (h2 1 3) h2)) ∧ (x1 = 13 → (Q (h2 4 7) h2)) ∧ (x1 = 14 → (Q (h2 4 8) h2)) ∧ (x1 = 15 → (Wd mX7_periodsFrom X 0 [(2, 5), (0, 0), (0, h2 5 10), (9, 0), (9, 0)] [] h2 (fun r14 h15 => Q r14 h15)))))) : Wd mX8_count X 0 [(2, 0), (0, x1)] [] h Q := by
  refine s_aload_n 1 0 rfl dX8_count_0 rfl rfl ?_
  refine s_callV (mj := mX8_refresh) (S := []) 4 [] [(2, 0)] 0 rfl dX8_count_1 okX8_refresh w421 w423 w1 rfl (by decide) rfl rfl rfl rfl npX8_refresh (Nat.le_of_ble_eq_true rfl) (by decide) (Nat.le_of_ble_eq_true rfl) rfl (Wd.imp H (fun _ h2 H => ?_))
  show Wd mX8_count X 4 [(2, 0), (0, x1)] [] h2 Q
  refine s_iload_n 5 1 rfl dX8_count_4 rfl rfl ?_
  rcases (by omega : (x1 < 0 ∨ 15 < x1) ∨ x1 = 0 ∨ x1 = 1 ∨ x1 = 2 ∨ x1 = 3 ∨ x1 = 4 ∨ x1 = 5 ∨ x1 = 6 ∨ x1 = 7 ∨ x1 = 8 ∨ x1 = 9 ∨ x1 = 10 ∨ x1 = 11 ∨ x1 = 12 ∨ x1 = 13 ∨ x1 = 14 ∨ x1 = 15) with c2 | c2 | c2 | c2 | c2 | c2 | c2 | c2 | c2 | c2 | c2 | c2 | c2 | c2 | c2 | c2 | c2
  · refine s_tsd 220 dX8_count_5 c2 (by decide) ?_
    replace H := H.1 c2
    refine s_iconst 221 rfl dX8_count_220 ⟨by decide, by decide⟩ ?_
    exact s_iret (S := []) dX8_count_221 rfl H
  · refine s_tsw 84 dX8_count_5 (by omega) (by omega) (by rw [c2]; rfl) (by decide) ?_
    replace H := H.2.1 c2
    refine s_aload_n 85 0 rfl dX8_count_84 rfl rfl ?_
    refine s_getf 88 0 2 rfl dX8_count_85 ck8 rfl (by decide) rfl (by decide) w308 rfl (v := (2, 3)) rfl ?_
    refine s_getf 91 3 2 rfl dX8_count_88 ck3 rfl (by decide) rfl (by decide) w121 rfl (v := (0, h2 3 2)) rfl ?_
    exact s_iret (S := []) dX8_count_91 rfl H
  · refine s_tsw 92 dX8_count_5 (by omega) (by omega) (by rw [c2]; rfl) (by decide) ?_
    replace H := H.2.2.1 c2
    refine s_aload_n 93 0 rfl dX8_count_92 rfl rfl ?_
    refine s_getf 96 0 3 rfl dX8_count_93 ck8 rfl (by decide) rfl (by decide) w309 rfl (v := (2, 4)) rfl ?_
    refine s_getf 99 4 6 rfl dX8_count_96 ck6 rfl (by decide) rfl (by decide) w155 rfl (v := (0, h2 4 6)) rfl ?_
    exact s_iret (S := []) dX8_count_99 rfl H
  · refine s_tsw 100 dX8_count_5 (by omega) (by omega) (by rw [c2]; rfl) (by decide) ?_
    replace H := H.2.2.2.1 c2
    refine s_aload_n 101 0 rfl dX8_count_100 rfl rfl ?_
    refine s_getf 104 0 4 rfl dX8_count_101 ck8 rfl (by decide) rfl (by decide) w310 rfl (v := (2, 5)) rfl ?_
    refine s_getf 107 5 10 rfl dX8_count_104 ck7 rfl (by decide) rfl (by decide) w211 rfl (v := (0, h2 5 10)) rfl ?_
    exact s_iret (S := []) dX8_count_107 rfl H
  · refine s_tsw 108 dX8_count_5 (by omega) (by omega) (by rw [c2]; rfl) (by decide) ?_
    replace H := H.2.2.2.2.1 c2
    refine s_aload_n 109 0 rfl dX8_count_108 rfl rfl ?_
    refine s_getf 112 0 5 rfl dX8_count_109 ck8 rfl (by decide) rfl (by decide) w311 rfl (v := (2, 6)) rfl ?_
    refine s_getf 115 6 2 rfl dX8_count_112 ck2 rfl (by decide) rfl (by decide) w246 rfl (v := (0, h2 6 2)) rfl ?_
    exact s_iret (S := []) dX8_count_115 rfl H
  · refine s_tsw 116 dX8_count_5 (by omega) (by omega) (by rw [c2]; rfl) (by decide) ?_
    replace H := H.2.2.2.2.2.1 c2
    refine s_aload_n 117 0 rfl dX8_count_116 rfl rfl ?_
    refine s_getf 120 0 6 rfl dX8_count_117 ck8 rfl (by decide) rfl (by decide) w312 rfl (v := (2, 7)) rfl ?_
    refine s_getf 123 7 3 rfl dX8_count_120 ck0 rfl (by decide) rfl (by decide) w279 rfl (v := (0, h2 7 3)) rfl ?_
    exact s_iret (S := []) dX8_count_123 rfl H
  · refine s_tsw 124 dX8_count_5 (by omega) (by omega) (by rw [c2]; rfl) (by decide) ?_
    replace H := H.2.2.2.2.2.2.1 c2
    refine s_aload_n 125 0 rfl dX8_count_124 rfl rfl ?_
    refine s_getf 128 0 1 rfl dX8_count_125 ck8 rfl (by decide) rfl (by decide) w307 rfl (v := (2, 2)) rfl ?_
    refine s_getf 131 2 2 rfl dX8_count_128 ck1 rfl (by decide) rfl (by decide) w101 rfl (v := (0, h2 2 2)) rfl ?_
    exact s_iret (S := []) dX8_count_131 rfl H
  · refine s_tsw 132 dX8_count_5 (by omega) (by omega) (by rw [c2]; rfl) (by decide) ?_
    replace H := H.2.2.2.2.2.2.2.1 c2
    refine s_aload_n 133 0 rfl dX8_count_132 rfl rfl ?_
    refine s_getf 136 0 2 rfl dX8_count_133 ck8 rfl (by decide) rfl (by decide) w308 rfl (v := (2, 3)) rfl ?_
    refine s_callV (mj := mX3_namesGiven) (S := []) 139 [] [(2, 3), (9, 0), (9, 0)] 3 rfl dX8_count_136 okX3_namesGiven w584 w585 w586 rfl (by decide) rfl rfl rfl rfl npX3_namesGiven (Nat.le_of_ble_eq_true rfl) (by decide) (Nat.le_of_ble_eq_true rfl) rfl (Wd.imp H (fun r4 h5 H => ?_))
    show Wd mX8_count X 139 [(2, 0), (0, x1)] [(0, r4)] h5 Q
    exact s_iret (S := []) dX8_count_139 rfl H
  · refine s_tsw 140 dX8_count_5 (by omega) (by omega) (by rw [c2]; rfl) (by decide) ?_
    replace H := H.2.2.2.2.2.2.2.2.1 c2
    refine s_aload_n 141 0 rfl dX8_count_140 rfl rfl ?_
    refine s_getf 144 0 0 rfl dX8_count_141 ck8 rfl (by decide) rfl (by decide) w306 rfl (v := (2, 1)) rfl ?_
    refine s_callV (mj := mX4_mend) (S := []) 147 [] [(2, 1)] 1 rfl dX8_count_144 okX4_mend w425 w426 w427 rfl (by decide) rfl rfl rfl rfl npX4_mend (Nat.le_of_ble_eq_true rfl) (by decide) (Nat.le_of_ble_eq_true rfl) rfl (Wd.imp H (fun r6 h7 H => ?_))
    show Wd mX8_count X 147 [(2, 0), (0, x1)] [(0, r6)] h7 Q
    exact s_iret (S := []) dX8_count_147 rfl H
  · refine s_tsw 148 dX8_count_5 (by omega) (by omega) (by rw [c2]; rfl) (by decide) ?_
    replace H := H.2.2.2.2.2.2.2.2.2.1 c2
    refine s_aload_n 149 0 rfl dX8_count_148 rfl rfl ?_
    refine s_getf 152 0 0 rfl dX8_count_149 ck8 rfl (by decide) rfl (by decide) w306 rfl (v := (2, 1)) rfl ?_
    refine s_callV (mj := mX4_band) (S := []) 155 [] [(2, 1)] 1 rfl dX8_count_152 okX4_band w509 w510 w511 rfl (by decide) rfl rfl rfl rfl npX4_band (Nat.le_of_ble_eq_true rfl) (by decide) (Nat.le_of_ble_eq_true rfl) rfl (Wd.imp H (fun r8 h9 H => ?_))
    show Wd mX8_count X 155 [(2, 0), (0, x1)] [(0, r8)] h9 Q
    exact s_iret (S := []) dX8_count_155 rfl H
  · refine s_tsw 156 dX8_count_5 (by omega) (by omega) (by rw [c2]; rfl) (by decide) ?_
    replace H := H.2.2.2.2.2.2.2.2.2.2.1 c2
    refine s_aload_n 157 0 rfl dX8_count_156 rfl rfl ?_
    refine s_getf 160 0 0 rfl dX8_count_157 ck8 rfl (by decide) rfl (by decide) w306 rfl (v := (2, 1)) rfl ?_
    refine s_callV (mj := mX4_factor) (S := []) 163 [] [(2, 1)] 1 rfl dX8_count_160 okX4_factor w588 w565 w566 rfl (by decide) rfl rfl rfl rfl npX4_factor (Nat.le_of_ble_eq_true rfl) (by decide) (Nat.le_of_ble_eq_true rfl) rfl (Wd.imp H (fun r10 h11 H => ?_))
    show Wd mX8_count X 163 [(2, 0), (0, x1)] [(0, r10)] h11 Q
    exact s_iret (S := []) dX8_count_163 rfl H
  · refine s_tsw 164 dX8_count_5 (by omega) (by omega) (by rw [c2]; rfl) (by decide) ?_
    replace H := H.2.2.2.2.2.2.2.2.2.2.2.1 c2
    refine s_aload_n 165 0 rfl dX8_count_164 rfl rfl ?_
    refine s_getf 168 0 0 rfl dX8_count_165 ck8 rfl (by decide) rfl (by decide) w306 rfl (v := (2, 1)) rfl ?_
    refine s_callV (mj := mX4_least) (S := []) 171 [] [(2, 1)] 1 rfl dX8_count_168 okX4_least w589 w577 w578 rfl (by decide) rfl rfl rfl rfl npX4_least (Nat.le_of_ble_eq_true rfl) (by decide) (Nat.le_of_ble_eq_true rfl) rfl (Wd.imp H (fun r12 h13 H => ?_))
    show Wd mX8_count X 171 [(2, 0), (0, x1)] [(0, r12)] h13 Q
    exact s_iret (S := []) dX8_count_171 rfl H
  · refine s_tsw 172 dX8_count_5 (by omega) (by omega) (by rw [c2]; rfl) (by decide) ?_
    replace H := H.2.2.2.2.2.2.2.2.2.2.2.2.1 c2
    refine s_aload_n 173 0 rfl dX8_count_172 rfl rfl ?_
    refine s_getf 176 0 0 rfl dX8_count_173 ck8 rfl (by decide) rfl (by decide) w306 rfl (v := (2, 1)) rfl ?_
    refine s_getf 179 1 1 rfl dX8_count_176 ck4 rfl (by decide) rfl (by decide) w72 rfl (v := (0, h2 1 1)) rfl ?_
    exact s_iret (S := []) dX8_count_179 rfl H
  · refine s_tsw 180 dX8_count_5 (by omega) (by omega) (by rw [c2]; rfl) (by decide) ?_
    replace H := H.2.2.2.2.2.2.2.2.2.2.2.2.2.1 c2
    refine s_aload_n 181 0 rfl dX8_count_180 rfl rfl ?_
    refine s_getf 184 0 0 rfl dX8_count_181 ck8 rfl (by decide) rfl (by decide) w306 rfl (v := (2, 1)) rfl ?_
    refine s_getf 187 1 3 rfl dX8_count_184 ck4 rfl (by decide) rfl (by decide) w77 rfl (v := (0, h2 1 3)) rfl ?_
    exact s_iret (S := []) dX8_count_187 rfl H
  · refine s_tsw 188 dX8_count_5 (by omega) (by omega) (by rw [c2]; rfl) (by decide) ?_
    replace H := H.2.2.2.2.2.2.2.2.2.2.2.2.2.2.1 c2
    refine s_aload_n 189 0 rfl dX8_count_188 rfl rfl ?_
    refine s_getf 192 0 3 rfl dX8_count_189 ck8 rfl (by decide) rfl (by decide) w309 rfl (v := (2, 4)) rfl ?_
    refine s_getf 195 4 7 rfl dX8_count_192 ck6 rfl (by decide) rfl (by decide) w157 rfl (v := (0, h2 4 7)) rfl ?_
    exact s_iret (S := []) dX8_count_195 rfl H
  · refine s_tsw 196 dX8_count_5 (by omega) (by omega) (by rw [c2]; rfl) (by decide) ?_
    replace H := H.2.2.2.2.2.2.2.2.2.2.2.2.2.2.2.1 c2
    refine s_aload_n 197 0 rfl dX8_count_196 rfl rfl ?_
    refine s_getf 200 0 3 rfl dX8_count_197 ck8 rfl (by decide) rfl (by decide) w309 rfl (v := (2, 4)) rfl ?_
    refine s_getf 203 4 8 rfl dX8_count_200 ck6 rfl (by decide) rfl (by decide) w159 rfl (v := (0, h2 4 8)) rfl ?_
    exact s_iret (S := []) dX8_count_203 rfl H
  · refine s_tsw 204 dX8_count_5 (by omega) (by omega) (by rw [c2]; rfl) (by decide) ?_
    replace H := H.2.2.2.2.2.2.2.2.2.2.2.2.2.2.2.2 c2
    refine s_aload_n 205 0 rfl dX8_count_204 rfl rfl ?_
    refine s_getf 208 0 4 rfl dX8_count_205 ck8 rfl (by decide) rfl (by decide) w310 rfl (v := (2, 5)) rfl ?_
    refine s_iconst 209 rfl dX8_count_208 ⟨by decide, by decide⟩ ?_
    refine s_aload_n 210 0 rfl dX8_count_209 rfl rfl ?_
    refine s_getf 213 0 4 rfl dX8_count_210 ck8 rfl (by decide) rfl (by decide) w310 rfl (v := (2, 5)) rfl ?_
    refine s_getf 216 5 10 rfl dX8_count_213 ck7 rfl (by decide) rfl (by decide) w211 rfl (v := (0, h2 5 10)) rfl ?_
    refine s_callV (mj := mX7_periodsFrom) (S := []) 219 [(0, 0), (0, h2 5 10)] [(2, 5), (0, 0), (0, h2 5 10), (9, 0), (9, 0)] 5 rfl dX8_count_216 okX7_periodsFrom w590 w591 w592 rfl (by decide) rfl rfl rfl rfl npX7_periodsFrom (Nat.le_of_ble_eq_true rfl) (by decide) (Nat.le_of_ble_eq_true rfl) rfl (Wd.imp H (fun r14 h15 H => ?_))
    show Wd mX8_count X 219 [(2, 0), (0, x1)] [(0, r14)] h15 Q
    exact s_iret (S := []) dX8_count_219 rfl H
theorem vX8_sample_0 {X : Nat × (Int → Int)} {h : HP} {Q : Int → HP → Prop} {x1 x2 : Int} (H : Wd mX3_has X 0 [(2, 3), (0, x1)] [] h (fun r1 h2 => ((¬ r1 = 0 → (Wd mX8_refresh X 0 [(2, 0)] [] h2 (fun _ h4 => ((x2 < 0 ∨ 5 < x2 → (Q (-1) h4)) ∧ (x2 = 0 → (0 ≤ x1 ∧ x1 < 600 ∧ Q (h4 12 x1) h4)) ∧ (x2 = 1 → (Wd mX6_shownBehind X 0 [(2, 4), (0, x1), (0, 0)] [] h4 (fun r8 h9 => Q r8 h9))) ∧ (x2 = 2 → (Wd mX6_shownBehind X 0 [(2, 4), (0, x1), (0, h4 2 2)] [] h4 (fun r10 h11 => Q r10 h11))) ∧ (x2 = 3 → (0 ≤ x1 ∧ x1 < 600 ∧ Q (h4 20 x1) h4)) ∧ (x2 = 4 → (0 ≤ x1 ∧ x1 < 600 ∧ Q (h4 24 x1) h4)) ∧ (x2 = 5 → (Wd mX3_nameAt X 0 [(2, 3), (0, x1)] [] h4 (fun r16 h17 => Q r16 h17))))))) ∧ (r1 = 0 → (Q (-1) h2))))) : Wd mX8_sample X 0 [(2, 0), (0, x1), (0, x2)] [] h Q := by
  refine s_aload_n 1 0 rfl dX8_sample_0 rfl rfl ?_
  refine s_getf 4 0 2 rfl dX8_sample_1 ck8 rfl (by decide) rfl (by decide) w308 rfl (v := (2, 3)) rfl ?_
  refine s_iload_n 5 1 rfl dX8_sample_4 rfl rfl ?_
  refine s_callV (mj := mX3_has) (S := []) 8 [(0, x1)] [(2, 3), (0, x1)] 3 rfl dX8_sample_5 okX3_has w598 w599 w600 rfl (by decide) rfl rfl rfl rfl npX3_has (Nat.le_of_ble_eq_true rfl) (by decide) (Nat.le_of_ble_eq_true rfl) rfl (Wd.imp H (fun r1 h2 H => ?_))
  show Wd mX8_sample X 8 [(2, 0), (0, x1), (0, x2)] [(0, r1)] h2 Q
  refine s_if_ne 11 13 rfl dX8_sample_8 (by decide) (fun c17 => ?_) (fun c17 => ?_)
  · replace H := H.1 c17
    refine s_aload_n 14 0 rfl dX8_sample_13 rfl rfl ?_
    refine s_callV (mj := mX8_refresh) (S := []) 17 [] [(2, 0)] 0 rfl dX8_sample_14 okX8_refresh w421 w423 w1 rfl (by decide) rfl rfl rfl rfl npX8_refresh (Nat.le_of_ble_eq_true rfl) (by decide) (Nat.le_of_ble_eq_true rfl) rfl (Wd.imp H (fun _ h4 H => ?_))
    show Wd mX8_sample X 17 [(2, 0), (0, x1), (0, x2)] [] h4 Q
    refine s_iload_n 18 2 rfl dX8_sample_17 rfl rfl ?_
    rcases (by omega : (x2 < 0 ∨ 5 < x2) ∨ x2 = 0 ∨ x2 = 1 ∨ x2 = 2 ∨ x2 = 3 ∨ x2 = 4 ∨ x2 = 5) with c4 | c4 | c4 | c4 | c4 | c4 | c4
    · refine s_tsd 121 dX8_sample_18 c4 (by decide) ?_
      replace H := H.1 c4
      refine s_iconst 122 rfl dX8_sample_121 ⟨by decide, by decide⟩ ?_
      exact s_iret (S := []) dX8_sample_122 rfl H
    · refine s_tsw 56 dX8_sample_18 (by omega) (by omega) (by rw [c4]; rfl) (by decide) ?_
      replace H := H.2.1 c4
      refine s_aload_n 57 0 rfl dX8_sample_56 rfl rfl ?_
      refine s_getf 60 0 2 rfl dX8_sample_57 ck8 rfl (by decide) rfl (by decide) w308 rfl (v := (2, 3)) rfl ?_
      refine s_getf 63 3 0 rfl dX8_sample_60 ck3 rfl (by decide) rfl (by decide) w118 rfl (v := (2, 12)) rfl ?_
      refine s_iload_n 64 1 rfl dX8_sample_63 rfl rfl ?_
      have c5 := H.1
      replace H := H.2
      have c6 := H.1
      replace H := H.2
      refine s_iald 65 rfl dX8_sample_64 ia12 c5 c6 (v9 := h4 12 x1) rfl ?_
      exact s_iret (S := []) dX8_sample_65 rfl H
    · refine s_tsw 66 dX8_sample_18 (by omega) (by omega) (by rw [c4]; rfl) (by decide) ?_
      replace H := H.2.2.1 c4
      refine s_aload_n 67 0 rfl dX8_sample_66 rfl rfl ?_
      refine s_getf 70 0 3 rfl dX8_sample_67 ck8 rfl (by decide) rfl (by decide) w309 rfl (v := (2, 4)) rfl ?_
      refine s_iload_n 71 1 rfl dX8_sample_70 rfl rfl ?_
      refine s_iconst 72 rfl dX8_sample_71 ⟨by decide, by decide⟩ ?_
      refine s_callV (mj := mX6_shownBehind) (S := []) 75 [(0, x1), (0, 0)] [(2, 4), (0, x1), (0, 0)] 4 rfl dX8_sample_72 okX6_shownBehind w602 w603 w604 rfl (by decide) rfl rfl rfl rfl npX6_shownBehind (Nat.le_of_ble_eq_true rfl) (by decide) (Nat.le_of_ble_eq_true rfl) rfl (Wd.imp H (fun r8 h9 H => ?_))
      show Wd mX8_sample X 75 [(2, 0), (0, x1), (0, x2)] [(0, r8)] h9 Q
      exact s_iret (S := []) dX8_sample_75 rfl H
    · refine s_tsw 76 dX8_sample_18 (by omega) (by omega) (by rw [c4]; rfl) (by decide) ?_
      replace H := H.2.2.2.1 c4
      refine s_aload_n 77 0 rfl dX8_sample_76 rfl rfl ?_
      refine s_getf 80 0 3 rfl dX8_sample_77 ck8 rfl (by decide) rfl (by decide) w309 rfl (v := (2, 4)) rfl ?_
      refine s_iload_n 81 1 rfl dX8_sample_80 rfl rfl ?_
      refine s_aload_n 82 0 rfl dX8_sample_81 rfl rfl ?_
      refine s_getf 85 0 1 rfl dX8_sample_82 ck8 rfl (by decide) rfl (by decide) w307 rfl (v := (2, 2)) rfl ?_
      refine s_getf 88 2 2 rfl dX8_sample_85 ck1 rfl (by decide) rfl (by decide) w101 rfl (v := (0, h4 2 2)) rfl ?_
      refine s_callV (mj := mX6_shownBehind) (S := []) 91 [(0, x1), (0, h4 2 2)] [(2, 4), (0, x1), (0, h4 2 2)] 4 rfl dX8_sample_88 okX6_shownBehind w602 w603 w604 rfl (by decide) rfl rfl rfl rfl npX6_shownBehind (Nat.le_of_ble_eq_true rfl) (by decide) (Nat.le_of_ble_eq_true rfl) rfl (Wd.imp H (fun r10 h11 H => ?_))
      show Wd mX8_sample X 91 [(2, 0), (0, x1), (0, x2)] [(0, r10)] h11 Q
      exact s_iret (S := []) dX8_sample_91 rfl H
    · refine s_tsw 92 dX8_sample_18 (by omega) (by omega) (by rw [c4]; rfl) (by decide) ?_
      replace H := H.2.2.2.2.1 c4
      refine s_aload_n 93 0 rfl dX8_sample_92 rfl rfl ?_
      refine s_getf 96 0 3 rfl dX8_sample_93 ck8 rfl (by decide) rfl (by decide) w309 rfl (v := (2, 4)) rfl ?_
      refine s_getf 99 4 2 rfl dX8_sample_96 ck6 rfl (by decide) rfl (by decide) w144 rfl (v := (2, 20)) rfl ?_
      refine s_iload_n 100 1 rfl dX8_sample_99 rfl rfl ?_
      have c11 := H.1
      replace H := H.2
      have c12 := H.1
      replace H := H.2
      refine s_iald 101 rfl dX8_sample_100 ia20 c11 c12 (v9 := h4 20 x1) rfl ?_
      exact s_iret (S := []) dX8_sample_101 rfl H
    · refine s_tsw 102 dX8_sample_18 (by omega) (by omega) (by rw [c4]; rfl) (by decide) ?_
      replace H := H.2.2.2.2.2.1 c4
      refine s_aload_n 103 0 rfl dX8_sample_102 rfl rfl ?_
      refine s_getf 106 0 4 rfl dX8_sample_103 ck8 rfl (by decide) rfl (by decide) w310 rfl (v := (2, 5)) rfl ?_
      refine s_getf 109 5 0 rfl dX8_sample_106 ck7 rfl (by decide) rfl (by decide) w186 rfl (v := (2, 24)) rfl ?_
      refine s_iload_n 110 1 rfl dX8_sample_109 rfl rfl ?_
      have c13 := H.1
      replace H := H.2
      have c14 := H.1
      replace H := H.2
      refine s_iald 111 rfl dX8_sample_110 ia24 c13 c14 (v9 := h4 24 x1) rfl ?_
      exact s_iret (S := []) dX8_sample_111 rfl H
    · refine s_tsw 112 dX8_sample_18 (by omega) (by omega) (by rw [c4]; rfl) (by decide) ?_
      replace H := H.2.2.2.2.2.2 c4
      refine s_aload_n 113 0 rfl dX8_sample_112 rfl rfl ?_
      refine s_getf 116 0 2 rfl dX8_sample_113 ck8 rfl (by decide) rfl (by decide) w308 rfl (v := (2, 3)) rfl ?_
      refine s_iload_n 117 1 rfl dX8_sample_116 rfl rfl ?_
      refine s_callV (mj := mX3_nameAt) (S := []) 120 [(0, x1)] [(2, 3), (0, x1)] 3 rfl dX8_sample_117 okX3_nameAt w606 w607 w608 rfl (by decide) rfl rfl rfl rfl npX3_nameAt (Nat.le_of_ble_eq_true rfl) (by decide) (Nat.le_of_ble_eq_true rfl) rfl (Wd.imp H (fun r16 h17 H => ?_))
      show Wd mX8_sample X 120 [(2, 0), (0, x1), (0, x2)] [(0, r16)] h17 Q
      exact s_iret (S := []) dX8_sample_120 rfl H
  · replace H := H.2 c17
    refine s_iconst 12 rfl dX8_sample_11 ⟨by decide, by decide⟩ ?_
    exact s_iret (S := []) dX8_sample_12 rfl H
theorem vX8_through_0 {X : Nat × (Int → Int)} {h : HP} {Q : Int → HP → Prop} {x1 x2 : Int} (H : Wd mX3_has X 0 [(2, 3), (0, x1)] [] h (fun r1 h2 => ((r1 = 0 → (Q (-32768) h2)) ∧ (¬ r1 = 0 → ((x2 < 0 → (Q (-32768) h2)) ∧ (¬ (x2 < 0) → ((x2 ≤ h2 2 2 → (Wd mX8_refresh X 0 [(2, 0)] [] h2 (fun _ h4 => Wd mX6_shownBehind X 0 [(2, 4), (0, x1), (0, x2)] [] h4 (fun r5 h6 => Q r5 h6)))) ∧ (¬ (x2 ≤ h2 2 2) → (Q (-32768) h2))))))))) : Wd mX8_through X 0 [(2, 0), (0, x1), (0, x2)] [] h Q := by
  refine s_aload_n 1 0 rfl dX8_through_0 rfl rfl ?_
  refine s_getf 4 0 2 rfl dX8_through_1 ck8 rfl (by decide) rfl (by decide) w308 rfl (v := (2, 3)) rfl ?_
  refine s_iload_n 5 1 rfl dX8_through_4 rfl rfl ?_
  refine s_callV (mj := mX3_has) (S := []) 8 [(0, x1)] [(2, 3), (0, x1)] 3 rfl dX8_through_5 okX3_has w598 w599 w600 rfl (by decide) rfl rfl rfl rfl npX3_has (Nat.le_of_ble_eq_true rfl) (by decide) (Nat.le_of_ble_eq_true rfl) rfl (Wd.imp H (fun r1 h2 H => ?_))
  show Wd mX8_through X 8 [(2, 0), (0, x1), (0, x2)] [(0, r1)] h2 Q
  refine s_if_eq 11 26 rfl dX8_through_8 (by decide) (fun c8 => ?_) (fun c8 => ?_)
  · replace H := H.1 c8
    refine s_sipush 29 rfl dX8_through_26 (by decide) ⟨by decide, by decide⟩ ?_
    exact s_iret (S := []) dX8_through_29 rfl H
  · replace H := H.2 c8
    refine s_iload_n 12 2 rfl dX8_through_11 rfl rfl ?_
    refine s_if_lt 15 26 rfl dX8_through_12 (by decide) (fun c7 => ?_) (fun c7 => ?_)
    · replace H := H.1 c7
      refine s_sipush 29 rfl dX8_through_26 (by decide) ⟨by decide, by decide⟩ ?_
      exact s_iret (S := []) dX8_through_29 rfl H
    · replace H := H.2 c7
      refine s_iload_n 16 2 rfl dX8_through_15 rfl rfl ?_
      refine s_aload_n 17 0 rfl dX8_through_16 rfl rfl ?_
      refine s_getf 20 0 1 rfl dX8_through_17 ck8 rfl (by decide) rfl (by decide) w307 rfl (v := (2, 2)) rfl ?_
      refine s_getf 23 2 2 rfl dX8_through_20 ck1 rfl (by decide) rfl (by decide) w101 rfl (v := (0, h2 2 2)) rfl ?_
      refine s_icmp_le 26 30 rfl dX8_through_23 (by decide) (fun c6 => ?_) (fun c6 => ?_)
      · replace H := H.1 c6
        refine s_aload_n 31 0 rfl dX8_through_30 rfl rfl ?_
        refine s_callV (mj := mX8_refresh) (S := []) 34 [] [(2, 0)] 0 rfl dX8_through_31 okX8_refresh w421 w423 w1 rfl (by decide) rfl rfl rfl rfl npX8_refresh (Nat.le_of_ble_eq_true rfl) (by decide) (Nat.le_of_ble_eq_true rfl) rfl (Wd.imp H (fun _ h4 H => ?_))
        show Wd mX8_through X 34 [(2, 0), (0, x1), (0, x2)] [] h4 Q
        refine s_aload_n 35 0 rfl dX8_through_34 rfl rfl ?_
        refine s_getf 38 0 3 rfl dX8_through_35 ck8 rfl (by decide) rfl (by decide) w309 rfl (v := (2, 4)) rfl ?_
        refine s_iload_n 39 1 rfl dX8_through_38 rfl rfl ?_
        refine s_iload_n 40 2 rfl dX8_through_39 rfl rfl ?_
        refine s_callV (mj := mX6_shownBehind) (S := []) 43 [(0, x1), (0, x2)] [(2, 4), (0, x1), (0, x2)] 4 rfl dX8_through_40 okX6_shownBehind w602 w603 w604 rfl (by decide) rfl rfl rfl rfl npX6_shownBehind (Nat.le_of_ble_eq_true rfl) (by decide) (Nat.le_of_ble_eq_true rfl) rfl (Wd.imp H (fun r5 h6 H => ?_))
        show Wd mX8_through X 43 [(2, 0), (0, x1), (0, x2)] [(0, r5)] h6 Q
        exact s_iret (S := []) dX8_through_43 rfl H
      · replace H := H.2 c6
        refine s_sipush 29 rfl dX8_through_26 (by decide) ⟨by decide, by decide⟩ ?_
        exact s_iret (S := []) dX8_through_29 rfl H
theorem vX8_stretch_0 {X : Nat × (Int → Int)} {h : HP} {Q : Int → HP → Prop} {x1 x2 : Int} (H : Wd mX8_refresh X 0 [(2, 0)] [] h (fun _ h2 => Wd mX6_has X 0 [(2, 4), (0, x1)] [] h2 (fun r3 h4 => ((¬ r3 = 0 → ((x2 < 0 ∨ 7 < x2 → (Q (-1) h4)) ∧ (x2 = 0 → (0 ≤ x1 ∧ x1 < 300 ∧ Q (h4 21 x1) h4)) ∧ (x2 = 1 → (0 ≤ x1 ∧ x1 < 300 ∧ Q (h4 22 x1) h4)) ∧ (x2 = 2 → (0 ≤ x1 ∧ x1 < 300 ∧ Q (h4 23 x1) h4)) ∧ (x2 = 3 → (0 ≤ x1 ∧ x1 < 300 ∧ Q (h4 31 x1) h4)) ∧ (x2 = 4 → (0 ≤ x1 ∧ x1 < 300 ∧ Q (h4 32 x1) h4)) ∧ (x2 = 5 → (0 ≤ x1 ∧ x1 < 300 ∧ Q (h4 33 x1) h4)) ∧ (x2 = 6 → (0 ≤ x1 ∧ x1 < 300 ∧ Wd mX6_endOf X 0 [(2, 4), (0, x1)] [] h4 (fun r20 h21 => Wd mX6_topIn X 0 [(2, 4), (0, h4 21 x1), (0, r20), (9, 0), (9, 0)] [] h21 (fun r22 h23 => IA (h4 4 1) 600 ∧ 0 ≤ r22 ∧ r22 < 600 ∧ Q (h23 (h4 4 1) r22) h23)))) ∧ (x2 = 7 → (0 ≤ x1 ∧ x1 < 300 ∧ Wd mX6_endOf X 0 [(2, 4), (0, x1)] [] h4 (fun r29 h30 => Wd mX6_leastIn X 0 [(2, 4), (0, h4 21 x1), (0, r29), (9, 0), (9, 0)] [] h30 (fun r31 h32 => Q r31 h32)))))) ∧ (r3 = 0 → (Q (-1) h4)))))) : Wd mX8_stretch X 0 [(2, 0), (0, x1), (0, x2)] [] h Q := by
  refine s_aload_n 1 0 rfl dX8_stretch_0 rfl rfl ?_
  refine s_callV (mj := mX8_refresh) (S := []) 4 [] [(2, 0)] 0 rfl dX8_stretch_1 okX8_refresh w421 w423 w1 rfl (by decide) rfl rfl rfl rfl npX8_refresh (Nat.le_of_ble_eq_true rfl) (by decide) (Nat.le_of_ble_eq_true rfl) rfl (Wd.imp H (fun _ h2 H => ?_))
  show Wd mX8_stretch X 4 [(2, 0), (0, x1), (0, x2)] [] h2 Q
  refine s_aload_n 5 0 rfl dX8_stretch_4 rfl rfl ?_
  refine s_getf 8 0 3 rfl dX8_stretch_5 ck8 rfl (by decide) rfl (by decide) w309 rfl (v := (2, 4)) rfl ?_
  refine s_iload_n 9 1 rfl dX8_stretch_8 rfl rfl ?_
  refine s_callV (mj := mX6_has) (S := []) 12 [(0, x1)] [(2, 4), (0, x1)] 4 rfl dX8_stretch_9 okX6_has w619 w620 w621 rfl (by decide) rfl rfl rfl rfl npX6_has (Nat.le_of_ble_eq_true rfl) (by decide) (Nat.le_of_ble_eq_true rfl) rfl (Wd.imp H (fun r3 h4 H => ?_))
  show Wd mX8_stretch X 12 [(2, 0), (0, x1), (0, x2)] [(0, r3)] h4 Q
  refine s_if_ne 15 17 rfl dX8_stretch_12 (by decide) (fun c32 => ?_) (fun c32 => ?_)
  · replace H := H.1 c32
    refine s_iload_n 18 2 rfl dX8_stretch_17 rfl rfl ?_
    rcases (by omega : (x2 < 0 ∨ 7 < x2) ∨ x2 = 0 ∨ x2 = 1 ∨ x2 = 2 ∨ x2 = 3 ∨ x2 = 4 ∨ x2 = 5 ∨ x2 = 6 ∨ x2 = 7) with c4 | c4 | c4 | c4 | c4 | c4 | c4 | c4 | c4
    · refine s_tsd 182 dX8_stretch_18 c4 (by decide) ?_
      replace H := H.1 c4
      refine s_iconst 183 rfl dX8_stretch_182 ⟨by decide, by decide⟩ ?_
      exact s_iret (S := []) dX8_stretch_183 rfl H
    · refine s_tsw 64 dX8_stretch_18 (by omega) (by omega) (by rw [c4]; rfl) (by decide) ?_
      replace H := H.2.1 c4
      refine s_aload_n 65 0 rfl dX8_stretch_64 rfl rfl ?_
      refine s_getf 68 0 3 rfl dX8_stretch_65 ck8 rfl (by decide) rfl (by decide) w309 rfl (v := (2, 4)) rfl ?_
      refine s_getf 71 4 3 rfl dX8_stretch_68 ck6 rfl (by decide) rfl (by decide) w147 rfl (v := (2, 21)) rfl ?_
      refine s_iload_n 72 1 rfl dX8_stretch_71 rfl rfl ?_
      have c5 := H.1
      replace H := H.2
      have c6 := H.1
      replace H := H.2
      refine s_iald 73 rfl dX8_stretch_72 ia21 c5 c6 (v9 := h4 21 x1) rfl ?_
      exact s_iret (S := []) dX8_stretch_73 rfl H
    · refine s_tsw 74 dX8_stretch_18 (by omega) (by omega) (by rw [c4]; rfl) (by decide) ?_
      replace H := H.2.2.1 c4
      refine s_aload_n 75 0 rfl dX8_stretch_74 rfl rfl ?_
      refine s_getf 78 0 3 rfl dX8_stretch_75 ck8 rfl (by decide) rfl (by decide) w309 rfl (v := (2, 4)) rfl ?_
      refine s_getf 81 4 4 rfl dX8_stretch_78 ck6 rfl (by decide) rfl (by decide) w149 rfl (v := (2, 22)) rfl ?_
      refine s_iload_n 82 1 rfl dX8_stretch_81 rfl rfl ?_
      have c7 := H.1
      replace H := H.2
      have c8 := H.1
      replace H := H.2
      refine s_iald 83 rfl dX8_stretch_82 ia22 c7 c8 (v9 := h4 22 x1) rfl ?_
      exact s_iret (S := []) dX8_stretch_83 rfl H
    · refine s_tsw 84 dX8_stretch_18 (by omega) (by omega) (by rw [c4]; rfl) (by decide) ?_
      replace H := H.2.2.2.1 c4
      refine s_aload_n 85 0 rfl dX8_stretch_84 rfl rfl ?_
      refine s_getf 88 0 3 rfl dX8_stretch_85 ck8 rfl (by decide) rfl (by decide) w309 rfl (v := (2, 4)) rfl ?_
      refine s_getf 91 4 5 rfl dX8_stretch_88 ck6 rfl (by decide) rfl (by decide) w152 rfl (v := (2, 23)) rfl ?_
      refine s_iload_n 92 1 rfl dX8_stretch_91 rfl rfl ?_
      have c9 := H.1
      replace H := H.2
      have c10 := H.1
      replace H := H.2
      refine s_iald 93 rfl dX8_stretch_92 ia23 c9 c10 (v9 := h4 23 x1) rfl ?_
      exact s_iret (S := []) dX8_stretch_93 rfl H
    · refine s_tsw 94 dX8_stretch_18 (by omega) (by omega) (by rw [c4]; rfl) (by decide) ?_
      replace H := H.2.2.2.2.1 c4
      refine s_aload_n 95 0 rfl dX8_stretch_94 rfl rfl ?_
      refine s_getf 98 0 4 rfl dX8_stretch_95 ck8 rfl (by decide) rfl (by decide) w310 rfl (v := (2, 5)) rfl ?_
      refine s_getf 101 5 7 rfl dX8_stretch_98 ck7 rfl (by decide) rfl (by decide) w203 rfl (v := (2, 31)) rfl ?_
      refine s_iload_n 102 1 rfl dX8_stretch_101 rfl rfl ?_
      have c11 := H.1
      replace H := H.2
      have c12 := H.1
      replace H := H.2
      refine s_iald 103 rfl dX8_stretch_102 ia31 c11 c12 (v9 := h4 31 x1) rfl ?_
      exact s_iret (S := []) dX8_stretch_103 rfl H
    · refine s_tsw 104 dX8_stretch_18 (by omega) (by omega) (by rw [c4]; rfl) (by decide) ?_
      replace H := H.2.2.2.2.2.1 c4
      refine s_aload_n 105 0 rfl dX8_stretch_104 rfl rfl ?_
      refine s_getf 108 0 4 rfl dX8_stretch_105 ck8 rfl (by decide) rfl (by decide) w310 rfl (v := (2, 5)) rfl ?_
      refine s_getf 111 5 8 rfl dX8_stretch_108 ck7 rfl (by decide) rfl (by decide) w205 rfl (v := (2, 32)) rfl ?_
      refine s_iload_n 112 1 rfl dX8_stretch_111 rfl rfl ?_
      have c13 := H.1
      replace H := H.2
      have c14 := H.1
      replace H := H.2
      refine s_iald 113 rfl dX8_stretch_112 ia32 c13 c14 (v9 := h4 32 x1) rfl ?_
      exact s_iret (S := []) dX8_stretch_113 rfl H
    · refine s_tsw 114 dX8_stretch_18 (by omega) (by omega) (by rw [c4]; rfl) (by decide) ?_
      replace H := H.2.2.2.2.2.2.1 c4
      refine s_aload_n 115 0 rfl dX8_stretch_114 rfl rfl ?_
      refine s_getf 118 0 4 rfl dX8_stretch_115 ck8 rfl (by decide) rfl (by decide) w310 rfl (v := (2, 5)) rfl ?_
      refine s_getf 121 5 9 rfl dX8_stretch_118 ck7 rfl (by decide) rfl (by decide) w207 rfl (v := (2, 33)) rfl ?_
      refine s_iload_n 122 1 rfl dX8_stretch_121 rfl rfl ?_
      have c15 := H.1
      replace H := H.2
      have c16 := H.1
      replace H := H.2
      refine s_iald 123 rfl dX8_stretch_122 ia33 c15 c16 (v9 := h4 33 x1) rfl ?_
      exact s_iret (S := []) dX8_stretch_123 rfl H
    · refine s_tsw 124 dX8_stretch_18 (by omega) (by omega) (by rw [c4]; rfl) (by decide) ?_
      replace H := H.2.2.2.2.2.2.2.1 c4
      refine s_aload_n 125 0 rfl dX8_stretch_124 rfl rfl ?_
      refine s_getf 128 0 3 rfl dX8_stretch_125 ck8 rfl (by decide) rfl (by decide) w309 rfl (v := (2, 4)) rfl ?_
      refine s_getf 131 4 1 rfl dX8_stretch_128 ck6 rfl (by decide) rfl (by decide) w142 rfl (v := (2, h4 4 1)) rfl ?_
      refine s_aload_n 132 0 rfl dX8_stretch_131 rfl rfl ?_
      refine s_getf 135 0 3 rfl dX8_stretch_132 ck8 rfl (by decide) rfl (by decide) w309 rfl (v := (2, 4)) rfl ?_
      refine s_aload_n 136 0 rfl dX8_stretch_135 rfl rfl ?_
      refine s_getf 139 0 3 rfl dX8_stretch_136 ck8 rfl (by decide) rfl (by decide) w309 rfl (v := (2, 4)) rfl ?_
      refine s_getf 142 4 3 rfl dX8_stretch_139 ck6 rfl (by decide) rfl (by decide) w147 rfl (v := (2, 21)) rfl ?_
      refine s_iload_n 143 1 rfl dX8_stretch_142 rfl rfl ?_
      have c17 := H.1
      replace H := H.2
      have c18 := H.1
      replace H := H.2
      refine s_iald 144 rfl dX8_stretch_143 ia21 c17 c18 (v9 := h4 21 x1) rfl ?_
      refine s_aload_n 145 0 rfl dX8_stretch_144 rfl rfl ?_
      refine s_getf 148 0 3 rfl dX8_stretch_145 ck8 rfl (by decide) rfl (by decide) w309 rfl (v := (2, 4)) rfl ?_
      refine s_iload_n 149 1 rfl dX8_stretch_148 rfl rfl ?_
      refine s_callV (mj := mX6_endOf) (S := [(0, h4 21 x1), (2, 4), (2, h4 4 1)]) 152 [(0, x1)] [(2, 4), (0, x1)] 4 rfl dX8_stretch_149 okX6_endOf w623 w456 w457 rfl (by decide) rfl rfl rfl rfl npX6_endOf (Nat.le_of_ble_eq_true rfl) (by decide) (Nat.le_of_ble_eq_true rfl) rfl (Wd.imp H (fun r20 h21 H => ?_))
      show Wd mX8_stretch X 152 [(2, 0), (0, x1), (0, x2)] [(0, r20), (0, h4 21 x1), (2, 4), (2, h4 4 1)] h21 Q
      refine s_callV (mj := mX6_topIn) (S := [(2, h4 4 1)]) 155 [(0, h4 21 x1), (0, r20)] [(2, 4), (0, h4 21 x1), (0, r20), (9, 0), (9, 0)] 4 rfl dX8_stretch_152 okX6_topIn w624 w531 w532 rfl (by decide) rfl rfl rfl rfl npX6_topIn (Nat.le_of_ble_eq_true rfl) (by decide) (Nat.le_of_ble_eq_true rfl) rfl (Wd.imp H (fun r22 h23 H => ?_))
      show Wd mX8_stretch X 155 [(2, 0), (0, x1), (0, x2)] [(0, r22), (2, h4 4 1)] h23 Q
      have c23 := H.1
      replace H := H.2
      have c24 := H.1
      replace H := H.2
      have c25 := H.1
      replace H := H.2
      refine s_iald 156 rfl dX8_stretch_155 c23 c24 c25 (v9 := h23 (h4 4 1) r22) rfl ?_
      exact s_iret (S := []) dX8_stretch_156 rfl H
    · refine s_tsw 157 dX8_stretch_18 (by omega) (by omega) (by rw [c4]; rfl) (by decide) ?_
      replace H := H.2.2.2.2.2.2.2.2 c4
      refine s_aload_n 158 0 rfl dX8_stretch_157 rfl rfl ?_
      refine s_getf 161 0 3 rfl dX8_stretch_158 ck8 rfl (by decide) rfl (by decide) w309 rfl (v := (2, 4)) rfl ?_
      refine s_aload_n 162 0 rfl dX8_stretch_161 rfl rfl ?_
      refine s_getf 165 0 3 rfl dX8_stretch_162 ck8 rfl (by decide) rfl (by decide) w309 rfl (v := (2, 4)) rfl ?_
      refine s_getf 168 4 3 rfl dX8_stretch_165 ck6 rfl (by decide) rfl (by decide) w147 rfl (v := (2, 21)) rfl ?_
      refine s_iload_n 169 1 rfl dX8_stretch_168 rfl rfl ?_
      have c26 := H.1
      replace H := H.2
      have c27 := H.1
      replace H := H.2
      refine s_iald 170 rfl dX8_stretch_169 ia21 c26 c27 (v9 := h4 21 x1) rfl ?_
      refine s_aload_n 171 0 rfl dX8_stretch_170 rfl rfl ?_
      refine s_getf 174 0 3 rfl dX8_stretch_171 ck8 rfl (by decide) rfl (by decide) w309 rfl (v := (2, 4)) rfl ?_
      refine s_iload_n 175 1 rfl dX8_stretch_174 rfl rfl ?_
      refine s_callV (mj := mX6_endOf) (S := [(0, h4 21 x1), (2, 4)]) 178 [(0, x1)] [(2, 4), (0, x1)] 4 rfl dX8_stretch_175 okX6_endOf w623 w456 w457 rfl (by decide) rfl rfl rfl rfl npX6_endOf (Nat.le_of_ble_eq_true rfl) (by decide) (Nat.le_of_ble_eq_true rfl) rfl (Wd.imp H (fun r29 h30 H => ?_))
      show Wd mX8_stretch X 178 [(2, 0), (0, x1), (0, x2)] [(0, r29), (0, h4 21 x1), (2, 4)] h30 Q
      refine s_callV (mj := mX6_leastIn) (S := []) 181 [(0, h4 21 x1), (0, r29)] [(2, 4), (0, h4 21 x1), (0, r29), (9, 0), (9, 0)] 4 rfl dX8_stretch_178 okX6_leastIn w625 w535 w536 rfl (by decide) rfl rfl rfl rfl npX6_leastIn (Nat.le_of_ble_eq_true rfl) (by decide) (Nat.le_of_ble_eq_true rfl) rfl (Wd.imp H (fun r31 h32 H => ?_))
      show Wd mX8_stretch X 181 [(2, 0), (0, x1), (0, x2)] [(0, r31)] h32 Q
      exact s_iret (S := []) dX8_stretch_181 rfl H
  · replace H := H.2 c32
    refine s_iconst 16 rfl dX8_stretch_15 ⟨by decide, by decide⟩ ?_
    exact s_iret (S := []) dX8_stretch_16 rfl H
theorem vX8_wave_0 {X : Nat × (Int → Int)} {h : HP} {Q : Int → HP → Prop} {x1 x2 : Int} (H : Wd mX8_refresh X 0 [(2, 0)] [] h (fun _ h2 => Wd mX7_has X 0 [(2, 5), (0, x1)] [] h2 (fun r3 h4 => ((¬ r3 = 0 → ((x2 < 0 ∨ 11 < x2 → (Q (-1) h4)) ∧ (x2 = 0 → (0 ≤ x1 ∧ x1 < 300 ∧ Q (h4 25 x1) h4)) ∧ (x2 = 1 → (0 ≤ x1 ∧ x1 < 300 ∧ Q (h4 26 x1) h4)) ∧ (x2 = 2 → (0 ≤ x1 ∧ x1 < 300 ∧ Q (h4 27 x1) h4)) ∧ (x2 = 3 → (0 ≤ x1 ∧ x1 < 300 ∧ Q (h4 28 x1) h4)) ∧ (x2 = 4 → (0 ≤ x1 ∧ x1 < 300 ∧ inI (h4 27 x1 - h4 28 x1) ∧ Q (h4 27 x1 - h4 28 x1) h4)) ∧ (x2 = 5 → (0 ≤ x1 ∧ x1 < 300 ∧ Q (h4 29 x1) h4)) ∧ (x2 = 6 → (0 ≤ x1 ∧ x1 < 300 ∧ Q (h4 30 x1) h4)) ∧ (x2 = 7 → (0 ≤ x1 ∧ x1 < 300 ∧ Q (h4 35 x1) h4)) ∧ (x2 = 8 → (0 ≤ x1 ∧ x1 < 300 ∧ ((h4 6 2 ≤ h4 35 x1 → (Q 0 h4)) ∧ (¬ (h4 6 2 ≤ h4 35 x1) → (Q 1 h4))))) ∧ (x2 = 9 → (Wd mX2_isHigh X 0 [(2, 6), (2, 5), (0, x1), (2, 1), (9, 0), (9, 0)] [] h4 (fun r26 h27 => ((r26 = 0 → (Q 0 h27)) ∧ (¬ r26 = 0 → (Q 1 h27)))))) ∧ (x2 = 10 → (0 ≤ x1 ∧ x1 < 300 ∧ Q (h4 36 x1) h4)) ∧ (x2 = 11 → (0 ≤ x1 ∧ x1 < 300 ∧ Wd mX7_endOf X 0 [(2, 5), (0, x1)] [] h4 (fun r33 h34 => Wd mX3_leastNameIn X 0 [(2, 3), (0, h4 25 x1), (0, r33), (9, 0), (9, 0), (9, 0)] [] h34 (fun r35 h36 => Q r35 h36)))))) ∧ (r3 = 0 → (Q (-1) h4)))))) : Wd mX8_wave X 0 [(2, 0), (0, x1), (0, x2)] [] h Q := by
  refine s_aload_n 1 0 rfl dX8_wave_0 rfl rfl ?_
  refine s_callV (mj := mX8_refresh) (S := []) 4 [] [(2, 0)] 0 rfl dX8_wave_1 okX8_refresh w421 w423 w1 rfl (by decide) rfl rfl rfl rfl npX8_refresh (Nat.le_of_ble_eq_true rfl) (by decide) (Nat.le_of_ble_eq_true rfl) rfl (Wd.imp H (fun _ h2 H => ?_))
  show Wd mX8_wave X 4 [(2, 0), (0, x1), (0, x2)] [] h2 Q
  refine s_aload_n 5 0 rfl dX8_wave_4 rfl rfl ?_
  refine s_getf 8 0 4 rfl dX8_wave_5 ck8 rfl (by decide) rfl (by decide) w310 rfl (v := (2, 5)) rfl ?_
  refine s_iload_n 9 1 rfl dX8_wave_8 rfl rfl ?_
  refine s_callV (mj := mX7_has) (S := []) 12 [(0, x1)] [(2, 5), (0, x1)] 5 rfl dX8_wave_9 okX7_has w630 w631 w632 rfl (by decide) rfl rfl rfl rfl npX7_has (Nat.le_of_ble_eq_true rfl) (by decide) (Nat.le_of_ble_eq_true rfl) rfl (Wd.imp H (fun r3 h4 H => ?_))
  show Wd mX8_wave X 12 [(2, 0), (0, x1), (0, x2)] [(0, r3)] h4 Q
  refine s_if_ne 15 17 rfl dX8_wave_12 (by decide) (fun c36 => ?_) (fun c36 => ?_)
  · replace H := H.1 c36
    refine s_iload_n 18 2 rfl dX8_wave_17 rfl rfl ?_
    rcases (by omega : (x2 < 0 ∨ 11 < x2) ∨ x2 = 0 ∨ x2 = 1 ∨ x2 = 2 ∨ x2 = 3 ∨ x2 = 4 ∨ x2 = 5 ∨ x2 = 6 ∨ x2 = 7 ∨ x2 = 8 ∨ x2 = 9 ∨ x2 = 10 ∨ x2 = 11) with c4 | c4 | c4 | c4 | c4 | c4 | c4 | c4 | c4 | c4 | c4 | c4 | c4
    · refine s_tsd 255 dX8_wave_18 c4 (by decide) ?_
      replace H := H.1 c4
      refine s_iconst 256 rfl dX8_wave_255 ⟨by decide, by decide⟩ ?_
      exact s_iret (S := []) dX8_wave_256 rfl H
    · refine s_tsw 80 dX8_wave_18 (by omega) (by omega) (by rw [c4]; rfl) (by decide) ?_
      replace H := H.2.1 c4
      refine s_aload_n 81 0 rfl dX8_wave_80 rfl rfl ?_
      refine s_getf 84 0 4 rfl dX8_wave_81 ck8 rfl (by decide) rfl (by decide) w310 rfl (v := (2, 5)) rfl ?_
      refine s_getf 87 5 1 rfl dX8_wave_84 ck7 rfl (by decide) rfl (by decide) w188 rfl (v := (2, 25)) rfl ?_
      refine s_iload_n 88 1 rfl dX8_wave_87 rfl rfl ?_
      have c5 := H.1
      replace H := H.2
      have c6 := H.1
      replace H := H.2
      refine s_iald 89 rfl dX8_wave_88 ia25 c5 c6 (v9 := h4 25 x1) rfl ?_
      exact s_iret (S := []) dX8_wave_89 rfl H
    · refine s_tsw 90 dX8_wave_18 (by omega) (by omega) (by rw [c4]; rfl) (by decide) ?_
      replace H := H.2.2.1 c4
      refine s_aload_n 91 0 rfl dX8_wave_90 rfl rfl ?_
      refine s_getf 94 0 4 rfl dX8_wave_91 ck8 rfl (by decide) rfl (by decide) w310 rfl (v := (2, 5)) rfl ?_
      refine s_getf 97 5 2 rfl dX8_wave_94 ck7 rfl (by decide) rfl (by decide) w191 rfl (v := (2, 26)) rfl ?_
      refine s_iload_n 98 1 rfl dX8_wave_97 rfl rfl ?_
      have c7 := H.1
      replace H := H.2
      have c8 := H.1
      replace H := H.2
      refine s_iald 99 rfl dX8_wave_98 ia26 c7 c8 (v9 := h4 26 x1) rfl ?_
      exact s_iret (S := []) dX8_wave_99 rfl H
    · refine s_tsw 100 dX8_wave_18 (by omega) (by omega) (by rw [c4]; rfl) (by decide) ?_
      replace H := H.2.2.2.1 c4
      refine s_aload_n 101 0 rfl dX8_wave_100 rfl rfl ?_
      refine s_getf 104 0 4 rfl dX8_wave_101 ck8 rfl (by decide) rfl (by decide) w310 rfl (v := (2, 5)) rfl ?_
      refine s_getf 107 5 3 rfl dX8_wave_104 ck7 rfl (by decide) rfl (by decide) w194 rfl (v := (2, 27)) rfl ?_
      refine s_iload_n 108 1 rfl dX8_wave_107 rfl rfl ?_
      have c9 := H.1
      replace H := H.2
      have c10 := H.1
      replace H := H.2
      refine s_iald 109 rfl dX8_wave_108 ia27 c9 c10 (v9 := h4 27 x1) rfl ?_
      exact s_iret (S := []) dX8_wave_109 rfl H
    · refine s_tsw 110 dX8_wave_18 (by omega) (by omega) (by rw [c4]; rfl) (by decide) ?_
      replace H := H.2.2.2.2.1 c4
      refine s_aload_n 111 0 rfl dX8_wave_110 rfl rfl ?_
      refine s_getf 114 0 4 rfl dX8_wave_111 ck8 rfl (by decide) rfl (by decide) w310 rfl (v := (2, 5)) rfl ?_
      refine s_getf 117 5 4 rfl dX8_wave_114 ck7 rfl (by decide) rfl (by decide) w196 rfl (v := (2, 28)) rfl ?_
      refine s_iload_n 118 1 rfl dX8_wave_117 rfl rfl ?_
      have c11 := H.1
      replace H := H.2
      have c12 := H.1
      replace H := H.2
      refine s_iald 119 rfl dX8_wave_118 ia28 c11 c12 (v9 := h4 28 x1) rfl ?_
      exact s_iret (S := []) dX8_wave_119 rfl H
    · refine s_tsw 120 dX8_wave_18 (by omega) (by omega) (by rw [c4]; rfl) (by decide) ?_
      replace H := H.2.2.2.2.2.1 c4
      refine s_aload_n 121 0 rfl dX8_wave_120 rfl rfl ?_
      refine s_getf 124 0 4 rfl dX8_wave_121 ck8 rfl (by decide) rfl (by decide) w310 rfl (v := (2, 5)) rfl ?_
      refine s_getf 127 5 3 rfl dX8_wave_124 ck7 rfl (by decide) rfl (by decide) w194 rfl (v := (2, 27)) rfl ?_
      refine s_iload_n 128 1 rfl dX8_wave_127 rfl rfl ?_
      have c13 := H.1
      replace H := H.2
      have c14 := H.1
      replace H := H.2
      refine s_iald 129 rfl dX8_wave_128 ia27 c13 c14 (v9 := h4 27 x1) rfl ?_
      refine s_aload_n 130 0 rfl dX8_wave_129 rfl rfl ?_
      refine s_getf 133 0 4 rfl dX8_wave_130 ck8 rfl (by decide) rfl (by decide) w310 rfl (v := (2, 5)) rfl ?_
      refine s_getf 136 5 4 rfl dX8_wave_133 ck7 rfl (by decide) rfl (by decide) w196 rfl (v := (2, 28)) rfl ?_
      refine s_iload_n 137 1 rfl dX8_wave_136 rfl rfl ?_
      refine s_iald 138 rfl dX8_wave_137 ia28 c13 c14 (v9 := h4 28 x1) rfl ?_
      have c15 := H.1
      replace H := H.2
      refine s_isub 139 rfl dX8_wave_138 c15 ?_
      exact s_iret (S := []) dX8_wave_139 rfl H
    · refine s_tsw 140 dX8_wave_18 (by omega) (by omega) (by rw [c4]; rfl) (by decide) ?_
      replace H := H.2.2.2.2.2.2.1 c4
      refine s_aload_n 141 0 rfl dX8_wave_140 rfl rfl ?_
      refine s_getf 144 0 4 rfl dX8_wave_141 ck8 rfl (by decide) rfl (by decide) w310 rfl (v := (2, 5)) rfl ?_
      refine s_getf 147 5 5 rfl dX8_wave_144 ck7 rfl (by decide) rfl (by decide) w198 rfl (v := (2, 29)) rfl ?_
      refine s_iload_n 148 1 rfl dX8_wave_147 rfl rfl ?_
      have c16 := H.1
      replace H := H.2
      have c17 := H.1
      replace H := H.2
      refine s_iald 149 rfl dX8_wave_148 ia29 c16 c17 (v9 := h4 29 x1) rfl ?_
      exact s_iret (S := []) dX8_wave_149 rfl H
    · refine s_tsw 150 dX8_wave_18 (by omega) (by omega) (by rw [c4]; rfl) (by decide) ?_
      replace H := H.2.2.2.2.2.2.2.1 c4
      refine s_aload_n 151 0 rfl dX8_wave_150 rfl rfl ?_
      refine s_getf 154 0 4 rfl dX8_wave_151 ck8 rfl (by decide) rfl (by decide) w310 rfl (v := (2, 5)) rfl ?_
      refine s_getf 157 5 6 rfl dX8_wave_154 ck7 rfl (by decide) rfl (by decide) w201 rfl (v := (2, 30)) rfl ?_
      refine s_iload_n 158 1 rfl dX8_wave_157 rfl rfl ?_
      have c18 := H.1
      replace H := H.2
      have c19 := H.1
      replace H := H.2
      refine s_iald 159 rfl dX8_wave_158 ia30 c18 c19 (v9 := h4 30 x1) rfl ?_
      exact s_iret (S := []) dX8_wave_159 rfl H
    · refine s_tsw 160 dX8_wave_18 (by omega) (by omega) (by rw [c4]; rfl) (by decide) ?_
      replace H := H.2.2.2.2.2.2.2.2.1 c4
      refine s_aload_n 161 0 rfl dX8_wave_160 rfl rfl ?_
      refine s_getf 164 0 5 rfl dX8_wave_161 ck8 rfl (by decide) rfl (by decide) w311 rfl (v := (2, 6)) rfl ?_
      refine s_getf 167 6 1 rfl dX8_wave_164 ck2 rfl (by decide) rfl (by decide) w244 rfl (v := (2, 35)) rfl ?_
      refine s_iload_n 168 1 rfl dX8_wave_167 rfl rfl ?_
      have c20 := H.1
      replace H := H.2
      have c21 := H.1
      replace H := H.2
      refine s_iald 169 rfl dX8_wave_168 ia35 c20 c21 (v9 := h4 35 x1) rfl ?_
      exact s_iret (S := []) dX8_wave_169 rfl H
    · refine s_tsw 170 dX8_wave_18 (by omega) (by omega) (by rw [c4]; rfl) (by decide) ?_
      replace H := H.2.2.2.2.2.2.2.2.2.1 c4
      refine s_aload_n 171 0 rfl dX8_wave_170 rfl rfl ?_
      refine s_getf 174 0 5 rfl dX8_wave_171 ck8 rfl (by decide) rfl (by decide) w311 rfl (v := (2, 6)) rfl ?_
      refine s_getf 177 6 1 rfl dX8_wave_174 ck2 rfl (by decide) rfl (by decide) w244 rfl (v := (2, 35)) rfl ?_
      refine s_iload_n 178 1 rfl dX8_wave_177 rfl rfl ?_
      have c22 := H.1
      replace H := H.2
      have c23 := H.1
      replace H := H.2
      refine s_iald 179 rfl dX8_wave_178 ia35 c22 c23 (v9 := h4 35 x1) rfl ?_
      refine s_aload_n 180 0 rfl dX8_wave_179 rfl rfl ?_
      refine s_getf 183 0 5 rfl dX8_wave_180 ck8 rfl (by decide) rfl (by decide) w311 rfl (v := (2, 6)) rfl ?_
      refine s_getf 186 6 2 rfl dX8_wave_183 ck2 rfl (by decide) rfl (by decide) w246 rfl (v := (0, h4 6 2)) rfl ?_
      refine s_icmp_ge 189 193 rfl dX8_wave_186 (by decide) (fun c24 => ?_) (fun c24 => ?_)
      · replace H := H.1 c24
        refine s_iconst 194 rfl dX8_wave_193 ⟨by decide, by decide⟩ ?_
        exact s_iret (S := []) dX8_wave_194 rfl H
      · replace H := H.2 c24
        refine s_iconst 190 rfl dX8_wave_189 ⟨by decide, by decide⟩ ?_
        refine s_goto 194 dX8_wave_190 (by decide) ?_
        exact s_iret (S := []) dX8_wave_194 rfl H
    · refine s_tsw 195 dX8_wave_18 (by omega) (by omega) (by rw [c4]; rfl) (by decide) ?_
      replace H := H.2.2.2.2.2.2.2.2.2.2.1 c4
      refine s_aload_n 196 0 rfl dX8_wave_195 rfl rfl ?_
      refine s_getf 199 0 5 rfl dX8_wave_196 ck8 rfl (by decide) rfl (by decide) w311 rfl (v := (2, 6)) rfl ?_
      refine s_aload_n 200 0 rfl dX8_wave_199 rfl rfl ?_
      refine s_getf 203 0 4 rfl dX8_wave_200 ck8 rfl (by decide) rfl (by decide) w310 rfl (v := (2, 5)) rfl ?_
      refine s_iload_n 204 1 rfl dX8_wave_203 rfl rfl ?_
      refine s_aload_n 205 0 rfl dX8_wave_204 rfl rfl ?_
      refine s_getf 208 0 0 rfl dX8_wave_205 ck8 rfl (by decide) rfl (by decide) w306 rfl (v := (2, 1)) rfl ?_
      refine s_callV (mj := mX2_isHigh) (S := []) 211 [(2, 5), (0, x1), (2, 1)] [(2, 6), (2, 5), (0, x1), (2, 1), (9, 0), (9, 0)] 6 rfl dX8_wave_208 okX2_isHigh w634 w573 w574 rfl (by decide) rfl rfl rfl rfl npX2_isHigh (Nat.le_of_ble_eq_true rfl) (by decide) (Nat.le_of_ble_eq_true rfl) rfl (Wd.imp H (fun r26 h27 H => ?_))
      show Wd mX8_wave X 211 [(2, 0), (0, x1), (0, x2)] [(0, r26)] h27 Q
      refine s_if_eq 214 218 rfl dX8_wave_211 (by decide) (fun c27 => ?_) (fun c27 => ?_)
      · replace H := H.1 c27
        refine s_iconst 219 rfl dX8_wave_218 ⟨by decide, by decide⟩ ?_
        exact s_iret (S := []) dX8_wave_219 rfl H
      · replace H := H.2 c27
        refine s_iconst 215 rfl dX8_wave_214 ⟨by decide, by decide⟩ ?_
        refine s_goto 219 dX8_wave_215 (by decide) ?_
        exact s_iret (S := []) dX8_wave_219 rfl H
    · refine s_tsw 220 dX8_wave_18 (by omega) (by omega) (by rw [c4]; rfl) (by decide) ?_
      replace H := H.2.2.2.2.2.2.2.2.2.2.2.1 c4
      refine s_aload_n 221 0 rfl dX8_wave_220 rfl rfl ?_
      refine s_getf 224 0 6 rfl dX8_wave_221 ck8 rfl (by decide) rfl (by decide) w312 rfl (v := (2, 7)) rfl ?_
      refine s_getf 227 7 0 rfl dX8_wave_224 ck0 rfl (by decide) rfl (by decide) w273 rfl (v := (2, 36)) rfl ?_
      refine s_iload_n 228 1 rfl dX8_wave_227 rfl rfl ?_
      have c28 := H.1
      replace H := H.2
      have c29 := H.1
      replace H := H.2
      refine s_iald 229 rfl dX8_wave_228 ia36 c28 c29 (v9 := h4 36 x1) rfl ?_
      exact s_iret (S := []) dX8_wave_229 rfl H
    · refine s_tsw 230 dX8_wave_18 (by omega) (by omega) (by rw [c4]; rfl) (by decide) ?_
      replace H := H.2.2.2.2.2.2.2.2.2.2.2.2 c4
      refine s_aload_n 231 0 rfl dX8_wave_230 rfl rfl ?_
      refine s_getf 234 0 2 rfl dX8_wave_231 ck8 rfl (by decide) rfl (by decide) w308 rfl (v := (2, 3)) rfl ?_
      refine s_aload_n 235 0 rfl dX8_wave_234 rfl rfl ?_
      refine s_getf 238 0 4 rfl dX8_wave_235 ck8 rfl (by decide) rfl (by decide) w310 rfl (v := (2, 5)) rfl ?_
      refine s_getf 241 5 1 rfl dX8_wave_238 ck7 rfl (by decide) rfl (by decide) w188 rfl (v := (2, 25)) rfl ?_
      refine s_iload_n 242 1 rfl dX8_wave_241 rfl rfl ?_
      have c30 := H.1
      replace H := H.2
      have c31 := H.1
      replace H := H.2
      refine s_iald 243 rfl dX8_wave_242 ia25 c30 c31 (v9 := h4 25 x1) rfl ?_
      refine s_aload_n 244 0 rfl dX8_wave_243 rfl rfl ?_
      refine s_getf 247 0 4 rfl dX8_wave_244 ck8 rfl (by decide) rfl (by decide) w310 rfl (v := (2, 5)) rfl ?_
      refine s_iload_n 248 1 rfl dX8_wave_247 rfl rfl ?_
      refine s_callV (mj := mX7_endOf) (S := [(0, h4 25 x1), (2, 3)]) 251 [(0, x1)] [(2, 5), (0, x1)] 5 rfl dX8_wave_248 okX7_endOf w635 w636 w637 rfl (by decide) rfl rfl rfl rfl npX7_endOf (Nat.le_of_ble_eq_true rfl) (by decide) (Nat.le_of_ble_eq_true rfl) rfl (Wd.imp H (fun r33 h34 H => ?_))
      show Wd mX8_wave X 251 [(2, 0), (0, x1), (0, x2)] [(0, r33), (0, h4 25 x1), (2, 3)] h34 Q
      refine s_callV (mj := mX3_leastNameIn) (S := []) 254 [(0, h4 25 x1), (0, r33)] [(2, 3), (0, h4 25 x1), (0, r33), (9, 0), (9, 0), (9, 0)] 3 rfl dX8_wave_251 okX3_leastNameIn w639 w640 w641 rfl (by decide) rfl rfl rfl rfl npX3_leastNameIn (Nat.le_of_ble_eq_true rfl) (by decide) (Nat.le_of_ble_eq_true rfl) rfl (Wd.imp H (fun r35 h36 H => ?_))
      show Wd mX8_wave X 254 [(2, 0), (0, x1), (0, x2)] [(0, r35)] h36 Q
      exact s_iret (S := []) dX8_wave_254 rfl H
  · replace H := H.2 c36
    refine s_iconst 16 rfl dX8_wave_15 ⟨by decide, by decide⟩ ?_
    exact s_iret (S := []) dX8_wave_16 rfl H
theorem vX8_ranked_0 {X : Nat × (Int → Int)} {h : HP} {Q : Int → HP → Prop} {x1 : Int} (H : Wd mX8_refresh X 0 [(2, 0)] [] h (fun _ h2 => Wd mX7_has X 0 [(2, 5), (0, x1)] [] h2 (fun r3 h4 => ((r3 = 0 → (Q (-1) h4)) ∧ (¬ r3 = 0 → (0 ≤ x1 ∧ x1 < 300 ∧ Q (h4 34 x1) h4)))))) : Wd mX8_ranked X 0 [(2, 0), (0, x1)] [] h Q := by
  refine s_aload_n 1 0 rfl dX8_ranked_0 rfl rfl ?_
  refine s_callV (mj := mX8_refresh) (S := []) 4 [] [(2, 0)] 0 rfl dX8_ranked_1 okX8_refresh w421 w423 w1 rfl (by decide) rfl rfl rfl rfl npX8_refresh (Nat.le_of_ble_eq_true rfl) (by decide) (Nat.le_of_ble_eq_true rfl) rfl (Wd.imp H (fun _ h2 H => ?_))
  show Wd mX8_ranked X 4 [(2, 0), (0, x1)] [] h2 Q
  refine s_aload_n 5 0 rfl dX8_ranked_4 rfl rfl ?_
  refine s_getf 8 0 4 rfl dX8_ranked_5 ck8 rfl (by decide) rfl (by decide) w310 rfl (v := (2, 5)) rfl ?_
  refine s_iload_n 9 1 rfl dX8_ranked_8 rfl rfl ?_
  refine s_callV (mj := mX7_has) (S := []) 12 [(0, x1)] [(2, 5), (0, x1)] 5 rfl dX8_ranked_9 okX7_has w630 w631 w632 rfl (by decide) rfl rfl rfl rfl npX7_has (Nat.le_of_ble_eq_true rfl) (by decide) (Nat.le_of_ble_eq_true rfl) rfl (Wd.imp H (fun r3 h4 H => ?_))
  show Wd mX8_ranked X 12 [(2, 0), (0, x1)] [(0, r3)] h4 Q
  refine s_if_eq 15 27 rfl dX8_ranked_12 (by decide) (fun c6 => ?_) (fun c6 => ?_)
  · replace H := H.1 c6
    refine s_iconst 28 rfl dX8_ranked_27 ⟨by decide, by decide⟩ ?_
    exact s_iret (S := []) dX8_ranked_28 rfl H
  · replace H := H.2 c6
    refine s_aload_n 16 0 rfl dX8_ranked_15 rfl rfl ?_
    refine s_getf 19 0 5 rfl dX8_ranked_16 ck8 rfl (by decide) rfl (by decide) w311 rfl (v := (2, 6)) rfl ?_
    refine s_getf 22 6 0 rfl dX8_ranked_19 ck2 rfl (by decide) rfl (by decide) w242 rfl (v := (2, 34)) rfl ?_
    refine s_iload_n 23 1 rfl dX8_ranked_22 rfl rfl ?_
    have c4 := H.1
    replace H := H.2
    have c5 := H.1
    replace H := H.2
    refine s_iald 24 rfl dX8_ranked_23 ia34 c4 c5 (v9 := h4 34 x1) rfl ?_
    refine s_goto 28 dX8_ranked_24 (by decide) ?_
    exact s_iret (S := []) dX8_ranked_28 rfl H
theorem vX8_commonDivisor_0 {X : Nat × (Int → Int)} {h : HP} {Q : Int → HP → Prop} {x0 x1 : Int} (H : Wd mX8_commonDivisor X 7 [(9, 0), (9, 0), (0, x0), (0, x1), (0, 0), (9, 0)] [] h Q) : Wd mX8_commonDivisor X 0 [(0, x0), (0, x1), (9, 0), (9, 0), (9, 0), (9, 0)] [] h Q := by
  refine s_iload_n 1 0 rfl dX8_commonDivisor_0 rfl rfl ?_
  refine s_istore_n 2 2 rfl dX8_commonDivisor_1 rfl (by decide) (L2 := [(0, x0), (0, x1), (0, x0), (9, 0), (9, 0), (9, 0)]) rfl ?_
  refine s_iload_n 3 1 rfl dX8_commonDivisor_2 rfl rfl ?_
  refine s_istore_n 4 3 rfl dX8_commonDivisor_3 rfl (by decide) (L2 := [(0, x0), (0, x1), (0, x0), (0, x1), (9, 0), (9, 0)]) rfl ?_
  refine s_iconst 5 rfl dX8_commonDivisor_4 ⟨by decide, by decide⟩ ?_
  refine s_istore 7 4 rfl dX8_commonDivisor_5 (by decide) (L2 := [(0, x0), (0, x1), (0, x0), (0, x1), (0, 0), (9, 0)]) rfl ?_
  exact s_less [(9, 0), (9, 0), (0, x0), (0, x1), (0, 0), (9, 0)] ⟨Or.inl rfl, Or.inl rfl, Or.inr rfl, Or.inr rfl, Or.inr rfl, Or.inl rfl, trivial⟩ H
theorem vX8_commonDivisor_7 {X : Nat × (Int → Int)} {h : HP} {Q : Int → HP → Prop} {x2 x3 x4 : Int} (H : ((64 ≤ x4 → (Q x2 h)) ∧ (¬ (64 ≤ x4) → ((x3 = 0 → (Q x2 h)) ∧ (¬ x3 = 0 → (¬ x3 = 0 ∧ inI (x4 + 1) ∧ Wd mX8_commonDivisor X 7 [(9, 0), (9, 0), (0, x3), (0, Int.tmod x2 x3), (0, x4 + 1), (9, 0)] [] h Q)))))) : Wd mX8_commonDivisor X 7 [(9, 0), (9, 0), (0, x2), (0, x3), (0, x4), (9, 0)] [] h Q := by
  refine s_iload 9 4 rfl dX8_commonDivisor_7 rfl ?_
  refine s_bipush 11 rfl dX8_commonDivisor_9 (by decide) ⟨by decide, by decide⟩ ?_
  refine s_icmp_ge 14 34 rfl dX8_commonDivisor_11 (by decide) (fun c3 => ?_) (fun c3 => ?_)
  · replace H := H.1 c3
    refine s_iload_n 35 2 rfl dX8_commonDivisor_34 rfl rfl ?_
    exact s_iret (S := []) dX8_commonDivisor_35 rfl H
  · replace H := H.2 c3
    refine s_iload_n 15 3 rfl dX8_commonDivisor_14 rfl rfl ?_
    refine s_if_eq 18 34 rfl dX8_commonDivisor_15 (by decide) (fun c2 => ?_) (fun c2 => ?_)
    · replace H := H.1 c2
      refine s_iload_n 35 2 rfl dX8_commonDivisor_34 rfl rfl ?_
      exact s_iret (S := []) dX8_commonDivisor_35 rfl H
    · replace H := H.2 c2
      refine s_iload_n 19 2 rfl dX8_commonDivisor_18 rfl rfl ?_
      refine s_iload_n 20 3 rfl dX8_commonDivisor_19 rfl rfl ?_
      have c0 := H.1
      replace H := H.2
      refine s_irem 21 rfl dX8_commonDivisor_20 c0 ?_
      refine s_istore 23 5 rfl dX8_commonDivisor_21 (by decide) (L2 := [(9, 0), (9, 0), (0, x2), (0, x3), (0, x4), (0, Int.tmod x2 x3)]) rfl ?_
      refine s_iload_n 24 3 rfl dX8_commonDivisor_23 rfl rfl ?_
      refine s_istore_n 25 2 rfl dX8_commonDivisor_24 rfl (by decide) (L2 := [(9, 0), (9, 0), (0, x3), (0, x3), (0, x4), (0, Int.tmod x2 x3)]) rfl ?_
      refine s_iload 27 5 rfl dX8_commonDivisor_25 rfl ?_
      refine s_istore_n 28 3 rfl dX8_commonDivisor_27 rfl (by decide) (L2 := [(9, 0), (9, 0), (0, x3), (0, Int.tmod x2 x3), (0, x4), (0, Int.tmod x2 x3)]) rfl ?_
      have c1 := H.1
      replace H := H.2
      refine s_iinc 31 4 rfl dX8_commonDivisor_28 (by decide) (z := x4) rfl (L2 := [(9, 0), (9, 0), (0, x3), (0, Int.tmod x2 x3), (0, x4 + 1), (0, Int.tmod x2 x3)]) rfl c1 ?_
      refine s_goto 7 dX8_commonDivisor_31 (by decide) ?_
      exact s_less [(9, 0), (9, 0), (0, x3), (0, Int.tmod x2 x3), (0, x4 + 1), (9, 0)] ⟨Or.inl rfl, Or.inl rfl, Or.inr rfl, Or.inr rfl, Or.inr rfl, Or.inl rfl, trivial⟩ H
theorem vX8_highest_0 {X : Nat × (Int → Int)} {h : HP} {Q : Int → HP → Prop} {x1 x2 : Int} (H : ((x1 < 1 → (Q (-1) h)) ∧ (¬ (x1 < 1) → ((10 < x1 → (Q (-1) h)) ∧ (¬ (10 < x1) → ((x2 < 0 → (Q (-1) h)) ∧ (¬ (x2 < 0) → ((x2 ≤ 4 → (Wd mX8_refresh X 0 [(2, 0)] [] h (fun _ h2 => Wd mX2_partOf X 0 [(0, h2 5 10), (0, x1)] [] h2 (fun r3 h4 => ((¬ x2 = 4 → ((2 ≤ x2 → (Wd mX2_periodsOfHighest X 0 [(2, 6), (2, 5), (0, r3), (9, 0), (9, 0)] [] h4 (fun r5 h6 => Wd mJ9_max_7cf53 X 0 [(0, 1), (0, r3)] [] h6 (fun r7 h8 => Wd mX8_commonDivisor X 0 [(0, r5), (0, r7), (9, 0), (9, 0), (9, 0), (9, 0)] [] h8 (fun r9 h10 => Wd mJ9_max_7cf53 X 0 [(0, 1), (0, r9)] [] h10 (fun r11 h12 => ((¬ Int.tmod x2 2 = 0 → (¬ r11 = 0 ∧ inI (Int.tdiv r7 r11) ∧ Q (Int.tdiv r7 r11) h12)) ∧ (Int.tmod x2 2 = 0 → (¬ r11 = 0 ∧ inI (Int.tdiv r5 r11) ∧ Q (Int.tdiv r5 r11) h12))))))))) ∧ (¬ (2 ≤ x2) → (Wd mX2_heightsOfHighest X 0 [(2, 6), (2, 5), (0, r3), (9, 0), (9, 0)] [] h4 (fun r18 h19 => Wd mJ9_max_7cf53 X 0 [(0, 1), (0, r3)] [] h19 (fun r20 h21 => Wd mX8_commonDivisor X 0 [(0, r18), (0, r20), (9, 0), (9, 0), (9, 0), (9, 0)] [] h21 (fun r22 h23 => Wd mJ9_max_7cf53 X 0 [(0, 1), (0, r22)] [] h23 (fun r24 h25 => ((¬ Int.tmod x2 2 = 0 → (¬ r24 = 0 ∧ inI (Int.tdiv r20 r24) ∧ Q (Int.tdiv r20 r24) h25)) ∧ (Int.tmod x2 2 = 0 → (¬ r24 = 0 ∧ inI (Int.tdiv r18 r24) ∧ Q (Int.tdiv r18 r24) h25))))))))))) ∧ (x2 = 4 → (Q r3 h4))))))) ∧ (¬ (x2 ≤ 4) → (Q (-1) h)))))))))) : Wd mX8_highest X 0 [(2, 0), (0, x1), (0, x2), (9, 0), (9, 0), (9, 0), (9, 0)] [] h Q := by
  refine s_iload_n 1 1 rfl dX8_highest_0 rfl rfl ?_
  refine s_iconst 2 rfl dX8_highest_1 ⟨by decide, by decide⟩ ?_
  refine s_icmp_lt 5 20 rfl dX8_highest_2 (by decide) (fun c35 => ?_) (fun c35 => ?_)
  · replace H := H.1 c35
    refine s_iconst 21 rfl dX8_highest_20 ⟨by decide, by decide⟩ ?_
    exact s_iret (S := []) dX8_highest_21 rfl H
  · replace H := H.2 c35
    refine s_iload_n 6 1 rfl dX8_highest_5 rfl rfl ?_
    refine s_bipush 8 rfl dX8_highest_6 (by decide) ⟨by decide, by decide⟩ ?_
    refine s_icmp_gt 11 20 rfl dX8_highest_8 (by decide) (fun c34 => ?_) (fun c34 => ?_)
    · replace H := H.1 c34
      refine s_iconst 21 rfl dX8_highest_20 ⟨by decide, by decide⟩ ?_
      exact s_iret (S := []) dX8_highest_21 rfl H
    · replace H := H.2 c34
      refine s_iload_n 12 2 rfl dX8_highest_11 rfl rfl ?_
      refine s_if_lt 15 20 rfl dX8_highest_12 (by decide) (fun c33 => ?_) (fun c33 => ?_)
      · replace H := H.1 c33
        refine s_iconst 21 rfl dX8_highest_20 ⟨by decide, by decide⟩ ?_
        exact s_iret (S := []) dX8_highest_21 rfl H
      · replace H := H.2 c33
        refine s_iload_n 16 2 rfl dX8_highest_15 rfl rfl ?_
        refine s_iconst 17 rfl dX8_highest_16 ⟨by decide, by decide⟩ ?_
        refine s_icmp_le 20 22 rfl dX8_highest_17 (by decide) (fun c32 => ?_) (fun c32 => ?_)
        · replace H := H.1 c32
          refine s_aload_n 23 0 rfl dX8_highest_22 rfl rfl ?_
          refine s_callV (mj := mX8_refresh) (S := []) 26 [] [(2, 0)] 0 rfl dX8_highest_23 okX8_refresh w421 w423 w1 rfl (by decide) rfl rfl rfl rfl npX8_refresh (Nat.le_of_ble_eq_true rfl) (by decide) (Nat.le_of_ble_eq_true rfl) rfl (Wd.imp H (fun _ h2 H => ?_))
          show Wd mX8_highest X 26 [(2, 0), (0, x1), (0, x2), (9, 0), (9, 0), (9, 0), (9, 0)] [] h2 Q
          refine s_aload_n 27 0 rfl dX8_highest_26 rfl rfl ?_
          refine s_getf 30 0 4 rfl dX8_highest_27 ck8 rfl (by decide) rfl (by decide) w310 rfl (v := (2, 5)) rfl ?_
          refine s_getf 33 5 10 rfl dX8_highest_30 ck7 rfl (by decide) rfl (by decide) w211 rfl (v := (0, h2 5 10)) rfl ?_
          refine s_iload_n 34 1 rfl dX8_highest_33 rfl rfl ?_
          refine s_callS (mj := mX2_partOf) (S := []) 37 [(0, h2 5 10), (0, x1)] [(0, h2 5 10), (0, x1)] rfl dX8_highest_34 okX2_partOf w652 w556 rfl npX2_partOf (Nat.le_of_ble_eq_true rfl) (by decide) (Nat.le_of_ble_eq_true rfl) rfl (Wd.imp H (fun r3 h4 H => ?_))
          show Wd mX8_highest X 37 [(2, 0), (0, x1), (0, x2), (9, 0), (9, 0), (9, 0), (9, 0)] [(0, r3)] h4 Q
          refine s_istore_n 38 3 rfl dX8_highest_37 rfl (by decide) (L2 := [(2, 0), (0, x1), (0, x2), (0, r3), (9, 0), (9, 0), (9, 0)]) rfl ?_
          refine s_iload_n 39 2 rfl dX8_highest_38 rfl rfl ?_
          refine s_iconst 40 rfl dX8_highest_39 ⟨by decide, by decide⟩ ?_
          refine s_icmp_ne 43 45 rfl dX8_highest_40 (by decide) (fun c31 => ?_) (fun c31 => ?_)
          · replace H := H.1 c31
            refine s_iload_n 46 2 rfl dX8_highest_45 rfl rfl ?_
            refine s_iconst 47 rfl dX8_highest_46 ⟨by decide, by decide⟩ ?_
            refine s_icmp_ge 50 65 rfl dX8_highest_47 (by decide) (fun c30 => ?_) (fun c30 => ?_)
            · replace H := H.1 c30
              refine s_aload_n 66 0 rfl dX8_highest_65 rfl rfl ?_
              refine s_getf 69 0 5 rfl dX8_highest_66 ck8 rfl (by decide) rfl (by decide) w311 rfl (v := (2, 6)) rfl ?_
              refine s_aload_n 70 0 rfl dX8_highest_69 rfl rfl ?_
              refine s_getf 73 0 4 rfl dX8_highest_70 ck8 rfl (by decide) rfl (by decide) w310 rfl (v := (2, 5)) rfl ?_
              refine s_iload_n 74 3 rfl dX8_highest_73 rfl rfl ?_
              refine s_callV (mj := mX2_periodsOfHighest) (S := []) 77 [(2, 5), (0, r3)] [(2, 6), (2, 5), (0, r3), (9, 0), (9, 0)] 6 rfl dX8_highest_74 okX2_periodsOfHighest w654 w655 w656 rfl (by decide) rfl rfl rfl rfl npX2_periodsOfHighest (Nat.le_of_ble_eq_true rfl) (by decide) (Nat.le_of_ble_eq_true rfl) rfl (Wd.imp H (fun r5 h6 H => ?_))
              show Wd mX8_highest X 77 [(2, 0), (0, x1), (0, x2), (0, r3), (9, 0), (9, 0), (9, 0)] [(0, r5)] h6 Q
              refine s_istore 79 4 rfl dX8_highest_77 (by decide) (L2 := [(2, 0), (0, x1), (0, x2), (0, r3), (0, r5), (9, 0), (9, 0)]) rfl ?_
              refine s_iconst 80 rfl dX8_highest_79 ⟨by decide, by decide⟩ ?_
              refine s_iload_n 81 3 rfl dX8_highest_80 rfl rfl ?_
              refine s_callS (mj := mJ9_max_7cf53) (S := []) 84 [(0, 1), (0, r3)] [(0, 1), (0, r3)] rfl dX8_highest_81 okJ9_max_7cf53 w658 w471 rfl npJ9_max_7cf53 (Nat.le_of_ble_eq_true rfl) (by decide) (Nat.le_of_ble_eq_true rfl) rfl (Wd.imp H (fun r7 h8 H => ?_))
              show Wd mX8_highest X 84 [(2, 0), (0, x1), (0, x2), (0, r3), (0, r5), (9, 0), (9, 0)] [(0, r7)] h8 Q
              refine s_istore 86 5 rfl dX8_highest_84 (by decide) (L2 := [(2, 0), (0, x1), (0, x2), (0, r3), (0, r5), (0, r7), (9, 0)]) rfl ?_
              refine s_iconst 87 rfl dX8_highest_86 ⟨by decide, by decide⟩ ?_
              refine s_iload 89 4 rfl dX8_highest_87 rfl ?_
              refine s_iload 91 5 rfl dX8_highest_89 rfl ?_
              refine s_callS (mj := mX8_commonDivisor) (S := [(0, 1)]) 94 [(0, r5), (0, r7)] [(0, r5), (0, r7), (9, 0), (9, 0), (9, 0), (9, 0)] rfl dX8_highest_91 okX8_commonDivisor w659 w660 rfl npX8_commonDivisor (Nat.le_of_ble_eq_true rfl) (by decide) (Nat.le_of_ble_eq_true rfl) rfl (Wd.imp H (fun r9 h10 H => ?_))
              show Wd mX8_highest X 94 [(2, 0), (0, x1), (0, x2), (0, r3), (0, r5), (0, r7), (9, 0)] [(0, r9), (0, 1)] h10 Q
              refine s_callS (mj := mJ9_max_7cf53) (S := []) 97 [(0, 1), (0, r9)] [(0, 1), (0, r9)] rfl dX8_highest_94 okJ9_max_7cf53 w658 w471 rfl npJ9_max_7cf53 (Nat.le_of_ble_eq_true rfl) (by decide) (Nat.le_of_ble_eq_true rfl) rfl (Wd.imp H (fun r11 h12 H => ?_))
              show Wd mX8_highest X 97 [(2, 0), (0, x1), (0, x2), (0, r3), (0, r5), (0, r7), (9, 0)] [(0, r11)] h12 Q
              refine s_istore 99 6 rfl dX8_highest_97 (by decide) (L2 := [(2, 0), (0, x1), (0, x2), (0, r3), (0, r5), (0, r7), (0, r11)]) rfl ?_
              refine s_iload_n 100 2 rfl dX8_highest_99 rfl rfl ?_
              refine s_iconst 101 rfl dX8_highest_100 ⟨by decide, by decide⟩ ?_
              refine s_irem 102 rfl dX8_highest_101 (by decide) ?_
              refine s_if_ne 105 113 rfl dX8_highest_102 (by decide) (fun c16 => ?_) (fun c16 => ?_)
              · replace H := H.1 c16
                refine s_iload 115 5 rfl dX8_highest_113 rfl ?_
                refine s_iload 117 6 rfl dX8_highest_115 rfl ?_
                have c12 := H.1
                replace H := H.2
                have c13 := H.1
                replace H := H.2
                refine s_idiv 118 rfl dX8_highest_117 c12 c13 ?_
                exact s_iret (S := []) dX8_highest_118 rfl H
              · replace H := H.2 c16
                refine s_iload 107 4 rfl dX8_highest_105 rfl ?_
                refine s_iload 109 6 rfl dX8_highest_107 rfl ?_
                have c14 := H.1
                replace H := H.2
                have c15 := H.1
                replace H := H.2
                refine s_idiv 110 rfl dX8_highest_109 c14 c15 ?_
                refine s_goto 118 dX8_highest_110 (by decide) ?_
                exact s_iret (S := []) dX8_highest_118 rfl H
            · replace H := H.2 c30
              refine s_aload_n 51 0 rfl dX8_highest_50 rfl rfl ?_
              refine s_getf 54 0 5 rfl dX8_highest_51 ck8 rfl (by decide) rfl (by decide) w311 rfl (v := (2, 6)) rfl ?_
              refine s_aload_n 55 0 rfl dX8_highest_54 rfl rfl ?_
              refine s_getf 58 0 4 rfl dX8_highest_55 ck8 rfl (by decide) rfl (by decide) w310 rfl (v := (2, 5)) rfl ?_
              refine s_iload_n 59 3 rfl dX8_highest_58 rfl rfl ?_
              refine s_callV (mj := mX2_heightsOfHighest) (S := []) 62 [(2, 5), (0, r3)] [(2, 6), (2, 5), (0, r3), (9, 0), (9, 0)] 6 rfl dX8_highest_59 okX2_heightsOfHighest w653 w560 w561 rfl (by decide) rfl rfl rfl rfl npX2_heightsOfHighest (Nat.le_of_ble_eq_true rfl) (by decide) (Nat.le_of_ble_eq_true rfl) rfl (Wd.imp H (fun r18 h19 H => ?_))
              show Wd mX8_highest X 62 [(2, 0), (0, x1), (0, x2), (0, r3), (9, 0), (9, 0), (9, 0)] [(0, r18)] h19 Q
              refine s_goto 77 dX8_highest_62 (by decide) ?_
              refine s_istore 79 4 rfl dX8_highest_77 (by decide) (L2 := [(2, 0), (0, x1), (0, x2), (0, r3), (0, r18), (9, 0), (9, 0)]) rfl ?_
              refine s_iconst 80 rfl dX8_highest_79 ⟨by decide, by decide⟩ ?_
              refine s_iload_n 81 3 rfl dX8_highest_80 rfl rfl ?_
              refine s_callS (mj := mJ9_max_7cf53) (S := []) 84 [(0, 1), (0, r3)] [(0, 1), (0, r3)] rfl dX8_highest_81 okJ9_max_7cf53 w658 w471 rfl npJ9_max_7cf53 (Nat.le_of_ble_eq_true rfl) (by decide) (Nat.le_of_ble_eq_true rfl) rfl (Wd.imp H (fun r20 h21 H => ?_))
              show Wd mX8_highest X 84 [(2, 0), (0, x1), (0, x2), (0, r3), (0, r18), (9, 0), (9, 0)] [(0, r20)] h21 Q
              refine s_istore 86 5 rfl dX8_highest_84 (by decide) (L2 := [(2, 0), (0, x1), (0, x2), (0, r3), (0, r18), (0, r20), (9, 0)]) rfl ?_
              refine s_iconst 87 rfl dX8_highest_86 ⟨by decide, by decide⟩ ?_
              refine s_iload 89 4 rfl dX8_highest_87 rfl ?_
              refine s_iload 91 5 rfl dX8_highest_89 rfl ?_
              refine s_callS (mj := mX8_commonDivisor) (S := [(0, 1)]) 94 [(0, r18), (0, r20)] [(0, r18), (0, r20), (9, 0), (9, 0), (9, 0), (9, 0)] rfl dX8_highest_91 okX8_commonDivisor w659 w660 rfl npX8_commonDivisor (Nat.le_of_ble_eq_true rfl) (by decide) (Nat.le_of_ble_eq_true rfl) rfl (Wd.imp H (fun r22 h23 H => ?_))
              show Wd mX8_highest X 94 [(2, 0), (0, x1), (0, x2), (0, r3), (0, r18), (0, r20), (9, 0)] [(0, r22), (0, 1)] h23 Q
              refine s_callS (mj := mJ9_max_7cf53) (S := []) 97 [(0, 1), (0, r22)] [(0, 1), (0, r22)] rfl dX8_highest_94 okJ9_max_7cf53 w658 w471 rfl npJ9_max_7cf53 (Nat.le_of_ble_eq_true rfl) (by decide) (Nat.le_of_ble_eq_true rfl) rfl (Wd.imp H (fun r24 h25 H => ?_))
              show Wd mX8_highest X 97 [(2, 0), (0, x1), (0, x2), (0, r3), (0, r18), (0, r20), (9, 0)] [(0, r24)] h25 Q
              refine s_istore 99 6 rfl dX8_highest_97 (by decide) (L2 := [(2, 0), (0, x1), (0, x2), (0, r3), (0, r18), (0, r20), (0, r24)]) rfl ?_
              refine s_iload_n 100 2 rfl dX8_highest_99 rfl rfl ?_
              refine s_iconst 101 rfl dX8_highest_100 ⟨by decide, by decide⟩ ?_
              refine s_irem 102 rfl dX8_highest_101 (by decide) ?_
              refine s_if_ne 105 113 rfl dX8_highest_102 (by decide) (fun c29 => ?_) (fun c29 => ?_)
              · replace H := H.1 c29
                refine s_iload 115 5 rfl dX8_highest_113 rfl ?_
                refine s_iload 117 6 rfl dX8_highest_115 rfl ?_
                have c25 := H.1
                replace H := H.2
                have c26 := H.1
                replace H := H.2
                refine s_idiv 118 rfl dX8_highest_117 c25 c26 ?_
                exact s_iret (S := []) dX8_highest_118 rfl H
              · replace H := H.2 c29
                refine s_iload 107 4 rfl dX8_highest_105 rfl ?_
                refine s_iload 109 6 rfl dX8_highest_107 rfl ?_
                have c27 := H.1
                replace H := H.2
                have c28 := H.1
                replace H := H.2
                refine s_idiv 110 rfl dX8_highest_109 c27 c28 ?_
                refine s_goto 118 dX8_highest_110 (by decide) ?_
                exact s_iret (S := []) dX8_highest_118 rfl H
          · replace H := H.2 c31
            refine s_iload_n 44 3 rfl dX8_highest_43 rfl rfl ?_
            exact s_iret (S := []) dX8_highest_44 rfl H
        · replace H := H.2 c32
          refine s_iconst 21 rfl dX8_highest_20 ⟨by decide, by decide⟩ ?_
          exact s_iret (S := []) dX8_highest_21 rfl H
theorem vX8_freak_0 {X : Nat × (Int → Int)} {h : HP} {Q : Int → HP → Prop} {x1 : Int} (H : Wd mX8_refresh X 0 [(2, 0)] [] h (fun _ h2 => ((x1 < 0 → (Q (-1) h2)) ∧ (¬ (x1 < 0) → ((h2 6 2 ≤ x1 → (Q (-1) h2)) ∧ (¬ (h2 6 2 ≤ x1) → (0 ≤ x1 ∧ x1 < 300 ∧ Q (h2 34 x1) h2))))))) : Wd mX8_freak X 0 [(2, 0), (0, x1)] [] h Q := by
  refine s_aload_n 1 0 rfl dX8_freak_0 rfl rfl ?_
  refine s_callV (mj := mX8_refresh) (S := []) 4 [] [(2, 0)] 0 rfl dX8_freak_1 okX8_refresh w421 w423 w1 rfl (by decide) rfl rfl rfl rfl npX8_refresh (Nat.le_of_ble_eq_true rfl) (by decide) (Nat.le_of_ble_eq_true rfl) rfl (Wd.imp H (fun _ h2 H => ?_))
  show Wd mX8_freak X 4 [(2, 0), (0, x1)] [] h2 Q
  refine s_iload_n 5 1 rfl dX8_freak_4 rfl rfl ?_
  refine s_if_lt 8 31 rfl dX8_freak_5 (by decide) (fun c5 => ?_) (fun c5 => ?_)
  · replace H := H.1 c5
    refine s_iconst 32 rfl dX8_freak_31 ⟨by decide, by decide⟩ ?_
    exact s_iret (S := []) dX8_freak_32 rfl H
  · replace H := H.2 c5
    refine s_iload_n 9 1 rfl dX8_freak_8 rfl rfl ?_
    refine s_aload_n 10 0 rfl dX8_freak_9 rfl rfl ?_
    refine s_getf 13 0 5 rfl dX8_freak_10 ck8 rfl (by decide) rfl (by decide) w311 rfl (v := (2, 6)) rfl ?_
    refine s_getf 16 6 2 rfl dX8_freak_13 ck2 rfl (by decide) rfl (by decide) w246 rfl (v := (0, h2 6 2)) rfl ?_
    refine s_icmp_ge 19 31 rfl dX8_freak_16 (by decide) (fun c4 => ?_) (fun c4 => ?_)
    · replace H := H.1 c4
      refine s_iconst 32 rfl dX8_freak_31 ⟨by decide, by decide⟩ ?_
      exact s_iret (S := []) dX8_freak_32 rfl H
    · replace H := H.2 c4
      refine s_aload_n 20 0 rfl dX8_freak_19 rfl rfl ?_
      refine s_getf 23 0 5 rfl dX8_freak_20 ck8 rfl (by decide) rfl (by decide) w311 rfl (v := (2, 6)) rfl ?_
      refine s_getf 26 6 0 rfl dX8_freak_23 ck2 rfl (by decide) rfl (by decide) w242 rfl (v := (2, 34)) rfl ?_
      refine s_iload_n 27 1 rfl dX8_freak_26 rfl rfl ?_
      have c2 := H.1
      replace H := H.2
      have c3 := H.1
      replace H := H.2
      refine s_iald 28 rfl dX8_freak_27 ia34 c2 c3 (v9 := h2 34 x1) rfl ?_
      refine s_goto 32 dX8_freak_28 (by decide) ?_
      exact s_iret (S := []) dX8_freak_32 rfl H
theorem vX8_group_0 {X : Nat × (Int → Int)} {h : HP} {Q : Int → HP → Prop} {x1 x2 : Int} (H : Wd mX8_refresh X 0 [(2, 0)] [] h (fun _ h2 => Wd mX0_has X 0 [(2, 7), (0, x1)] [] h2 (fun r3 h4 => ((¬ r3 = 0 → (0 ≤ x1 ∧ x1 < 300 ∧ inI (h4 37 x1 + h4 38 x1) ∧ ((x2 < 0 ∨ 4 < x2 → (Q (-1) h4)) ∧ (x2 = 0 → (Q (h4 37 x1) h4)) ∧ (x2 = 1 → (Q (h4 38 x1) h4)) ∧ (x2 = 2 → (Wd mX2_leastRankIn X 0 [(2, 6), (0, h4 37 x1), (0, h4 37 x1 + h4 38 x1), (9, 0), (9, 0)] [] h4 (fun r9 h10 => Q r9 h10))) ∧ (x2 = 3 → (inI (x1 + 1) ∧ Wd mX0_has X 0 [(2, 7), (0, x1 + 1)] [] h4 (fun r12 h13 => ((r12 = 0 → (Q (-1) h13)) ∧ (¬ r12 = 0 → (0 ≤ x1 + 1 ∧ x1 + 1 < 300 ∧ inI (h13 37 (x1 + 1) - h4 37 x1) ∧ Q (h13 37 (x1 + 1) - h4 37 x1) h13)))))) ∧ (x2 = 4 → (Wd mX7_periodsFrom X 0 [(2, 5), (0, h4 37 x1), (0, h4 37 x1 + h4 38 x1), (9, 0), (9, 0)] [] h4 (fun r18 h19 => Q r18 h19)))))) ∧ (r3 = 0 → (Q (-1) h4)))))) : Wd mX8_group X 0 [(2, 0), (0, x1), (0, x2), (9, 0), (9, 0)] [] h Q := by
  refine s_aload_n 1 0 rfl dX8_group_0 rfl rfl ?_
  refine s_callV (mj := mX8_refresh) (S := []) 4 [] [(2, 0)] 0 rfl dX8_group_1 okX8_refresh w421 w423 w1 rfl (by decide) rfl rfl rfl rfl npX8_refresh (Nat.le_of_ble_eq_true rfl) (by decide) (Nat.le_of_ble_eq_true rfl) rfl (Wd.imp H (fun _ h2 H => ?_))
  show Wd mX8_group X 4 [(2, 0), (0, x1), (0, x2), (9, 0), (9, 0)] [] h2 Q
  refine s_aload_n 5 0 rfl dX8_group_4 rfl rfl ?_
  refine s_getf 8 0 6 rfl dX8_group_5 ck8 rfl (by decide) rfl (by decide) w312 rfl (v := (2, 7)) rfl ?_
  refine s_iload_n 9 1 rfl dX8_group_8 rfl rfl ?_
  refine s_callV (mj := mX0_has) (S := []) 12 [(0, x1)] [(2, 7), (0, x1)] 7 rfl dX8_group_9 okX0_has w670 w671 w672 rfl (by decide) rfl rfl rfl rfl npX0_has (Nat.le_of_ble_eq_true rfl) (by decide) (Nat.le_of_ble_eq_true rfl) rfl (Wd.imp H (fun r3 h4 H => ?_))
  show Wd mX8_group X 12 [(2, 0), (0, x1), (0, x2), (9, 0), (9, 0)] [(0, r3)] h4 Q
  refine s_if_ne 15 17 rfl dX8_group_12 (by decide) (fun c19 => ?_) (fun c19 => ?_)
  · replace H := H.1 c19
    refine s_aload_n 18 0 rfl dX8_group_17 rfl rfl ?_
    refine s_getf 21 0 6 rfl dX8_group_18 ck8 rfl (by decide) rfl (by decide) w312 rfl (v := (2, 7)) rfl ?_
    refine s_getf 24 7 1 rfl dX8_group_21 ck0 rfl (by decide) rfl (by decide) w275 rfl (v := (2, 37)) rfl ?_
    refine s_iload_n 25 1 rfl dX8_group_24 rfl rfl ?_
    have c4 := H.1
    replace H := H.2
    have c5 := H.1
    replace H := H.2
    refine s_iald 26 rfl dX8_group_25 ia37 c4 c5 (v9 := h4 37 x1) rfl ?_
    refine s_istore_n 27 3 rfl dX8_group_26 rfl (by decide) (L2 := [(2, 0), (0, x1), (0, x2), (0, h4 37 x1), (9, 0)]) rfl ?_
    refine s_iload_n 28 3 rfl dX8_group_27 rfl rfl ?_
    refine s_aload_n 29 0 rfl dX8_group_28 rfl rfl ?_
    refine s_getf 32 0 6 rfl dX8_group_29 ck8 rfl (by decide) rfl (by decide) w312 rfl (v := (2, 7)) rfl ?_
    refine s_getf 35 7 2 rfl dX8_group_32 ck0 rfl (by decide) rfl (by decide) w277 rfl (v := (2, 38)) rfl ?_
    refine s_iload_n 36 1 rfl dX8_group_35 rfl rfl ?_
    refine s_iald 37 rfl dX8_group_36 ia38 c4 c5 (v9 := h4 38 x1) rfl ?_
    have c6 := H.1
    replace H := H.2
    refine s_iadd 38 rfl dX8_group_37 c6 ?_
    refine s_istore 40 4 rfl dX8_group_38 (by decide) (L2 := [(2, 0), (0, x1), (0, x2), (0, h4 37 x1), (0, h4 37 x1 + h4 38 x1)]) rfl ?_
    refine s_iload_n 41 2 rfl dX8_group_40 rfl rfl ?_
    rcases (by omega : (x2 < 0 ∨ 4 < x2) ∨ x2 = 0 ∨ x2 = 1 ∨ x2 = 2 ∨ x2 = 3 ∨ x2 = 4) with c7 | c7 | c7 | c7 | c7 | c7
    · refine s_tsd 141 dX8_group_41 c7 (by decide) ?_
      replace H := H.1 c7
      refine s_iconst 142 rfl dX8_group_141 ⟨by decide, by decide⟩ ?_
      exact s_iret (S := []) dX8_group_142 rfl H
    · refine s_tsw 76 dX8_group_41 (by omega) (by omega) (by rw [c7]; rfl) (by decide) ?_
      replace H := H.2.1 c7
      refine s_iload_n 77 3 rfl dX8_group_76 rfl rfl ?_
      exact s_iret (S := []) dX8_group_77 rfl H
    · refine s_tsw 78 dX8_group_41 (by omega) (by omega) (by rw [c7]; rfl) (by decide) ?_
      replace H := H.2.2.1 c7
      refine s_aload_n 79 0 rfl dX8_group_78 rfl rfl ?_
      refine s_getf 82 0 6 rfl dX8_group_79 ck8 rfl (by decide) rfl (by decide) w312 rfl (v := (2, 7)) rfl ?_
      refine s_getf 85 7 2 rfl dX8_group_82 ck0 rfl (by decide) rfl (by decide) w277 rfl (v := (2, 38)) rfl ?_
      refine s_iload_n 86 1 rfl dX8_group_85 rfl rfl ?_
      refine s_iald 87 rfl dX8_group_86 ia38 c4 c5 (v9 := h4 38 x1) rfl ?_
      exact s_iret (S := []) dX8_group_87 rfl H
    · refine s_tsw 88 dX8_group_41 (by omega) (by omega) (by rw [c7]; rfl) (by decide) ?_
      replace H := H.2.2.2.1 c7
      refine s_aload_n 89 0 rfl dX8_group_88 rfl rfl ?_
      refine s_getf 92 0 5 rfl dX8_group_89 ck8 rfl (by decide) rfl (by decide) w311 rfl (v := (2, 6)) rfl ?_
      refine s_iload_n 93 3 rfl dX8_group_92 rfl rfl ?_
      refine s_iload 95 4 rfl dX8_group_93 rfl ?_
      refine s_callV (mj := mX2_leastRankIn) (S := []) 98 [(0, h4 37 x1), (0, h4 37 x1 + h4 38 x1)] [(2, 6), (0, h4 37 x1), (0, h4 37 x1 + h4 38 x1), (9, 0), (9, 0)] 6 rfl dX8_group_95 okX2_leastRankIn w674 w675 w676 rfl (by decide) rfl rfl rfl rfl npX2_leastRankIn (Nat.le_of_ble_eq_true rfl) (by decide) (Nat.le_of_ble_eq_true rfl) rfl (Wd.imp H (fun r9 h10 H => ?_))
      show Wd mX8_group X 98 [(2, 0), (0, x1), (0, x2), (0, h4 37 x1), (0, h4 37 x1 + h4 38 x1)] [(0, r9)] h10 Q
      exact s_iret (S := []) dX8_group_98 rfl H
    · refine s_tsw 99 dX8_group_41 (by omega) (by omega) (by rw [c7]; rfl) (by decide) ?_
      replace H := H.2.2.2.2.1 c7
      refine s_aload_n 100 0 rfl dX8_group_99 rfl rfl ?_
      refine s_getf 103 0 6 rfl dX8_group_100 ck8 rfl (by decide) rfl (by decide) w312 rfl (v := (2, 7)) rfl ?_
      refine s_iload_n 104 1 rfl dX8_group_103 rfl rfl ?_
      refine s_iconst 105 rfl dX8_group_104 ⟨by decide, by decide⟩ ?_
      have c10 := H.1
      replace H := H.2
      refine s_iadd 106 rfl dX8_group_105 c10 ?_
      refine s_callV (mj := mX0_has) (S := []) 109 [(0, x1 + 1)] [(2, 7), (0, x1 + 1)] 7 rfl dX8_group_106 okX0_has w670 w671 w672 rfl (by decide) rfl rfl rfl rfl npX0_has (Nat.le_of_ble_eq_true rfl) (by decide) (Nat.le_of_ble_eq_true rfl) rfl (Wd.imp H (fun r12 h13 H => ?_))
      show Wd mX8_group X 109 [(2, 0), (0, x1), (0, x2), (0, h4 37 x1), (0, h4 37 x1 + h4 38 x1)] [(0, r12)] h13 Q
      refine s_if_eq 112 128 rfl dX8_group_109 (by decide) (fun c16 => ?_) (fun c16 => ?_)
      · replace H := H.1 c16
        refine s_iconst 129 rfl dX8_group_128 ⟨by decide, by decide⟩ ?_
        exact s_iret (S := []) dX8_group_129 rfl H
      · replace H := H.2 c16
        refine s_aload_n 113 0 rfl dX8_group_112 rfl rfl ?_
        refine s_getf 116 0 6 rfl dX8_group_113 ck8 rfl (by decide) rfl (by decide) w312 rfl (v := (2, 7)) rfl ?_
        refine s_getf 119 7 1 rfl dX8_group_116 ck0 rfl (by decide) rfl (by decide) w275 rfl (v := (2, 37)) rfl ?_
        refine s_iload_n 120 1 rfl dX8_group_119 rfl rfl ?_
        refine s_iconst 121 rfl dX8_group_120 ⟨by decide, by decide⟩ ?_
        refine s_iadd 122 rfl dX8_group_121 c10 ?_
        have c13 := H.1
        replace H := H.2
        have c14 := H.1
        replace H := H.2
        refine s_iald 123 rfl dX8_group_122 ia37 c13 c14 (v9 := h13 37 (x1 + 1)) rfl ?_
        refine s_iload_n 124 3 rfl dX8_group_123 rfl rfl ?_
        have c15 := H.1
        replace H := H.2
        refine s_isub 125 rfl dX8_group_124 c15 ?_
        refine s_goto 129 dX8_group_125 (by decide) ?_
        exact s_iret (S := []) dX8_group_129 rfl H
    · refine s_tsw 130 dX8_group_41 (by omega) (by omega) (by rw [c7]; rfl) (by decide) ?_
      replace H := H.2.2.2.2.2 c7
      refine s_aload_n 131 0 rfl dX8_group_130 rfl rfl ?_
      refine s_getf 134 0 4 rfl dX8_group_131 ck8 rfl (by decide) rfl (by decide) w310 rfl (v := (2, 5)) rfl ?_
      refine s_iload_n 135 3 rfl dX8_group_134 rfl rfl ?_
      refine s_iload 137 4 rfl dX8_group_135 rfl ?_
      refine s_callV (mj := mX7_periodsFrom) (S := []) 140 [(0, h4 37 x1), (0, h4 37 x1 + h4 38 x1)] [(2, 5), (0, h4 37 x1), (0, h4 37 x1 + h4 38 x1), (9, 0), (9, 0)] 5 rfl dX8_group_137 okX7_periodsFrom w590 w591 w592 rfl (by decide) rfl rfl rfl rfl npX7_periodsFrom (Nat.le_of_ble_eq_true rfl) (by decide) (Nat.le_of_ble_eq_true rfl) rfl (Wd.imp H (fun r18 h19 H => ?_))
      show Wd mX8_group X 140 [(2, 0), (0, x1), (0, x2), (0, h4 37 x1), (0, h4 37 x1 + h4 38 x1)] [(0, r18)] h19 Q
      exact s_iret (S := []) dX8_group_140 rfl H
  · replace H := H.2 c19
    refine s_iconst 16 rfl dX8_group_15 ⟨by decide, by decide⟩ ?_
    exact s_iret (S := []) dX8_group_16 rfl H
theorem vX8_energy_0 {X : Nat × (Int → Int)} {h : HP} {Q : Int → HP → Prop} {x1 : Int} (H : Wd mX8_refresh X 0 [(2, 0)] [] h (fun _ h2 => ((¬ x1 = (-1) → (Wd mX0_has X 0 [(2, 7), (0, x1)] [] h2 (fun r3 h4 => ((¬ r3 = 0 → (0 ≤ x1 ∧ x1 < 300 ∧ inI (h4 37 x1 + h4 38 x1) ∧ Wd mX7_squaresFrom X 0 [(2, 5), (0, h4 37 x1), (0, h4 37 x1 + h4 38 x1), (9, 0), (9, 0), (9, 0)] [] h4 (fun r8 h9 => Q r8 h9))) ∧ (r3 = 0 → (Q (-1) h4)))))) ∧ (x1 = (-1) → (Wd mX7_squaresFrom X 0 [(2, 5), (0, 0), (0, h2 5 10), (9, 0), (9, 0), (9, 0)] [] h2 (fun r11 h12 => Q r11 h12)))))) : Wd mX8_energy X 0 [(2, 0), (0, x1), (9, 0)] [] h Q := by
  refine s_aload_n 1 0 rfl dX8_energy_0 rfl rfl ?_
  refine s_callV (mj := mX8_refresh) (S := []) 4 [] [(2, 0)] 0 rfl dX8_energy_1 okX8_refresh w421 w423 w1 rfl (by decide) rfl rfl rfl rfl npX8_refresh (Nat.le_of_ble_eq_true rfl) (by decide) (Nat.le_of_ble_eq_true rfl) rfl (Wd.imp H (fun _ h2 H => ?_))
  show Wd mX8_energy X 4 [(2, 0), (0, x1), (9, 0)] [] h2 Q
  refine s_iload_n 5 1 rfl dX8_energy_4 rfl rfl ?_
  refine s_iconst 6 rfl dX8_energy_5 ⟨by decide, by decide⟩ ?_
  refine s_icmp_ne 9 25 rfl dX8_energy_6 (by decide) (fun c12 => ?_) (fun c12 => ?_)
  · replace H := H.1 c12
    refine s_aload_n 26 0 rfl dX8_energy_25 rfl rfl ?_
    refine s_getf 29 0 6 rfl dX8_energy_26 ck8 rfl (by decide) rfl (by decide) w312 rfl (v := (2, 7)) rfl ?_
    refine s_iload_n 30 1 rfl dX8_energy_29 rfl rfl ?_
    refine s_callV (mj := mX0_has) (S := []) 33 [(0, x1)] [(2, 7), (0, x1)] 7 rfl dX8_energy_30 okX0_has w670 w671 w672 rfl (by decide) rfl rfl rfl rfl npX0_has (Nat.le_of_ble_eq_true rfl) (by decide) (Nat.le_of_ble_eq_true rfl) rfl (Wd.imp H (fun r3 h4 H => ?_))
    show Wd mX8_energy X 33 [(2, 0), (0, x1), (9, 0)] [(0, r3)] h4 Q
    refine s_if_ne 36 40 rfl dX8_energy_33 (by decide) (fun c9 => ?_) (fun c9 => ?_)
    · replace H := H.1 c9
      refine s_aload_n 41 0 rfl dX8_energy_40 rfl rfl ?_
      refine s_getf 44 0 6 rfl dX8_energy_41 ck8 rfl (by decide) rfl (by decide) w312 rfl (v := (2, 7)) rfl ?_
      refine s_getf 47 7 1 rfl dX8_energy_44 ck0 rfl (by decide) rfl (by decide) w275 rfl (v := (2, 37)) rfl ?_
      refine s_iload_n 48 1 rfl dX8_energy_47 rfl rfl ?_
      have c4 := H.1
      replace H := H.2
      have c5 := H.1
      replace H := H.2
      refine s_iald 49 rfl dX8_energy_48 ia37 c4 c5 (v9 := h4 37 x1) rfl ?_
      refine s_istore_n 50 2 rfl dX8_energy_49 rfl (by decide) (L2 := [(2, 0), (0, x1), (0, h4 37 x1)]) rfl ?_
      refine s_aload_n 51 0 rfl dX8_energy_50 rfl rfl ?_
      refine s_getf 54 0 4 rfl dX8_energy_51 ck8 rfl (by decide) rfl (by decide) w310 rfl (v := (2, 5)) rfl ?_
      refine s_iload_n 55 2 rfl dX8_energy_54 rfl rfl ?_
      refine s_iload_n 56 2 rfl dX8_energy_55 rfl rfl ?_
      refine s_aload_n 57 0 rfl dX8_energy_56 rfl rfl ?_
      refine s_getf 60 0 6 rfl dX8_energy_57 ck8 rfl (by decide) rfl (by decide) w312 rfl (v := (2, 7)) rfl ?_
      refine s_getf 63 7 2 rfl dX8_energy_60 ck0 rfl (by decide) rfl (by decide) w277 rfl (v := (2, 38)) rfl ?_
      refine s_iload_n 64 1 rfl dX8_energy_63 rfl rfl ?_
      refine s_iald 65 rfl dX8_energy_64 ia38 c4 c5 (v9 := h4 38 x1) rfl ?_
      have c6 := H.1
      replace H := H.2
      refine s_iadd 66 rfl dX8_energy_65 c6 ?_
      refine s_callV (mj := mX7_squaresFrom) (S := []) 69 [(0, h4 37 x1), (0, h4 37 x1 + h4 38 x1)] [(2, 5), (0, h4 37 x1), (0, h4 37 x1 + h4 38 x1), (9, 0), (9, 0), (9, 0)] 5 rfl dX8_energy_66 okX7_squaresFrom w682 w683 w684 rfl (by decide) rfl rfl rfl rfl npX7_squaresFrom (Nat.le_of_ble_eq_true rfl) (by decide) (Nat.le_of_ble_eq_true rfl) rfl (Wd.imp H (fun r8 h9 H => ?_))
      show Wd mX8_energy X 69 [(2, 0), (0, x1), (0, h4 37 x1)] [(1, r8)] h9 Q
      exact s_lret (S := []) dX8_energy_69 rfl H
    · replace H := H.2 c9
      refine s_ldc2 39 (-1) rfl dX8_energy_36 w686 ⟨by decide, by decide⟩ ?_
      exact s_lret (S := []) dX8_energy_39 rfl H
  · replace H := H.2 c12
    refine s_aload_n 10 0 rfl dX8_energy_9 rfl rfl ?_
    refine s_getf 13 0 4 rfl dX8_energy_10 ck8 rfl (by decide) rfl (by decide) w310 rfl (v := (2, 5)) rfl ?_
    refine s_iconst 14 rfl dX8_energy_13 ⟨by decide, by decide⟩ ?_
    refine s_aload_n 15 0 rfl dX8_energy_14 rfl rfl ?_
    refine s_getf 18 0 4 rfl dX8_energy_15 ck8 rfl (by decide) rfl (by decide) w310 rfl (v := (2, 5)) rfl ?_
    refine s_getf 21 5 10 rfl dX8_energy_18 ck7 rfl (by decide) rfl (by decide) w211 rfl (v := (0, h2 5 10)) rfl ?_
    refine s_callV (mj := mX7_squaresFrom) (S := []) 24 [(0, 0), (0, h2 5 10)] [(2, 5), (0, 0), (0, h2 5 10), (9, 0), (9, 0), (9, 0)] 5 rfl dX8_energy_21 okX7_squaresFrom w682 w683 w684 rfl (by decide) rfl rfl rfl rfl npX7_squaresFrom (Nat.le_of_ble_eq_true rfl) (by decide) (Nat.le_of_ble_eq_true rfl) rfl (Wd.imp H (fun r11 h12 H => ?_))
    show Wd mX8_energy X 24 [(2, 0), (0, x1), (9, 0)] [(1, r11)] h12 Q
    exact s_lret (S := []) dX8_energy_24 rfl H
theorem vX8_name_0 {X : Nat × (Int → Int)} {h : HP} {Q : Int → HP → Prop} {x1 x2 : Int} (H : Wd mX8_refresh X 0 [(2, 0)] [] h (fun _ h2 => Wd mX7_has X 0 [(2, 5), (0, x1)] [] h2 (fun r3 h4 => ((r3 = 0 → (Q 0 h4)) ∧ (¬ r3 = 0 → ((x2 < 1 → (Q 0 h4)) ∧ (¬ (x2 < 1) → ((x2 ≤ 999 → (0 ≤ x1 ∧ x1 < 300 ∧ Wd mX3_nameAt X 0 [(2, 3), (0, h4 29 x1)] [] h4 (fun r7 h8 => ((¬ r7 = (-1) → (Q 0 h8)) ∧ (r7 = (-1) → (Wd mX3_bearerOf X 0 [(2, 3), (0, x2), (9, 0)] [] h8 (fun r9 h10 => ((r9 = (-1) → (Wd mX3_namesGiven X 0 [(2, 3), (9, 0), (9, 0)] [] h10 (fun r11 h12 => ((r11 < 20 → (0 ≤ h4 29 x1 ∧ h4 29 x1 < 600 ∧ Q 1 (xu h12 13 (h4 29 x1) x2))) ∧ (¬ (r11 < 20) → (Q 0 h12)))))) ∧ (¬ r9 = (-1) → (Q 0 h10)))))))))) ∧ (¬ (x2 ≤ 999) → (Q 0 h4)))))))))) : Wd mX8_name X 0 [(2, 0), (0, x1), (0, x2), (9, 0)] [] h Q := by
  refine s_aload_n 1 0 rfl dX8_name_0 rfl rfl ?_
  refine s_callV (mj := mX8_refresh) (S := []) 4 [] [(2, 0)] 0 rfl dX8_name_1 okX8_refresh w421 w423 w1 rfl (by decide) rfl rfl rfl rfl npX8_refresh (Nat.le_of_ble_eq_true rfl) (by decide) (Nat.le_of_ble_eq_true rfl) rfl (Wd.imp H (fun _ h2 H => ?_))
  show Wd mX8_name X 4 [(2, 0), (0, x1), (0, x2), (9, 0)] [] h2 Q
  refine s_aload_n 5 0 rfl dX8_name_4 rfl rfl ?_
  refine s_getf 8 0 4 rfl dX8_name_5 ck8 rfl (by decide) rfl (by decide) w310 rfl (v := (2, 5)) rfl ?_
  refine s_iload_n 9 1 rfl dX8_name_8 rfl rfl ?_
  refine s_callV (mj := mX7_has) (S := []) 12 [(0, x1)] [(2, 5), (0, x1)] 5 rfl dX8_name_9 okX7_has w630 w631 w632 rfl (by decide) rfl rfl rfl rfl npX7_has (Nat.le_of_ble_eq_true rfl) (by decide) (Nat.le_of_ble_eq_true rfl) rfl (Wd.imp H (fun r3 h4 H => ?_))
  show Wd mX8_name X 12 [(2, 0), (0, x1), (0, x2), (9, 0)] [(0, r3)] h4 Q
  refine s_if_eq 15 27 rfl dX8_name_12 (by decide) (fun c19 => ?_) (fun c19 => ?_)
  · replace H := H.1 c19
    refine s_iconst 28 rfl dX8_name_27 ⟨by decide, by decide⟩ ?_
    exact s_zret (S := []) dX8_name_28 rfl (Or.inl rfl) H
  · replace H := H.2 c19
    refine s_iload_n 16 2 rfl dX8_name_15 rfl rfl ?_
    refine s_iconst 17 rfl dX8_name_16 ⟨by decide, by decide⟩ ?_
    refine s_icmp_lt 20 27 rfl dX8_name_17 (by decide) (fun c18 => ?_) (fun c18 => ?_)
    · replace H := H.1 c18
      refine s_iconst 28 rfl dX8_name_27 ⟨by decide, by decide⟩ ?_
      exact s_zret (S := []) dX8_name_28 rfl (Or.inl rfl) H
    · replace H := H.2 c18
      refine s_iload_n 21 2 rfl dX8_name_20 rfl rfl ?_
      refine s_sipush 24 rfl dX8_name_21 (by decide) ⟨by decide, by decide⟩ ?_
      refine s_icmp_le 27 29 rfl dX8_name_24 (by decide) (fun c17 => ?_) (fun c17 => ?_)
      · replace H := H.1 c17
        refine s_aload_n 30 0 rfl dX8_name_29 rfl rfl ?_
        refine s_getf 33 0 4 rfl dX8_name_30 ck8 rfl (by decide) rfl (by decide) w310 rfl (v := (2, 5)) rfl ?_
        refine s_getf 36 5 5 rfl dX8_name_33 ck7 rfl (by decide) rfl (by decide) w198 rfl (v := (2, 29)) rfl ?_
        refine s_iload_n 37 1 rfl dX8_name_36 rfl rfl ?_
        have c4 := H.1
        replace H := H.2
        have c5 := H.1
        replace H := H.2
        refine s_iald 38 rfl dX8_name_37 ia29 c4 c5 (v9 := h4 29 x1) rfl ?_
        refine s_istore_n 39 3 rfl dX8_name_38 rfl (by decide) (L2 := [(2, 0), (0, x1), (0, x2), (0, h4 29 x1)]) rfl ?_
        refine s_aload_n 40 0 rfl dX8_name_39 rfl rfl ?_
        refine s_getf 43 0 2 rfl dX8_name_40 ck8 rfl (by decide) rfl (by decide) w308 rfl (v := (2, 3)) rfl ?_
        refine s_iload_n 44 3 rfl dX8_name_43 rfl rfl ?_
        refine s_callV (mj := mX3_nameAt) (S := []) 47 [(0, h4 29 x1)] [(2, 3), (0, h4 29 x1)] 3 rfl dX8_name_44 okX3_nameAt w606 w607 w608 rfl (by decide) rfl rfl rfl rfl npX3_nameAt (Nat.le_of_ble_eq_true rfl) (by decide) (Nat.le_of_ble_eq_true rfl) rfl (Wd.imp H (fun r7 h8 H => ?_))
        show Wd mX8_name X 47 [(2, 0), (0, x1), (0, x2), (0, h4 29 x1)] [(0, r7)] h8 Q
        refine s_iconst 48 rfl dX8_name_47 ⟨by decide, by decide⟩ ?_
        refine s_icmp_ne 51 63 rfl dX8_name_48 (by decide) (fun c16 => ?_) (fun c16 => ?_)
        · replace H := H.1 c16
          refine s_iconst 64 rfl dX8_name_63 ⟨by decide, by decide⟩ ?_
          exact s_zret (S := []) dX8_name_64 rfl (Or.inl rfl) H
        · replace H := H.2 c16
          refine s_aload_n 52 0 rfl dX8_name_51 rfl rfl ?_
          refine s_getf 55 0 2 rfl dX8_name_52 ck8 rfl (by decide) rfl (by decide) w308 rfl (v := (2, 3)) rfl ?_
          refine s_iload_n 56 2 rfl dX8_name_55 rfl rfl ?_
          refine s_callV (mj := mX3_bearerOf) (S := []) 59 [(0, x2)] [(2, 3), (0, x2), (9, 0)] 3 rfl dX8_name_56 okX3_bearerOf w691 w692 w693 rfl (by decide) rfl rfl rfl rfl npX3_bearerOf (Nat.le_of_ble_eq_true rfl) (by decide) (Nat.le_of_ble_eq_true rfl) rfl (Wd.imp H (fun r9 h10 H => ?_))
          show Wd mX8_name X 59 [(2, 0), (0, x1), (0, x2), (0, h4 29 x1)] [(0, r9)] h10 Q
          refine s_iconst 60 rfl dX8_name_59 ⟨by decide, by decide⟩ ?_
          refine s_icmp_eq 63 65 rfl dX8_name_60 (by decide) (fun c15 => ?_) (fun c15 => ?_)
          · replace H := H.1 c15
            refine s_aload_n 66 0 rfl dX8_name_65 rfl rfl ?_
            refine s_getf 69 0 2 rfl dX8_name_66 ck8 rfl (by decide) rfl (by decide) w308 rfl (v := (2, 3)) rfl ?_
            refine s_callV (mj := mX3_namesGiven) (S := []) 72 [] [(2, 3), (9, 0), (9, 0)] 3 rfl dX8_name_69 okX3_namesGiven w584 w585 w586 rfl (by decide) rfl rfl rfl rfl npX3_namesGiven (Nat.le_of_ble_eq_true rfl) (by decide) (Nat.le_of_ble_eq_true rfl) rfl (Wd.imp H (fun r11 h12 H => ?_))
            show Wd mX8_name X 72 [(2, 0), (0, x1), (0, x2), (0, h4 29 x1)] [(0, r11)] h12 Q
            refine s_bipush 74 rfl dX8_name_72 (by decide) ⟨by decide, by decide⟩ ?_
            refine s_icmp_lt 77 79 rfl dX8_name_74 (by decide) (fun c14 => ?_) (fun c14 => ?_)
            · replace H := H.1 c14
              refine s_aload_n 80 0 rfl dX8_name_79 rfl rfl ?_
              refine s_getf 83 0 2 rfl dX8_name_80 ck8 rfl (by decide) rfl (by decide) w308 rfl (v := (2, 3)) rfl ?_
              refine s_getf 86 3 1 rfl dX8_name_83 ck3 rfl (by decide) rfl (by decide) w120 rfl (v := (2, 13)) rfl ?_
              refine s_iload_n 87 3 rfl dX8_name_86 rfl rfl ?_
              refine s_iload_n 88 2 rfl dX8_name_87 rfl rfl ?_
              have c12 := H.1
              replace H := H.2
              have c13 := H.1
              replace H := H.2
              refine s_iast 89 rfl dX8_name_88 ia13 c12 c13 ?_
              refine s_iconst 90 rfl dX8_name_89 ⟨by decide, by decide⟩ ?_
              exact s_zret (S := []) dX8_name_90 rfl (Or.inr rfl) H
            · replace H := H.2 c14
              refine s_iconst 78 rfl dX8_name_77 ⟨by decide, by decide⟩ ?_
              exact s_zret (S := []) dX8_name_78 rfl (Or.inl rfl) H
          · replace H := H.2 c15
            refine s_iconst 64 rfl dX8_name_63 ⟨by decide, by decide⟩ ?_
            exact s_zret (S := []) dX8_name_64 rfl (Or.inl rfl) H
      · replace H := H.2 c17
        refine s_iconst 28 rfl dX8_name_27 ⟨by decide, by decide⟩ ?_
        exact s_zret (S := []) dX8_name_28 rfl (Or.inl rfl) H
theorem vX8_unname_0 {X : Nat × (Int → Int)} {h : HP} {Q : Int → HP → Prop} {x1 : Int} (H : Wd mX3_bearerOf X 0 [(2, 3), (0, x1), (9, 0)] [] h (fun r1 h2 => ((r1 = (-1) → (Q r1 h2)) ∧ (¬ r1 = (-1) → (0 ≤ r1 ∧ r1 < 600 ∧ Q r1 (xu h2 13 r1 0)))))) : Wd mX8_unname X 0 [(2, 0), (0, x1), (9, 0)] [] h Q := by
  refine s_aload_n 1 0 rfl dX8_unname_0 rfl rfl ?_
  refine s_getf 4 0 2 rfl dX8_unname_1 ck8 rfl (by decide) rfl (by decide) w308 rfl (v := (2, 3)) rfl ?_
  refine s_iload_n 5 1 rfl dX8_unname_4 rfl rfl ?_
  refine s_callV (mj := mX3_bearerOf) (S := []) 8 [(0, x1)] [(2, 3), (0, x1), (9, 0)] 3 rfl dX8_unname_5 okX3_bearerOf w691 w692 w693 rfl (by decide) rfl rfl rfl rfl npX3_bearerOf (Nat.le_of_ble_eq_true rfl) (by decide) (Nat.le_of_ble_eq_true rfl) rfl (Wd.imp H (fun r1 h2 H => ?_))
  show Wd mX8_unname X 8 [(2, 0), (0, x1), (9, 0)] [(0, r1)] h2 Q
  refine s_istore_n 9 2 rfl dX8_unname_8 rfl (by decide) (L2 := [(2, 0), (0, x1), (0, r1)]) rfl ?_
  refine s_iload_n 10 2 rfl dX8_unname_9 rfl rfl ?_
  refine s_iconst 11 rfl dX8_unname_10 ⟨by decide, by decide⟩ ?_
  refine s_icmp_eq 14 24 rfl dX8_unname_11 (by decide) (fun c4 => ?_) (fun c4 => ?_)
  · replace H := H.1 c4
    refine s_iload_n 25 2 rfl dX8_unname_24 rfl rfl ?_
    exact s_iret (S := []) dX8_unname_25 rfl H
  · replace H := H.2 c4
    refine s_aload_n 15 0 rfl dX8_unname_14 rfl rfl ?_
    refine s_getf 18 0 2 rfl dX8_unname_15 ck8 rfl (by decide) rfl (by decide) w308 rfl (v := (2, 3)) rfl ?_
    refine s_getf 21 3 1 rfl dX8_unname_18 ck3 rfl (by decide) rfl (by decide) w120 rfl (v := (2, 13)) rfl ?_
    refine s_iload_n 22 2 rfl dX8_unname_21 rfl rfl ?_
    refine s_iconst 23 rfl dX8_unname_22 ⟨by decide, by decide⟩ ?_
    have c2 := H.1
    replace H := H.2
    have c3 := H.1
    replace H := H.2
    refine s_iast 24 rfl dX8_unname_23 ia13 c2 c3 ?_
    refine s_iload_n 25 2 rfl dX8_unname_24 rfl rfl ?_
    exact s_iret (S := []) dX8_unname_25 rfl H
theorem vX8_named_0 {X : Nat × (Int → Int)} {h : HP} {Q : Int → HP → Prop} {x1 : Int} (H : Wd mX8_refresh X 0 [(2, 0)] [] h (fun _ h2 => Wd mX3_bearerOf X 0 [(2, 3), (0, x1), (9, 0)] [] h2 (fun r3 h4 => ((¬ r3 = (-1) → (0 ≤ r3 ∧ r3 < 600 ∧ Q (h4 24 r3) h4)) ∧ (r3 = (-1) → (Q (-1) h4)))))) : Wd mX8_named X 0 [(2, 0), (0, x1), (9, 0)] [] h Q := by
  refine s_aload_n 1 0 rfl dX8_named_0 rfl rfl ?_
  refine s_callV (mj := mX8_refresh) (S := []) 4 [] [(2, 0)] 0 rfl dX8_named_1 okX8_refresh w421 w423 w1 rfl (by decide) rfl rfl rfl rfl npX8_refresh (Nat.le_of_ble_eq_true rfl) (by decide) (Nat.le_of_ble_eq_true rfl) rfl (Wd.imp H (fun _ h2 H => ?_))
  show Wd mX8_named X 4 [(2, 0), (0, x1), (9, 0)] [] h2 Q
  refine s_aload_n 5 0 rfl dX8_named_4 rfl rfl ?_
  refine s_getf 8 0 2 rfl dX8_named_5 ck8 rfl (by decide) rfl (by decide) w308 rfl (v := (2, 3)) rfl ?_
  refine s_iload_n 9 1 rfl dX8_named_8 rfl rfl ?_
  refine s_callV (mj := mX3_bearerOf) (S := []) 12 [(0, x1)] [(2, 3), (0, x1), (9, 0)] 3 rfl dX8_named_9 okX3_bearerOf w691 w692 w693 rfl (by decide) rfl rfl rfl rfl npX3_bearerOf (Nat.le_of_ble_eq_true rfl) (by decide) (Nat.le_of_ble_eq_true rfl) rfl (Wd.imp H (fun r3 h4 H => ?_))
  show Wd mX8_named X 12 [(2, 0), (0, x1), (9, 0)] [(0, r3)] h4 Q
  refine s_istore_n 13 2 rfl dX8_named_12 rfl (by decide) (L2 := [(2, 0), (0, x1), (0, r3)]) rfl ?_
  refine s_iload_n 14 2 rfl dX8_named_13 rfl rfl ?_
  refine s_iconst 15 rfl dX8_named_14 ⟨by decide, by decide⟩ ?_
  refine s_icmp_ne 18 22 rfl dX8_named_15 (by decide) (fun c6 => ?_) (fun c6 => ?_)
  · replace H := H.1 c6
    refine s_aload_n 23 0 rfl dX8_named_22 rfl rfl ?_
    refine s_getf 26 0 4 rfl dX8_named_23 ck8 rfl (by decide) rfl (by decide) w310 rfl (v := (2, 5)) rfl ?_
    refine s_getf 29 5 0 rfl dX8_named_26 ck7 rfl (by decide) rfl (by decide) w186 rfl (v := (2, 24)) rfl ?_
    refine s_iload_n 30 2 rfl dX8_named_29 rfl rfl ?_
    have c4 := H.1
    replace H := H.2
    have c5 := H.1
    replace H := H.2
    refine s_iald 31 rfl dX8_named_30 ia24 c4 c5 (v9 := h4 24 r3) rfl ?_
    exact s_iret (S := []) dX8_named_31 rfl H
  · replace H := H.2 c6
    refine s_iconst 19 rfl dX8_named_18 ⟨by decide, by decide⟩ ?_
    refine s_goto 31 dX8_named_19 (by decide) ?_
    exact s_iret (S := []) dX8_named_31 rfl H
theorem vX8_would_0 {X : Nat × (Int → Int)} {h : HP} {Q : Int → HP → Prop} {x1 : Int} (H : ((x1 < 0 → (Q (-1) h)) ∧ (¬ (x1 < 0) → ((x1 ≤ 500 → (Wd mX8_refresh X 0 [(2, 0)] [] h (fun _ h2 => Wd mX6_wavesBy X 0 [(2, 4), (0, x1), (9, 0), (9, 0), (9, 0), (9, 0), (9, 0)] [] h2 (fun r3 h4 => Q r3 h4)))) ∧ (¬ (x1 ≤ 500) → (Q (-1) h)))))) : Wd mX8_would X 0 [(2, 0), (0, x1)] [] h Q := by
  refine s_iload_n 1 1 rfl dX8_would_0 rfl rfl ?_
  refine s_if_lt 4 11 rfl dX8_would_1 (by decide) (fun c5 => ?_) (fun c5 => ?_)
  · replace H := H.1 c5
    refine s_iconst 12 rfl dX8_would_11 ⟨by decide, by decide⟩ ?_
    exact s_iret (S := []) dX8_would_12 rfl H
  · replace H := H.2 c5
    refine s_iload_n 5 1 rfl dX8_would_4 rfl rfl ?_
    refine s_sipush 8 rfl dX8_would_5 (by decide) ⟨by decide, by decide⟩ ?_
    refine s_icmp_le 11 13 rfl dX8_would_8 (by decide) (fun c4 => ?_) (fun c4 => ?_)
    · replace H := H.1 c4
      refine s_aload_n 14 0 rfl dX8_would_13 rfl rfl ?_
      refine s_callV (mj := mX8_refresh) (S := []) 17 [] [(2, 0)] 0 rfl dX8_would_14 okX8_refresh w421 w423 w1 rfl (by decide) rfl rfl rfl rfl npX8_refresh (Nat.le_of_ble_eq_true rfl) (by decide) (Nat.le_of_ble_eq_true rfl) rfl (Wd.imp H (fun _ h2 H => ?_))
      show Wd mX8_would X 17 [(2, 0), (0, x1)] [] h2 Q
      refine s_aload_n 18 0 rfl dX8_would_17 rfl rfl ?_
      refine s_getf 21 0 3 rfl dX8_would_18 ck8 rfl (by decide) rfl (by decide) w309 rfl (v := (2, 4)) rfl ?_
      refine s_iload_n 22 1 rfl dX8_would_21 rfl rfl ?_
      refine s_callV (mj := mX6_wavesBy) (S := []) 25 [(0, x1)] [(2, 4), (0, x1), (9, 0), (9, 0), (9, 0), (9, 0), (9, 0)] 4 rfl dX8_would_22 okX6_wavesBy w707 w708 w709 rfl (by decide) rfl rfl rfl rfl npX6_wavesBy (Nat.le_of_ble_eq_true rfl) (by decide) (Nat.le_of_ble_eq_true rfl) rfl (Wd.imp H (fun r3 h4 H => ?_))
      show Wd mX8_would X 25 [(2, 0), (0, x1)] [(0, r3)] h4 Q
      exact s_iret (S := []) dX8_would_25 rfl H
    · replace H := H.2 c4
      refine s_iconst 12 rfl dX8_would_11 ⟨by decide, by decide⟩ ?_
      exact s_iret (S := []) dX8_would_12 rfl H
theorem vX8_quiet_0 {X : Nat × (Int → Int)} {h : HP} {Q : Int → HP → Prop} {x1 : Int} (H : ((0 ≤ x1 → (Wd mX8_refresh X 0 [(2, 0)] [] h (fun _ h2 => Wd mX8_quiet X 19 [(2, 0), (0, x1), (0, 0), (0, 501), (0, 0), (9, 0)] [] h2 Q))) ∧ (¬ (0 ≤ x1) → (Q (-1) h)))) : Wd mX8_quiet X 0 [(2, 0), (0, x1), (9, 0), (9, 0), (9, 0), (9, 0)] [] h Q := by
  refine s_iload_n 1 1 rfl dX8_quiet_0 rfl rfl ?_
  refine s_if_ge 4 6 rfl dX8_quiet_1 (by decide) (fun c2 => ?_) (fun c2 => ?_)
  · replace H := H.1 c2
    refine s_aload_n 7 0 rfl dX8_quiet_6 rfl rfl ?_
    refine s_callV (mj := mX8_refresh) (S := []) 10 [] [(2, 0)] 0 rfl dX8_quiet_7 okX8_refresh w421 w423 w1 rfl (by decide) rfl rfl rfl rfl npX8_refresh (Nat.le_of_ble_eq_true rfl) (by decide) (Nat.le_of_ble_eq_true rfl) rfl (Wd.imp H (fun _ h2 H => ?_))
    show Wd mX8_quiet X 10 [(2, 0), (0, x1), (9, 0), (9, 0), (9, 0), (9, 0)] [] h2 Q
    refine s_iconst 11 rfl dX8_quiet_10 ⟨by decide, by decide⟩ ?_
    refine s_istore_n 12 2 rfl dX8_quiet_11 rfl (by decide) (L2 := [(2, 0), (0, x1), (0, 0), (9, 0), (9, 0), (9, 0)]) rfl ?_
    refine s_sipush 15 rfl dX8_quiet_12 (by decide) ⟨by decide, by decide⟩ ?_
    refine s_istore_n 16 3 rfl dX8_quiet_15 rfl (by decide) (L2 := [(2, 0), (0, x1), (0, 0), (0, 501), (9, 0), (9, 0)]) rfl ?_
    refine s_iconst 17 rfl dX8_quiet_16 ⟨by decide, by decide⟩ ?_
    refine s_istore 19 4 rfl dX8_quiet_17 (by decide) (L2 := [(2, 0), (0, x1), (0, 0), (0, 501), (0, 0), (9, 0)]) rfl ?_
    exact H
  · replace H := H.2 c2
    refine s_iconst 5 rfl dX8_quiet_4 ⟨by decide, by decide⟩ ?_
    exact s_iret (S := []) dX8_quiet_5 rfl H
theorem vX8_quiet_19 {X : Nat × (Int → Int)} {h : HP} {Q : Int → HP → Prop} {x1 x2 x3 x4 : Int} (H : ((500 < x4 → ((x2 ≤ 500 → (Q x2 h)) ∧ (¬ (x2 ≤ 500) → (Q (-1) h)))) ∧ (¬ (500 < x4) → ((x3 ≤ x2 → ((x2 ≤ 500 → (Q x2 h)) ∧ (¬ (x2 ≤ 500) → (Q (-1) h)))) ∧ (¬ (x3 ≤ x2) → (inI (x2 + x3) ∧ inI (Int.tdiv (x2 + x3) 2) ∧ Wd mX6_wavesBy X 0 [(2, 4), (0, Int.tdiv (x2 + x3) 2), (9, 0), (9, 0), (9, 0), (9, 0), (9, 0)] [] h (fun r5 h6 => ((x1 < r5 → (inI (Int.tdiv (x2 + x3) 2 + 1) ∧ inI (x4 + 1) ∧ Wd mX8_quiet X 19 [(2, 0), (0, x1), (0, Int.tdiv (x2 + x3) 2 + 1), (0, x3), (0, x4 + 1), (9, 0)] [] h6 Q)) ∧ (¬ (x1 < r5) → (inI (x4 + 1) ∧ Wd mX8_quiet X 19 [(2, 0), (0, x1), (0, x2), (0, Int.tdiv (x2 + x3) 2), (0, x4 + 1), (9, 0)] [] h6 Q)))))))))) : Wd mX8_quiet X 19 [(2, 0), (0, x1), (0, x2), (0, x3), (0, x4), (9, 0)] [] h Q := by
  refine s_iload 21 4 rfl dX8_quiet_19 rfl ?_
  refine s_sipush 24 rfl dX8_quiet_21 (by decide) ⟨by decide, by decide⟩ ?_
  refine s_icmp_gt 27 69 rfl dX8_quiet_24 (by decide) (fun c11 => ?_) (fun c11 => ?_)
  · replace H := H.1 c11
    refine s_iload_n 70 2 rfl dX8_quiet_69 rfl rfl ?_
    refine s_sipush 73 rfl dX8_quiet_70 (by decide) ⟨by decide, by decide⟩ ?_
    refine s_icmp_le 76 80 rfl dX8_quiet_73 (by decide) (fun c0 => ?_) (fun c0 => ?_)
    · replace H := H.1 c0
      refine s_iload_n 81 2 rfl dX8_quiet_80 rfl rfl ?_
      exact s_iret (S := []) dX8_quiet_81 rfl H
    · replace H := H.2 c0
      refine s_iconst 77 rfl dX8_quiet_76 ⟨by decide, by decide⟩ ?_
      refine s_goto 81 dX8_quiet_77 (by decide) ?_
      exact s_iret (S := []) dX8_quiet_81 rfl H
  · replace H := H.2 c11
    refine s_iload_n 28 2 rfl dX8_quiet_27 rfl rfl ?_
    refine s_iload_n 29 3 rfl dX8_quiet_28 rfl rfl ?_
    refine s_icmp_ge 32 69 rfl dX8_quiet_29 (by decide) (fun c10 => ?_) (fun c10 => ?_)
    · replace H := H.1 c10
      refine s_iload_n 70 2 rfl dX8_quiet_69 rfl rfl ?_
      refine s_sipush 73 rfl dX8_quiet_70 (by decide) ⟨by decide, by decide⟩ ?_
      refine s_icmp_le 76 80 rfl dX8_quiet_73 (by decide) (fun c1 => ?_) (fun c1 => ?_)
      · replace H := H.1 c1
        refine s_iload_n 81 2 rfl dX8_quiet_80 rfl rfl ?_
        exact s_iret (S := []) dX8_quiet_81 rfl H
      · replace H := H.2 c1
        refine s_iconst 77 rfl dX8_quiet_76 ⟨by decide, by decide⟩ ?_
        refine s_goto 81 dX8_quiet_77 (by decide) ?_
        exact s_iret (S := []) dX8_quiet_81 rfl H
    · replace H := H.2 c10
      refine s_iload_n 33 2 rfl dX8_quiet_32 rfl rfl ?_
      refine s_iload_n 34 3 rfl dX8_quiet_33 rfl rfl ?_
      have c2 := H.1
      replace H := H.2
      refine s_iadd 35 rfl dX8_quiet_34 c2 ?_
      refine s_iconst 36 rfl dX8_quiet_35 ⟨by decide, by decide⟩ ?_
      have c3 := H.1
      replace H := H.2
      refine s_idiv 37 rfl dX8_quiet_36 (by decide) c3 ?_
      refine s_istore 39 5 rfl dX8_quiet_37 (by decide) (L2 := [(2, 0), (0, x1), (0, x2), (0, x3), (0, x4), (0, Int.tdiv (x2 + x3) 2)]) rfl ?_
      refine s_aload_n 40 0 rfl dX8_quiet_39 rfl rfl ?_
      refine s_getf 43 0 3 rfl dX8_quiet_40 ck8 rfl (by decide) rfl (by decide) w309 rfl (v := (2, 4)) rfl ?_
      refine s_iload 45 5 rfl dX8_quiet_43 rfl ?_
      refine s_callV (mj := mX6_wavesBy) (S := []) 48 [(0, Int.tdiv (x2 + x3) 2)] [(2, 4), (0, Int.tdiv (x2 + x3) 2), (9, 0), (9, 0), (9, 0), (9, 0), (9, 0)] 4 rfl dX8_quiet_45 okX6_wavesBy w707 w708 w709 rfl (by decide) rfl rfl rfl rfl npX6_wavesBy (Nat.le_of_ble_eq_true rfl) (by decide) (Nat.le_of_ble_eq_true rfl) rfl (Wd.imp H (fun r5 h6 H => ?_))
      show Wd mX8_quiet X 48 [(2, 0), (0, x1), (0, x2), (0, x3), (0, x4), (0, Int.tdiv (x2 + x3) 2)] [(0, r5)] h6 Q
      refine s_iload_n 49 1 rfl dX8_quiet_48 rfl rfl ?_
      refine s_icmp_gt 52 58 rfl dX8_quiet_49 (by decide) (fun c9 => ?_) (fun c9 => ?_)
      · replace H := H.1 c9
        refine s_iload 60 5 rfl dX8_quiet_58 rfl ?_
        refine s_iconst 61 rfl dX8_quiet_60 ⟨by decide, by decide⟩ ?_
        have c6 := H.1
        replace H := H.2
        refine s_iadd 62 rfl dX8_quiet_61 c6 ?_
        refine s_istore_n 63 2 rfl dX8_quiet_62 rfl (by decide) (L2 := [(2, 0), (0, x1), (0, Int.tdiv (x2 + x3) 2 + 1), (0, x3), (0, x4), (0, Int.tdiv (x2 + x3) 2)]) rfl ?_
        have c7 := H.1
        replace H := H.2
        refine s_iinc 66 4 rfl dX8_quiet_63 (by decide) (z := x4) rfl (L2 := [(2, 0), (0, x1), (0, Int.tdiv (x2 + x3) 2 + 1), (0, x3), (0, x4 + 1), (0, Int.tdiv (x2 + x3) 2)]) rfl c7 ?_
        refine s_goto 19 dX8_quiet_66 (by decide) ?_
        exact s_less [(2, 0), (0, x1), (0, Int.tdiv (x2 + x3) 2 + 1), (0, x3), (0, x4 + 1), (9, 0)] ⟨Or.inr rfl, Or.inr rfl, Or.inr rfl, Or.inr rfl, Or.inr rfl, Or.inl rfl, trivial⟩ H
      · replace H := H.2 c9
        refine s_iload 54 5 rfl dX8_quiet_52 rfl ?_
        refine s_istore_n 55 3 rfl dX8_quiet_54 rfl (by decide) (L2 := [(2, 0), (0, x1), (0, x2), (0, Int.tdiv (x2 + x3) 2), (0, x4), (0, Int.tdiv (x2 + x3) 2)]) rfl ?_
        refine s_goto 63 dX8_quiet_55 (by decide) ?_
        have c8 := H.1
        replace H := H.2
        refine s_iinc 66 4 rfl dX8_quiet_63 (by decide) (z := x4) rfl (L2 := [(2, 0), (0, x1), (0, x2), (0, Int.tdiv (x2 + x3) 2), (0, x4 + 1), (0, Int.tdiv (x2 + x3) 2)]) rfl c8 ?_
        refine s_goto 19 dX8_quiet_66 (by decide) ?_
        exact s_less [(2, 0), (0, x1), (0, x2), (0, Int.tdiv (x2 + x3) 2), (0, x4 + 1), (9, 0)] ⟨Or.inr rfl, Or.inr rfl, Or.inr rfl, Or.inr rfl, Or.inr rfl, Or.inl rfl, trivial⟩ H
theorem vX8_gone_0 {X : Nat × (Int → Int)} {h : HP} {Q : Int → HP → Prop} {x1 : Int} (H : Wd mX8_refresh X 0 [(2, 0)] [] h (fun _ h2 => Wd mX7_has X 0 [(2, 5), (0, x1)] [] h2 (fun r3 h4 => ((¬ r3 = 0 → (Wd mX8_gone X 21 [(2, 0), (0, x1), (0, 0), (0, 0), (9, 0)] [] h4 Q)) ∧ (r3 = 0 → (Q (-1) h4)))))) : Wd mX8_gone X 0 [(2, 0), (0, x1), (9, 0), (9, 0), (9, 0)] [] h Q := by
  refine s_aload_n 1 0 rfl dX8_gone_0 rfl rfl ?_
  refine s_callV (mj := mX8_refresh) (S := []) 4 [] [(2, 0)] 0 rfl dX8_gone_1 okX8_refresh w421 w423 w1 rfl (by decide) rfl rfl rfl rfl npX8_refresh (Nat.le_of_ble_eq_true rfl) (by decide) (Nat.le_of_ble_eq_true rfl) rfl (Wd.imp H (fun _ h2 H => ?_))
  show Wd mX8_gone X 4 [(2, 0), (0, x1), (9, 0), (9, 0), (9, 0)] [] h2 Q
  refine s_aload_n 5 0 rfl dX8_gone_4 rfl rfl ?_
  refine s_getf 8 0 4 rfl dX8_gone_5 ck8 rfl (by decide) rfl (by decide) w310 rfl (v := (2, 5)) rfl ?_
  refine s_iload_n 9 1 rfl dX8_gone_8 rfl rfl ?_
  refine s_callV (mj := mX7_has) (S := []) 12 [(0, x1)] [(2, 5), (0, x1)] 5 rfl dX8_gone_9 okX7_has w630 w631 w632 rfl (by decide) rfl rfl rfl rfl npX7_has (Nat.le_of_ble_eq_true rfl) (by decide) (Nat.le_of_ble_eq_true rfl) rfl (Wd.imp H (fun r3 h4 H => ?_))
  show Wd mX8_gone X 12 [(2, 0), (0, x1), (9, 0), (9, 0), (9, 0)] [(0, r3)] h4 Q
  refine s_if_ne 15 17 rfl dX8_gone_12 (by decide) (fun c4 => ?_) (fun c4 => ?_)
  · replace H := H.1 c4
    refine s_iconst 18 rfl dX8_gone_17 ⟨by decide, by decide⟩ ?_
    refine s_istore_n 19 2 rfl dX8_gone_18 rfl (by decide) (L2 := [(2, 0), (0, x1), (0, 0), (9, 0), (9, 0)]) rfl ?_
    refine s_iconst 20 rfl dX8_gone_19 ⟨by decide, by decide⟩ ?_
    refine s_istore_n 21 3 rfl dX8_gone_20 rfl (by decide) (L2 := [(2, 0), (0, x1), (0, 0), (0, 0), (9, 0)]) rfl ?_
    exact H
  · replace H := H.2 c4
    refine s_iconst 16 rfl dX8_gone_15 ⟨by decide, by decide⟩ ?_
    exact s_iret (S := []) dX8_gone_16 rfl H
theorem vX8_gone_21 {X : Nat × (Int → Int)} {h : HP} {Q : Int → HP → Prop} {x1 x2 x3 : Int} (H : ((500 < x3 → (Q (-1) h)) ∧ (¬ (500 < x3) → ((500 < x2 → (Q (-1) h)) ∧ (¬ (500 < x2) → (0 ≤ x1 ∧ x1 < 300 ∧ Wd mX7_endOf X 0 [(2, 5), (0, x1)] [] h (fun r3 h4 => Wd mX6_bandAgainst X 0 [(2, 4), (0, h 30 x1), (0, h 25 x1), (0, r3), (0, x2), (9, 0), (9, 0), (9, 0)] [] h4 (fun r5 h6 => ((¬ r5 = x2 → (inI (x3 + 1) ∧ Wd mX8_gone X 21 [(2, 0), (0, x1), (0, r5), (0, x3 + 1), (9, 0)] [] h6 Q)) ∧ (r5 = x2 → (Q x2 h6))))))))))) : Wd mX8_gone X 21 [(2, 0), (0, x1), (0, x2), (0, x3), (9, 0)] [] h Q := by
  refine s_iload_n 22 3 rfl dX8_gone_21 rfl rfl ?_
  refine s_sipush 25 rfl dX8_gone_22 (by decide) ⟨by decide, by decide⟩ ?_
  refine s_icmp_gt 28 88 rfl dX8_gone_25 (by decide) (fun c9 => ?_) (fun c9 => ?_)
  · replace H := H.1 c9
    refine s_iconst 89 rfl dX8_gone_88 ⟨by decide, by decide⟩ ?_
    exact s_iret (S := []) dX8_gone_89 rfl H
  · replace H := H.2 c9
    refine s_iload_n 29 2 rfl dX8_gone_28 rfl rfl ?_
    refine s_sipush 32 rfl dX8_gone_29 (by decide) ⟨by decide, by decide⟩ ?_
    refine s_icmp_gt 35 88 rfl dX8_gone_32 (by decide) (fun c8 => ?_) (fun c8 => ?_)
    · replace H := H.1 c8
      refine s_iconst 89 rfl dX8_gone_88 ⟨by decide, by decide⟩ ?_
      exact s_iret (S := []) dX8_gone_89 rfl H
    · replace H := H.2 c8
      refine s_aload_n 36 0 rfl dX8_gone_35 rfl rfl ?_
      refine s_getf 39 0 3 rfl dX8_gone_36 ck8 rfl (by decide) rfl (by decide) w309 rfl (v := (2, 4)) rfl ?_
      refine s_aload_n 40 0 rfl dX8_gone_39 rfl rfl ?_
      refine s_getf 43 0 4 rfl dX8_gone_40 ck8 rfl (by decide) rfl (by decide) w310 rfl (v := (2, 5)) rfl ?_
      refine s_getf 46 5 6 rfl dX8_gone_43 ck7 rfl (by decide) rfl (by decide) w201 rfl (v := (2, 30)) rfl ?_
      refine s_iload_n 47 1 rfl dX8_gone_46 rfl rfl ?_
      have c0 := H.1
      replace H := H.2
      have c1 := H.1
      replace H := H.2
      refine s_iald 48 rfl dX8_gone_47 ia30 c0 c1 (v9 := h 30 x1) rfl ?_
      refine s_aload_n 49 0 rfl dX8_gone_48 rfl rfl ?_
      refine s_getf 52 0 4 rfl dX8_gone_49 ck8 rfl (by decide) rfl (by decide) w310 rfl (v := (2, 5)) rfl ?_
      refine s_getf 55 5 1 rfl dX8_gone_52 ck7 rfl (by decide) rfl (by decide) w188 rfl (v := (2, 25)) rfl ?_
      refine s_iload_n 56 1 rfl dX8_gone_55 rfl rfl ?_
      refine s_iald 57 rfl dX8_gone_56 ia25 c0 c1 (v9 := h 25 x1) rfl ?_
      refine s_aload_n 58 0 rfl dX8_gone_57 rfl rfl ?_
      refine s_getf 61 0 4 rfl dX8_gone_58 ck8 rfl (by decide) rfl (by decide) w310 rfl (v := (2, 5)) rfl ?_
      refine s_iload_n 62 1 rfl dX8_gone_61 rfl rfl ?_
      refine s_callV (mj := mX7_endOf) (S := [(0, h 25 x1), (0, h 30 x1), (2, 4)]) 65 [(0, x1)] [(2, 5), (0, x1)] 5 rfl dX8_gone_62 okX7_endOf w635 w636 w637 rfl (by decide) rfl rfl rfl rfl npX7_endOf (Nat.le_of_ble_eq_true rfl) (by decide) (Nat.le_of_ble_eq_true rfl) rfl (Wd.imp H (fun r3 h4 H => ?_))
      show Wd mX8_gone X 65 [(2, 0), (0, x1), (0, x2), (0, x3), (9, 0)] [(0, r3), (0, h 25 x1), (0, h 30 x1), (2, 4)] h4 Q
      refine s_iload_n 66 2 rfl dX8_gone_65 rfl rfl ?_
      refine s_callV (mj := mX6_bandAgainst) (S := []) 69 [(0, h 30 x1), (0, h 25 x1), (0, r3), (0, x2)] [(2, 4), (0, h 30 x1), (0, h 25 x1), (0, r3), (0, x2), (9, 0), (9, 0), (9, 0)] 4 rfl dX8_gone_66 okX6_bandAgainst w721 w722 w723 rfl (by decide) rfl rfl rfl rfl npX6_bandAgainst (Nat.le_of_ble_eq_true rfl) (by decide) (Nat.le_of_ble_eq_true rfl) rfl (Wd.imp H (fun r5 h6 H => ?_))
      show Wd mX8_gone X 69 [(2, 0), (0, x1), (0, x2), (0, x3), (9, 0)] [(0, r5)] h6 Q
      refine s_istore 71 4 rfl dX8_gone_69 (by decide) (L2 := [(2, 0), (0, x1), (0, x2), (0, x3), (0, r5)]) rfl ?_
      refine s_iload 73 4 rfl dX8_gone_71 rfl ?_
      refine s_iload_n 74 2 rfl dX8_gone_73 rfl rfl ?_
      refine s_icmp_ne 77 79 rfl dX8_gone_74 (by decide) (fun c7 => ?_) (fun c7 => ?_)
      · replace H := H.1 c7
        refine s_iload 81 4 rfl dX8_gone_79 rfl ?_
        refine s_istore_n 82 2 rfl dX8_gone_81 rfl (by decide) (L2 := [(2, 0), (0, x1), (0, r5), (0, x3), (0, r5)]) rfl ?_
        have c6 := H.1
        replace H := H.2
        refine s_iinc 85 3 rfl dX8_gone_82 (by decide) (z := x3) rfl (L2 := [(2, 0), (0, x1), (0, r5), (0, x3 + 1), (0, r5)]) rfl c6 ?_
        refine s_goto 21 dX8_gone_85 (by decide) ?_
        exact s_less [(2, 0), (0, x1), (0, r5), (0, x3 + 1), (9, 0)] ⟨Or.inr rfl, Or.inr rfl, Or.inr rfl, Or.inr rfl, Or.inl rfl, trivial⟩ H
      · replace H := H.2 c7
        refine s_iload_n 78 2 rfl dX8_gone_77 rfl rfl ?_
        exact s_iret (S := []) dX8_gone_78 rfl H
