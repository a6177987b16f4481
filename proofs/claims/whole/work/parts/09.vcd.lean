theorem vX9_isIn_0 {X : Nat × (Int → Int)} {h : HP} {Q : Int → HP → Prop} {x0 x1 x2 : Int} (H : ((x0 < x1 → (Q 0 h)) ∧ (¬ (x0 < x1) → ((x2 < x0 → (Q 0 h)) ∧ (¬ (x2 < x0) → (Q 1 h)))))) : Wd mX9_isIn X 0 [(0, x0), (0, x1), (0, x2)] [] h Q := by
  refine s_iload_n 1 0 rfl dX9_isIn_0 rfl rfl ?_
  refine s_iload_n 2 1 rfl dX9_isIn_1 rfl rfl ?_
  refine s_icmp_lt 5 14 rfl dX9_isIn_2 (by decide) (fun c1 => ?_) (fun c1 => ?_)
  · replace H := H.1 c1
    refine s_iconst 15 rfl dX9_isIn_14 ⟨by decide, by decide⟩ ?_
    exact s_zret (S := []) dX9_isIn_15 rfl (Or.inl rfl) H
  · replace H := H.2 c1
    refine s_iload_n 6 0 rfl dX9_isIn_5 rfl rfl ?_
    refine s_iload_n 7 2 rfl dX9_isIn_6 rfl rfl ?_
    refine s_icmp_gt 10 14 rfl dX9_isIn_7 (by decide) (fun c0 => ?_) (fun c0 => ?_)
    · replace H := H.1 c0
      refine s_iconst 15 rfl dX9_isIn_14 ⟨by decide, by decide⟩ ?_
      exact s_zret (S := []) dX9_isIn_15 rfl (Or.inl rfl) H
    · replace H := H.2 c0
      refine s_iconst 11 rfl dX9_isIn_10 ⟨by decide, by decide⟩ ?_
      refine s_goto 15 dX9_isIn_11 (by decide) ?_
      exact s_zret (S := []) dX9_isIn_15 rfl (Or.inr rfl) H
theorem vX9_down_0 {X : Nat × (Int → Int)} {h : HP} {Q : Int → HP → Prop} {x0 x2 : Int} (H : ¬ x2 = 0 ∧ inJ (Int.tdiv x0 x2) ∧ ((0 ≤ Int.tmod x0 x2 → (Q (Int.tdiv x0 x2) h)) ∧ (¬ (0 ≤ Int.tmod x0 x2) → (inJ (Int.tdiv x0 x2 - 1) ∧ Q (Int.tdiv x0 x2 - 1) h)))) : Wd mX9_down X 0 [(1, x0), (9, 0), (1, x2), (9, 0), (9, 0), (9, 0)] [] h Q := by
  refine s_lload_n 1 0 rfl dX9_down_0 rfl rfl ?_
  refine s_lload_n 2 2 rfl dX9_down_1 rfl rfl ?_
  have c0 := H.1
  replace H := H.2
  have c1 := H.1
  replace H := H.2
  refine s_ldiv 3 rfl dX9_down_2 c0 c1 ?_
  refine s_lstore 5 4 rfl dX9_down_3 (by decide) (L2 := [(1, x0), (9, 0), (1, x2), (9, 0), (1, Int.tdiv x0 x2), (9, 0)]) rfl ?_
  refine s_lload_n 6 0 rfl dX9_down_5 rfl rfl ?_
  refine s_lload_n 7 2 rfl dX9_down_6 rfl rfl ?_
  refine s_lrem 8 rfl dX9_down_7 c0 ?_
  refine s_lconst 9 0 rfl dX9_down_8 (by decide) ⟨by decide, by decide⟩ ?_
  refine s_lcmp 10 rfl dX9_down_9 ?_
  refine s_if_ge 13 20 rfl dX9_down_10 (by decide) (fun c3 => ?_) (fun c3 => ?_)
  · replace H := H.1 (lcz_ge.mp c3)
    refine s_lload 22 4 rfl dX9_down_20 rfl ?_
    exact s_lret (S := []) dX9_down_22 rfl H
  · replace H := H.2 (fun y => c3 (lcz_ge.mpr y))
    refine s_lload 15 4 rfl dX9_down_13 rfl ?_
    refine s_lconst 16 1 rfl dX9_down_15 (by decide) ⟨by decide, by decide⟩ ?_
    have c2 := H.1
    replace H := H.2
    refine s_lsub 17 rfl dX9_down_16 c2 ?_
    refine s_goto 22 dX9_down_17 (by decide) ?_
    exact s_lret (S := []) dX9_down_22 rfl H
theorem vX9_isHeave_0 {X : Nat × (Int → Int)} {h : HP} {Q : Int → HP → Prop} {x0 : Int} (H : ((x0 = (-32768) → (Q 1 h)) ∧ (¬ x0 = (-32768) → (Wd mX9_isIn X 0 [(0, x0), (0, (-9999)), (0, 9999)] [] h (fun r1 h2 => ((r1 = 0 → (Q 0 h2)) ∧ (¬ r1 = 0 → (Q 1 h2)))))))) : Wd mX9_isHeave X 0 [(0, x0)] [] h Q := by
  refine s_iload_n 1 0 rfl dX9_isHeave_0 rfl rfl ?_
  refine s_sipush 4 rfl dX9_isHeave_1 (by decide) ⟨by decide, by decide⟩ ?_
  refine s_icmp_eq 7 20 rfl dX9_isHeave_4 (by decide) (fun c3 => ?_) (fun c3 => ?_)
  · replace H := H.1 c3
    refine s_iconst 21 rfl dX9_isHeave_20 ⟨by decide, by decide⟩ ?_
    refine s_goto 25 dX9_isHeave_21 (by decide) ?_
    exact s_zret (S := []) dX9_isHeave_25 rfl (Or.inr rfl) H
  · replace H := H.2 c3
    refine s_iload_n 8 0 rfl dX9_isHeave_7 rfl rfl ?_
    refine s_sipush 11 rfl dX9_isHeave_8 (by decide) ⟨by decide, by decide⟩ ?_
    refine s_sipush 14 rfl dX9_isHeave_11 (by decide) ⟨by decide, by decide⟩ ?_
    refine s_callS (mj := mX9_isIn) (S := []) 17 [(0, x0), (0, (-9999)), (0, 9999)] [(0, x0), (0, (-9999)), (0, 9999)] rfl dX9_isHeave_14 okX9_isIn w834 w835 rfl npX9_isIn (Nat.le_of_ble_eq_true rfl) (by decide) (Nat.le_of_ble_eq_true rfl) rfl (Wd.imp H (fun r1 h2 H => ?_))
    show Wd mX9_isHeave X 17 [(0, x0)] [(0, r1)] h2 Q
    refine s_if_eq 20 24 rfl dX9_isHeave_17 (by decide) (fun c2 => ?_) (fun c2 => ?_)
    · replace H := H.1 c2
      refine s_iconst 25 rfl dX9_isHeave_24 ⟨by decide, by decide⟩ ?_
      exact s_zret (S := []) dX9_isHeave_25 rfl (Or.inl rfl) H
    · replace H := H.2 c2
      refine s_iconst 21 rfl dX9_isHeave_20 ⟨by decide, by decide⟩ ?_
      refine s_goto 25 dX9_isHeave_21 (by decide) ?_
      exact s_zret (S := []) dX9_isHeave_25 rfl (Or.inr rfl) H
theorem vX9_heave_0 {X : Nat × (Int → Int)} {h : HP} {Q : Int → HP → Prop} {x1 : Int} (H : Wd mX9_isHeave X 0 [(0, x1)] [] h (fun r1 h2 => ((r1 = 0 → (Q (-1) h2)) ∧ (¬ r1 = 0 → ((¬ h2 41 5 = 600 → (0 ≤ h2 41 5 ∧ h2 41 5 < 600 ∧ inI (h2 41 5 + 1) ∧ Q (h2 41 5 + 1) (xu (xu (xu h2 42 (h2 41 5) x1) 46 (h2 41 5) (-1)) 41 5 (h2 41 5 + 1)))) ∧ (h2 41 5 = 600 → (Q (-1) h2))))))) : Wd mX9_heave X 0 [(2, 41), (0, x1)] [] h Q := by
  refine s_iload_n 1 1 rfl dX9_heave_0 rfl rfl ?_
  refine s_callS (mj := mX9_isHeave) (S := []) 4 [(0, x1)] [(0, x1)] rfl dX9_heave_1 okX9_isHeave w831 w832 rfl npX9_isHeave (Nat.le_of_ble_eq_true rfl) (by decide) (Nat.le_of_ble_eq_true rfl) rfl (Wd.imp H (fun r1 h2 H => ?_))
  show Wd mX9_heave X 4 [(2, 41), (0, x1)] [(0, r1)] h2 Q
  refine s_if_eq 7 17 rfl dX9_heave_4 (by decide) (fun c6 => ?_) (fun c6 => ?_)
  · replace H := H.1 c6
    refine s_iconst 18 rfl dX9_heave_17 ⟨by decide, by decide⟩ ?_
    exact s_iret (S := []) dX9_heave_18 rfl H
  · replace H := H.2 c6
    refine s_aload_n 8 0 rfl dX9_heave_7 rfl rfl ?_
    refine s_getf 11 41 5 rfl dX9_heave_8 ck9 rfl (by decide) rfl (by decide) w740 rfl (v := (0, h2 41 5)) rfl ?_
    refine s_sipush 14 rfl dX9_heave_11 (by decide) ⟨by decide, by decide⟩ ?_
    refine s_icmp_ne 17 19 rfl dX9_heave_14 (by decide) (fun c5 => ?_) (fun c5 => ?_)
    · replace H := H.1 c5
      refine s_aload_n 20 0 rfl dX9_heave_19 rfl rfl ?_
      refine s_getf 23 41 0 rfl dX9_heave_20 ck9 rfl (by decide) rfl (by decide) w735 rfl (v := (2, 42)) rfl ?_
      refine s_aload_n 24 0 rfl dX9_heave_23 rfl rfl ?_
      refine s_getf 27 41 5 rfl dX9_heave_24 ck9 rfl (by decide) rfl (by decide) w740 rfl (v := (0, h2 41 5)) rfl ?_
      refine s_iload_n 28 1 rfl dX9_heave_27 rfl rfl ?_
      have c2 := H.1
      replace H := H.2
      have c3 := H.1
      replace H := H.2
      refine s_iast 29 rfl dX9_heave_28 ia42 c2 c3 ?_
      refine s_aload_n 30 0 rfl dX9_heave_29 rfl rfl ?_
      refine s_getf 33 41 4 rfl dX9_heave_30 ck9 rfl (by decide) rfl (by decide) w739 rfl (v := (2, 46)) rfl ?_
      refine s_aload_n 34 0 rfl dX9_heave_33 rfl rfl ?_
      refine s_getf 37 41 5 rfl dX9_heave_34 ck9 rfl (by decide) rfl (by decide) w740 rfl (v := (0, h2 41 5)) (by show (0, (xu h2 42 (h2 41 5) x1) 41 5) = _; rw [(xu_k (by decide))]) ?_
      refine s_iconst 38 rfl dX9_heave_37 ⟨by decide, by decide⟩ ?_
      refine s_iast 39 rfl dX9_heave_38 ia46 c2 c3 ?_
      refine s_aload_n 40 0 rfl dX9_heave_39 rfl rfl ?_
      refine s_dup 41 rfl dX9_heave_40 (by decide : ¬ (2 : Nat) = 1) ?_
      refine s_getf 44 41 5 rfl dX9_heave_41 ck9 rfl (by decide) rfl (by decide) w740 rfl (v := (0, h2 41 5)) (by show (0, (xu (xu h2 42 (h2 41 5) x1) 46 (h2 41 5) (-1)) 41 5) = _; rw [((xu_k (by decide)).trans (xu_k (by decide)))]) ?_
      refine s_iconst 45 rfl dX9_heave_44 ⟨by decide, by decide⟩ ?_
      have c4 := H.1
      replace H := H.2
      refine s_iadd 46 rfl dX9_heave_45 c4 ?_
      refine s_putI 49 41 5 rfl dX9_heave_46 ck9 rfl (by decide) rfl (by decide) w740 rfl rfl rfl ?_
      refine s_aload_n 50 0 rfl dX9_heave_49 rfl rfl ?_
      refine s_getf 53 41 5 rfl dX9_heave_50 ck9 rfl (by decide) rfl (by decide) w740 rfl (v := (0, h2 41 5 + 1)) (by show (0, (xu (xu (xu h2 42 (h2 41 5) x1) 46 (h2 41 5) (-1)) 41 5 (h2 41 5 + 1)) 41 5) = _; rw [(xu_s _ _ _ _)]) ?_
      exact s_iret (S := []) dX9_heave_53 rfl H
    · replace H := H.2 c5
      refine s_iconst 18 rfl dX9_heave_17 ⟨by decide, by decide⟩ ?_
      exact s_iret (S := []) dX9_heave_18 rfl H
theorem vX9_part_0 {X : Nat × (Int → Int)} {h : HP} {Q : Int → HP → Prop} {x0 x2 : Int} (H : inI (16 * x2) ∧ Q (Int.bmod ((Int64.ofInt ((Int64.ofInt x0 <<< ((Int32.ofInt (16 * x2)).toInt64 &&& 63)).toInt) >>> ((Int32.ofInt 48).toInt64 &&& 63)).toInt) 4294967296) h) : Wd mX9_part X 0 [(1, x0), (9, 0), (0, x2)] [] h Q := by
  refine s_lload_n 1 0 rfl dX9_part_0 rfl rfl ?_
  refine s_bipush 3 rfl dX9_part_1 (by decide) ⟨by decide, by decide⟩ ?_
  refine s_iload_n 4 2 rfl dX9_part_3 rfl rfl ?_
  have c0 := H.1
  replace H := H.2
  refine s_imul 5 rfl dX9_part_4 c0 ?_
  refine s_lshl 6 rfl dX9_part_5 ?_
  refine s_bipush 8 rfl dX9_part_6 (by decide) ⟨by decide, by decide⟩ ?_
  refine s_lshr 9 rfl dX9_part_8 ?_
  refine s_l2iw 10 rfl dX9_part_9 ?_
  exact s_iret (S := []) dX9_part_10 rfl H
theorem vX9_four_0 {X : Nat × (Int → Int)} {h : HP} {Q : Int → HP → Prop} {x1 : Int} (H : inI (h 41 5 + 4) ∧ (((h 41 5 + 4) ≤ 600 → (Wd mX9_four X 16 [(2, 41), (1, x1), (9, 0), (0, 0), (9, 0)] [] h Q)) ∧ (¬ ((h 41 5 + 4) ≤ 600) → (Q (-1) h)))) : Wd mX9_four X 0 [(2, 41), (1, x1), (9, 0), (9, 0), (9, 0)] [] h Q := by
  refine s_aload_n 1 0 rfl dX9_four_0 rfl rfl ?_
  refine s_getf 4 41 5 rfl dX9_four_1 ck9 rfl (by decide) rfl (by decide) w740 rfl (v := (0, h 41 5)) rfl ?_
  refine s_iconst 5 rfl dX9_four_4 ⟨by decide, by decide⟩ ?_
  have c0 := H.1
  replace H := H.2
  refine s_iadd 6 rfl dX9_four_5 c0 ?_
  refine s_sipush 9 rfl dX9_four_6 (by decide) ⟨by decide, by decide⟩ ?_
  refine s_icmp_le 12 14 rfl dX9_four_9 (by decide) (fun c1 => ?_) (fun c1 => ?_)
  · replace H := H.1 c1
    refine s_iconst 15 rfl dX9_four_14 ⟨by decide, by decide⟩ ?_
    refine s_istore_n 16 3 rfl dX9_four_15 rfl (by decide) (L2 := [(2, 41), (1, x1), (9, 0), (0, 0), (9, 0)]) rfl ?_
    exact H
  · replace H := H.2 c1
    refine s_iconst 13 rfl dX9_four_12 ⟨by decide, by decide⟩ ?_
    exact s_iret (S := []) dX9_four_13 rfl H
theorem vX9_four_16 {X : Nat × (Int → Int)} {h : HP} {Q : Int → HP → Prop} {x1 x3 : Int} (H : ((4 ≤ x3 → (Wd mX9_four X 48 [(2, 41), (1, x1), (9, 0), (0, h 41 5), (0, 0)] [] h Q)) ∧ (¬ (4 ≤ x3) → (Wd mX9_part X 0 [(1, x1), (9, 0), (0, x3)] [] h (fun r1 h2 => Wd mX9_isHeave X 0 [(0, r1)] [] h2 (fun r3 h4 => ((¬ r3 = 0 → (inI (x3 + 1) ∧ Wd mX9_four X 16 [(2, 41), (1, x1), (9, 0), (0, x3 + 1), (9, 0)] [] h4 Q)) ∧ (r3 = 0 → (Q (-1) h4))))))))) : Wd mX9_four X 16 [(2, 41), (1, x1), (9, 0), (0, x3), (9, 0)] [] h Q := by
  refine s_iload_n 17 3 rfl dX9_four_16 rfl rfl ?_
  refine s_iconst 18 rfl dX9_four_17 ⟨by decide, by decide⟩ ?_
  refine s_icmp_ge 21 40 rfl dX9_four_18 (by decide) (fun c6 => ?_) (fun c6 => ?_)
  · replace H := H.1 c6
    refine s_aload_n 41 0 rfl dX9_four_40 rfl rfl ?_
    refine s_getf 44 41 5 rfl dX9_four_41 ck9 rfl (by decide) rfl (by decide) w740 rfl (v := (0, h 41 5)) rfl ?_
    refine s_istore_n 45 3 rfl dX9_four_44 rfl (by decide) (L2 := [(2, 41), (1, x1), (9, 0), (0, h 41 5), (9, 0)]) rfl ?_
    refine s_iconst 46 rfl dX9_four_45 ⟨by decide, by decide⟩ ?_
    refine s_istore 48 4 rfl dX9_four_46 (by decide) (L2 := [(2, 41), (1, x1), (9, 0), (0, h 41 5), (0, 0)]) rfl ?_
    exact H
  · replace H := H.2 c6
    refine s_lload_n 22 1 rfl dX9_four_21 rfl rfl ?_
    refine s_iload_n 23 3 rfl dX9_four_22 rfl rfl ?_
    refine s_callS (mj := mX9_part) (S := []) 26 [(1, x1), (0, x3)] [(1, x1), (9, 0), (0, x3)] rfl dX9_four_23 okX9_part w841 w842 rfl npX9_part (Nat.le_of_ble_eq_true rfl) (by decide) (Nat.le_of_ble_eq_true rfl) rfl (Wd.imp H (fun r1 h2 H => ?_))
    show Wd mX9_four X 26 [(2, 41), (1, x1), (9, 0), (0, x3), (9, 0)] [(0, r1)] h2 Q
    refine s_callS (mj := mX9_isHeave) (S := []) 29 [(0, r1)] [(0, r1)] rfl dX9_four_26 okX9_isHeave w831 w832 rfl npX9_isHeave (Nat.le_of_ble_eq_true rfl) (by decide) (Nat.le_of_ble_eq_true rfl) rfl (Wd.imp H (fun r3 h4 H => ?_))
    show Wd mX9_four X 29 [(2, 41), (1, x1), (9, 0), (0, x3), (9, 0)] [(0, r3)] h4 Q
    refine s_if_ne 32 34 rfl dX9_four_29 (by decide) (fun c5 => ?_) (fun c5 => ?_)
    · replace H := H.1 c5
      have c4 := H.1
      replace H := H.2
      refine s_iinc 37 3 rfl dX9_four_34 (by decide) (z := x3) rfl (L2 := [(2, 41), (1, x1), (9, 0), (0, x3 + 1), (9, 0)]) rfl c4 ?_
      refine s_goto 16 dX9_four_37 (by decide) ?_
      exact H
    · replace H := H.2 c5
      refine s_iconst 33 rfl dX9_four_32 ⟨by decide, by decide⟩ ?_
      exact s_iret (S := []) dX9_four_33 rfl H
theorem vX9_four_48 {X : Nat × (Int → Int)} {h : HP} {Q : Int → HP → Prop} {x1 x3 x4 : Int} (H : ((4 ≤ x4 → (Q x3 h)) ∧ (¬ (4 ≤ x4) → (Wd mX9_part X 0 [(1, x1), (9, 0), (0, x4)] [] h (fun r1 h2 => Wd mX9_heave X 0 [(2, 41), (0, r1)] [] h2 (fun r3 h4 => inI (x4 + 1) ∧ Wd mX9_four X 48 [(2, 41), (1, x1), (9, 0), (0, r3), (0, x4 + 1)] [] h4 Q)))))) : Wd mX9_four X 48 [(2, 41), (1, x1), (9, 0), (0, x3), (0, x4)] [] h Q := by
  refine s_iload 50 4 rfl dX9_four_48 rfl ?_
  refine s_iconst 51 rfl dX9_four_50 ⟨by decide, by decide⟩ ?_
  refine s_icmp_ge 54 71 rfl dX9_four_51 (by decide) (fun c5 => ?_) (fun c5 => ?_)
  · replace H := H.1 c5
    refine s_iload_n 72 3 rfl dX9_four_71 rfl rfl ?_
    exact s_iret (S := []) dX9_four_72 rfl H
  · replace H := H.2 c5
    refine s_aload_n 55 0 rfl dX9_four_54 rfl rfl ?_
    refine s_lload_n 56 1 rfl dX9_four_55 rfl rfl ?_
    refine s_iload 58 4 rfl dX9_four_56 rfl ?_
    refine s_callS (mj := mX9_part) (S := [(2, 41)]) 61 [(1, x1), (0, x4)] [(1, x1), (9, 0), (0, x4)] rfl dX9_four_58 okX9_part w841 w842 rfl npX9_part (Nat.le_of_ble_eq_true rfl) (by decide) (Nat.le_of_ble_eq_true rfl) rfl (Wd.imp H (fun r1 h2 H => ?_))
    show Wd mX9_four X 61 [(2, 41), (1, x1), (9, 0), (0, x3), (0, x4)] [(0, r1), (2, 41)] h2 Q
    refine s_callV (mj := mX9_heave) (S := []) 64 [(0, r1)] [(2, 41), (0, r1)] 41 rfl dX9_four_61 okX9_heave w844 w828 w829 rfl (by decide) rfl rfl rfl rfl npX9_heave (Nat.le_of_ble_eq_true rfl) (by decide) (Nat.le_of_ble_eq_true rfl) rfl (Wd.imp H (fun r3 h4 H => ?_))
    show Wd mX9_four X 64 [(2, 41), (1, x1), (9, 0), (0, x3), (0, x4)] [(0, r3)] h4 Q
    refine s_istore_n 65 3 rfl dX9_four_64 rfl (by decide) (L2 := [(2, 41), (1, x1), (9, 0), (0, r3), (0, x4)]) rfl ?_
    have c4 := H.1
    replace H := H.2
    refine s_iinc 68 4 rfl dX9_four_65 (by decide) (z := x4) rfl (L2 := [(2, 41), (1, x1), (9, 0), (0, r3), (0, x4 + 1)]) rfl c4 ?_
    refine s_goto 48 dX9_four_68 (by decide) ?_
    exact H
theorem vX9_forget_0 {X : Nat × (Int → Int)} {h : HP} {Q : Int → HP → Prop} {x1 : Int} (H : Wd mX9_isIn X 0 [(0, x1), (0, 0), (0, h 41 5)] [] h (fun r1 h2 => ((¬ r1 = 0 → (inI (h2 41 5 - x1) ∧ Wd mX9_forget X 26 [(2, 41), (0, x1), (0, 0)] [] (xu h2 41 5 (h2 41 5 - x1)) Q)) ∧ (r1 = 0 → (Q (-1) h2))))) : Wd mX9_forget X 0 [(2, 41), (0, x1), (9, 0)] [] h Q := by
  refine s_iload_n 1 1 rfl dX9_forget_0 rfl rfl ?_
  refine s_iconst 2 rfl dX9_forget_1 ⟨by decide, by decide⟩ ?_
  refine s_aload_n 3 0 rfl dX9_forget_2 rfl rfl ?_
  refine s_getf 6 41 5 rfl dX9_forget_3 ck9 rfl (by decide) rfl (by decide) w740 rfl (v := (0, h 41 5)) rfl ?_
  refine s_callS (mj := mX9_isIn) (S := []) 9 [(0, x1), (0, 0), (0, h 41 5)] [(0, x1), (0, 0), (0, h 41 5)] rfl dX9_forget_6 okX9_isIn w834 w835 rfl npX9_isIn (Nat.le_of_ble_eq_true rfl) (by decide) (Nat.le_of_ble_eq_true rfl) rfl (Wd.imp H (fun r1 h2 H => ?_))
  show Wd mX9_forget X 9 [(2, 41), (0, x1), (9, 0)] [(0, r1)] h2 Q
  refine s_if_ne 12 14 rfl dX9_forget_9 (by decide) (fun c3 => ?_) (fun c3 => ?_)
  · replace H := H.1 c3
    refine s_aload_n 15 0 rfl dX9_forget_14 rfl rfl ?_
    refine s_dup 16 rfl dX9_forget_15 (by decide : ¬ (2 : Nat) = 1) ?_
    refine s_getf 19 41 5 rfl dX9_forget_16 ck9 rfl (by decide) rfl (by decide) w740 rfl (v := (0, h2 41 5)) rfl ?_
    refine s_iload_n 20 1 rfl dX9_forget_19 rfl rfl ?_
    have c2 := H.1
    replace H := H.2
    refine s_isub 21 rfl dX9_forget_20 c2 ?_
    refine s_putI 24 41 5 rfl dX9_forget_21 ck9 rfl (by decide) rfl (by decide) w740 rfl rfl rfl ?_
    refine s_iconst 25 rfl dX9_forget_24 ⟨by decide, by decide⟩ ?_
    refine s_istore_n 26 2 rfl dX9_forget_25 rfl (by decide) (L2 := [(2, 41), (0, x1), (0, 0)]) rfl ?_
    exact H
  · replace H := H.2 c3
    refine s_iconst 13 rfl dX9_forget_12 ⟨by decide, by decide⟩ ?_
    exact s_iret (S := []) dX9_forget_13 rfl H
theorem vX9_forget_26 {X : Nat × (Int → Int)} {h : HP} {Q : Int → HP → Prop} {x1 x2 : Int} (H : ((h 41 5 ≤ x2 → (Wd mX9_forget X 73 [(2, 41), (9, 0), (0, h 41 5)] [] h Q)) ∧ (¬ (h 41 5 ≤ x2) → (inI (x2 + x1) ∧ 0 ≤ x2 + x1 ∧ x2 + x1 < 600 ∧ 0 ≤ x2 ∧ x2 < 600 ∧ inI (x2 + 1) ∧ Wd mX9_forget X 26 [(2, 41), (0, x1), (0, x2 + 1)] [] (xu (xu h 42 x2 (h 42 (x2 + x1))) 46 x2 (h 46 (x2 + x1))) Q)))) : Wd mX9_forget X 26 [(2, 41), (0, x1), (0, x2)] [] h Q := by
  refine s_iload_n 27 2 rfl dX9_forget_26 rfl rfl ?_
  refine s_aload_n 28 0 rfl dX9_forget_27 rfl rfl ?_
  refine s_getf 31 41 5 rfl dX9_forget_28 ck9 rfl (by decide) rfl (by decide) w740 rfl (v := (0, h 41 5)) rfl ?_
  refine s_icmp_ge 34 68 rfl dX9_forget_31 (by decide) (fun c6 => ?_) (fun c6 => ?_)
  · replace H := H.1 c6
    refine s_aload_n 69 0 rfl dX9_forget_68 rfl rfl ?_
    refine s_getf 72 41 5 rfl dX9_forget_69 ck9 rfl (by decide) rfl (by decide) w740 rfl (v := (0, h 41 5)) rfl ?_
    refine s_istore_n 73 2 rfl dX9_forget_72 rfl (by decide) (L2 := [(2, 41), (0, x1), (0, h 41 5)]) rfl ?_
    exact s_less [(2, 41), (9, 0), (0, h 41 5)] ⟨Or.inr rfl, Or.inl rfl, Or.inr rfl, trivial⟩ H
  · replace H := H.2 c6
    refine s_aload_n 35 0 rfl dX9_forget_34 rfl rfl ?_
    refine s_getf 38 41 0 rfl dX9_forget_35 ck9 rfl (by decide) rfl (by decide) w735 rfl (v := (2, 42)) rfl ?_
    refine s_iload_n 39 2 rfl dX9_forget_38 rfl rfl ?_
    refine s_aload_n 40 0 rfl dX9_forget_39 rfl rfl ?_
    refine s_getf 43 41 0 rfl dX9_forget_40 ck9 rfl (by decide) rfl (by decide) w735 rfl (v := (2, 42)) rfl ?_
    refine s_iload_n 44 2 rfl dX9_forget_43 rfl rfl ?_
    refine s_iload_n 45 1 rfl dX9_forget_44 rfl rfl ?_
    have c0 := H.1
    replace H := H.2
    refine s_iadd 46 rfl dX9_forget_45 c0 ?_
    have c1 := H.1
    replace H := H.2
    have c2 := H.1
    replace H := H.2
    refine s_iald 47 rfl dX9_forget_46 ia42 c1 c2 (v9 := h 42 (x2 + x1)) rfl ?_
    have c3 := H.1
    replace H := H.2
    have c4 := H.1
    replace H := H.2
    refine s_iast 48 rfl dX9_forget_47 ia42 c3 c4 ?_
    refine s_aload_n 49 0 rfl dX9_forget_48 rfl rfl ?_
    refine s_getf 52 41 4 rfl dX9_forget_49 ck9 rfl (by decide) rfl (by decide) w739 rfl (v := (2, 46)) rfl ?_
    refine s_iload_n 53 2 rfl dX9_forget_52 rfl rfl ?_
    refine s_aload_n 54 0 rfl dX9_forget_53 rfl rfl ?_
    refine s_getf 57 41 4 rfl dX9_forget_54 ck9 rfl (by decide) rfl (by decide) w739 rfl (v := (2, 46)) rfl ?_
    refine s_iload_n 58 2 rfl dX9_forget_57 rfl rfl ?_
    refine s_iload_n 59 1 rfl dX9_forget_58 rfl rfl ?_
    refine s_iadd 60 rfl dX9_forget_59 c0 ?_
    refine s_iald 61 rfl dX9_forget_60 ia46 c1 c2 (v9 := h 46 (x2 + x1)) (xu_k (by decide)) ?_
    refine s_iast 62 rfl dX9_forget_61 ia46 c3 c4 ?_
    have c5 := H.1
    replace H := H.2
    refine s_iinc 65 2 rfl dX9_forget_62 (by decide) (z := x2) rfl (L2 := [(2, 41), (0, x1), (0, x2 + 1)]) rfl c5 ?_
    refine s_goto 26 dX9_forget_65 (by decide) ?_
    exact H
theorem vX9_forget_73 {X : Nat × (Int → Int)} {h : HP} {Q : Int → HP → Prop} {x2 : Int} (H : ((600 ≤ x2 → (Q (h 41 5) h)) ∧ (¬ (600 ≤ x2) → (0 ≤ x2 ∧ x2 < 600 ∧ inI (x2 + 1) ∧ Wd mX9_forget X 73 [(2, 41), (9, 0), (0, x2 + 1)] [] (xu h 46 x2 (-1)) Q)))) : Wd mX9_forget X 73 [(2, 41), (9, 0), (0, x2)] [] h Q := by
  refine s_iload_n 74 2 rfl dX9_forget_73 rfl rfl ?_
  refine s_sipush 77 rfl dX9_forget_74 (by decide) ⟨by decide, by decide⟩ ?_
  refine s_icmp_ge 80 93 rfl dX9_forget_77 (by decide) (fun c3 => ?_) (fun c3 => ?_)
  · replace H := H.1 c3
    refine s_aload_n 94 0 rfl dX9_forget_93 rfl rfl ?_
    refine s_getf 97 41 5 rfl dX9_forget_94 ck9 rfl (by decide) rfl (by decide) w740 rfl (v := (0, h 41 5)) rfl ?_
    exact s_iret (S := []) dX9_forget_97 rfl H
  · replace H := H.2 c3
    refine s_aload_n 81 0 rfl dX9_forget_80 rfl rfl ?_
    refine s_getf 84 41 4 rfl dX9_forget_81 ck9 rfl (by decide) rfl (by decide) w739 rfl (v := (2, 46)) rfl ?_
    refine s_iload_n 85 2 rfl dX9_forget_84 rfl rfl ?_
    refine s_iconst 86 rfl dX9_forget_85 ⟨by decide, by decide⟩ ?_
    have c0 := H.1
    replace H := H.2
    have c1 := H.1
    replace H := H.2
    refine s_iast 87 rfl dX9_forget_86 ia46 c0 c1 ?_
    have c2 := H.1
    replace H := H.2
    refine s_iinc 90 2 rfl dX9_forget_87 (by decide) (z := x2) rfl (L2 := [(2, 41), (9, 0), (0, x2 + 1)]) rfl c2 ?_
    refine s_goto 73 dX9_forget_90 (by decide) ?_
    exact H
theorem vX9_set_0 {X : Nat × (Int → Int)} {h : HP} {Q : Int → HP → Prop} {x1 x2 : Int} (H : ((¬ x1 = 0 → ((¬ x1 = 1 → ((¬ x1 = 2 → ((¬ x1 = 3 → (Q 0 h)) ∧ (x1 = 3 → (Wd mX9_isIn X 0 [(0, x2), (0, 1), (0, 9)] [] h (fun r2 h3 => ((r2 = 0 → (Q 0 h3)) ∧ (¬ r2 = 0 → (0 ≤ x1 ∧ x1 < 8 ∧ ((¬ h3 43 x1 = x2 → (Q 1 (xu h3 43 x1 x2))) ∧ (h3 43 x1 = x2 → (Q 0 h3))))))))))) ∧ (x1 = 2 → (Wd mX9_isIn X 0 [(0, x2), (0, 10), (0, 50)] [] h (fun r11 h12 => ((r11 = 0 → (Q 0 h12)) ∧ (¬ r11 = 0 → (0 ≤ x1 ∧ x1 < 8 ∧ ((¬ h12 43 x1 = x2 → (Q 1 (xu h12 43 x1 x2))) ∧ (h12 43 x1 = x2 → (Q 0 h12))))))))))) ∧ (x1 = 1 → (Wd mX9_isIn X 0 [(0, x2), (0, 0), (0, 500)] [] h (fun r18 h19 => ((r18 = 0 → (Q 0 h19)) ∧ (¬ r18 = 0 → (0 ≤ x1 ∧ x1 < 8 ∧ ((¬ h19 43 x1 = x2 → (Q 1 (xu h19 43 x1 x2))) ∧ (h19 43 x1 = x2 → (Q 0 h19))))))))))) ∧ (x1 = 0 → (Wd mX9_isIn X 0 [(0, x2), (0, 0), (0, 20)] [] h (fun r25 h26 => ((r25 = 0 → (Q 0 h26)) ∧ (¬ r25 = 0 → (0 ≤ x1 ∧ x1 < 8 ∧ ((¬ h26 43 x1 = x2 → (Q 1 (xu h26 43 x1 x2))) ∧ (h26 43 x1 = x2 → (Q 0 h26))))))))))) : Wd mX9_set X 0 [(2, 41), (0, x1), (0, x2), (9, 0)] [] h Q := by
  refine s_iload_n 1 1 rfl dX9_set_0 rfl rfl ?_
  refine s_if_ne 4 14 rfl dX9_set_1 (by decide) (fun c30 => ?_) (fun c30 => ?_)
  · replace H := H.1 c30
    refine s_iload_n 15 1 rfl dX9_set_14 rfl rfl ?_
    refine s_iconst 16 rfl dX9_set_15 ⟨by decide, by decide⟩ ?_
    refine s_icmp_ne 19 30 rfl dX9_set_16 (by decide) (fun c23 => ?_) (fun c23 => ?_)
    · replace H := H.1 c23
      refine s_iload_n 31 1 rfl dX9_set_30 rfl rfl ?_
      refine s_iconst 32 rfl dX9_set_31 ⟨by decide, by decide⟩ ?_
      refine s_icmp_ne 35 46 rfl dX9_set_32 (by decide) (fun c16 => ?_) (fun c16 => ?_)
      · replace H := H.1 c16
        refine s_iload_n 47 1 rfl dX9_set_46 rfl rfl ?_
        refine s_iconst 48 rfl dX9_set_47 ⟨by decide, by decide⟩ ?_
        refine s_icmp_ne 51 65 rfl dX9_set_48 (by decide) (fun c9 => ?_) (fun c9 => ?_)
        · replace H := H.1 c9
          refine s_iconst 66 rfl dX9_set_65 ⟨by decide, by decide⟩ ?_
          refine s_istore_n 67 3 rfl dX9_set_66 rfl (by decide) (L2 := [(2, 41), (0, x1), (0, x2), (0, 0)]) rfl ?_
          refine s_iload_n 68 3 rfl dX9_set_67 rfl rfl ?_
          refine s_if_eq 71 81 rfl dX9_set_68 (by decide) (fun c0 => ?_) (fun c0 => ?_)
          · refine s_iconst 82 rfl dX9_set_81 ⟨by decide, by decide⟩ ?_
            exact s_zret (S := []) dX9_set_82 rfl (Or.inl rfl) H
          · exact absurd (by decide) c0
        · replace H := H.2 c9
          refine s_iload_n 52 2 rfl dX9_set_51 rfl rfl ?_
          refine s_iconst 53 rfl dX9_set_52 ⟨by decide, by decide⟩ ?_
          refine s_bipush 55 rfl dX9_set_53 (by decide) ⟨by decide, by decide⟩ ?_
          refine s_callS (mj := mX9_isIn) (S := []) 58 [(0, x2), (0, 1), (0, 9)] [(0, x2), (0, 1), (0, 9)] rfl dX9_set_55 okX9_isIn w834 w835 rfl npX9_isIn (Nat.le_of_ble_eq_true rfl) (by decide) (Nat.le_of_ble_eq_true rfl) rfl (Wd.imp H (fun r2 h3 H => ?_))
          show Wd mX9_set X 58 [(2, 41), (0, x1), (0, x2), (9, 0)] [(0, r2)] h3 Q
          refine s_if_eq 61 65 rfl dX9_set_58 (by decide) (fun c8 => ?_) (fun c8 => ?_)
          · replace H := H.1 c8
            refine s_iconst 66 rfl dX9_set_65 ⟨by decide, by decide⟩ ?_
            refine s_istore_n 67 3 rfl dX9_set_66 rfl (by decide) (L2 := [(2, 41), (0, x1), (0, x2), (0, 0)]) rfl ?_
            refine s_iload_n 68 3 rfl dX9_set_67 rfl rfl ?_
            refine s_if_eq 71 81 rfl dX9_set_68 (by decide) (fun c3 => ?_) (fun c3 => ?_)
            · refine s_iconst 82 rfl dX9_set_81 ⟨by decide, by decide⟩ ?_
              exact s_zret (S := []) dX9_set_82 rfl (Or.inl rfl) H
            · exact absurd (by decide) c3
          · replace H := H.2 c8
            refine s_iconst 62 rfl dX9_set_61 ⟨by decide, by decide⟩ ?_
            refine s_goto 66 dX9_set_62 (by decide) ?_
            refine s_istore_n 67 3 rfl dX9_set_66 rfl (by decide) (L2 := [(2, 41), (0, x1), (0, x2), (0, 1)]) rfl ?_
            refine s_iload_n 68 3 rfl dX9_set_67 rfl rfl ?_
            refine s_if_eq 71 81 rfl dX9_set_68 (by decide) (fun c4 => ?_) (fun c4 => ?_)
            · exact absurd c4 (by decide)
            · refine s_aload_n 72 0 rfl dX9_set_71 rfl rfl ?_
              refine s_getf 75 41 1 rfl dX9_set_72 ck9 rfl (by decide) rfl (by decide) w736 rfl (v := (2, 43)) rfl ?_
              refine s_iload_n 76 1 rfl dX9_set_75 rfl rfl ?_
              have c5 := H.1
              replace H := H.2
              have c6 := H.1
              replace H := H.2
              refine s_iald 77 rfl dX9_set_76 ia43 c5 c6 (v9 := h3 43 x1) rfl ?_
              refine s_iload_n 78 2 rfl dX9_set_77 rfl rfl ?_
              refine s_icmp_ne 81 83 rfl dX9_set_78 (by decide) (fun c7 => ?_) (fun c7 => ?_)
              · replace H := H.1 c7
                refine s_aload_n 84 0 rfl dX9_set_83 rfl rfl ?_
                refine s_getf 87 41 1 rfl dX9_set_84 ck9 rfl (by decide) rfl (by decide) w736 rfl (v := (2, 43)) rfl ?_
                refine s_iload_n 88 1 rfl dX9_set_87 rfl rfl ?_
                refine s_iload_n 89 2 rfl dX9_set_88 rfl rfl ?_
                refine s_iast 90 rfl dX9_set_89 ia43 c5 c6 ?_
                refine s_iconst 91 rfl dX9_set_90 ⟨by decide, by decide⟩ ?_
                exact s_zret (S := []) dX9_set_91 rfl (Or.inr rfl) H
              · replace H := H.2 c7
                refine s_iconst 82 rfl dX9_set_81 ⟨by decide, by decide⟩ ?_
                exact s_zret (S := []) dX9_set_82 rfl (Or.inl rfl) H
      · replace H := H.2 c16
        refine s_iload_n 36 2 rfl dX9_set_35 rfl rfl ?_
        refine s_bipush 38 rfl dX9_set_36 (by decide) ⟨by decide, by decide⟩ ?_
        refine s_bipush 40 rfl dX9_set_38 (by decide) ⟨by decide, by decide⟩ ?_
        refine s_callS (mj := mX9_isIn) (S := []) 43 [(0, x2), (0, 10), (0, 50)] [(0, x2), (0, 10), (0, 50)] rfl dX9_set_40 okX9_isIn w834 w835 rfl npX9_isIn (Nat.le_of_ble_eq_true rfl) (by decide) (Nat.le_of_ble_eq_true rfl) rfl (Wd.imp H (fun r11 h12 H => ?_))
        show Wd mX9_set X 43 [(2, 41), (0, x1), (0, x2), (9, 0)] [(0, r11)] h12 Q
        refine s_goto 66 dX9_set_43 (by decide) ?_
        refine s_istore_n 67 3 rfl dX9_set_66 rfl (by decide) (L2 := [(2, 41), (0, x1), (0, x2), (0, r11)]) rfl ?_
        refine s_iload_n 68 3 rfl dX9_set_67 rfl rfl ?_
        refine s_if_eq 71 81 rfl dX9_set_68 (by decide) (fun c15 => ?_) (fun c15 => ?_)
        · replace H := H.1 c15
          refine s_iconst 82 rfl dX9_set_81 ⟨by decide, by decide⟩ ?_
          exact s_zret (S := []) dX9_set_82 rfl (Or.inl rfl) H
        · replace H := H.2 c15
          refine s_aload_n 72 0 rfl dX9_set_71 rfl rfl ?_
          refine s_getf 75 41 1 rfl dX9_set_72 ck9 rfl (by decide) rfl (by decide) w736 rfl (v := (2, 43)) rfl ?_
          refine s_iload_n 76 1 rfl dX9_set_75 rfl rfl ?_
          have c12 := H.1
          replace H := H.2
          have c13 := H.1
          replace H := H.2
          refine s_iald 77 rfl dX9_set_76 ia43 c12 c13 (v9 := h12 43 x1) rfl ?_
          refine s_iload_n 78 2 rfl dX9_set_77 rfl rfl ?_
          refine s_icmp_ne 81 83 rfl dX9_set_78 (by decide) (fun c14 => ?_) (fun c14 => ?_)
          · replace H := H.1 c14
            refine s_aload_n 84 0 rfl dX9_set_83 rfl rfl ?_
            refine s_getf 87 41 1 rfl dX9_set_84 ck9 rfl (by decide) rfl (by decide) w736 rfl (v := (2, 43)) rfl ?_
            refine s_iload_n 88 1 rfl dX9_set_87 rfl rfl ?_
            refine s_iload_n 89 2 rfl dX9_set_88 rfl rfl ?_
            refine s_iast 90 rfl dX9_set_89 ia43 c12 c13 ?_
            refine s_iconst 91 rfl dX9_set_90 ⟨by decide, by decide⟩ ?_
            exact s_zret (S := []) dX9_set_91 rfl (Or.inr rfl) H
          · replace H := H.2 c14
            refine s_iconst 82 rfl dX9_set_81 ⟨by decide, by decide⟩ ?_
            exact s_zret (S := []) dX9_set_82 rfl (Or.inl rfl) H
    · replace H := H.2 c23
      refine s_iload_n 20 2 rfl dX9_set_19 rfl rfl ?_
      refine s_iconst 21 rfl dX9_set_20 ⟨by decide, by decide⟩ ?_
      refine s_sipush 24 rfl dX9_set_21 (by decide) ⟨by decide, by decide⟩ ?_
      refine s_callS (mj := mX9_isIn) (S := []) 27 [(0, x2), (0, 0), (0, 500)] [(0, x2), (0, 0), (0, 500)] rfl dX9_set_24 okX9_isIn w834 w835 rfl npX9_isIn (Nat.le_of_ble_eq_true rfl) (by decide) (Nat.le_of_ble_eq_true rfl) rfl (Wd.imp H (fun r18 h19 H => ?_))
      show Wd mX9_set X 27 [(2, 41), (0, x1), (0, x2), (9, 0)] [(0, r18)] h19 Q
      refine s_goto 66 dX9_set_27 (by decide) ?_
      refine s_istore_n 67 3 rfl dX9_set_66 rfl (by decide) (L2 := [(2, 41), (0, x1), (0, x2), (0, r18)]) rfl ?_
      refine s_iload_n 68 3 rfl dX9_set_67 rfl rfl ?_
      refine s_if_eq 71 81 rfl dX9_set_68 (by decide) (fun c22 => ?_) (fun c22 => ?_)
      · replace H := H.1 c22
        refine s_iconst 82 rfl dX9_set_81 ⟨by decide, by decide⟩ ?_
        exact s_zret (S := []) dX9_set_82 rfl (Or.inl rfl) H
      · replace H := H.2 c22
        refine s_aload_n 72 0 rfl dX9_set_71 rfl rfl ?_
        refine s_getf 75 41 1 rfl dX9_set_72 ck9 rfl (by decide) rfl (by decide) w736 rfl (v := (2, 43)) rfl ?_
        refine s_iload_n 76 1 rfl dX9_set_75 rfl rfl ?_
        have c19 := H.1
        replace H := H.2
        have c20 := H.1
        replace H := H.2
        refine s_iald 77 rfl dX9_set_76 ia43 c19 c20 (v9 := h19 43 x1) rfl ?_
        refine s_iload_n 78 2 rfl dX9_set_77 rfl rfl ?_
        refine s_icmp_ne 81 83 rfl dX9_set_78 (by decide) (fun c21 => ?_) (fun c21 => ?_)
        · replace H := H.1 c21
          refine s_aload_n 84 0 rfl dX9_set_83 rfl rfl ?_
          refine s_getf 87 41 1 rfl dX9_set_84 ck9 rfl (by decide) rfl (by decide) w736 rfl (v := (2, 43)) rfl ?_
          refine s_iload_n 88 1 rfl dX9_set_87 rfl rfl ?_
          refine s_iload_n 89 2 rfl dX9_set_88 rfl rfl ?_
          refine s_iast 90 rfl dX9_set_89 ia43 c19 c20 ?_
          refine s_iconst 91 rfl dX9_set_90 ⟨by decide, by decide⟩ ?_
          exact s_zret (S := []) dX9_set_91 rfl (Or.inr rfl) H
        · replace H := H.2 c21
          refine s_iconst 82 rfl dX9_set_81 ⟨by decide, by decide⟩ ?_
          exact s_zret (S := []) dX9_set_82 rfl (Or.inl rfl) H
  · replace H := H.2 c30
    refine s_iload_n 5 2 rfl dX9_set_4 rfl rfl ?_
    refine s_iconst 6 rfl dX9_set_5 ⟨by decide, by decide⟩ ?_
    refine s_bipush 8 rfl dX9_set_6 (by decide) ⟨by decide, by decide⟩ ?_
    refine s_callS (mj := mX9_isIn) (S := []) 11 [(0, x2), (0, 0), (0, 20)] [(0, x2), (0, 0), (0, 20)] rfl dX9_set_8 okX9_isIn w834 w835 rfl npX9_isIn (Nat.le_of_ble_eq_true rfl) (by decide) (Nat.le_of_ble_eq_true rfl) rfl (Wd.imp H (fun r25 h26 H => ?_))
    show Wd mX9_set X 11 [(2, 41), (0, x1), (0, x2), (9, 0)] [(0, r25)] h26 Q
    refine s_goto 66 dX9_set_11 (by decide) ?_
    refine s_istore_n 67 3 rfl dX9_set_66 rfl (by decide) (L2 := [(2, 41), (0, x1), (0, x2), (0, r25)]) rfl ?_
    refine s_iload_n 68 3 rfl dX9_set_67 rfl rfl ?_
    refine s_if_eq 71 81 rfl dX9_set_68 (by decide) (fun c29 => ?_) (fun c29 => ?_)
    · replace H := H.1 c29
      refine s_iconst 82 rfl dX9_set_81 ⟨by decide, by decide⟩ ?_
      exact s_zret (S := []) dX9_set_82 rfl (Or.inl rfl) H
    · replace H := H.2 c29
      refine s_aload_n 72 0 rfl dX9_set_71 rfl rfl ?_
      refine s_getf 75 41 1 rfl dX9_set_72 ck9 rfl (by decide) rfl (by decide) w736 rfl (v := (2, 43)) rfl ?_
      refine s_iload_n 76 1 rfl dX9_set_75 rfl rfl ?_
      have c26 := H.1
      replace H := H.2
      have c27 := H.1
      replace H := H.2
      refine s_iald 77 rfl dX9_set_76 ia43 c26 c27 (v9 := h26 43 x1) rfl ?_
      refine s_iload_n 78 2 rfl dX9_set_77 rfl rfl ?_
      refine s_icmp_ne 81 83 rfl dX9_set_78 (by decide) (fun c28 => ?_) (fun c28 => ?_)
      · replace H := H.1 c28
        refine s_aload_n 84 0 rfl dX9_set_83 rfl rfl ?_
        refine s_getf 87 41 1 rfl dX9_set_84 ck9 rfl (by decide) rfl (by decide) w736 rfl (v := (2, 43)) rfl ?_
        refine s_iload_n 88 1 rfl dX9_set_87 rfl rfl ?_
        refine s_iload_n 89 2 rfl dX9_set_88 rfl rfl ?_
        refine s_iast 90 rfl dX9_set_89 ia43 c26 c27 ?_
        refine s_iconst 91 rfl dX9_set_90 ⟨by decide, by decide⟩ ?_
        exact s_zret (S := []) dX9_set_91 rfl (Or.inr rfl) H
      · replace H := H.2 c28
        refine s_iconst 82 rfl dX9_set_81 ⟨by decide, by decide⟩ ?_
        exact s_zret (S := []) dX9_set_82 rfl (Or.inl rfl) H
theorem vX9_both_0 {X : Nat × (Int → Int)} {h : HP} {Q : Int → HP → Prop} {x1 x2 x3 : Int} (H : 0 ≤ x1 ∧ x1 < 8 ∧ ((¬ h 43 x1 = x2 → (inI (x1 + 1) ∧ 0 ≤ x1 + 1 ∧ x1 + 1 < 8 ∧ Q 1 (xu (xu h 43 x1 x2) 43 (x1 + 1) x3))) ∧ (h 43 x1 = x2 → (inI (x1 + 1) ∧ 0 ≤ x1 + 1 ∧ x1 + 1 < 8 ∧ ((¬ h 43 (x1 + 1) = x3 → (Q 1 (xu (xu h 43 x1 x2) 43 (x1 + 1) x3))) ∧ (h 43 (x1 + 1) = x3 → (Q 0 h))))))) : Wd mX9_both X 0 [(2, 41), (0, x1), (0, x2), (0, x3)] [] h Q := by
  refine s_aload_n 1 0 rfl dX9_both_0 rfl rfl ?_
  refine s_getf 4 41 1 rfl dX9_both_1 ck9 rfl (by decide) rfl (by decide) w736 rfl (v := (2, 43)) rfl ?_
  refine s_iload_n 5 1 rfl dX9_both_4 rfl rfl ?_
  have c0 := H.1
  replace H := H.2
  have c1 := H.1
  replace H := H.2
  refine s_iald 6 rfl dX9_both_5 ia43 c0 c1 (v9 := h 43 x1) rfl ?_
  refine s_iload_n 7 2 rfl dX9_both_6 rfl rfl ?_
  refine s_icmp_ne 10 24 rfl dX9_both_7 (by decide) (fun c9 => ?_) (fun c9 => ?_)
  · replace H := H.1 c9
    refine s_aload_n 25 0 rfl dX9_both_24 rfl rfl ?_
    refine s_getf 28 41 1 rfl dX9_both_25 ck9 rfl (by decide) rfl (by decide) w736 rfl (v := (2, 43)) rfl ?_
    refine s_iload_n 29 1 rfl dX9_both_28 rfl rfl ?_
    refine s_iload_n 30 2 rfl dX9_both_29 rfl rfl ?_
    refine s_iast 31 rfl dX9_both_30 ia43 c0 c1 ?_
    refine s_aload_n 32 0 rfl dX9_both_31 rfl rfl ?_
    refine s_getf 35 41 1 rfl dX9_both_32 ck9 rfl (by decide) rfl (by decide) w736 rfl (v := (2, 43)) rfl ?_
    refine s_iload_n 36 1 rfl dX9_both_35 rfl rfl ?_
    refine s_iconst 37 rfl dX9_both_36 ⟨by decide, by decide⟩ ?_
    have c2 := H.1
    replace H := H.2
    refine s_iadd 38 rfl dX9_both_37 c2 ?_
    refine s_iload_n 39 3 rfl dX9_both_38 rfl rfl ?_
    have c3 := H.1
    replace H := H.2
    have c4 := H.1
    replace H := H.2
    refine s_iast 40 rfl dX9_both_39 ia43 c3 c4 ?_
    refine s_iconst 41 rfl dX9_both_40 ⟨by decide, by decide⟩ ?_
    exact s_zret (S := []) dX9_both_41 rfl (Or.inr rfl) H
  · replace H := H.2 c9
    refine s_aload_n 11 0 rfl dX9_both_10 rfl rfl ?_
    refine s_getf 14 41 1 rfl dX9_both_11 ck9 rfl (by decide) rfl (by decide) w736 rfl (v := (2, 43)) rfl ?_
    refine s_iload_n 15 1 rfl dX9_both_14 rfl rfl ?_
    refine s_iconst 16 rfl dX9_both_15 ⟨by decide, by decide⟩ ?_
    have c5 := H.1
    replace H := H.2
    refine s_iadd 17 rfl dX9_both_16 c5 ?_
    have c6 := H.1
    replace H := H.2
    have c7 := H.1
    replace H := H.2
    refine s_iald 18 rfl dX9_both_17 ia43 c6 c7 (v9 := h 43 (x1 + 1)) rfl ?_
    refine s_iload_n 19 3 rfl dX9_both_18 rfl rfl ?_
    refine s_icmp_ne 22 24 rfl dX9_both_19 (by decide) (fun c8 => ?_) (fun c8 => ?_)
    · replace H := H.1 c8
      refine s_aload_n 25 0 rfl dX9_both_24 rfl rfl ?_
      refine s_getf 28 41 1 rfl dX9_both_25 ck9 rfl (by decide) rfl (by decide) w736 rfl (v := (2, 43)) rfl ?_
      refine s_iload_n 29 1 rfl dX9_both_28 rfl rfl ?_
      refine s_iload_n 30 2 rfl dX9_both_29 rfl rfl ?_
      refine s_iast 31 rfl dX9_both_30 ia43 c0 c1 ?_
      refine s_aload_n 32 0 rfl dX9_both_31 rfl rfl ?_
      refine s_getf 35 41 1 rfl dX9_both_32 ck9 rfl (by decide) rfl (by decide) w736 rfl (v := (2, 43)) rfl ?_
      refine s_iload_n 36 1 rfl dX9_both_35 rfl rfl ?_
      refine s_iconst 37 rfl dX9_both_36 ⟨by decide, by decide⟩ ?_
      refine s_iadd 38 rfl dX9_both_37 c5 ?_
      refine s_iload_n 39 3 rfl dX9_both_38 rfl rfl ?_
      refine s_iast 40 rfl dX9_both_39 ia43 c6 c7 ?_
      refine s_iconst 41 rfl dX9_both_40 ⟨by decide, by decide⟩ ?_
      exact s_zret (S := []) dX9_both_41 rfl (Or.inr rfl) H
    · replace H := H.2 c8
      refine s_iconst 23 rfl dX9_both_22 ⟨by decide, by decide⟩ ?_
      exact s_zret (S := []) dX9_both_23 rfl (Or.inl rfl) H
theorem vX9_level_0 {X : Nat × (Int → Int)} {h : HP} {Q : Int → HP → Prop} {x1 x2 : Int} (H : Wd mX9_isIn X 0 [(0, x1), (0, 0), (0, 2)] [] h (fun r1 h2 => ((r1 = 0 → (Q 0 h2)) ∧ (¬ r1 = 0 → ((¬ x1 = 0 → ((x2 = 0 → (Wd mX9_both X 0 [(2, 41), (0, 4), (0, x1), (0, x2)] [] h2 (fun r3 h4 => (r3 = 0 ∨ r3 = 1) ∧ Q r3 h4))) ∧ (¬ x2 = 0 → (Q 0 h2)))) ∧ (x1 = 0 → (Wd mX9_isIn X 0 [(0, x2), (0, (-9999)), (0, 9999)] [] h2 (fun r6 h7 => ((¬ r6 = 0 → (Wd mX9_both X 0 [(2, 41), (0, 4), (0, x1), (0, x2)] [] h7 (fun r8 h9 => (r8 = 0 ∨ r8 = 1) ∧ Q r8 h9))) ∧ (r6 = 0 → (Q 0 h7))))))))))) : Wd mX9_level X 0 [(2, 41), (0, x1), (0, x2)] [] h Q := by
  refine s_iload_n 1 1 rfl dX9_level_0 rfl rfl ?_
  refine s_iconst 2 rfl dX9_level_1 ⟨by decide, by decide⟩ ?_
  refine s_iconst 3 rfl dX9_level_2 ⟨by decide, by decide⟩ ?_
  refine s_callS (mj := mX9_isIn) (S := []) 6 [(0, x1), (0, 0), (0, 2)] [(0, x1), (0, 0), (0, 2)] rfl dX9_level_3 okX9_isIn w834 w835 rfl npX9_isIn (Nat.le_of_ble_eq_true rfl) (by decide) (Nat.le_of_ble_eq_true rfl) rfl (Wd.imp H (fun r1 h2 H => ?_))
  show Wd mX9_level X 6 [(2, 41), (0, x1), (0, x2)] [(0, r1)] h2 Q
  refine s_if_eq 9 33 rfl dX9_level_6 (by decide) (fun c11 => ?_) (fun c11 => ?_)
  · replace H := H.1 c11
    refine s_iconst 34 rfl dX9_level_33 ⟨by decide, by decide⟩ ?_
    exact s_zret (S := []) dX9_level_34 rfl (Or.inl rfl) H
  · replace H := H.2 c11
    refine s_iload_n 10 1 rfl dX9_level_9 rfl rfl ?_
    refine s_if_ne 13 29 rfl dX9_level_10 (by decide) (fun c10 => ?_) (fun c10 => ?_)
    · replace H := H.1 c10
      refine s_iload_n 30 2 rfl dX9_level_29 rfl rfl ?_
      refine s_if_eq 33 35 rfl dX9_level_30 (by decide) (fun c4 => ?_) (fun c4 => ?_)
      · replace H := H.1 c4
        refine s_aload_n 36 0 rfl dX9_level_35 rfl rfl ?_
        refine s_iconst 37 rfl dX9_level_36 ⟨by decide, by decide⟩ ?_
        refine s_iload_n 38 1 rfl dX9_level_37 rfl rfl ?_
        refine s_iload_n 39 2 rfl dX9_level_38 rfl rfl ?_
        refine s_callV (mj := mX9_both) (S := []) 42 [(0, 4), (0, x1), (0, x2)] [(2, 41), (0, 4), (0, x1), (0, x2)] 41 rfl dX9_level_39 okX9_both w857 w859 w11 rfl (by decide) rfl rfl rfl rfl npX9_both (Nat.le_of_ble_eq_true rfl) (by decide) (Nat.le_of_ble_eq_true rfl) rfl (Wd.imp H (fun r3 h4 H => ?_))
        show Wd mX9_level X 42 [(2, 41), (0, x1), (0, x2)] [(0, r3)] h4 Q
        exact s_zret (S := []) dX9_level_42 rfl H.1 H.2
      · replace H := H.2 c4
        refine s_iconst 34 rfl dX9_level_33 ⟨by decide, by decide⟩ ?_
        exact s_zret (S := []) dX9_level_34 rfl (Or.inl rfl) H
    · replace H := H.2 c10
      refine s_iload_n 14 2 rfl dX9_level_13 rfl rfl ?_
      refine s_sipush 17 rfl dX9_level_14 (by decide) ⟨by decide, by decide⟩ ?_
      refine s_sipush 20 rfl dX9_level_17 (by decide) ⟨by decide, by decide⟩ ?_
      refine s_callS (mj := mX9_isIn) (S := []) 23 [(0, x2), (0, (-9999)), (0, 9999)] [(0, x2), (0, (-9999)), (0, 9999)] rfl dX9_level_20 okX9_isIn w834 w835 rfl npX9_isIn (Nat.le_of_ble_eq_true rfl) (by decide) (Nat.le_of_ble_eq_true rfl) rfl (Wd.imp H (fun r6 h7 H => ?_))
      show Wd mX9_level X 23 [(2, 41), (0, x1), (0, x2)] [(0, r6)] h7 Q
      refine s_if_ne 26 35 rfl dX9_level_23 (by decide) (fun c9 => ?_) (fun c9 => ?_)
      · replace H := H.1 c9
        refine s_aload_n 36 0 rfl dX9_level_35 rfl rfl ?_
        refine s_iconst 37 rfl dX9_level_36 ⟨by decide, by decide⟩ ?_
        refine s_iload_n 38 1 rfl dX9_level_37 rfl rfl ?_
        refine s_iload_n 39 2 rfl dX9_level_38 rfl rfl ?_
        refine s_callV (mj := mX9_both) (S := []) 42 [(0, 4), (0, x1), (0, x2)] [(2, 41), (0, 4), (0, x1), (0, x2)] 41 rfl dX9_level_39 okX9_both w857 w859 w11 rfl (by decide) rfl rfl rfl rfl npX9_both (Nat.le_of_ble_eq_true rfl) (by decide) (Nat.le_of_ble_eq_true rfl) rfl (Wd.imp H (fun r8 h9 H => ?_))
        show Wd mX9_level X 42 [(2, 41), (0, x1), (0, x2)] [(0, r8)] h9 Q
        exact s_zret (S := []) dX9_level_42 rfl H.1 H.2
      · replace H := H.2 c9
        refine s_goto 33 dX9_level_26 (by decide) ?_
        refine s_iconst 34 rfl dX9_level_33 ⟨by decide, by decide⟩ ?_
        exact s_zret (S := []) dX9_level_34 rfl (Or.inl rfl) H
theorem vX9_mark_0 {X : Nat × (Int → Int)} {h : HP} {Q : Int → HP → Prop} {x1 x2 : Int} (H : Wd mX9_isIn X 0 [(0, x1), (0, 0), (0, 3)] [] h (fun r1 h2 => ((r1 = 0 → (Q 0 h2)) ∧ (¬ r1 = 0 → ((¬ x1 = 0 → ((x2 = 0 → (Wd mX9_both X 0 [(2, 41), (0, 6), (0, x1), (0, x2)] [] h2 (fun r3 h4 => (r3 = 0 ∨ r3 = 1) ∧ Q r3 h4))) ∧ (¬ x2 = 0 → (Q 0 h2)))) ∧ (x1 = 0 → (Wd mX9_isIn X 0 [(0, x2), (0, 0), (0, 99999)] [] h2 (fun r6 h7 => ((¬ r6 = 0 → (Wd mX9_both X 0 [(2, 41), (0, 6), (0, x1), (0, x2)] [] h7 (fun r8 h9 => (r8 = 0 ∨ r8 = 1) ∧ Q r8 h9))) ∧ (r6 = 0 → (Q 0 h7))))))))))) : Wd mX9_mark X 0 [(2, 41), (0, x1), (0, x2)] [] h Q := by
  refine s_iload_n 1 1 rfl dX9_mark_0 rfl rfl ?_
  refine s_iconst 2 rfl dX9_mark_1 ⟨by decide, by decide⟩ ?_
  refine s_iconst 3 rfl dX9_mark_2 ⟨by decide, by decide⟩ ?_
  refine s_callS (mj := mX9_isIn) (S := []) 6 [(0, x1), (0, 0), (0, 3)] [(0, x1), (0, 0), (0, 3)] rfl dX9_mark_3 okX9_isIn w834 w835 rfl npX9_isIn (Nat.le_of_ble_eq_true rfl) (by decide) (Nat.le_of_ble_eq_true rfl) rfl (Wd.imp H (fun r1 h2 H => ?_))
  show Wd mX9_mark X 6 [(2, 41), (0, x1), (0, x2)] [(0, r1)] h2 Q
  refine s_if_eq 9 30 rfl dX9_mark_6 (by decide) (fun c11 => ?_) (fun c11 => ?_)
  · replace H := H.1 c11
    refine s_iconst 31 rfl dX9_mark_30 ⟨by decide, by decide⟩ ?_
    exact s_zret (S := []) dX9_mark_31 rfl (Or.inl rfl) H
  · replace H := H.2 c11
    refine s_iload_n 10 1 rfl dX9_mark_9 rfl rfl ?_
    refine s_if_ne 13 26 rfl dX9_mark_10 (by decide) (fun c10 => ?_) (fun c10 => ?_)
    · replace H := H.1 c10
      refine s_iload_n 27 2 rfl dX9_mark_26 rfl rfl ?_
      refine s_if_eq 30 32 rfl dX9_mark_27 (by decide) (fun c4 => ?_) (fun c4 => ?_)
      · replace H := H.1 c4
        refine s_aload_n 33 0 rfl dX9_mark_32 rfl rfl ?_
        refine s_bipush 35 rfl dX9_mark_33 (by decide) ⟨by decide, by decide⟩ ?_
        refine s_iload_n 36 1 rfl dX9_mark_35 rfl rfl ?_
        refine s_iload_n 37 2 rfl dX9_mark_36 rfl rfl ?_
        refine s_callV (mj := mX9_both) (S := []) 40 [(0, 6), (0, x1), (0, x2)] [(2, 41), (0, 6), (0, x1), (0, x2)] 41 rfl dX9_mark_37 okX9_both w857 w859 w11 rfl (by decide) rfl rfl rfl rfl npX9_both (Nat.le_of_ble_eq_true rfl) (by decide) (Nat.le_of_ble_eq_true rfl) rfl (Wd.imp H (fun r3 h4 H => ?_))
        show Wd mX9_mark X 40 [(2, 41), (0, x1), (0, x2)] [(0, r3)] h4 Q
        exact s_zret (S := []) dX9_mark_40 rfl H.1 H.2
      · replace H := H.2 c4
        refine s_iconst 31 rfl dX9_mark_30 ⟨by decide, by decide⟩ ?_
        exact s_zret (S := []) dX9_mark_31 rfl (Or.inl rfl) H
    · replace H := H.2 c10
      refine s_iload_n 14 2 rfl dX9_mark_13 rfl rfl ?_
      refine s_iconst 15 rfl dX9_mark_14 ⟨by decide, by decide⟩ ?_
      refine s_ldc 17 99999 rfl dX9_mark_15 w865 ⟨by decide, by decide⟩ ?_
      refine s_callS (mj := mX9_isIn) (S := []) 20 [(0, x2), (0, 0), (0, 99999)] [(0, x2), (0, 0), (0, 99999)] rfl dX9_mark_17 okX9_isIn w834 w835 rfl npX9_isIn (Nat.le_of_ble_eq_true rfl) (by decide) (Nat.le_of_ble_eq_true rfl) rfl (Wd.imp H (fun r6 h7 H => ?_))
      show Wd mX9_mark X 20 [(2, 41), (0, x1), (0, x2)] [(0, r6)] h7 Q
      refine s_if_ne 23 32 rfl dX9_mark_20 (by decide) (fun c9 => ?_) (fun c9 => ?_)
      · replace H := H.1 c9
        refine s_aload_n 33 0 rfl dX9_mark_32 rfl rfl ?_
        refine s_bipush 35 rfl dX9_mark_33 (by decide) ⟨by decide, by decide⟩ ?_
        refine s_iload_n 36 1 rfl dX9_mark_35 rfl rfl ?_
        refine s_iload_n 37 2 rfl dX9_mark_36 rfl rfl ?_
        refine s_callV (mj := mX9_both) (S := []) 40 [(0, 6), (0, x1), (0, x2)] [(2, 41), (0, 6), (0, x1), (0, x2)] 41 rfl dX9_mark_37 okX9_both w857 w859 w11 rfl (by decide) rfl rfl rfl rfl npX9_both (Nat.le_of_ble_eq_true rfl) (by decide) (Nat.le_of_ble_eq_true rfl) rfl (Wd.imp H (fun r8 h9 H => ?_))
        show Wd mX9_mark X 40 [(2, 41), (0, x1), (0, x2)] [(0, r8)] h9 Q
        exact s_zret (S := []) dX9_mark_40 rfl H.1 H.2
      · replace H := H.2 c9
        refine s_goto 30 dX9_mark_23 (by decide) ?_
        refine s_iconst 31 rfl dX9_mark_30 ⟨by decide, by decide⟩ ?_
        exact s_zret (S := []) dX9_mark_31 rfl (Or.inl rfl) H
theorem vX9_lens_0 {X : Nat × (Int → Int)} {h : HP} {Q : Int → HP → Prop} {x1 x2 : Int} (H : ((¬ x1 = 0 → ((¬ x1 = 1 → ((¬ x1 = 2 → ((¬ x1 = 3 → ((¬ x1 = 4 → (Q (-1) h)) ∧ (x1 = 4 → (Wd mX9_isIn X 0 [(0, x2), (0, 1), (0, 9)] [] h (fun r2 h3 => ((r2 = 0 → (Q (-1) h3)) ∧ (¬ r2 = 0 → ((¬ h3 41 6 = 4 → (0 ≤ h3 41 6 ∧ h3 41 6 < 4 ∧ inI (h3 41 6 + 1) ∧ Q (h3 41 6 + 1) (xu (xu (xu h3 44 (h3 41 6) x1) 45 (h3 41 6) x2) 41 6 (h3 41 6 + 1)))) ∧ (h3 41 6 = 4 → (Q (-1) h3)))))))))) ∧ (x1 = 3 → (Wd mX9_isIn X 0 [(0, x2), (0, 1), (0, 30)] [] h (fun r12 h13 => ((r12 = 0 → (Q (-1) h13)) ∧ (¬ r12 = 0 → ((¬ h13 41 6 = 4 → (0 ≤ h13 41 6 ∧ h13 41 6 < 4 ∧ inI (h13 41 6 + 1) ∧ Q (h13 41 6 + 1) (xu (xu (xu h13 44 (h13 41 6) x1) 45 (h13 41 6) x2) 41 6 (h13 41 6 + 1)))) ∧ (h13 41 6 = 4 → (Q (-1) h13)))))))))) ∧ (x1 = 2 → ((¬ x2 = 0 → (Q (-1) h)) ∧ (x2 = 0 → ((¬ h 41 6 = 4 → (0 ≤ h 41 6 ∧ h 41 6 < 4 ∧ inI (h 41 6 + 1) ∧ Q (h 41 6 + 1) (xu (xu (xu h 44 (h 41 6) x1) 45 (h 41 6) x2) 41 6 (h 41 6 + 1)))) ∧ (h 41 6 = 4 → (Q (-1) h)))))))) ∧ (x1 = 1 → (Wd mX9_isIn X 0 [(0, x2), (0, 0), (0, 9999)] [] h (fun r28 h29 => ((r28 = 0 → (Q (-1) h29)) ∧ (¬ r28 = 0 → ((¬ h29 41 6 = 4 → (0 ≤ h29 41 6 ∧ h29 41 6 < 4 ∧ inI (h29 41 6 + 1) ∧ Q (h29 41 6 + 1) (xu (xu (xu h29 44 (h29 41 6) x1) 45 (h29 41 6) x2) 41 6 (h29 41 6 + 1)))) ∧ (h29 41 6 = 4 → (Q (-1) h29)))))))))) ∧ (x1 = 0 → (Wd mX9_isIn X 0 [(0, x2), (0, 1), (0, 5)] [] h (fun r36 h37 => ((r36 = 0 → (Q (-1) h37)) ∧ (¬ r36 = 0 → ((¬ h37 41 6 = 4 → (0 ≤ h37 41 6 ∧ h37 41 6 < 4 ∧ inI (h37 41 6 + 1) ∧ Q (h37 41 6 + 1) (xu (xu (xu h37 44 (h37 41 6) x1) 45 (h37 41 6) x2) 41 6 (h37 41 6 + 1)))) ∧ (h37 41 6 = 4 → (Q (-1) h37)))))))))) : Wd mX9_lens X 0 [(2, 41), (0, x1), (0, x2), (9, 0)] [] h Q := by
  refine s_iload_n 1 1 rfl dX9_lens_0 rfl rfl ?_
  refine s_if_ne 4 13 rfl dX9_lens_1 (by decide) (fun c42 => ?_) (fun c42 => ?_)
  · replace H := H.1 c42
    refine s_iload_n 14 1 rfl dX9_lens_13 rfl rfl ?_
    refine s_iconst 15 rfl dX9_lens_14 ⟨by decide, by decide⟩ ?_
    refine s_icmp_ne 18 29 rfl dX9_lens_15 (by decide) (fun c34 => ?_) (fun c34 => ?_)
    · replace H := H.1 c34
      refine s_iload_n 30 1 rfl dX9_lens_29 rfl rfl ?_
      refine s_iconst 31 rfl dX9_lens_30 ⟨by decide, by decide⟩ ?_
      refine s_icmp_ne 34 46 rfl dX9_lens_31 (by decide) (fun c26 => ?_) (fun c26 => ?_)
      · replace H := H.1 c26
        refine s_iload_n 47 1 rfl dX9_lens_46 rfl rfl ?_
        refine s_iconst 48 rfl dX9_lens_47 ⟨by decide, by decide⟩ ?_
        refine s_icmp_ne 51 61 rfl dX9_lens_48 (by decide) (fun c18 => ?_) (fun c18 => ?_)
        · replace H := H.1 c18
          refine s_iload_n 62 1 rfl dX9_lens_61 rfl rfl ?_
          refine s_iconst 63 rfl dX9_lens_62 ⟨by decide, by decide⟩ ?_
          refine s_icmp_ne 66 80 rfl dX9_lens_63 (by decide) (fun c10 => ?_) (fun c10 => ?_)
          · replace H := H.1 c10
            refine s_iconst 81 rfl dX9_lens_80 ⟨by decide, by decide⟩ ?_
            refine s_istore_n 82 3 rfl dX9_lens_81 rfl (by decide) (L2 := [(2, 41), (0, x1), (0, x2), (0, 0)]) rfl ?_
            refine s_iload_n 83 3 rfl dX9_lens_82 rfl rfl ?_
            refine s_if_eq 86 94 rfl dX9_lens_83 (by decide) (fun c0 => ?_) (fun c0 => ?_)
            · refine s_iconst 95 rfl dX9_lens_94 ⟨by decide, by decide⟩ ?_
              exact s_iret (S := []) dX9_lens_95 rfl H
            · exact absurd (by decide) c0
          · replace H := H.2 c10
            refine s_iload_n 67 2 rfl dX9_lens_66 rfl rfl ?_
            refine s_iconst 68 rfl dX9_lens_67 ⟨by decide, by decide⟩ ?_
            refine s_bipush 70 rfl dX9_lens_68 (by decide) ⟨by decide, by decide⟩ ?_
            refine s_callS (mj := mX9_isIn) (S := []) 73 [(0, x2), (0, 1), (0, 9)] [(0, x2), (0, 1), (0, 9)] rfl dX9_lens_70 okX9_isIn w834 w835 rfl npX9_isIn (Nat.le_of_ble_eq_true rfl) (by decide) (Nat.le_of_ble_eq_true rfl) rfl (Wd.imp H (fun r2 h3 H => ?_))
            show Wd mX9_lens X 73 [(2, 41), (0, x1), (0, x2), (9, 0)] [(0, r2)] h3 Q
            refine s_if_eq 76 80 rfl dX9_lens_73 (by decide) (fun c9 => ?_) (fun c9 => ?_)
            · replace H := H.1 c9
              refine s_iconst 81 rfl dX9_lens_80 ⟨by decide, by decide⟩ ?_
              refine s_istore_n 82 3 rfl dX9_lens_81 rfl (by decide) (L2 := [(2, 41), (0, x1), (0, x2), (0, 0)]) rfl ?_
              refine s_iload_n 83 3 rfl dX9_lens_82 rfl rfl ?_
              refine s_if_eq 86 94 rfl dX9_lens_83 (by decide) (fun c3 => ?_) (fun c3 => ?_)
              · refine s_iconst 95 rfl dX9_lens_94 ⟨by decide, by decide⟩ ?_
                exact s_iret (S := []) dX9_lens_95 rfl H
              · exact absurd (by decide) c3
            · replace H := H.2 c9
              refine s_iconst 77 rfl dX9_lens_76 ⟨by decide, by decide⟩ ?_
              refine s_goto 81 dX9_lens_77 (by decide) ?_
              refine s_istore_n 82 3 rfl dX9_lens_81 rfl (by decide) (L2 := [(2, 41), (0, x1), (0, x2), (0, 1)]) rfl ?_
              refine s_iload_n 83 3 rfl dX9_lens_82 rfl rfl ?_
              refine s_if_eq 86 94 rfl dX9_lens_83 (by decide) (fun c4 => ?_) (fun c4 => ?_)
              · exact absurd c4 (by decide)
              · refine s_aload_n 87 0 rfl dX9_lens_86 rfl rfl ?_
                refine s_getf 90 41 6 rfl dX9_lens_87 ck9 rfl (by decide) rfl (by decide) w741 rfl (v := (0, h3 41 6)) rfl ?_
                refine s_iconst 91 rfl dX9_lens_90 ⟨by decide, by decide⟩ ?_
                refine s_icmp_ne 94 96 rfl dX9_lens_91 (by decide) (fun c8 => ?_) (fun c8 => ?_)
                · replace H := H.1 c8
                  refine s_aload_n 97 0 rfl dX9_lens_96 rfl rfl ?_
                  refine s_getf 100 41 2 rfl dX9_lens_97 ck9 rfl (by decide) rfl (by decide) w737 rfl (v := (2, 44)) rfl ?_
                  refine s_aload_n 101 0 rfl dX9_lens_100 rfl rfl ?_
                  refine s_getf 104 41 6 rfl dX9_lens_101 ck9 rfl (by decide) rfl (by decide) w741 rfl (v := (0, h3 41 6)) rfl ?_
                  refine s_iload_n 105 1 rfl dX9_lens_104 rfl rfl ?_
                  have c5 := H.1
                  replace H := H.2
                  have c6 := H.1
                  replace H := H.2
                  refine s_iast 106 rfl dX9_lens_105 ia44 c5 c6 ?_
                  refine s_aload_n 107 0 rfl dX9_lens_106 rfl rfl ?_
                  refine s_getf 110 41 3 rfl dX9_lens_107 ck9 rfl (by decide) rfl (by decide) w738 rfl (v := (2, 45)) rfl ?_
                  refine s_aload_n 111 0 rfl dX9_lens_110 rfl rfl ?_
                  refine s_getf 114 41 6 rfl dX9_lens_111 ck9 rfl (by decide) rfl (by decide) w741 rfl (v := (0, h3 41 6)) (by show (0, (xu h3 44 (h3 41 6) x1) 41 6) = _; rw [(xu_k (by decide))]) ?_
                  refine s_iload_n 115 2 rfl dX9_lens_114 rfl rfl ?_
                  refine s_iast 116 rfl dX9_lens_115 ia45 c5 c6 ?_
                  refine s_aload_n 117 0 rfl dX9_lens_116 rfl rfl ?_
                  refine s_dup 118 rfl dX9_lens_117 (by decide : ¬ (2 : Nat) = 1) ?_
                  refine s_getf 121 41 6 rfl dX9_lens_118 ck9 rfl (by decide) rfl (by decide) w741 rfl (v := (0, h3 41 6)) (by show (0, (xu (xu h3 44 (h3 41 6) x1) 45 (h3 41 6) x2) 41 6) = _; rw [((xu_k (by decide)).trans (xu_k (by decide)))]) ?_
                  refine s_iconst 122 rfl dX9_lens_121 ⟨by decide, by decide⟩ ?_
                  have c7 := H.1
                  replace H := H.2
                  refine s_iadd 123 rfl dX9_lens_122 c7 ?_
                  refine s_putI 126 41 6 rfl dX9_lens_123 ck9 rfl (by decide) rfl (by decide) w741 rfl rfl rfl ?_
                  refine s_aload_n 127 0 rfl dX9_lens_126 rfl rfl ?_
                  refine s_getf 130 41 6 rfl dX9_lens_127 ck9 rfl (by decide) rfl (by decide) w741 rfl (v := (0, h3 41 6 + 1)) (by show (0, (xu (xu (xu h3 44 (h3 41 6) x1) 45 (h3 41 6) x2) 41 6 (h3 41 6 + 1)) 41 6) = _; rw [(xu_s _ _ _ _)]) ?_
                  exact s_iret (S := []) dX9_lens_130 rfl H
                · replace H := H.2 c8
                  refine s_iconst 95 rfl dX9_lens_94 ⟨by decide, by decide⟩ ?_
                  exact s_iret (S := []) dX9_lens_95 rfl H
        · replace H := H.2 c18
          refine s_iload_n 52 2 rfl dX9_lens_51 rfl rfl ?_
          refine s_iconst 53 rfl dX9_lens_52 ⟨by decide, by decide⟩ ?_
          refine s_bipush 55 rfl dX9_lens_53 (by decide) ⟨by decide, by decide⟩ ?_
          refine s_callS (mj := mX9_isIn) (S := []) 58 [(0, x2), (0, 1), (0, 30)] [(0, x2), (0, 1), (0, 30)] rfl dX9_lens_55 okX9_isIn w834 w835 rfl npX9_isIn (Nat.le_of_ble_eq_true rfl) (by decide) (Nat.le_of_ble_eq_true rfl) rfl (Wd.imp H (fun r12 h13 H => ?_))
          show Wd mX9_lens X 58 [(2, 41), (0, x1), (0, x2), (9, 0)] [(0, r12)] h13 Q
          refine s_goto 81 dX9_lens_58 (by decide) ?_
          refine s_istore_n 82 3 rfl dX9_lens_81 rfl (by decide) (L2 := [(2, 41), (0, x1), (0, x2), (0, r12)]) rfl ?_
          refine s_iload_n 83 3 rfl dX9_lens_82 rfl rfl ?_
          refine s_if_eq 86 94 rfl dX9_lens_83 (by decide) (fun c17 => ?_) (fun c17 => ?_)
          · replace H := H.1 c17
            refine s_iconst 95 rfl dX9_lens_94 ⟨by decide, by decide⟩ ?_
            exact s_iret (S := []) dX9_lens_95 rfl H
          · replace H := H.2 c17
            refine s_aload_n 87 0 rfl dX9_lens_86 rfl rfl ?_
            refine s_getf 90 41 6 rfl dX9_lens_87 ck9 rfl (by decide) rfl (by decide) w741 rfl (v := (0, h13 41 6)) rfl ?_
            refine s_iconst 91 rfl dX9_lens_90 ⟨by decide, by decide⟩ ?_
            refine s_icmp_ne 94 96 rfl dX9_lens_91 (by decide) (fun c16 => ?_) (fun c16 => ?_)
            · replace H := H.1 c16
              refine s_aload_n 97 0 rfl dX9_lens_96 rfl rfl ?_
              refine s_getf 100 41 2 rfl dX9_lens_97 ck9 rfl (by decide) rfl (by decide) w737 rfl (v := (2, 44)) rfl ?_
              refine s_aload_n 101 0 rfl dX9_lens_100 rfl rfl ?_
              refine s_getf 104 41 6 rfl dX9_lens_101 ck9 rfl (by decide) rfl (by decide) w741 rfl (v := (0, h13 41 6)) rfl ?_
              refine s_iload_n 105 1 rfl dX9_lens_104 rfl rfl ?_
              have c13 := H.1
              replace H := H.2
              have c14 := H.1
              replace H := H.2
              refine s_iast 106 rfl dX9_lens_105 ia44 c13 c14 ?_
              refine s_aload_n 107 0 rfl dX9_lens_106 rfl rfl ?_
              refine s_getf 110 41 3 rfl dX9_lens_107 ck9 rfl (by decide) rfl (by decide) w738 rfl (v := (2, 45)) rfl ?_
              refine s_aload_n 111 0 rfl dX9_lens_110 rfl rfl ?_
              refine s_getf 114 41 6 rfl dX9_lens_111 ck9 rfl (by decide) rfl (by decide) w741 rfl (v := (0, h13 41 6)) (by show (0, (xu h13 44 (h13 41 6) x1) 41 6) = _; rw [(xu_k (by decide))]) ?_
              refine s_iload_n 115 2 rfl dX9_lens_114 rfl rfl ?_
              refine s_iast 116 rfl dX9_lens_115 ia45 c13 c14 ?_
              refine s_aload_n 117 0 rfl dX9_lens_116 rfl rfl ?_
              refine s_dup 118 rfl dX9_lens_117 (by decide : ¬ (2 : Nat) = 1) ?_
              refine s_getf 121 41 6 rfl dX9_lens_118 ck9 rfl (by decide) rfl (by decide) w741 rfl (v := (0, h13 41 6)) (by show (0, (xu (xu h13 44 (h13 41 6) x1) 45 (h13 41 6) x2) 41 6) = _; rw [((xu_k (by decide)).trans (xu_k (by decide)))]) ?_
              refine s_iconst 122 rfl dX9_lens_121 ⟨by decide, by decide⟩ ?_
              have c15 := H.1
              replace H := H.2
              refine s_iadd 123 rfl dX9_lens_122 c15 ?_
              refine s_putI 126 41 6 rfl dX9_lens_123 ck9 rfl (by decide) rfl (by decide) w741 rfl rfl rfl ?_
              refine s_aload_n 127 0 rfl dX9_lens_126 rfl rfl ?_
              refine s_getf 130 41 6 rfl dX9_lens_127 ck9 rfl (by decide) rfl (by decide) w741 rfl (v := (0, h13 41 6 + 1)) (by show (0, (xu (xu (xu h13 44 (h13 41 6) x1) 45 (h13 41 6) x2) 41 6 (h13 41 6 + 1)) 41 6) = _; rw [(xu_s _ _ _ _)]) ?_
              exact s_iret (S := []) dX9_lens_130 rfl H
            · replace H := H.2 c16
              refine s_iconst 95 rfl dX9_lens_94 ⟨by decide, by decide⟩ ?_
              exact s_iret (S := []) dX9_lens_95 rfl H
      · replace H := H.2 c26
        refine s_iload_n 35 2 rfl dX9_lens_34 rfl rfl ?_
        refine s_if_ne 38 42 rfl dX9_lens_35 (by decide) (fun c25 => ?_) (fun c25 => ?_)
        · replace H := H.1 c25
          refine s_iconst 43 rfl dX9_lens_42 ⟨by decide, by decide⟩ ?_
          refine s_goto 81 dX9_lens_43 (by decide) ?_
          refine s_istore_n 82 3 rfl dX9_lens_81 rfl (by decide) (L2 := [(2, 41), (0, x1), (0, x2), (0, 0)]) rfl ?_
          refine s_iload_n 83 3 rfl dX9_lens_82 rfl rfl ?_
          refine s_if_eq 86 94 rfl dX9_lens_83 (by decide) (fun c19 => ?_) (fun c19 => ?_)
          · refine s_iconst 95 rfl dX9_lens_94 ⟨by decide, by decide⟩ ?_
            exact s_iret (S := []) dX9_lens_95 rfl H
          · exact absurd (by decide) c19
        · replace H := H.2 c25
          refine s_iconst 39 rfl dX9_lens_38 ⟨by decide, by decide⟩ ?_
          refine s_goto 81 dX9_lens_39 (by decide) ?_
          refine s_istore_n 82 3 rfl dX9_lens_81 rfl (by decide) (L2 := [(2, 41), (0, x1), (0, x2), (0, 1)]) rfl ?_
          refine s_iload_n 83 3 rfl dX9_lens_82 rfl rfl ?_
          refine s_if_eq 86 94 rfl dX9_lens_83 (by decide) (fun c20 => ?_) (fun c20 => ?_)
          · exact absurd c20 (by decide)
          · refine s_aload_n 87 0 rfl dX9_lens_86 rfl rfl ?_
            refine s_getf 90 41 6 rfl dX9_lens_87 ck9 rfl (by decide) rfl (by decide) w741 rfl (v := (0, h 41 6)) rfl ?_
            refine s_iconst 91 rfl dX9_lens_90 ⟨by decide, by decide⟩ ?_
            refine s_icmp_ne 94 96 rfl dX9_lens_91 (by decide) (fun c24 => ?_) (fun c24 => ?_)
            · replace H := H.1 c24
              refine s_aload_n 97 0 rfl dX9_lens_96 rfl rfl ?_
              refine s_getf 100 41 2 rfl dX9_lens_97 ck9 rfl (by decide) rfl (by decide) w737 rfl (v := (2, 44)) rfl ?_
              refine s_aload_n 101 0 rfl dX9_lens_100 rfl rfl ?_
              refine s_getf 104 41 6 rfl dX9_lens_101 ck9 rfl (by decide) rfl (by decide) w741 rfl (v := (0, h 41 6)) rfl ?_
              refine s_iload_n 105 1 rfl dX9_lens_104 rfl rfl ?_
              have c21 := H.1
              replace H := H.2
              have c22 := H.1
              replace H := H.2
              refine s_iast 106 rfl dX9_lens_105 ia44 c21 c22 ?_
              refine s_aload_n 107 0 rfl dX9_lens_106 rfl rfl ?_
              refine s_getf 110 41 3 rfl dX9_lens_107 ck9 rfl (by decide) rfl (by decide) w738 rfl (v := (2, 45)) rfl ?_
              refine s_aload_n 111 0 rfl dX9_lens_110 rfl rfl ?_
              refine s_getf 114 41 6 rfl dX9_lens_111 ck9 rfl (by decide) rfl (by decide) w741 rfl (v := (0, h 41 6)) (by show (0, (xu h 44 (h 41 6) x1) 41 6) = _; rw [(xu_k (by decide))]) ?_
              refine s_iload_n 115 2 rfl dX9_lens_114 rfl rfl ?_
              refine s_iast 116 rfl dX9_lens_115 ia45 c21 c22 ?_
              refine s_aload_n 117 0 rfl dX9_lens_116 rfl rfl ?_
              refine s_dup 118 rfl dX9_lens_117 (by decide : ¬ (2 : Nat) = 1) ?_
              refine s_getf 121 41 6 rfl dX9_lens_118 ck9 rfl (by decide) rfl (by decide) w741 rfl (v := (0, h 41 6)) (by show (0, (xu (xu h 44 (h 41 6) x1) 45 (h 41 6) x2) 41 6) = _; rw [((xu_k (by decide)).trans (xu_k (by decide)))]) ?_
              refine s_iconst 122 rfl dX9_lens_121 ⟨by decide, by decide⟩ ?_
              have c23 := H.1
              replace H := H.2
              refine s_iadd 123 rfl dX9_lens_122 c23 ?_
              refine s_putI 126 41 6 rfl dX9_lens_123 ck9 rfl (by decide) rfl (by decide) w741 rfl rfl rfl ?_
              refine s_aload_n 127 0 rfl dX9_lens_126 rfl rfl ?_
              refine s_getf 130 41 6 rfl dX9_lens_127 ck9 rfl (by decide) rfl (by decide) w741 rfl (v := (0, h 41 6 + 1)) (by show (0, (xu (xu (xu h 44 (h 41 6) x1) 45 (h 41 6) x2) 41 6 (h 41 6 + 1)) 41 6) = _; rw [(xu_s _ _ _ _)]) ?_
              exact s_iret (S := []) dX9_lens_130 rfl H
            · replace H := H.2 c24
              refine s_iconst 95 rfl dX9_lens_94 ⟨by decide, by decide⟩ ?_
              exact s_iret (S := []) dX9_lens_95 rfl H
    · replace H := H.2 c34
      refine s_iload_n 19 2 rfl dX9_lens_18 rfl rfl ?_
      refine s_iconst 20 rfl dX9_lens_19 ⟨by decide, by decide⟩ ?_
      refine s_sipush 23 rfl dX9_lens_20 (by decide) ⟨by decide, by decide⟩ ?_
      refine s_callS (mj := mX9_isIn) (S := []) 26 [(0, x2), (0, 0), (0, 9999)] [(0, x2), (0, 0), (0, 9999)] rfl dX9_lens_23 okX9_isIn w834 w835 rfl npX9_isIn (Nat.le_of_ble_eq_true rfl) (by decide) (Nat.le_of_ble_eq_true rfl) rfl (Wd.imp H (fun r28 h29 H => ?_))
      show Wd mX9_lens X 26 [(2, 41), (0, x1), (0, x2), (9, 0)] [(0, r28)] h29 Q
      refine s_goto 81 dX9_lens_26 (by decide) ?_
      refine s_istore_n 82 3 rfl dX9_lens_81 rfl (by decide) (L2 := [(2, 41), (0, x1), (0, x2), (0, r28)]) rfl ?_
      refine s_iload_n 83 3 rfl dX9_lens_82 rfl rfl ?_
      refine s_if_eq 86 94 rfl dX9_lens_83 (by decide) (fun c33 => ?_) (fun c33 => ?_)
      · replace H := H.1 c33
        refine s_iconst 95 rfl dX9_lens_94 ⟨by decide, by decide⟩ ?_
        exact s_iret (S := []) dX9_lens_95 rfl H
      · replace H := H.2 c33
        refine s_aload_n 87 0 rfl dX9_lens_86 rfl rfl ?_
        refine s_getf 90 41 6 rfl dX9_lens_87 ck9 rfl (by decide) rfl (by decide) w741 rfl (v := (0, h29 41 6)) rfl ?_
        refine s_iconst 91 rfl dX9_lens_90 ⟨by decide, by decide⟩ ?_
        refine s_icmp_ne 94 96 rfl dX9_lens_91 (by decide) (fun c32 => ?_) (fun c32 => ?_)
        · replace H := H.1 c32
          refine s_aload_n 97 0 rfl dX9_lens_96 rfl rfl ?_
          refine s_getf 100 41 2 rfl dX9_lens_97 ck9 rfl (by decide) rfl (by decide) w737 rfl (v := (2, 44)) rfl ?_
          refine s_aload_n 101 0 rfl dX9_lens_100 rfl rfl ?_
          refine s_getf 104 41 6 rfl dX9_lens_101 ck9 rfl (by decide) rfl (by decide) w741 rfl (v := (0, h29 41 6)) rfl ?_
          refine s_iload_n 105 1 rfl dX9_lens_104 rfl rfl ?_
          have c29 := H.1
          replace H := H.2
          have c30 := H.1
          replace H := H.2
          refine s_iast 106 rfl dX9_lens_105 ia44 c29 c30 ?_
          refine s_aload_n 107 0 rfl dX9_lens_106 rfl rfl ?_
          refine s_getf 110 41 3 rfl dX9_lens_107 ck9 rfl (by decide) rfl (by decide) w738 rfl (v := (2, 45)) rfl ?_
          refine s_aload_n 111 0 rfl dX9_lens_110 rfl rfl ?_
          refine s_getf 114 41 6 rfl dX9_lens_111 ck9 rfl (by decide) rfl (by decide) w741 rfl (v := (0, h29 41 6)) (by show (0, (xu h29 44 (h29 41 6) x1) 41 6) = _; rw [(xu_k (by decide))]) ?_
          refine s_iload_n 115 2 rfl dX9_lens_114 rfl rfl ?_
          refine s_iast 116 rfl dX9_lens_115 ia45 c29 c30 ?_
          refine s_aload_n 117 0 rfl dX9_lens_116 rfl rfl ?_
          refine s_dup 118 rfl dX9_lens_117 (by decide : ¬ (2 : Nat) = 1) ?_
          refine s_getf 121 41 6 rfl dX9_lens_118 ck9 rfl (by decide) rfl (by decide) w741 rfl (v := (0, h29 41 6)) (by show (0, (xu (xu h29 44 (h29 41 6) x1) 45 (h29 41 6) x2) 41 6) = _; rw [((xu_k (by decide)).trans (xu_k (by decide)))]) ?_
          refine s_iconst 122 rfl dX9_lens_121 ⟨by decide, by decide⟩ ?_
          have c31 := H.1
          replace H := H.2
          refine s_iadd 123 rfl dX9_lens_122 c31 ?_
          refine s_putI 126 41 6 rfl dX9_lens_123 ck9 rfl (by decide) rfl (by decide) w741 rfl rfl rfl ?_
          refine s_aload_n 127 0 rfl dX9_lens_126 rfl rfl ?_
          refine s_getf 130 41 6 rfl dX9_lens_127 ck9 rfl (by decide) rfl (by decide) w741 rfl (v := (0, h29 41 6 + 1)) (by show (0, (xu (xu (xu h29 44 (h29 41 6) x1) 45 (h29 41 6) x2) 41 6 (h29 41 6 + 1)) 41 6) = _; rw [(xu_s _ _ _ _)]) ?_
          exact s_iret (S := []) dX9_lens_130 rfl H
        · replace H := H.2 c32
          refine s_iconst 95 rfl dX9_lens_94 ⟨by decide, by decide⟩ ?_
          exact s_iret (S := []) dX9_lens_95 rfl H
  · replace H := H.2 c42
    refine s_iload_n 5 2 rfl dX9_lens_4 rfl rfl ?_
    refine s_iconst 6 rfl dX9_lens_5 ⟨by decide, by decide⟩ ?_
    refine s_iconst 7 rfl dX9_lens_6 ⟨by decide, by decide⟩ ?_
    refine s_callS (mj := mX9_isIn) (S := []) 10 [(0, x2), (0, 1), (0, 5)] [(0, x2), (0, 1), (0, 5)] rfl dX9_lens_7 okX9_isIn w834 w835 rfl npX9_isIn (Nat.le_of_ble_eq_true rfl) (by decide) (Nat.le_of_ble_eq_true rfl) rfl (Wd.imp H (fun r36 h37 H => ?_))
    show Wd mX9_lens X 10 [(2, 41), (0, x1), (0, x2), (9, 0)] [(0, r36)] h37 Q
    refine s_goto 81 dX9_lens_10 (by decide) ?_
    refine s_istore_n 82 3 rfl dX9_lens_81 rfl (by decide) (L2 := [(2, 41), (0, x1), (0, x2), (0, r36)]) rfl ?_
    refine s_iload_n 83 3 rfl dX9_lens_82 rfl rfl ?_
    refine s_if_eq 86 94 rfl dX9_lens_83 (by decide) (fun c41 => ?_) (fun c41 => ?_)
    · replace H := H.1 c41
      refine s_iconst 95 rfl dX9_lens_94 ⟨by decide, by decide⟩ ?_
      exact s_iret (S := []) dX9_lens_95 rfl H
    · replace H := H.2 c41
      refine s_aload_n 87 0 rfl dX9_lens_86 rfl rfl ?_
      refine s_getf 90 41 6 rfl dX9_lens_87 ck9 rfl (by decide) rfl (by decide) w741 rfl (v := (0, h37 41 6)) rfl ?_
      refine s_iconst 91 rfl dX9_lens_90 ⟨by decide, by decide⟩ ?_
      refine s_icmp_ne 94 96 rfl dX9_lens_91 (by decide) (fun c40 => ?_) (fun c40 => ?_)
      · replace H := H.1 c40
        refine s_aload_n 97 0 rfl dX9_lens_96 rfl rfl ?_
        refine s_getf 100 41 2 rfl dX9_lens_97 ck9 rfl (by decide) rfl (by decide) w737 rfl (v := (2, 44)) rfl ?_
        refine s_aload_n 101 0 rfl dX9_lens_100 rfl rfl ?_
        refine s_getf 104 41 6 rfl dX9_lens_101 ck9 rfl (by decide) rfl (by decide) w741 rfl (v := (0, h37 41 6)) rfl ?_
        refine s_iload_n 105 1 rfl dX9_lens_104 rfl rfl ?_
        have c37 := H.1
        replace H := H.2
        have c38 := H.1
        replace H := H.2
        refine s_iast 106 rfl dX9_lens_105 ia44 c37 c38 ?_
        refine s_aload_n 107 0 rfl dX9_lens_106 rfl rfl ?_
        refine s_getf 110 41 3 rfl dX9_lens_107 ck9 rfl (by decide) rfl (by decide) w738 rfl (v := (2, 45)) rfl ?_
        refine s_aload_n 111 0 rfl dX9_lens_110 rfl rfl ?_
        refine s_getf 114 41 6 rfl dX9_lens_111 ck9 rfl (by decide) rfl (by decide) w741 rfl (v := (0, h37 41 6)) (by show (0, (xu h37 44 (h37 41 6) x1) 41 6) = _; rw [(xu_k (by decide))]) ?_
        refine s_iload_n 115 2 rfl dX9_lens_114 rfl rfl ?_
        refine s_iast 116 rfl dX9_lens_115 ia45 c37 c38 ?_
        refine s_aload_n 117 0 rfl dX9_lens_116 rfl rfl ?_
        refine s_dup 118 rfl dX9_lens_117 (by decide : ¬ (2 : Nat) = 1) ?_
        refine s_getf 121 41 6 rfl dX9_lens_118 ck9 rfl (by decide) rfl (by decide) w741 rfl (v := (0, h37 41 6)) (by show (0, (xu (xu h37 44 (h37 41 6) x1) 45 (h37 41 6) x2) 41 6) = _; rw [((xu_k (by decide)).trans (xu_k (by decide)))]) ?_
        refine s_iconst 122 rfl dX9_lens_121 ⟨by decide, by decide⟩ ?_
        have c39 := H.1
        replace H := H.2
        refine s_iadd 123 rfl dX9_lens_122 c39 ?_
        refine s_putI 126 41 6 rfl dX9_lens_123 ck9 rfl (by decide) rfl (by decide) w741 rfl rfl rfl ?_
        refine s_aload_n 127 0 rfl dX9_lens_126 rfl rfl ?_
        refine s_getf 130 41 6 rfl dX9_lens_127 ck9 rfl (by decide) rfl (by decide) w741 rfl (v := (0, h37 41 6 + 1)) (by show (0, (xu (xu (xu h37 44 (h37 41 6) x1) 45 (h37 41 6) x2) 41 6 (h37 41 6 + 1)) 41 6) = _; rw [(xu_s _ _ _ _)]) ?_
        exact s_iret (S := []) dX9_lens_130 rfl H
      · replace H := H.2 c40
        refine s_iconst 95 rfl dX9_lens_94 ⟨by decide, by decide⟩ ?_
        exact s_iret (S := []) dX9_lens_95 rfl H
theorem vX9_off_0 {X : Nat × (Int → Int)} {h : HP} {Q : Int → HP → Prop} (H : ((¬ h 41 6 = 0 → (inI (h 41 6 - 1) ∧ Q (h 41 6 - 1) (xu h 41 6 (h 41 6 - 1)))) ∧ (h 41 6 = 0 → (Q (-1) h)))) : Wd mX9_off X 0 [(2, 41)] [] h Q := by
  refine s_aload_n 1 0 rfl dX9_off_0 rfl rfl ?_
  refine s_getf 4 41 6 rfl dX9_off_1 ck9 rfl (by decide) rfl (by decide) w741 rfl (v := (0, h 41 6)) rfl ?_
  refine s_if_ne 7 9 rfl dX9_off_4 (by decide) (fun c1 => ?_) (fun c1 => ?_)
  · replace H := H.1 c1
    refine s_aload_n 10 0 rfl dX9_off_9 rfl rfl ?_
    refine s_dup 11 rfl dX9_off_10 (by decide : ¬ (2 : Nat) = 1) ?_
    refine s_getf 14 41 6 rfl dX9_off_11 ck9 rfl (by decide) rfl (by decide) w741 rfl (v := (0, h 41 6)) rfl ?_
    refine s_iconst 15 rfl dX9_off_14 ⟨by decide, by decide⟩ ?_
    have c0 := H.1
    replace H := H.2
    refine s_isub 16 rfl dX9_off_15 c0 ?_
    refine s_putI 19 41 6 rfl dX9_off_16 ck9 rfl (by decide) rfl (by decide) w741 rfl rfl rfl ?_
    refine s_aload_n 20 0 rfl dX9_off_19 rfl rfl ?_
    refine s_getf 23 41 6 rfl dX9_off_20 ck9 rfl (by decide) rfl (by decide) w741 rfl (v := (0, h 41 6 - 1)) (by show (0, (xu h 41 6 (h 41 6 - 1)) 41 6) = _; rw [(xu_s _ _ _ _)]) ?_
    exact s_iret (S := []) dX9_off_23 rfl H
  · replace H := H.2 c1
    refine s_iconst 8 rfl dX9_off_7 ⟨by decide, by decide⟩ ?_
    exact s_iret (S := []) dX9_off_8 rfl H
theorem vX9_laysStretches_0 {X : Nat × (Int → Int)} {h : HP} {Q : Int → HP → Prop} (H : Wd mX9_laysStretches X 7 [(2, 41), (0, 0), (9, 0), (9, 0), (9, 0)] [] (xu h 41 13 0) Q) : Wd mX9_laysStretches X 0 [(2, 41), (9, 0), (9, 0), (9, 0), (9, 0)] [] h Q := by
  refine s_aload_n 1 0 rfl dX9_laysStretches_0 rfl rfl ?_
  refine s_iconst 2 rfl dX9_laysStretches_1 ⟨by decide, by decide⟩ ?_
  refine s_putI 5 41 13 rfl dX9_laysStretches_2 ck9 rfl (by decide) rfl (by decide) w748 rfl rfl rfl ?_
  refine s_iconst 6 rfl dX9_laysStretches_5 ⟨by decide, by decide⟩ ?_
  refine s_istore_n 7 1 rfl dX9_laysStretches_6 rfl (by decide) (L2 := [(2, 41), (0, 0), (9, 0), (9, 0), (9, 0)]) rfl ?_
  exact H
theorem vX9_laysStretches_7 {X : Nat × (Int → Int)} {h : HP} {Q : Int → HP → Prop} {x1 : Int} (H : ((h 41 5 ≤ x1 → (Wd mX9_laysStretches X 35 [(2, 41), (0, 0), (9, 0), (9, 0), (9, 0)] [] h Q)) ∧ (¬ (h 41 5 ≤ x1) → (0 ≤ x1 ∧ x1 < 600 ∧ inI (x1 + 1) ∧ Wd mX9_laysStretches X 7 [(2, 41), (0, x1 + 1), (9, 0), (9, 0), (9, 0)] [] (xu h 47 x1 (h 42 x1)) Q)))) : Wd mX9_laysStretches X 7 [(2, 41), (0, x1), (9, 0), (9, 0), (9, 0)] [] h Q := by
  refine s_iload_n 8 1 rfl dX9_laysStretches_7 rfl rfl ?_
  refine s_aload_n 9 0 rfl dX9_laysStretches_8 rfl rfl ?_
  refine s_getf 12 41 5 rfl dX9_laysStretches_9 ck9 rfl (by decide) rfl (by decide) w740 rfl (v := (0, h 41 5)) rfl ?_
  refine s_icmp_ge 15 33 rfl dX9_laysStretches_12 (by decide) (fun c3 => ?_) (fun c3 => ?_)
  · replace H := H.1 c3
    refine s_iconst 34 rfl dX9_laysStretches_33 ⟨by decide, by decide⟩ ?_
    refine s_istore_n 35 1 rfl dX9_laysStretches_34 rfl (by decide) (L2 := [(2, 41), (0, 0), (9, 0), (9, 0), (9, 0)]) rfl ?_
    exact H
  · replace H := H.2 c3
    refine s_aload_n 16 0 rfl dX9_laysStretches_15 rfl rfl ?_
    refine s_getf 19 41 7 rfl dX9_laysStretches_16 ck9 rfl (by decide) rfl (by decide) w742 rfl (v := (2, 47)) rfl ?_
    refine s_iload_n 20 1 rfl dX9_laysStretches_19 rfl rfl ?_
    refine s_aload_n 21 0 rfl dX9_laysStretches_20 rfl rfl ?_
    refine s_getf 24 41 0 rfl dX9_laysStretches_21 ck9 rfl (by decide) rfl (by decide) w735 rfl (v := (2, 42)) rfl ?_
    refine s_iload_n 25 1 rfl dX9_laysStretches_24 rfl rfl ?_
    have c0 := H.1
    replace H := H.2
    have c1 := H.1
    replace H := H.2
    refine s_iald 26 rfl dX9_laysStretches_25 ia42 c0 c1 (v9 := h 42 x1) rfl ?_
    refine s_iast 27 rfl dX9_laysStretches_26 ia47 c0 c1 ?_
    have c2 := H.1
    replace H := H.2
    refine s_iinc 30 1 rfl dX9_laysStretches_27 (by decide) (z := x1) rfl (L2 := [(2, 41), (0, x1 + 1), (9, 0), (9, 0), (9, 0)]) rfl c2 ?_
    refine s_goto 7 dX9_laysStretches_30 (by decide) ?_
    exact H
theorem vX9_laysStretches_35 {X : Nat × (Int → Int)} {h : HP} {Q : Int → HP → Prop} {x1 : Int} (H : ((h 41 5 ≤ x1 → (Wd mX9_laysStretches X 219 [(2, 41), (0, 0), (9, 0), (9, 0), (9, 0)] [] (xu h 41 12 0) Q)) ∧ (¬ (h 41 5 ≤ x1) → (0 ≤ x1 ∧ x1 < 600 ∧ ((¬ h 42 x1 = (-32768) → (inI (x1 + 1) ∧ Wd mX9_laysStretches X 35 [(2, 41), (0, x1 + 1), (9, 0), (9, 0), (9, 0)] [] h Q)) ∧ (h 42 x1 = (-32768) → ((x1 ≤ 0 → (Wd mX9_laysStretches X 78 [(2, 41), (0, x1), (0, x1), (9, 0), (9, 0)] [] h Q)) ∧ (¬ (x1 ≤ 0) → (inI (x1 - 1) ∧ 0 ≤ x1 - 1 ∧ x1 - 1 < 600 ∧ ((¬ h 42 (x1 - 1) = (-32768) → (Wd mX9_laysStretches X 78 [(2, 41), (0, x1), (0, x1), (9, 0), (9, 0)] [] h Q)) ∧ (h 42 (x1 - 1) = (-32768) → (inI (x1 + 1) ∧ Wd mX9_laysStretches X 35 [(2, 41), (0, x1 + 1), (9, 0), (9, 0), (9, 0)] [] h Q)))))))))))) : Wd mX9_laysStretches X 35 [(2, 41), (0, x1), (9, 0), (9, 0), (9, 0)] [] h Q := by
  refine s_iload_n 36 1 rfl dX9_laysStretches_35 rfl rfl ?_
  refine s_aload_n 37 0 rfl dX9_laysStretches_36 rfl rfl ?_
  refine s_getf 40 41 5 rfl dX9_laysStretches_37 ck9 rfl (by decide) rfl (by decide) w740 rfl (v := (0, h 41 5)) rfl ?_
  refine s_icmp_ge 43 212 rfl dX9_laysStretches_40 (by decide) (fun c10 => ?_) (fun c10 => ?_)
  · replace H := H.1 c10
    refine s_aload_n 213 0 rfl dX9_laysStretches_212 rfl rfl ?_
    refine s_iconst 214 rfl dX9_laysStretches_213 ⟨by decide, by decide⟩ ?_
    refine s_putI 217 41 12 rfl dX9_laysStretches_214 ck9 rfl (by decide) rfl (by decide) w747 rfl rfl rfl ?_
    refine s_iconst 218 rfl dX9_laysStretches_217 ⟨by decide, by decide⟩ ?_
    refine s_istore_n 219 1 rfl dX9_laysStretches_218 rfl (by decide) (L2 := [(2, 41), (0, 0), (9, 0), (9, 0), (9, 0)]) rfl ?_
    exact H
  · replace H := H.2 c10
    refine s_aload_n 44 0 rfl dX9_laysStretches_43 rfl rfl ?_
    refine s_getf 47 41 0 rfl dX9_laysStretches_44 ck9 rfl (by decide) rfl (by decide) w735 rfl (v := (2, 42)) rfl ?_
    refine s_iload_n 48 1 rfl dX9_laysStretches_47 rfl rfl ?_
    have c0 := H.1
    replace H := H.2
    have c1 := H.1
    replace H := H.2
    refine s_iald 49 rfl dX9_laysStretches_48 ia42 c0 c1 (v9 := h 42 x1) rfl ?_
    refine s_sipush 52 rfl dX9_laysStretches_49 (by decide) ⟨by decide, by decide⟩ ?_
    refine s_icmp_ne 55 206 rfl dX9_laysStretches_52 (by decide) (fun c9 => ?_) (fun c9 => ?_)
    · replace H := H.1 c9
      have c2 := H.1
      replace H := H.2
      refine s_iinc 209 1 rfl dX9_laysStretches_206 (by decide) (z := x1) rfl (L2 := [(2, 41), (0, x1 + 1), (9, 0), (9, 0), (9, 0)]) rfl c2 ?_
      refine s_goto 35 dX9_laysStretches_209 (by decide) ?_
      exact H
    · replace H := H.2 c9
      refine s_iload_n 56 1 rfl dX9_laysStretches_55 rfl rfl ?_
      refine s_if_le 59 76 rfl dX9_laysStretches_56 (by decide) (fun c8 => ?_) (fun c8 => ?_)
      · replace H := H.1 c8
        refine s_iload_n 77 1 rfl dX9_laysStretches_76 rfl rfl ?_
        refine s_istore_n 78 2 rfl dX9_laysStretches_77 rfl (by decide) (L2 := [(2, 41), (0, x1), (0, x1), (9, 0), (9, 0)]) rfl ?_
        exact H
      · replace H := H.2 c8
        refine s_aload_n 60 0 rfl dX9_laysStretches_59 rfl rfl ?_
        refine s_getf 63 41 0 rfl dX9_laysStretches_60 ck9 rfl (by decide) rfl (by decide) w735 rfl (v := (2, 42)) rfl ?_
        refine s_iload_n 64 1 rfl dX9_laysStretches_63 rfl rfl ?_
        refine s_iconst 65 rfl dX9_laysStretches_64 ⟨by decide, by decide⟩ ?_
        have c3 := H.1
        replace H := H.2
        refine s_isub 66 rfl dX9_laysStretches_65 c3 ?_
        have c4 := H.1
        replace H := H.2
        have c5 := H.1
        replace H := H.2
        refine s_iald 67 rfl dX9_laysStretches_66 ia42 c4 c5 (v9 := h 42 (x1 - 1)) rfl ?_
        refine s_sipush 70 rfl dX9_laysStretches_67 (by decide) ⟨by decide, by decide⟩ ?_
        refine s_icmp_ne 73 76 rfl dX9_laysStretches_70 (by decide) (fun c7 => ?_) (fun c7 => ?_)
        · replace H := H.1 c7
          refine s_iload_n 77 1 rfl dX9_laysStretches_76 rfl rfl ?_
          refine s_istore_n 78 2 rfl dX9_laysStretches_77 rfl (by decide) (L2 := [(2, 41), (0, x1), (0, x1), (9, 0), (9, 0)]) rfl ?_
          exact H
        · replace H := H.2 c7
          refine s_goto 206 dX9_laysStretches_73 (by decide) ?_
          have c6 := H.1
          replace H := H.2
          refine s_iinc 209 1 rfl dX9_laysStretches_206 (by decide) (z := x1) rfl (L2 := [(2, 41), (0, x1 + 1), (9, 0), (9, 0), (9, 0)]) rfl c6 ?_
          refine s_goto 35 dX9_laysStretches_209 (by decide) ?_
          exact H
theorem vX9_laysStretches_219 {X : Nat × (Int → Int)} {h : HP} {Q : Int → HP → Prop} {x1 : Int} (H : ((h 41 5 ≤ x1 → (Q 0 h)) ∧ (¬ (h 41 5 ≤ x1) → (0 ≤ x1 ∧ x1 < 600 ∧ ((¬ h 47 x1 = (-32768) → ((x1 = 0 → (0 ≤ h 41 12 ∧ h 41 12 < 601 ∧ inI (h 41 12 + 1) ∧ inI (h 41 12 + 1 - 1) ∧ inI (x1 + 1) ∧ Wd mX9_laysStretches X 219 [(2, 41), (0, x1 + 1), (9, 0), (9, 0), (9, 0)] [] (xu (xu (xu (xu h 48 x1 (-1)) 49 (h 41 12) x1) 41 12 (h 41 12 + 1)) 48 x1 (h 41 12 + 1 - 1)) Q)) ∧ (¬ x1 = 0 → (inI (x1 - 1) ∧ 0 ≤ x1 - 1 ∧ x1 - 1 < 600 ∧ ((¬ h 47 (x1 - 1) = (-32768) → (inI (h 41 12 - 1) ∧ inI (x1 + 1) ∧ Wd mX9_laysStretches X 219 [(2, 41), (0, x1 + 1), (9, 0), (9, 0), (9, 0)] [] (xu (xu h 48 x1 (-1)) 48 x1 (h 41 12 - 1)) Q)) ∧ (h 47 (x1 - 1) = (-32768) → (0 ≤ h 41 12 ∧ h 41 12 < 601 ∧ inI (h 41 12 + 1) ∧ inI (h 41 12 + 1 - 1) ∧ inI (x1 + 1) ∧ Wd mX9_laysStretches X 219 [(2, 41), (0, x1 + 1), (9, 0), (9, 0), (9, 0)] [] (xu (xu (xu (xu h 48 x1 (-1)) 49 (h 41 12) x1) 41 12 (h 41 12 + 1)) 48 x1 (h 41 12 + 1 - 1)) Q))))))) ∧ (h 47 x1 = (-32768) → (inI (x1 + 1) ∧ Wd mX9_laysStretches X 219 [(2, 41), (0, x1 + 1), (9, 0), (9, 0), (9, 0)] [] (xu h 48 x1 (-1)) Q))))))) : Wd mX9_laysStretches X 219 [(2, 41), (0, x1), (9, 0), (9, 0), (9, 0)] [] h Q := by
  refine s_iload_n 220 1 rfl dX9_laysStretches_219 rfl rfl ?_
  refine s_aload_n 221 0 rfl dX9_laysStretches_220 rfl rfl ?_
  refine s_getf 224 41 5 rfl dX9_laysStretches_221 ck9 rfl (by decide) rfl (by decide) w740 rfl (v := (0, h 41 5)) rfl ?_
  refine s_icmp_ge 227 305 rfl dX9_laysStretches_224 (by decide) (fun c21 => ?_) (fun c21 => ?_)
  · replace H := H.1 c21
    exact s_vret (S := []) dX9_laysStretches_305 rfl H
  · replace H := H.2 c21
    refine s_aload_n 228 0 rfl dX9_laysStretches_227 rfl rfl ?_
    refine s_getf 231 41 8 rfl dX9_laysStretches_228 ck9 rfl (by decide) rfl (by decide) w743 rfl (v := (2, 48)) rfl ?_
    refine s_iload_n 232 1 rfl dX9_laysStretches_231 rfl rfl ?_
    refine s_iconst 233 rfl dX9_laysStretches_232 ⟨by decide, by decide⟩ ?_
    have c0 := H.1
    replace H := H.2
    have c1 := H.1
    replace H := H.2
    refine s_iast 234 rfl dX9_laysStretches_233 ia48 c0 c1 ?_
    refine s_aload_n 235 0 rfl dX9_laysStretches_234 rfl rfl ?_
    refine s_getf 238 41 7 rfl dX9_laysStretches_235 ck9 rfl (by decide) rfl (by decide) w742 rfl (v := (2, 47)) rfl ?_
    refine s_iload_n 239 1 rfl dX9_laysStretches_238 rfl rfl ?_
    refine s_iald 240 rfl dX9_laysStretches_239 ia47 c0 c1 (v9 := h 47 x1) (xu_k (by decide)) ?_
    refine s_sipush 243 rfl dX9_laysStretches_240 (by decide) ⟨by decide, by decide⟩ ?_
    refine s_icmp_ne 246 249 rfl dX9_laysStretches_243 (by decide) (fun c20 => ?_) (fun c20 => ?_)
    · replace H := H.1 c20
      refine s_iload_n 250 1 rfl dX9_laysStretches_249 rfl rfl ?_
      refine s_if_eq 253 267 rfl dX9_laysStretches_250 (by decide) (fun c18 => ?_) (fun c18 => ?_)
      · replace H := H.1 c18
        refine s_aload_n 268 0 rfl dX9_laysStretches_267 rfl rfl ?_
        refine s_getf 271 41 9 rfl dX9_laysStretches_268 ck9 rfl (by decide) rfl (by decide) w744 rfl (v := (2, 49)) rfl ?_
        refine s_aload_n 272 0 rfl dX9_laysStretches_271 rfl rfl ?_
        refine s_getf 275 41 12 rfl dX9_laysStretches_272 ck9 rfl (by decide) rfl (by decide) w747 rfl (v := (0, h 41 12)) (by show (0, (xu h 48 x1 (-1)) 41 12) = _; rw [(xu_k (by decide))]) ?_
        refine s_iload_n 276 1 rfl dX9_laysStretches_275 rfl rfl ?_
        have c2 := H.1
        replace H := H.2
        have c3 := H.1
        replace H := H.2
        refine s_iast 277 rfl dX9_laysStretches_276 ia49 c2 c3 ?_
        refine s_aload_n 278 0 rfl dX9_laysStretches_277 rfl rfl ?_
        refine s_dup 279 rfl dX9_laysStretches_278 (by decide : ¬ (2 : Nat) = 1) ?_
        refine s_getf 282 41 12 rfl dX9_laysStretches_279 ck9 rfl (by decide) rfl (by decide) w747 rfl (v := (0, h 41 12)) (by show (0, (xu (xu h 48 x1 (-1)) 49 (h 41 12) x1) 41 12) = _; rw [((xu_k (by decide)).trans (xu_k (by decide)))]) ?_
        refine s_iconst 283 rfl dX9_laysStretches_282 ⟨by decide, by decide⟩ ?_
        have c4 := H.1
        replace H := H.2
        refine s_iadd 284 rfl dX9_laysStretches_283 c4 ?_
        refine s_putI 287 41 12 rfl dX9_laysStretches_284 ck9 rfl (by decide) rfl (by decide) w747 rfl rfl rfl ?_
        refine s_aload_n 288 0 rfl dX9_laysStretches_287 rfl rfl ?_
        refine s_getf 291 41 8 rfl dX9_laysStretches_288 ck9 rfl (by decide) rfl (by decide) w743 rfl (v := (2, 48)) rfl ?_
        refine s_iload_n 292 1 rfl dX9_laysStretches_291 rfl rfl ?_
        refine s_aload_n 293 0 rfl dX9_laysStretches_292 rfl rfl ?_
        refine s_getf 296 41 12 rfl dX9_laysStretches_293 ck9 rfl (by decide) rfl (by decide) w747 rfl (v := (0, h 41 12 + 1)) (by show (0, (xu (xu (xu h 48 x1 (-1)) 49 (h 41 12) x1) 41 12 (h 41 12 + 1)) 41 12) = _; rw [(xu_s _ _ _ _)]) ?_
        refine s_iconst 297 rfl dX9_laysStretches_296 ⟨by decide, by decide⟩ ?_
        have c5 := H.1
        replace H := H.2
        refine s_isub 298 rfl dX9_laysStretches_297 c5 ?_
        refine s_iast 299 rfl dX9_laysStretches_298 ia48 c0 c1 ?_
        have c6 := H.1
        replace H := H.2
        refine s_iinc 302 1 rfl dX9_laysStretches_299 (by decide) (z := x1) rfl (L2 := [(2, 41), (0, x1 + 1), (9, 0), (9, 0), (9, 0)]) rfl c6 ?_
        refine s_goto 219 dX9_laysStretches_302 (by decide) ?_
        exact H
      · replace H := H.2 c18
        refine s_aload_n 254 0 rfl dX9_laysStretches_253 rfl rfl ?_
        refine s_getf 257 41 7 rfl dX9_laysStretches_254 ck9 rfl (by decide) rfl (by decide) w742 rfl (v := (2, 47)) rfl ?_
        refine s_iload_n 258 1 rfl dX9_laysStretches_257 rfl rfl ?_
        refine s_iconst 259 rfl dX9_laysStretches_258 ⟨by decide, by decide⟩ ?_
        have c7 := H.1
        replace H := H.2
        refine s_isub 260 rfl dX9_laysStretches_259 c7 ?_
        have c8 := H.1
        replace H := H.2
        have c9 := H.1
        replace H := H.2
        refine s_iald 261 rfl dX9_laysStretches_260 ia47 c8 c9 (v9 := h 47 (x1 - 1)) (xu_k (by decide)) ?_
        refine s_sipush 264 rfl dX9_laysStretches_261 (by decide) ⟨by decide, by decide⟩ ?_
        refine s_icmp_ne 267 287 rfl dX9_laysStretches_264 (by decide) (fun c17 => ?_) (fun c17 => ?_)
        · replace H := H.1 c17
          refine s_aload_n 288 0 rfl dX9_laysStretches_287 rfl rfl ?_
          refine s_getf 291 41 8 rfl dX9_laysStretches_288 ck9 rfl (by decide) rfl (by decide) w743 rfl (v := (2, 48)) rfl ?_
          refine s_iload_n 292 1 rfl dX9_laysStretches_291 rfl rfl ?_
          refine s_aload_n 293 0 rfl dX9_laysStretches_292 rfl rfl ?_
          refine s_getf 296 41 12 rfl dX9_laysStretches_293 ck9 rfl (by decide) rfl (by decide) w747 rfl (v := (0, h 41 12)) (by show (0, (xu h 48 x1 (-1)) 41 12) = _; rw [(xu_k (by decide))]) ?_
          refine s_iconst 297 rfl dX9_laysStretches_296 ⟨by decide, by decide⟩ ?_
          have c10 := H.1
          replace H := H.2
          refine s_isub 298 rfl dX9_laysStretches_297 c10 ?_
          refine s_iast 299 rfl dX9_laysStretches_298 ia48 c0 c1 ?_
          have c11 := H.1
          replace H := H.2
          refine s_iinc 302 1 rfl dX9_laysStretches_299 (by decide) (z := x1) rfl (L2 := [(2, 41), (0, x1 + 1), (9, 0), (9, 0), (9, 0)]) rfl c11 ?_
          refine s_goto 219 dX9_laysStretches_302 (by decide) ?_
          exact H
        · replace H := H.2 c17
          refine s_aload_n 268 0 rfl dX9_laysStretches_267 rfl rfl ?_
          refine s_getf 271 41 9 rfl dX9_laysStretches_268 ck9 rfl (by decide) rfl (by decide) w744 rfl (v := (2, 49)) rfl ?_
          refine s_aload_n 272 0 rfl dX9_laysStretches_271 rfl rfl ?_
          refine s_getf 275 41 12 rfl dX9_laysStretches_272 ck9 rfl (by decide) rfl (by decide) w747 rfl (v := (0, h 41 12)) (by show (0, (xu h 48 x1 (-1)) 41 12) = _; rw [(xu_k (by decide))]) ?_
          refine s_iload_n 276 1 rfl dX9_laysStretches_275 rfl rfl ?_
          have c12 := H.1
          replace H := H.2
          have c13 := H.1
          replace H := H.2
          refine s_iast 277 rfl dX9_laysStretches_276 ia49 c12 c13 ?_
          refine s_aload_n 278 0 rfl dX9_laysStretches_277 rfl rfl ?_
          refine s_dup 279 rfl dX9_laysStretches_278 (by decide : ¬ (2 : Nat) = 1) ?_
          refine s_getf 282 41 12 rfl dX9_laysStretches_279 ck9 rfl (by decide) rfl (by decide) w747 rfl (v := (0, h 41 12)) (by show (0, (xu (xu h 48 x1 (-1)) 49 (h 41 12) x1) 41 12) = _; rw [((xu_k (by decide)).trans (xu_k (by decide)))]) ?_
          refine s_iconst 283 rfl dX9_laysStretches_282 ⟨by decide, by decide⟩ ?_
          have c14 := H.1
          replace H := H.2
          refine s_iadd 284 rfl dX9_laysStretches_283 c14 ?_
          refine s_putI 287 41 12 rfl dX9_laysStretches_284 ck9 rfl (by decide) rfl (by decide) w747 rfl rfl rfl ?_
          refine s_aload_n 288 0 rfl dX9_laysStretches_287 rfl rfl ?_
          refine s_getf 291 41 8 rfl dX9_laysStretches_288 ck9 rfl (by decide) rfl (by decide) w743 rfl (v := (2, 48)) rfl ?_
          refine s_iload_n 292 1 rfl dX9_laysStretches_291 rfl rfl ?_
          refine s_aload_n 293 0 rfl dX9_laysStretches_292 rfl rfl ?_
          refine s_getf 296 41 12 rfl dX9_laysStretches_293 ck9 rfl (by decide) rfl (by decide) w747 rfl (v := (0, h 41 12 + 1)) (by show (0, (xu (xu (xu h 48 x1 (-1)) 49 (h 41 12) x1) 41 12 (h 41 12 + 1)) 41 12) = _; rw [(xu_s _ _ _ _)]) ?_
          refine s_iconst 297 rfl dX9_laysStretches_296 ⟨by decide, by decide⟩ ?_
          have c15 := H.1
          replace H := H.2
          refine s_isub 298 rfl dX9_laysStretches_297 c15 ?_
          refine s_iast 299 rfl dX9_laysStretches_298 ia48 c0 c1 ?_
          have c16 := H.1
          replace H := H.2
          refine s_iinc 302 1 rfl dX9_laysStretches_299 (by decide) (z := x1) rfl (L2 := [(2, 41), (0, x1 + 1), (9, 0), (9, 0), (9, 0)]) rfl c16 ?_
          refine s_goto 219 dX9_laysStretches_302 (by decide) ?_
          exact H
    · replace H := H.2 c20
      refine s_goto 299 dX9_laysStretches_246 (by decide) ?_
      have c19 := H.1
      replace H := H.2
      refine s_iinc 302 1 rfl dX9_laysStretches_299 (by decide) (z := x1) rfl (L2 := [(2, 41), (0, x1 + 1), (9, 0), (9, 0), (9, 0)]) rfl c19 ?_
      refine s_goto 219 dX9_laysStretches_302 (by decide) ?_
      exact H
theorem vX9_laysStretches_78 {X : Nat × (Int → Int)} {h : HP} {Q : Int → HP → Prop} {x1 x2 : Int} (H : ((h 41 5 ≤ x2 → (inI (x2 - x1) ∧ ((x1 = 0 → (inI (x1 + 1) ∧ Wd mX9_laysStretches X 35 [(2, 41), (0, x1 + 1), (9, 0), (9, 0), (9, 0)] [] h Q)) ∧ (¬ x1 = 0 → ((x2 = h 41 5 → (inI (x1 + 1) ∧ Wd mX9_laysStretches X 35 [(2, 41), (0, x1 + 1), (9, 0), (9, 0), (9, 0)] [] h Q)) ∧ (¬ x2 = h 41 5 → (((x2 - x1) ≤ h 43 0 → (Wd mX9_laysStretches X 136 [(2, 41), (0, x1), (0, x2), (0, x2 - x1), (0, 1)] [] h Q)) ∧ (¬ ((x2 - x1) ≤ h 43 0) → (inI (x1 + 1) ∧ Wd mX9_laysStretches X 35 [(2, 41), (0, x1 + 1), (9, 0), (9, 0), (9, 0)] [] h Q))))))))) ∧ (¬ (h 41 5 ≤ x2) → (0 ≤ x2 ∧ x2 < 600 ∧ ((¬ h 42 x2 = (-32768) → (inI (x2 - x1) ∧ ((x1 = 0 → (inI (x1 + 1) ∧ Wd mX9_laysStretches X 35 [(2, 41), (0, x1 + 1), (9, 0), (9, 0), (9, 0)] [] h Q)) ∧ (¬ x1 = 0 → ((x2 = h 41 5 → (inI (x1 + 1) ∧ Wd mX9_laysStretches X 35 [(2, 41), (0, x1 + 1), (9, 0), (9, 0), (9, 0)] [] h Q)) ∧ (¬ x2 = h 41 5 → (((x2 - x1) ≤ h 43 0 → (Wd mX9_laysStretches X 136 [(2, 41), (0, x1), (0, x2), (0, x2 - x1), (0, 1)] [] h Q)) ∧ (¬ ((x2 - x1) ≤ h 43 0) → (inI (x1 + 1) ∧ Wd mX9_laysStretches X 35 [(2, 41), (0, x1 + 1), (9, 0), (9, 0), (9, 0)] [] h Q))))))))) ∧ (h 42 x2 = (-32768) → (inI (x2 + 1) ∧ Wd mX9_laysStretches X 78 [(2, 41), (0, x1), (0, x2 + 1), (9, 0), (9, 0)] [] h Q))))))) : Wd mX9_laysStretches X 78 [(2, 41), (0, x1), (0, x2), (9, 0), (9, 0)] [] h Q := by
  refine s_iload_n 79 2 rfl dX9_laysStretches_78 rfl rfl ?_
  refine s_aload_n 80 0 rfl dX9_laysStretches_79 rfl rfl ?_
  refine s_getf 83 41 5 rfl dX9_laysStretches_80 ck9 rfl (by decide) rfl (by decide) w740 rfl (v := (0, h 41 5)) rfl ?_
  refine s_icmp_ge 86 104 rfl dX9_laysStretches_83 (by decide) (fun c18 => ?_) (fun c18 => ?_)
  · replace H := H.1 c18
    refine s_iload_n 105 2 rfl dX9_laysStretches_104 rfl rfl ?_
    refine s_iload_n 106 1 rfl dX9_laysStretches_105 rfl rfl ?_
    have c0 := H.1
    replace H := H.2
    refine s_isub 107 rfl dX9_laysStretches_106 c0 ?_
    refine s_istore_n 108 3 rfl dX9_laysStretches_107 rfl (by decide) (L2 := [(2, 41), (0, x1), (0, x2), (0, x2 - x1), (9, 0)]) rfl ?_
    refine s_iload_n 109 1 rfl dX9_laysStretches_108 rfl rfl ?_
    refine s_if_eq 112 206 rfl dX9_laysStretches_109 (by decide) (fun c6 => ?_) (fun c6 => ?_)
    · replace H := H.1 c6
      have c1 := H.1
      replace H := H.2
      refine s_iinc 209 1 rfl dX9_laysStretches_206 (by decide) (z := x1) rfl (L2 := [(2, 41), (0, x1 + 1), (0, x2), (0, x2 - x1), (9, 0)]) rfl c1 ?_
      refine s_goto 35 dX9_laysStretches_209 (by decide) ?_
      exact s_less [(2, 41), (0, x1 + 1), (9, 0), (9, 0), (9, 0)] ⟨Or.inr rfl, Or.inr rfl, Or.inl rfl, Or.inl rfl, Or.inl rfl, trivial⟩ H
    · replace H := H.2 c6
      refine s_iload_n 113 2 rfl dX9_laysStretches_112 rfl rfl ?_
      refine s_aload_n 114 0 rfl dX9_laysStretches_113 rfl rfl ?_
      refine s_getf 117 41 5 rfl dX9_laysStretches_114 ck9 rfl (by decide) rfl (by decide) w740 rfl (v := (0, h 41 5)) rfl ?_
      refine s_icmp_eq 120 206 rfl dX9_laysStretches_117 (by decide) (fun c5 => ?_) (fun c5 => ?_)
      · replace H := H.1 c5
        have c2 := H.1
        replace H := H.2
        refine s_iinc 209 1 rfl dX9_laysStretches_206 (by decide) (z := x1) rfl (L2 := [(2, 41), (0, x1 + 1), (0, x2), (0, x2 - x1), (9, 0)]) rfl c2 ?_
        refine s_goto 35 dX9_laysStretches_209 (by decide) ?_
        exact s_less [(2, 41), (0, x1 + 1), (9, 0), (9, 0), (9, 0)] ⟨Or.inr rfl, Or.inr rfl, Or.inl rfl, Or.inl rfl, Or.inl rfl, trivial⟩ H
      · replace H := H.2 c5
        refine s_iload_n 121 3 rfl dX9_laysStretches_120 rfl rfl ?_
        refine s_aload_n 122 0 rfl dX9_laysStretches_121 rfl rfl ?_
        refine s_getf 125 41 1 rfl dX9_laysStretches_122 ck9 rfl (by decide) rfl (by decide) w736 rfl (v := (2, 43)) rfl ?_
        refine s_iconst 126 rfl dX9_laysStretches_125 ⟨by decide, by decide⟩ ?_
        refine s_iald 127 rfl dX9_laysStretches_126 ia43 (by decide) (by decide) (v9 := h 43 0) rfl ?_
        refine s_icmp_le 130 133 rfl dX9_laysStretches_127 (by decide) (fun c4 => ?_) (fun c4 => ?_)
        · replace H := H.1 c4
          refine s_iconst 134 rfl dX9_laysStretches_133 ⟨by decide, by decide⟩ ?_
          refine s_istore 136 4 rfl dX9_laysStretches_134 (by decide) (L2 := [(2, 41), (0, x1), (0, x2), (0, x2 - x1), (0, 1)]) rfl ?_
          exact H
        · replace H := H.2 c4
          refine s_goto 206 dX9_laysStretches_130 (by decide) ?_
          have c3 := H.1
          replace H := H.2
          refine s_iinc 209 1 rfl dX9_laysStretches_206 (by decide) (z := x1) rfl (L2 := [(2, 41), (0, x1 + 1), (0, x2), (0, x2 - x1), (9, 0)]) rfl c3 ?_
          refine s_goto 35 dX9_laysStretches_209 (by decide) ?_
          exact s_less [(2, 41), (0, x1 + 1), (9, 0), (9, 0), (9, 0)] ⟨Or.inr rfl, Or.inr rfl, Or.inl rfl, Or.inl rfl, Or.inl rfl, trivial⟩ H
  · replace H := H.2 c18
    refine s_aload_n 87 0 rfl dX9_laysStretches_86 rfl rfl ?_
    refine s_getf 90 41 0 rfl dX9_laysStretches_87 ck9 rfl (by decide) rfl (by decide) w735 rfl (v := (2, 42)) rfl ?_
    refine s_iload_n 91 2 rfl dX9_laysStretches_90 rfl rfl ?_
    have c7 := H.1
    replace H := H.2
    have c8 := H.1
    replace H := H.2
    refine s_iald 92 rfl dX9_laysStretches_91 ia42 c7 c8 (v9 := h 42 x2) rfl ?_
    refine s_sipush 95 rfl dX9_laysStretches_92 (by decide) ⟨by decide, by decide⟩ ?_
    refine s_icmp_ne 98 104 rfl dX9_laysStretches_95 (by decide) (fun c17 => ?_) (fun c17 => ?_)
    · replace H := H.1 c17
      refine s_iload_n 105 2 rfl dX9_laysStretches_104 rfl rfl ?_
      refine s_iload_n 106 1 rfl dX9_laysStretches_105 rfl rfl ?_
      have c9 := H.1
      replace H := H.2
      refine s_isub 107 rfl dX9_laysStretches_106 c9 ?_
      refine s_istore_n 108 3 rfl dX9_laysStretches_107 rfl (by decide) (L2 := [(2, 41), (0, x1), (0, x2), (0, x2 - x1), (9, 0)]) rfl ?_
      refine s_iload_n 109 1 rfl dX9_laysStretches_108 rfl rfl ?_
      refine s_if_eq 112 206 rfl dX9_laysStretches_109 (by decide) (fun c15 => ?_) (fun c15 => ?_)
      · replace H := H.1 c15
        have c10 := H.1
        replace H := H.2
        refine s_iinc 209 1 rfl dX9_laysStretches_206 (by decide) (z := x1) rfl (L2 := [(2, 41), (0, x1 + 1), (0, x2), (0, x2 - x1), (9, 0)]) rfl c10 ?_
        refine s_goto 35 dX9_laysStretches_209 (by decide) ?_
        exact s_less [(2, 41), (0, x1 + 1), (9, 0), (9, 0), (9, 0)] ⟨Or.inr rfl, Or.inr rfl, Or.inl rfl, Or.inl rfl, Or.inl rfl, trivial⟩ H
      · replace H := H.2 c15
        refine s_iload_n 113 2 rfl dX9_laysStretches_112 rfl rfl ?_
        refine s_aload_n 114 0 rfl dX9_laysStretches_113 rfl rfl ?_
        refine s_getf 117 41 5 rfl dX9_laysStretches_114 ck9 rfl (by decide) rfl (by decide) w740 rfl (v := (0, h 41 5)) rfl ?_
        refine s_icmp_eq 120 206 rfl dX9_laysStretches_117 (by decide) (fun c14 => ?_) (fun c14 => ?_)
        · replace H := H.1 c14
          have c11 := H.1
          replace H := H.2
          refine s_iinc 209 1 rfl dX9_laysStretches_206 (by decide) (z := x1) rfl (L2 := [(2, 41), (0, x1 + 1), (0, x2), (0, x2 - x1), (9, 0)]) rfl c11 ?_
          refine s_goto 35 dX9_laysStretches_209 (by decide) ?_
          exact s_less [(2, 41), (0, x1 + 1), (9, 0), (9, 0), (9, 0)] ⟨Or.inr rfl, Or.inr rfl, Or.inl rfl, Or.inl rfl, Or.inl rfl, trivial⟩ H
        · replace H := H.2 c14
          refine s_iload_n 121 3 rfl dX9_laysStretches_120 rfl rfl ?_
          refine s_aload_n 122 0 rfl dX9_laysStretches_121 rfl rfl ?_
          refine s_getf 125 41 1 rfl dX9_laysStretches_122 ck9 rfl (by decide) rfl (by decide) w736 rfl (v := (2, 43)) rfl ?_
          refine s_iconst 126 rfl dX9_laysStretches_125 ⟨by decide, by decide⟩ ?_
          refine s_iald 127 rfl dX9_laysStretches_126 ia43 (by decide) (by decide) (v9 := h 43 0) rfl ?_
          refine s_icmp_le 130 133 rfl dX9_laysStretches_127 (by decide) (fun c13 => ?_) (fun c13 => ?_)
          · replace H := H.1 c13
            refine s_iconst 134 rfl dX9_laysStretches_133 ⟨by decide, by decide⟩ ?_
            refine s_istore 136 4 rfl dX9_laysStretches_134 (by decide) (L2 := [(2, 41), (0, x1), (0, x2), (0, x2 - x1), (0, 1)]) rfl ?_
            exact H
          · replace H := H.2 c13
            refine s_goto 206 dX9_laysStretches_130 (by decide) ?_
            have c12 := H.1
            replace H := H.2
            refine s_iinc 209 1 rfl dX9_laysStretches_206 (by decide) (z := x1) rfl (L2 := [(2, 41), (0, x1 + 1), (0, x2), (0, x2 - x1), (9, 0)]) rfl c12 ?_
            refine s_goto 35 dX9_laysStretches_209 (by decide) ?_
            exact s_less [(2, 41), (0, x1 + 1), (9, 0), (9, 0), (9, 0)] ⟨Or.inr rfl, Or.inr rfl, Or.inl rfl, Or.inl rfl, Or.inl rfl, trivial⟩ H
    · replace H := H.2 c17
      have c16 := H.1
      replace H := H.2
      refine s_iinc 101 2 rfl dX9_laysStretches_98 (by decide) (z := x2) rfl (L2 := [(2, 41), (0, x1), (0, x2 + 1), (9, 0), (9, 0)]) rfl c16 ?_
      refine s_goto 78 dX9_laysStretches_101 (by decide) ?_
      exact H
theorem vX9_laysStretches_136 {X : Nat × (Int → Int)} {h : HP} {Q : Int → HP → Prop} {x1 x2 x3 x4 : Int} (H : ((x3 < x4 → (inI (h 41 13 + x3) ∧ inI (x1 + 1) ∧ Wd mX9_laysStretches X 35 [(2, 41), (0, x1 + 1), (9, 0), (9, 0), (9, 0)] [] (xu h 41 13 (h 41 13 + x3)) Q)) ∧ (¬ (x3 < x4) → (inI (x1 + x4) ∧ inI (x1 + x4 - 1) ∧ inI (x1 - 1) ∧ 0 ≤ x1 - 1 ∧ x1 - 1 < 600 ∧ inI (x3 + 1) ∧ inI (x3 + 1 - x4) ∧ inJ (h 42 (x1 - 1) * (x3 + 1 - x4)) ∧ 0 ≤ x2 ∧ x2 < 600 ∧ inJ (h 42 x2 * x4) ∧ inJ (h 42 (x1 - 1) * (x3 + 1 - x4) + h 42 x2 * x4) ∧ Wd mX9_down X 0 [(1, h 42 (x1 - 1) * (x3 + 1 - x4) + h 42 x2 * x4), (9, 0), (1, x3 + 1), (9, 0), (9, 0), (9, 0)] [] h (fun r15 h16 => inI r15 ∧ 0 ≤ x1 + x4 - 1 ∧ x1 + x4 - 1 < 600 ∧ inI (x4 + 1) ∧ Wd mX9_laysStretches X 136 [(2, 41), (0, x1), (0, x2), (0, x3), (0, x4 + 1)] [] (xu h16 47 (x1 + x4 - 1) r15) Q))))) : Wd mX9_laysStretches X 136 [(2, 41), (0, x1), (0, x2), (0, x3), (0, x4)] [] h Q := by
  refine s_iload 138 4 rfl dX9_laysStretches_136 rfl ?_
  refine s_iload_n 139 3 rfl dX9_laysStretches_138 rfl rfl ?_
  refine s_icmp_gt 142 196 rfl dX9_laysStretches_139 (by decide) (fun c20 => ?_) (fun c20 => ?_)
  · replace H := H.1 c20
    refine s_aload_n 197 0 rfl dX9_laysStretches_196 rfl rfl ?_
    refine s_dup 198 rfl dX9_laysStretches_197 (by decide : ¬ (2 : Nat) = 1) ?_
    refine s_getf 201 41 13 rfl dX9_laysStretches_198 ck9 rfl (by decide) rfl (by decide) w748 rfl (v := (0, h 41 13)) rfl ?_
    refine s_iload_n 202 3 rfl dX9_laysStretches_201 rfl rfl ?_
    have c0 := H.1
    replace H := H.2
    refine s_iadd 203 rfl dX9_laysStretches_202 c0 ?_
    refine s_putI 206 41 13 rfl dX9_laysStretches_203 ck9 rfl (by decide) rfl (by decide) w748 rfl rfl rfl ?_
    have c1 := H.1
    replace H := H.2
    refine s_iinc 209 1 rfl dX9_laysStretches_206 (by decide) (z := x1) rfl (L2 := [(2, 41), (0, x1 + 1), (0, x2), (0, x3), (0, x4)]) rfl c1 ?_
    refine s_goto 35 dX9_laysStretches_209 (by decide) ?_
    exact s_less [(2, 41), (0, x1 + 1), (9, 0), (9, 0), (9, 0)] ⟨Or.inr rfl, Or.inr rfl, Or.inl rfl, Or.inl rfl, Or.inl rfl, trivial⟩ H
  · replace H := H.2 c20
    refine s_aload_n 143 0 rfl dX9_laysStretches_142 rfl rfl ?_
    refine s_getf 146 41 7 rfl dX9_laysStretches_143 ck9 rfl (by decide) rfl (by decide) w742 rfl (v := (2, 47)) rfl ?_
    refine s_iload_n 147 1 rfl dX9_laysStretches_146 rfl rfl ?_
    refine s_iload 149 4 rfl dX9_laysStretches_147 rfl ?_
    have c2 := H.1
    replace H := H.2
    refine s_iadd 150 rfl dX9_laysStretches_149 c2 ?_
    refine s_iconst 151 rfl dX9_laysStretches_150 ⟨by decide, by decide⟩ ?_
    have c3 := H.1
    replace H := H.2
    refine s_isub 152 rfl dX9_laysStretches_151 c3 ?_
    refine s_aload_n 153 0 rfl dX9_laysStretches_152 rfl rfl ?_
    refine s_getf 156 41 0 rfl dX9_laysStretches_153 ck9 rfl (by decide) rfl (by decide) w735 rfl (v := (2, 42)) rfl ?_
    refine s_iload_n 157 1 rfl dX9_laysStretches_156 rfl rfl ?_
    refine s_iconst 158 rfl dX9_laysStretches_157 ⟨by decide, by decide⟩ ?_
    have c4 := H.1
    replace H := H.2
    refine s_isub 159 rfl dX9_laysStretches_158 c4 ?_
    have c5 := H.1
    replace H := H.2
    have c6 := H.1
    replace H := H.2
    refine s_iald 160 rfl dX9_laysStretches_159 ia42 c5 c6 (v9 := h 42 (x1 - 1)) rfl ?_
    refine s_i2l 161 rfl dX9_laysStretches_160 ?_
    refine s_iload_n 162 3 rfl dX9_laysStretches_161 rfl rfl ?_
    refine s_iconst 163 rfl dX9_laysStretches_162 ⟨by decide, by decide⟩ ?_
    have c7 := H.1
    replace H := H.2
    refine s_iadd 164 rfl dX9_laysStretches_163 c7 ?_
    refine s_iload 166 4 rfl dX9_laysStretches_164 rfl ?_
    have c8 := H.1
    replace H := H.2
    refine s_isub 167 rfl dX9_laysStretches_166 c8 ?_
    refine s_i2l 168 rfl dX9_laysStretches_167 ?_
    have c9 := H.1
    replace H := H.2
    refine s_lmul 169 rfl dX9_laysStretches_168 c9 ?_
    refine s_aload_n 170 0 rfl dX9_laysStretches_169 rfl rfl ?_
    refine s_getf 173 41 0 rfl dX9_laysStretches_170 ck9 rfl (by decide) rfl (by decide) w735 rfl (v := (2, 42)) rfl ?_
    refine s_iload_n 174 2 rfl dX9_laysStretches_173 rfl rfl ?_
    have c10 := H.1
    replace H := H.2
    have c11 := H.1
    replace H := H.2
    refine s_iald 175 rfl dX9_laysStretches_174 ia42 c10 c11 (v9 := h 42 x2) rfl ?_
    refine s_i2l 176 rfl dX9_laysStretches_175 ?_
    refine s_iload 178 4 rfl dX9_laysStretches_176 rfl ?_
    refine s_i2l 179 rfl dX9_laysStretches_178 ?_
    have c12 := H.1
    replace H := H.2
    refine s_lmul 180 rfl dX9_laysStretches_179 c12 ?_
    have c13 := H.1
    replace H := H.2
    refine s_ladd 181 rfl dX9_laysStretches_180 c13 ?_
    refine s_iload_n 182 3 rfl dX9_laysStretches_181 rfl rfl ?_
    refine s_iconst 183 rfl dX9_laysStretches_182 ⟨by decide, by decide⟩ ?_
    refine s_iadd 184 rfl dX9_laysStretches_183 c7 ?_
    refine s_i2l 185 rfl dX9_laysStretches_184 ?_
    refine s_callS (mj := mX9_down) (S := [(0, x1 + x4 - 1), (2, 47)]) 188 [(1, h 42 (x1 - 1) * (x3 + 1 - x4) + h 42 x2 * x4), (1, x3 + 1)] [(1, h 42 (x1 - 1) * (x3 + 1 - x4) + h 42 x2 * x4), (9, 0), (1, x3 + 1), (9, 0), (9, 0), (9, 0)] rfl dX9_laysStretches_185 okX9_down w890 w891 rfl npX9_down (Nat.le_of_ble_eq_true rfl) (by decide) (Nat.le_of_ble_eq_true rfl) rfl (Wd.imp H (fun r15 h16 H => ?_))
    show Wd mX9_laysStretches X 188 [(2, 41), (0, x1), (0, x2), (0, x3), (0, x4)] [(1, r15), (0, x1 + x4 - 1), (2, 47)] h16 Q
    have c16 := H.1
    replace H := H.2
    refine s_l2i 189 rfl dX9_laysStretches_188 c16 ?_
    have c17 := H.1
    replace H := H.2
    have c18 := H.1
    replace H := H.2
    refine s_iast 190 rfl dX9_laysStretches_189 ia47 c17 c18 ?_
    have c19 := H.1
    replace H := H.2
    refine s_iinc 193 4 rfl dX9_laysStretches_190 (by decide) (z := x4) rfl (L2 := [(2, 41), (0, x1), (0, x2), (0, x3), (0, x4 + 1)]) rfl c19 ?_
    refine s_goto 136 dX9_laysStretches_193 (by decide) ?_
    exact H
theorem vX9_endOf_0 {X : Nat × (Int → Int)} {h : HP} {Q : Int → HP → Prop} {x1 : Int} (H : 0 ≤ x1 ∧ x1 < 601 ∧ Wd mX9_endOf X 7 [(2, 41), (9, 0), (0, h 49 x1)] [] h Q) : Wd mX9_endOf X 0 [(2, 41), (0, x1), (9, 0)] [] h Q := by
  refine s_aload_n 1 0 rfl dX9_endOf_0 rfl rfl ?_
  refine s_getf 4 41 9 rfl dX9_endOf_1 ck9 rfl (by decide) rfl (by decide) w744 rfl (v := (2, 49)) rfl ?_
  refine s_iload_n 5 1 rfl dX9_endOf_4 rfl rfl ?_
  have c0 := H.1
  replace H := H.2
  have c1 := H.1
  replace H := H.2
  refine s_iald 6 rfl dX9_endOf_5 ia49 c0 c1 (v9 := h 49 x1) rfl ?_
  refine s_istore_n 7 2 rfl dX9_endOf_6 rfl (by decide) (L2 := [(2, 41), (0, x1), (0, h 49 x1)]) rfl ?_
  exact s_less [(2, 41), (9, 0), (0, h 49 x1)] ⟨Or.inr rfl, Or.inl rfl, Or.inr rfl, trivial⟩ H
theorem vX9_endOf_7 {X : Nat × (Int → Int)} {h : HP} {Q : Int → HP → Prop} {x2 : Int} (H : ((h 41 5 ≤ x2 → (Q x2 h)) ∧ (¬ (h 41 5 ≤ x2) → (0 ≤ x2 ∧ x2 < 600 ∧ ((h 47 x2 = (-32768) → (Q x2 h)) ∧ (¬ h 47 x2 = (-32768) → (inI (x2 + 1) ∧ Wd mX9_endOf X 7 [(2, 41), (9, 0), (0, x2 + 1)] [] h Q))))))) : Wd mX9_endOf X 7 [(2, 41), (9, 0), (0, x2)] [] h Q := by
  refine s_iload_n 8 2 rfl dX9_endOf_7 rfl rfl ?_
  refine s_aload_n 9 0 rfl dX9_endOf_8 rfl rfl ?_
  refine s_getf 12 41 5 rfl dX9_endOf_9 ck9 rfl (by decide) rfl (by decide) w740 rfl (v := (0, h 41 5)) rfl ?_
  refine s_icmp_ge 15 33 rfl dX9_endOf_12 (by decide) (fun c4 => ?_) (fun c4 => ?_)
  · replace H := H.1 c4
    refine s_iload_n 34 2 rfl dX9_endOf_33 rfl rfl ?_
    exact s_iret (S := []) dX9_endOf_34 rfl H
  · replace H := H.2 c4
    refine s_aload_n 16 0 rfl dX9_endOf_15 rfl rfl ?_
    refine s_getf 19 41 7 rfl dX9_endOf_16 ck9 rfl (by decide) rfl (by decide) w742 rfl (v := (2, 47)) rfl ?_
    refine s_iload_n 20 2 rfl dX9_endOf_19 rfl rfl ?_
    have c0 := H.1
    replace H := H.2
    have c1 := H.1
    replace H := H.2
    refine s_iald 21 rfl dX9_endOf_20 ia47 c0 c1 (v9 := h 47 x2) rfl ?_
    refine s_sipush 24 rfl dX9_endOf_21 (by decide) ⟨by decide, by decide⟩ ?_
    refine s_icmp_eq 27 33 rfl dX9_endOf_24 (by decide) (fun c3 => ?_) (fun c3 => ?_)
    · replace H := H.1 c3
      refine s_iload_n 34 2 rfl dX9_endOf_33 rfl rfl ?_
      exact s_iret (S := []) dX9_endOf_34 rfl H
    · replace H := H.2 c3
      have c2 := H.1
      replace H := H.2
      refine s_iinc 30 2 rfl dX9_endOf_27 (by decide) (z := x2) rfl (L2 := [(2, 41), (9, 0), (0, x2 + 1)]) rfl c2 ?_
      refine s_goto 7 dX9_endOf_30 (by decide) ?_
      exact H
theorem vX9_mean_0 {X : Nat × (Int → Int)} {h : HP} {Q : Int → HP → Prop} {x1 x2 : Int} (H : inI (x1 - x2) ∧ Wd mX9_mean X 10 [(2, 41), (0, x1), (0, x2), (1, 0), (9, 0), (0, 0), (0, x1 - x2)] [] h Q) : Wd mX9_mean X 0 [(2, 41), (0, x1), (0, x2), (9, 0), (9, 0), (9, 0), (9, 0)] [] h Q := by
  refine s_lconst 1 0 rfl dX9_mean_0 (by decide) ⟨by decide, by decide⟩ ?_
  refine s_lstore_n 2 3 rfl dX9_mean_1 rfl (by decide) (L2 := [(2, 41), (0, x1), (0, x2), (1, 0), (9, 0), (9, 0), (9, 0)]) rfl ?_
  refine s_iconst 3 rfl dX9_mean_2 ⟨by decide, by decide⟩ ?_
  refine s_istore 5 5 rfl dX9_mean_3 (by decide) (L2 := [(2, 41), (0, x1), (0, x2), (1, 0), (9, 0), (0, 0), (9, 0)]) rfl ?_
  refine s_iload_n 6 1 rfl dX9_mean_5 rfl rfl ?_
  refine s_iload_n 7 2 rfl dX9_mean_6 rfl rfl ?_
  have c0 := H.1
  replace H := H.2
  refine s_isub 8 rfl dX9_mean_7 c0 ?_
  refine s_istore 10 6 rfl dX9_mean_8 (by decide) (L2 := [(2, 41), (0, x1), (0, x2), (1, 0), (9, 0), (0, 0), (0, x1 - x2)]) rfl ?_
  exact H
theorem vX9_mean_10 {X : Nat × (Int → Int)} {h : HP} {Q : Int → HP → Prop} {x1 x2 x3 x5 x6 : Int} (H : inI (x1 + x2) ∧ (((x1 + x2) < x6 → (Wd mX9_down X 0 [(1, x3), (9, 0), (1, x5), (9, 0), (9, 0), (9, 0)] [] h (fun r2 h3 => inI r2 ∧ Q r2 h3))) ∧ (¬ ((x1 + x2) < x6) → (inI (h 41 5 - 1) ∧ Wd mX9_isIn X 0 [(0, x6), (0, 0), (0, h 41 5 - 1)] [] h (fun r6 h7 => ((r6 = 0 → (inI (x6 + 1) ∧ Wd mX9_mean X 10 [(2, 41), (0, x1), (0, x2), (1, x3), (9, 0), (0, x5), (0, x6 + 1)] [] h7 Q)) ∧ (¬ r6 = 0 → (0 ≤ x6 ∧ x6 < 600 ∧ 0 ≤ x1 ∧ x1 < 600 ∧ ((h7 48 x6 = h7 48 x1 → (inJ (x3 + h7 51 x6) ∧ inI (x5 + 1) ∧ inI (x6 + 1) ∧ Wd mX9_mean X 10 [(2, 41), (0, x1), (0, x2), (1, x3 + h7 51 x6), (9, 0), (0, x5 + 1), (0, x6 + 1)] [] h7 Q)) ∧ (¬ h7 48 x6 = h7 48 x1 → (inI (x6 + 1) ∧ Wd mX9_mean X 10 [(2, 41), (0, x1), (0, x2), (1, x3), (9, 0), (0, x5), (0, x6 + 1)] [] h7 Q))))))))))) : Wd mX9_mean X 10 [(2, 41), (0, x1), (0, x2), (1, x3), (9, 0), (0, x5), (0, x6)] [] h Q := by
  refine s_iload 12 6 rfl dX9_mean_10 rfl ?_
  refine s_iload_n 13 1 rfl dX9_mean_12 rfl rfl ?_
  refine s_iload_n 14 2 rfl dX9_mean_13 rfl rfl ?_
  have c0 := H.1
  replace H := H.2
  refine s_iadd 15 rfl dX9_mean_14 c0 ?_
  refine s_icmp_gt 18 72 rfl dX9_mean_15 (by decide) (fun c18 => ?_) (fun c18 => ?_)
  · replace H := H.1 c18
    refine s_lload_n 73 3 rfl dX9_mean_72 rfl rfl ?_
    refine s_iload 75 5 rfl dX9_mean_73 rfl ?_
    refine s_i2l 76 rfl dX9_mean_75 ?_
    refine s_callS (mj := mX9_down) (S := []) 79 [(1, x3), (1, x5)] [(1, x3), (9, 0), (1, x5), (9, 0), (9, 0), (9, 0)] rfl dX9_mean_76 okX9_down w890 w891 rfl npX9_down (Nat.le_of_ble_eq_true rfl) (by decide) (Nat.le_of_ble_eq_true rfl) rfl (Wd.imp H (fun r2 h3 H => ?_))
    show Wd mX9_mean X 79 [(2, 41), (0, x1), (0, x2), (1, x3), (9, 0), (0, x5), (0, x6)] [(1, r2)] h3 Q
    have c3 := H.1
    replace H := H.2
    refine s_l2i 80 rfl dX9_mean_79 c3 ?_
    exact s_iret (S := []) dX9_mean_80 rfl H
  · replace H := H.2 c18
    refine s_iload 20 6 rfl dX9_mean_18 rfl ?_
    refine s_iconst 21 rfl dX9_mean_20 ⟨by decide, by decide⟩ ?_
    refine s_aload_n 22 0 rfl dX9_mean_21 rfl rfl ?_
    refine s_getf 25 41 5 rfl dX9_mean_22 ck9 rfl (by decide) rfl (by decide) w740 rfl (v := (0, h 41 5)) rfl ?_
    refine s_iconst 26 rfl dX9_mean_25 ⟨by decide, by decide⟩ ?_
    have c4 := H.1
    replace H := H.2
    refine s_isub 27 rfl dX9_mean_26 c4 ?_
    refine s_callS (mj := mX9_isIn) (S := []) 30 [(0, x6), (0, 0), (0, h 41 5 - 1)] [(0, x6), (0, 0), (0, h 41 5 - 1)] rfl dX9_mean_27 okX9_isIn w834 w835 rfl npX9_isIn (Nat.le_of_ble_eq_true rfl) (by decide) (Nat.le_of_ble_eq_true rfl) rfl (Wd.imp H (fun r6 h7 H => ?_))
    show Wd mX9_mean X 30 [(2, 41), (0, x1), (0, x2), (1, x3), (9, 0), (0, x5), (0, x6)] [(0, r6)] h7 Q
    refine s_if_eq 33 66 rfl dX9_mean_30 (by decide) (fun c17 => ?_) (fun c17 => ?_)
    · replace H := H.1 c17
      have c7 := H.1
      replace H := H.2
      refine s_iinc 69 6 rfl dX9_mean_66 (by decide) (z := x6) rfl (L2 := [(2, 41), (0, x1), (0, x2), (1, x3), (9, 0), (0, x5), (0, x6 + 1)]) rfl c7 ?_
      refine s_goto 10 dX9_mean_69 (by decide) ?_
      exact H
    · replace H := H.2 c17
      refine s_aload_n 34 0 rfl dX9_mean_33 rfl rfl ?_
      refine s_getf 37 41 8 rfl dX9_mean_34 ck9 rfl (by decide) rfl (by decide) w743 rfl (v := (2, 48)) rfl ?_
      refine s_iload 39 6 rfl dX9_mean_37 rfl ?_
      have c8 := H.1
      replace H := H.2
      have c9 := H.1
      replace H := H.2
      refine s_iald 40 rfl dX9_mean_39 ia48 c8 c9 (v9 := h7 48 x6) rfl ?_
      refine s_aload_n 41 0 rfl dX9_mean_40 rfl rfl ?_
      refine s_getf 44 41 8 rfl dX9_mean_41 ck9 rfl (by decide) rfl (by decide) w743 rfl (v := (2, 48)) rfl ?_
      refine s_iload_n 45 1 rfl dX9_mean_44 rfl rfl ?_
      have c10 := H.1
      replace H := H.2
      have c11 := H.1
      replace H := H.2
      refine s_iald 46 rfl dX9_mean_45 ia48 c10 c11 (v9 := h7 48 x1) rfl ?_
      refine s_icmp_eq 49 52 rfl dX9_mean_46 (by decide) (fun c16 => ?_) (fun c16 => ?_)
      · replace H := H.1 c16
        refine s_lload_n 53 3 rfl dX9_mean_52 rfl rfl ?_
        refine s_aload_n 54 0 rfl dX9_mean_53 rfl rfl ?_
        refine s_getf 57 41 11 rfl dX9_mean_54 ck9 rfl (by decide) rfl (by decide) w746 rfl (v := (2, 51)) rfl ?_
        refine s_iload 59 6 rfl dX9_mean_57 rfl ?_
        refine s_iald 60 rfl dX9_mean_59 ia51 c8 c9 (v9 := h7 51 x6) rfl ?_
        refine s_i2l 61 rfl dX9_mean_60 ?_
        have c12 := H.1
        replace H := H.2
        refine s_ladd 62 rfl dX9_mean_61 c12 ?_
        refine s_lstore_n 63 3 rfl dX9_mean_62 rfl (by decide) (L2 := [(2, 41), (0, x1), (0, x2), (1, x3 + h7 51 x6), (9, 0), (0, x5), (0, x6)]) rfl ?_
        have c13 := H.1
        replace H := H.2
        refine s_iinc 66 5 rfl dX9_mean_63 (by decide) (z := x5) rfl (L2 := [(2, 41), (0, x1), (0, x2), (1, x3 + h7 51 x6), (9, 0), (0, x5 + 1), (0, x6)]) rfl c13 ?_
        have c14 := H.1
        replace H := H.2
        refine s_iinc 69 6 rfl dX9_mean_66 (by decide) (z := x6) rfl (L2 := [(2, 41), (0, x1), (0, x2), (1, x3 + h7 51 x6), (9, 0), (0, x5 + 1), (0, x6 + 1)]) rfl c14 ?_
        refine s_goto 10 dX9_mean_69 (by decide) ?_
        exact H
      · replace H := H.2 c16
        refine s_goto 66 dX9_mean_49 (by decide) ?_
        have c15 := H.1
        replace H := H.2
        refine s_iinc 69 6 rfl dX9_mean_66 (by decide) (z := x6) rfl (L2 := [(2, 41), (0, x1), (0, x2), (1, x3), (9, 0), (0, x5), (0, x6 + 1)]) rfl c15 ?_
        refine s_goto 10 dX9_mean_69 (by decide) ?_
        exact H
theorem vX9_shownBy_0 {X : Nat × (Int → Int)} {h : HP} {Q : Int → HP → Prop} {x1 x2 : Int} (H : 0 ≤ x2 ∧ x2 < 600 ∧ 0 ≤ h 48 x2 ∧ h 48 x2 < 601 ∧ 0 ≤ x1 ∧ x1 < 4 ∧ ((h 44 x1 < 0 ∨ 3 < h 44 x1 → (inI (x2 - h 49 (h 48 x2)) ∧ ((h 45 x1 ≤ (x2 - h 49 (h 48 x2)) → (inI (x2 - h 45 x1) ∧ 0 ≤ x2 - h 45 x1 ∧ x2 - h 45 x1 < 600 ∧ inI (h 51 x2 - h 51 (x2 - h 45 x1)) ∧ Q (h 51 x2 - h 51 (x2 - h 45 x1)) h)) ∧ (¬ (h 45 x1 ≤ (x2 - h 49 (h 48 x2))) → (Q 0 h))))) ∧ (h 44 x1 = 0 → (Wd mX9_mean X 0 [(2, 41), (0, x2), (0, h 45 x1), (9, 0), (9, 0), (9, 0), (9, 0)] [] h (fun r14 h15 => Q r14 h15))) ∧ (h 44 x1 = 1 → (inI (-(h 45 x1)) ∧ (((-(h 45 x1)) ≤ h 51 x2 → ((h 51 x2 ≤ h 45 x1 → (Q (h 51 x2) h)) ∧ (¬ (h 51 x2 ≤ h 45 x1) → (Q (h 45 x1) h)))) ∧ (¬ ((-(h 45 x1)) ≤ h 51 x2) → (Q (-(h 45 x1)) h))))) ∧ (h 44 x1 = 2 → (inI (-(h 51 x2)) ∧ Q (-(h 51 x2)) h)) ∧ (h 44 x1 = 3 → (inJ (h 51 x2 * h 45 x1) ∧ Wd mX9_down X 0 [(1, h 51 x2 * h 45 x1), (9, 0), (1, 10), (9, 0), (9, 0), (9, 0)] [] h (fun r21 h22 => inI r21 ∧ Q r21 h22))))) : Wd mX9_shownBy X 0 [(2, 41), (0, x1), (0, x2), (9, 0), (9, 0), (9, 0)] [] h Q := by
  refine s_aload_n 1 0 rfl dX9_shownBy_0 rfl rfl ?_
  refine s_getf 4 41 9 rfl dX9_shownBy_1 ck9 rfl (by decide) rfl (by decide) w744 rfl (v := (2, 49)) rfl ?_
  refine s_aload_n 5 0 rfl dX9_shownBy_4 rfl rfl ?_
  refine s_getf 8 41 8 rfl dX9_shownBy_5 ck9 rfl (by decide) rfl (by decide) w743 rfl (v := (2, 48)) rfl ?_
  refine s_iload_n 9 2 rfl dX9_shownBy_8 rfl rfl ?_
  have c0 := H.1
  replace H := H.2
  have c1 := H.1
  replace H := H.2
  refine s_iald 10 rfl dX9_shownBy_9 ia48 c0 c1 (v9 := h 48 x2) rfl ?_
  have c2 := H.1
  replace H := H.2
  have c3 := H.1
  replace H := H.2
  refine s_iald 11 rfl dX9_shownBy_10 ia49 c2 c3 (v9 := h 49 (h 48 x2)) rfl ?_
  refine s_istore_n 12 3 rfl dX9_shownBy_11 rfl (by decide) (L2 := [(2, 41), (0, x1), (0, x2), (0, h 49 (h 48 x2)), (9, 0), (9, 0)]) rfl ?_
  refine s_aload_n 13 0 rfl dX9_shownBy_12 rfl rfl ?_
  refine s_getf 16 41 3 rfl dX9_shownBy_13 ck9 rfl (by decide) rfl (by decide) w738 rfl (v := (2, 45)) rfl ?_
  refine s_iload_n 17 1 rfl dX9_shownBy_16 rfl rfl ?_
  have c4 := H.1
  replace H := H.2
  have c5 := H.1
  replace H := H.2
  refine s_iald 18 rfl dX9_shownBy_17 ia45 c4 c5 (v9 := h 45 x1) rfl ?_
  refine s_istore 20 4 rfl dX9_shownBy_18 (by decide) (L2 := [(2, 41), (0, x1), (0, x2), (0, h 49 (h 48 x2)), (0, h 45 x1), (9, 0)]) rfl ?_
  refine s_aload_n 21 0 rfl dX9_shownBy_20 rfl rfl ?_
  refine s_getf 24 41 11 rfl dX9_shownBy_21 ck9 rfl (by decide) rfl (by decide) w746 rfl (v := (2, 51)) rfl ?_
  refine s_iload_n 25 2 rfl dX9_shownBy_24 rfl rfl ?_
  refine s_iald 26 rfl dX9_shownBy_25 ia51 c0 c1 (v9 := h 51 x2) rfl ?_
  refine s_istore 28 5 rfl dX9_shownBy_26 (by decide) (L2 := [(2, 41), (0, x1), (0, x2), (0, h 49 (h 48 x2)), (0, h 45 x1), (0, h 51 x2)]) rfl ?_
  refine s_aload_n 29 0 rfl dX9_shownBy_28 rfl rfl ?_
  refine s_getf 32 41 2 rfl dX9_shownBy_29 ck9 rfl (by decide) rfl (by decide) w737 rfl (v := (2, 44)) rfl ?_
  refine s_iload_n 33 1 rfl dX9_shownBy_32 rfl rfl ?_
  refine s_iald 34 rfl dX9_shownBy_33 ia44 c4 c5 (v9 := h 44 x1) rfl ?_
  rcases (by omega : (h 44 x1 < 0 ∨ 3 < h 44 x1) ∨ h 44 x1 = 0 ∨ h 44 x1 = 1 ∨ h 44 x1 = 2 ∨ h 44 x1 = 3) with c12 | c12 | c12 | c12 | c12
  · refine s_tsd 120 dX9_shownBy_34 c12 (by decide) ?_
    replace H := H.1 c12
    refine s_iload_n 121 2 rfl dX9_shownBy_120 rfl rfl ?_
    refine s_iload_n 122 3 rfl dX9_shownBy_121 rfl rfl ?_
    have c6 := H.1
    replace H := H.2
    refine s_isub 123 rfl dX9_shownBy_122 c6 ?_
    refine s_iload 125 4 rfl dX9_shownBy_123 rfl ?_
    refine s_icmp_ge 128 132 rfl dX9_shownBy_125 (by decide) (fun c11 => ?_) (fun c11 => ?_)
    · replace H := H.1 c11
      refine s_iload 134 5 rfl dX9_shownBy_132 rfl ?_
      refine s_aload_n 135 0 rfl dX9_shownBy_134 rfl rfl ?_
      refine s_getf 138 41 11 rfl dX9_shownBy_135 ck9 rfl (by decide) rfl (by decide) w746 rfl (v := (2, 51)) rfl ?_
      refine s_iload_n 139 2 rfl dX9_shownBy_138 rfl rfl ?_
      refine s_iload 141 4 rfl dX9_shownBy_139 rfl ?_
      have c7 := H.1
      replace H := H.2
      refine s_isub 142 rfl dX9_shownBy_141 c7 ?_
      have c8 := H.1
      replace H := H.2
      have c9 := H.1
      replace H := H.2
      refine s_iald 143 rfl dX9_shownBy_142 ia51 c8 c9 (v9 := h 51 (x2 - h 45 x1)) rfl ?_
      have c10 := H.1
      replace H := H.2
      refine s_isub 144 rfl dX9_shownBy_143 c10 ?_
      exact s_iret (S := []) dX9_shownBy_144 rfl H
    · replace H := H.2 c11
      refine s_iconst 129 rfl dX9_shownBy_128 ⟨by decide, by decide⟩ ?_
      refine s_goto 144 dX9_shownBy_129 (by decide) ?_
      exact s_iret (S := []) dX9_shownBy_144 rfl H
  · refine s_tsw 64 dX9_shownBy_34 (by omega) (by omega) (by rw [c12]; rfl) (by decide) ?_
    replace H := H.2.1 c12
    refine s_aload_n 65 0 rfl dX9_shownBy_64 rfl rfl ?_
    refine s_iload_n 66 2 rfl dX9_shownBy_65 rfl rfl ?_
    refine s_iload 68 4 rfl dX9_shownBy_66 rfl ?_
    refine s_callV (mj := mX9_mean) (S := []) 71 [(0, x2), (0, h 45 x1)] [(2, 41), (0, x2), (0, h 45 x1), (9, 0), (9, 0), (9, 0), (9, 0)] 41 rfl dX9_shownBy_68 okX9_mean w897 w899 w16 rfl (by decide) rfl rfl rfl rfl npX9_mean (Nat.le_of_ble_eq_true rfl) (by decide) (Nat.le_of_ble_eq_true rfl) rfl (Wd.imp H (fun r14 h15 H => ?_))
    show Wd mX9_shownBy X 71 [(2, 41), (0, x1), (0, x2), (0, h 49 (h 48 x2)), (0, h 45 x1), (0, h 51 x2)] [(0, r14)] h15 Q
    exact s_iret (S := []) dX9_shownBy_71 rfl H
  · refine s_tsw 72 dX9_shownBy_34 (by omega) (by omega) (by rw [c12]; rfl) (by decide) ?_
    replace H := H.2.2.1 c12
    refine s_iload 74 5 rfl dX9_shownBy_72 rfl ?_
    refine s_iload 76 4 rfl dX9_shownBy_74 rfl ?_
    have c15 := H.1
    replace H := H.2
    refine s_ineg 77 rfl dX9_shownBy_76 c15 ?_
    refine s_icmp_ge 80 86 rfl dX9_shownBy_77 (by decide) (fun c17 => ?_) (fun c17 => ?_)
    · replace H := H.1 c17
      refine s_iload 88 5 rfl dX9_shownBy_86 rfl ?_
      refine s_iload 90 4 rfl dX9_shownBy_88 rfl ?_
      refine s_icmp_le 93 98 rfl dX9_shownBy_90 (by decide) (fun c16 => ?_) (fun c16 => ?_)
      · replace H := H.1 c16
        refine s_iload 100 5 rfl dX9_shownBy_98 rfl ?_
        exact s_iret (S := []) dX9_shownBy_100 rfl H
      · replace H := H.2 c16
        refine s_iload 95 4 rfl dX9_shownBy_93 rfl ?_
        refine s_goto 100 dX9_shownBy_95 (by decide) ?_
        exact s_iret (S := []) dX9_shownBy_100 rfl H
    · replace H := H.2 c17
      refine s_iload 82 4 rfl dX9_shownBy_80 rfl ?_
      refine s_ineg 83 rfl dX9_shownBy_82 c15 ?_
      refine s_goto 100 dX9_shownBy_83 (by decide) ?_
      exact s_iret (S := []) dX9_shownBy_100 rfl H
  · refine s_tsw 101 dX9_shownBy_34 (by omega) (by omega) (by rw [c12]; rfl) (by decide) ?_
    replace H := H.2.2.2.1 c12
    refine s_iload 103 5 rfl dX9_shownBy_101 rfl ?_
    have c18 := H.1
    replace H := H.2
    refine s_ineg 104 rfl dX9_shownBy_103 c18 ?_
    exact s_iret (S := []) dX9_shownBy_104 rfl H
  · refine s_tsw 105 dX9_shownBy_34 (by omega) (by omega) (by rw [c12]; rfl) (by decide) ?_
    replace H := H.2.2.2.2 c12
    refine s_iload 107 5 rfl dX9_shownBy_105 rfl ?_
    refine s_i2l 108 rfl dX9_shownBy_107 ?_
    refine s_iload 110 4 rfl dX9_shownBy_108 rfl ?_
    refine s_i2l 111 rfl dX9_shownBy_110 ?_
    have c19 := H.1
    replace H := H.2
    refine s_lmul 112 rfl dX9_shownBy_111 c19 ?_
    refine s_ldc2 115 10 rfl dX9_shownBy_112 w901 ⟨by decide, by decide⟩ ?_
    refine s_callS (mj := mX9_down) (S := []) 118 [(1, h 51 x2 * h 45 x1), (1, 10)] [(1, h 51 x2 * h 45 x1), (9, 0), (1, 10), (9, 0), (9, 0), (9, 0)] rfl dX9_shownBy_115 okX9_down w890 w891 rfl npX9_down (Nat.le_of_ble_eq_true rfl) (by decide) (Nat.le_of_ble_eq_true rfl) rfl (Wd.imp H (fun r21 h22 H => ?_))
    show Wd mX9_shownBy X 118 [(2, 41), (0, x1), (0, x2), (0, h 49 (h 48 x2)), (0, h 45 x1), (0, h 51 x2)] [(1, r21)] h22 Q
    have c22 := H.1
    replace H := H.2
    refine s_l2i 119 rfl dX9_shownBy_118 c22 ?_
    exact s_iret (S := []) dX9_shownBy_119 rfl H
theorem vX9_laysShown_0 {X : Nat × (Int → Int)} {h : HP} {Q : Int → HP → Prop} {x1 : Int} (H : Wd mX9_laysStretches X 0 [(2, 41), (9, 0), (9, 0), (9, 0), (9, 0)] [] h (fun _ h2 => Wd mX9_laysShown X 6 [(2, 41), (0, x1), (0, 0), (9, 0)] [] h2 Q)) : Wd mX9_laysShown X 0 [(2, 41), (0, x1), (9, 0), (9, 0)] [] h Q := by
  refine s_aload_n 1 0 rfl dX9_laysShown_0 rfl rfl ?_
  refine s_callV (mj := mX9_laysStretches) (S := []) 4 [] [(2, 41), (9, 0), (9, 0), (9, 0), (9, 0)] 41 rfl dX9_laysShown_1 okX9_laysStretches w886 w888 w14 rfl (by decide) rfl rfl rfl rfl npX9_laysStretches (Nat.le_of_ble_eq_true rfl) (by decide) (Nat.le_of_ble_eq_true rfl) rfl (Wd.imp H (fun _ h2 H => ?_))
  show Wd mX9_laysShown X 4 [(2, 41), (0, x1), (9, 0), (9, 0)] [] h2 Q
  refine s_iconst 5 rfl dX9_laysShown_4 ⟨by decide, by decide⟩ ?_
  refine s_istore_n 6 2 rfl dX9_laysShown_5 rfl (by decide) (L2 := [(2, 41), (0, x1), (0, 0), (9, 0)]) rfl ?_
  exact H
theorem vX9_laysShown_6 {X : Nat × (Int → Int)} {h : HP} {Q : Int → HP → Prop} {x1 x2 : Int} (H : ((h 41 5 ≤ x2 → (Wd mX9_laysShown X 34 [(2, 41), (0, x1), (0, 0), (9, 0)] [] h Q)) ∧ (¬ (h 41 5 ≤ x2) → (0 ≤ x2 ∧ x2 < 600 ∧ inI (x2 + 1) ∧ Wd mX9_laysShown X 6 [(2, 41), (0, x1), (0, x2 + 1), (9, 0)] [] (xu h 50 x2 (h 47 x2)) Q)))) : Wd mX9_laysShown X 6 [(2, 41), (0, x1), (0, x2), (9, 0)] [] h Q := by
  refine s_iload_n 7 2 rfl dX9_laysShown_6 rfl rfl ?_
  refine s_aload_n 8 0 rfl dX9_laysShown_7 rfl rfl ?_
  refine s_getf 11 41 5 rfl dX9_laysShown_8 ck9 rfl (by decide) rfl (by decide) w740 rfl (v := (0, h 41 5)) rfl ?_
  refine s_icmp_ge 14 32 rfl dX9_laysShown_11 (by decide) (fun c3 => ?_) (fun c3 => ?_)
  · replace H := H.1 c3
    refine s_iconst 33 rfl dX9_laysShown_32 ⟨by decide, by decide⟩ ?_
    refine s_istore_n 34 2 rfl dX9_laysShown_33 rfl (by decide) (L2 := [(2, 41), (0, x1), (0, 0), (9, 0)]) rfl ?_
    exact H
  · replace H := H.2 c3
    refine s_aload_n 15 0 rfl dX9_laysShown_14 rfl rfl ?_
    refine s_getf 18 41 10 rfl dX9_laysShown_15 ck9 rfl (by decide) rfl (by decide) w745 rfl (v := (2, 50)) rfl ?_
    refine s_iload_n 19 2 rfl dX9_laysShown_18 rfl rfl ?_
    refine s_aload_n 20 0 rfl dX9_laysShown_19 rfl rfl ?_
    refine s_getf 23 41 7 rfl dX9_laysShown_20 ck9 rfl (by decide) rfl (by decide) w742 rfl (v := (2, 47)) rfl ?_
    refine s_iload_n 24 2 rfl dX9_laysShown_23 rfl rfl ?_
    have c0 := H.1
    replace H := H.2
    have c1 := H.1
    replace H := H.2
    refine s_iald 25 rfl dX9_laysShown_24 ia47 c0 c1 (v9 := h 47 x2) rfl ?_
    refine s_iast 26 rfl dX9_laysShown_25 ia50 c0 c1 ?_
    have c2 := H.1
    replace H := H.2
    refine s_iinc 29 2 rfl dX9_laysShown_26 (by decide) (z := x2) rfl (L2 := [(2, 41), (0, x1), (0, x2 + 1), (9, 0)]) rfl c2 ?_
    refine s_goto 6 dX9_laysShown_29 (by decide) ?_
    exact H
theorem vX9_laysShown_34 {X : Nat × (Int → Int)} {h : HP} {Q : Int → HP → Prop} {x1 x2 : Int} (H : ((x1 ≤ x2 → (Q 0 h)) ∧ (¬ (x1 ≤ x2) → (Wd mX9_laysShown X 41 [(2, 41), (0, x1), (0, x2), (0, 0)] [] h Q)))) : Wd mX9_laysShown X 34 [(2, 41), (0, x1), (0, x2), (9, 0)] [] h Q := by
  refine s_iload_n 35 2 rfl dX9_laysShown_34 rfl rfl ?_
  refine s_iload_n 36 1 rfl dX9_laysShown_35 rfl rfl ?_
  refine s_icmp_ge 39 111 rfl dX9_laysShown_36 (by decide) (fun c0 => ?_) (fun c0 => ?_)
  · replace H := H.1 c0
    exact s_vret (S := []) dX9_laysShown_111 rfl H
  · replace H := H.2 c0
    refine s_iconst 40 rfl dX9_laysShown_39 ⟨by decide, by decide⟩ ?_
    refine s_istore_n 41 3 rfl dX9_laysShown_40 rfl (by decide) (L2 := [(2, 41), (0, x1), (0, x2), (0, 0)]) rfl ?_
    exact H
theorem vX9_laysShown_41 {X : Nat × (Int → Int)} {h : HP} {Q : Int → HP → Prop} {x1 x2 x3 : Int} (H : ((h 41 5 ≤ x3 → (Wd mX9_laysShown X 69 [(2, 41), (0, x1), (0, x2), (0, 0)] [] h Q)) ∧ (¬ (h 41 5 ≤ x3) → (0 ≤ x3 ∧ x3 < 600 ∧ inI (x3 + 1) ∧ Wd mX9_laysShown X 41 [(2, 41), (0, x1), (0, x2), (0, x3 + 1)] [] (xu h 51 x3 (h 50 x3)) Q)))) : Wd mX9_laysShown X 41 [(2, 41), (0, x1), (0, x2), (0, x3)] [] h Q := by
  refine s_iload_n 42 3 rfl dX9_laysShown_41 rfl rfl ?_
  refine s_aload_n 43 0 rfl dX9_laysShown_42 rfl rfl ?_
  refine s_getf 46 41 5 rfl dX9_laysShown_43 ck9 rfl (by decide) rfl (by decide) w740 rfl (v := (0, h 41 5)) rfl ?_
  refine s_icmp_ge 49 67 rfl dX9_laysShown_46 (by decide) (fun c3 => ?_) (fun c3 => ?_)
  · replace H := H.1 c3
    refine s_iconst 68 rfl dX9_laysShown_67 ⟨by decide, by decide⟩ ?_
    refine s_istore_n 69 3 rfl dX9_laysShown_68 rfl (by decide) (L2 := [(2, 41), (0, x1), (0, x2), (0, 0)]) rfl ?_
    exact H
  · replace H := H.2 c3
    refine s_aload_n 50 0 rfl dX9_laysShown_49 rfl rfl ?_
    refine s_getf 53 41 11 rfl dX9_laysShown_50 ck9 rfl (by decide) rfl (by decide) w746 rfl (v := (2, 51)) rfl ?_
    refine s_iload_n 54 3 rfl dX9_laysShown_53 rfl rfl ?_
    refine s_aload_n 55 0 rfl dX9_laysShown_54 rfl rfl ?_
    refine s_getf 58 41 10 rfl dX9_laysShown_55 ck9 rfl (by decide) rfl (by decide) w745 rfl (v := (2, 50)) rfl ?_
    refine s_iload_n 59 3 rfl dX9_laysShown_58 rfl rfl ?_
    have c0 := H.1
    replace H := H.2
    have c1 := H.1
    replace H := H.2
    refine s_iald 60 rfl dX9_laysShown_59 ia50 c0 c1 (v9 := h 50 x3) rfl ?_
    refine s_iast 61 rfl dX9_laysShown_60 ia51 c0 c1 ?_
    have c2 := H.1
    replace H := H.2
    refine s_iinc 64 3 rfl dX9_laysShown_61 (by decide) (z := x3) rfl (L2 := [(2, 41), (0, x1), (0, x2), (0, x3 + 1)]) rfl c2 ?_
    refine s_goto 41 dX9_laysShown_64 (by decide) ?_
    exact H
theorem vX9_laysShown_69 {X : Nat × (Int → Int)} {h : HP} {Q : Int → HP → Prop} {x1 x2 x3 : Int} (H : ((h 41 5 ≤ x3 → (inI (x2 + 1) ∧ Wd mX9_laysShown X 34 [(2, 41), (0, x1), (0, x2 + 1), (9, 0)] [] h Q)) ∧ (¬ (h 41 5 ≤ x3) → (0 ≤ x3 ∧ x3 < 600 ∧ ((h 48 x3 = (-1) → (inI (x3 + 1) ∧ Wd mX9_laysShown X 69 [(2, 41), (0, x1), (0, x2), (0, x3 + 1)] [] h Q)) ∧ (¬ h 48 x3 = (-1) → (Wd mX9_shownBy X 0 [(2, 41), (0, x2), (0, x3), (9, 0), (9, 0), (9, 0)] [] h (fun r5 h6 => inI (x3 + 1) ∧ Wd mX9_laysShown X 69 [(2, 41), (0, x1), (0, x2), (0, x3 + 1)] [] (xu h6 50 x3 r5) Q)))))))) : Wd mX9_laysShown X 69 [(2, 41), (0, x1), (0, x2), (0, x3)] [] h Q := by
  refine s_iload_n 70 3 rfl dX9_laysShown_69 rfl rfl ?_
  refine s_aload_n 71 0 rfl dX9_laysShown_70 rfl rfl ?_
  refine s_getf 74 41 5 rfl dX9_laysShown_71 ck9 rfl (by decide) rfl (by decide) w740 rfl (v := (0, h 41 5)) rfl ?_
  refine s_icmp_ge 77 105 rfl dX9_laysShown_74 (by decide) (fun c8 => ?_) (fun c8 => ?_)
  · replace H := H.1 c8
    have c0 := H.1
    replace H := H.2
    refine s_iinc 108 2 rfl dX9_laysShown_105 (by decide) (z := x2) rfl (L2 := [(2, 41), (0, x1), (0, x2 + 1), (0, x3)]) rfl c0 ?_
    refine s_goto 34 dX9_laysShown_108 (by decide) ?_
    exact s_less [(2, 41), (0, x1), (0, x2 + 1), (9, 0)] ⟨Or.inr rfl, Or.inr rfl, Or.inr rfl, Or.inl rfl, trivial⟩ H
  · replace H := H.2 c8
    refine s_aload_n 78 0 rfl dX9_laysShown_77 rfl rfl ?_
    refine s_getf 81 41 8 rfl dX9_laysShown_78 ck9 rfl (by decide) rfl (by decide) w743 rfl (v := (2, 48)) rfl ?_
    refine s_iload_n 82 3 rfl dX9_laysShown_81 rfl rfl ?_
    have c1 := H.1
    replace H := H.2
    have c2 := H.1
    replace H := H.2
    refine s_iald 83 rfl dX9_laysShown_82 ia48 c1 c2 (v9 := h 48 x3) rfl ?_
    refine s_iconst 84 rfl dX9_laysShown_83 ⟨by decide, by decide⟩ ?_
    refine s_icmp_eq 87 99 rfl dX9_laysShown_84 (by decide) (fun c7 => ?_) (fun c7 => ?_)
    · replace H := H.1 c7
      have c3 := H.1
      replace H := H.2
      refine s_iinc 102 3 rfl dX9_laysShown_99 (by decide) (z := x3) rfl (L2 := [(2, 41), (0, x1), (0, x2), (0, x3 + 1)]) rfl c3 ?_
      refine s_goto 69 dX9_laysShown_102 (by decide) ?_
      exact H
    · replace H := H.2 c7
      refine s_aload_n 88 0 rfl dX9_laysShown_87 rfl rfl ?_
      refine s_getf 91 41 10 rfl dX9_laysShown_88 ck9 rfl (by decide) rfl (by decide) w745 rfl (v := (2, 50)) rfl ?_
      refine s_iload_n 92 3 rfl dX9_laysShown_91 rfl rfl ?_
      refine s_aload_n 93 0 rfl dX9_laysShown_92 rfl rfl ?_
      refine s_iload_n 94 2 rfl dX9_laysShown_93 rfl rfl ?_
      refine s_iload_n 95 3 rfl dX9_laysShown_94 rfl rfl ?_
      refine s_callV (mj := mX9_shownBy) (S := [(0, x3), (2, 50)]) 98 [(0, x2), (0, x3)] [(2, 41), (0, x2), (0, x3), (9, 0), (9, 0), (9, 0)] 41 rfl dX9_laysShown_95 okX9_shownBy w893 w895 w15 rfl (by decide) rfl rfl rfl rfl npX9_shownBy (Nat.le_of_ble_eq_true rfl) (by decide) (Nat.le_of_ble_eq_true rfl) rfl (Wd.imp H (fun r5 h6 H => ?_))
      show Wd mX9_laysShown X 98 [(2, 41), (0, x1), (0, x2), (0, x3)] [(0, r5), (0, x3), (2, 50)] h6 Q
      refine s_iast 99 rfl dX9_laysShown_98 ia50 c1 c2 ?_
      have c6 := H.1
      replace H := H.2
      refine s_iinc 102 3 rfl dX9_laysShown_99 (by decide) (z := x3) rfl (L2 := [(2, 41), (0, x1), (0, x2), (0, x3 + 1)]) rfl c6 ?_
      refine s_goto 69 dX9_laysShown_102 (by decide) ?_
      exact H
theorem vX9_fewer_0 {X : Nat × (Int → Int)} {h : HP} {Q : Int → HP → Prop} {x1 x2 x3 : Int} (H : 0 ≤ x1 ∧ x1 < 601 ∧ Wd mX9_fewer X 11 [(2, 41), (9, 0), (0, x2), (0, x3), (0, 0), (0, h 49 x1)] [] h Q) : Wd mX9_fewer X 0 [(2, 41), (0, x1), (0, x2), (0, x3), (9, 0), (9, 0)] [] h Q := by
  refine s_iconst 1 rfl dX9_fewer_0 ⟨by decide, by decide⟩ ?_
  refine s_istore 3 4 rfl dX9_fewer_1 (by decide) (L2 := [(2, 41), (0, x1), (0, x2), (0, x3), (0, 0), (9, 0)]) rfl ?_
  refine s_aload_n 4 0 rfl dX9_fewer_3 rfl rfl ?_
  refine s_getf 7 41 9 rfl dX9_fewer_4 ck9 rfl (by decide) rfl (by decide) w744 rfl (v := (2, 49)) rfl ?_
  refine s_iload_n 8 1 rfl dX9_fewer_7 rfl rfl ?_
  have c0 := H.1
  replace H := H.2
  have c1 := H.1
  replace H := H.2
  refine s_iald 9 rfl dX9_fewer_8 ia49 c0 c1 (v9 := h 49 x1) rfl ?_
  refine s_istore 11 5 rfl dX9_fewer_9 (by decide) (L2 := [(2, 41), (0, x1), (0, x2), (0, x3), (0, 0), (0, h 49 x1)]) rfl ?_
  exact s_less [(2, 41), (9, 0), (0, x2), (0, x3), (0, 0), (0, h 49 x1)] ⟨Or.inr rfl, Or.inl rfl, Or.inr rfl, Or.inr rfl, Or.inr rfl, Or.inr rfl, trivial⟩ H
theorem vX9_fewer_11 {X : Nat × (Int → Int)} {h : HP} {Q : Int → HP → Prop} {x2 x3 x4 x5 : Int} (H : ((h 41 14 ≤ x5 → (Q x4 h)) ∧ (¬ (h 41 14 ≤ x5) → (0 ≤ x5 ∧ x5 < 600 ∧ ((h 50 x5 < x2 → (inI (x4 + 1) ∧ inI (x5 + 1) ∧ Wd mX9_fewer X 11 [(2, 41), (9, 0), (0, x2), (0, x3), (0, x4 + 1), (0, x5 + 1)] [] h Q)) ∧ (¬ (h 50 x5 < x2) → ((x3 = 0 → (inI (x4 + 0) ∧ inI (x5 + 1) ∧ Wd mX9_fewer X 11 [(2, 41), (9, 0), (0, x2), (0, x3), (0, x4 + 0), (0, x5 + 1)] [] h Q)) ∧ (¬ x3 = 0 → ((¬ h 50 x5 = x2 → (inI (x4 + 0) ∧ inI (x5 + 1) ∧ Wd mX9_fewer X 11 [(2, 41), (9, 0), (0, x2), (0, x3), (0, x4 + 0), (0, x5 + 1)] [] h Q)) ∧ (h 50 x5 = x2 → (inI (x4 + 1) ∧ inI (x5 + 1) ∧ Wd mX9_fewer X 11 [(2, 41), (9, 0), (0, x2), (0, x3), (0, x4 + 1), (0, x5 + 1)] [] h Q))))))))))) : Wd mX9_fewer X 11 [(2, 41), (9, 0), (0, x2), (0, x3), (0, x4), (0, x5)] [] h Q := by
  refine s_iload 13 5 rfl dX9_fewer_11 rfl ?_
  refine s_aload_n 14 0 rfl dX9_fewer_13 rfl rfl ?_
  refine s_getf 17 41 14 rfl dX9_fewer_14 ck9 rfl (by decide) rfl (by decide) w749 rfl (v := (0, h 41 14)) rfl ?_
  refine s_icmp_ge 20 62 rfl dX9_fewer_17 (by decide) (fun c13 => ?_) (fun c13 => ?_)
  · replace H := H.1 c13
    refine s_iload 64 4 rfl dX9_fewer_62 rfl ?_
    exact s_iret (S := []) dX9_fewer_64 rfl H
  · replace H := H.2 c13
    refine s_iload 22 4 rfl dX9_fewer_20 rfl ?_
    refine s_aload_n 23 0 rfl dX9_fewer_22 rfl rfl ?_
    refine s_getf 26 41 10 rfl dX9_fewer_23 ck9 rfl (by decide) rfl (by decide) w745 rfl (v := (2, 50)) rfl ?_
    refine s_iload 28 5 rfl dX9_fewer_26 rfl ?_
    have c0 := H.1
    replace H := H.2
    have c1 := H.1
    replace H := H.2
    refine s_iald 29 rfl dX9_fewer_28 ia50 c0 c1 (v9 := h 50 x5) rfl ?_
    refine s_iload_n 30 2 rfl dX9_fewer_29 rfl rfl ?_
    refine s_icmp_lt 33 48 rfl dX9_fewer_30 (by decide) (fun c12 => ?_) (fun c12 => ?_)
    · replace H := H.1 c12
      refine s_iconst 49 rfl dX9_fewer_48 ⟨by decide, by decide⟩ ?_
      refine s_goto 53 dX9_fewer_49 (by decide) ?_
      have c2 := H.1
      replace H := H.2
      refine s_iadd 54 rfl dX9_fewer_53 c2 ?_
      refine s_istore 56 4 rfl dX9_fewer_54 (by decide) (L2 := [(2, 41), (9, 0), (0, x2), (0, x3), (0, x4 + 1), (0, x5)]) rfl ?_
      have c3 := H.1
      replace H := H.2
      refine s_iinc 59 5 rfl dX9_fewer_56 (by decide) (z := x5) rfl (L2 := [(2, 41), (9, 0), (0, x2), (0, x3), (0, x4 + 1), (0, x5 + 1)]) rfl c3 ?_
      refine s_goto 11 dX9_fewer_59 (by decide) ?_
      exact H
    · replace H := H.2 c12
      refine s_iload_n 34 3 rfl dX9_fewer_33 rfl rfl ?_
      refine s_if_eq 37 52 rfl dX9_fewer_34 (by decide) (fun c11 => ?_) (fun c11 => ?_)
      · replace H := H.1 c11
        refine s_iconst 53 rfl dX9_fewer_52 ⟨by decide, by decide⟩ ?_
        have c4 := H.1
        replace H := H.2
        refine s_iadd 54 rfl dX9_fewer_53 c4 ?_
        refine s_istore 56 4 rfl dX9_fewer_54 (by decide) (L2 := [(2, 41), (9, 0), (0, x2), (0, x3), (0, x4 + 0), (0, x5)]) rfl ?_
        have c5 := H.1
        replace H := H.2
        refine s_iinc 59 5 rfl dX9_fewer_56 (by decide) (z := x5) rfl (L2 := [(2, 41), (9, 0), (0, x2), (0, x3), (0, x4 + 0), (0, x5 + 1)]) rfl c5 ?_
        refine s_goto 11 dX9_fewer_59 (by decide) ?_
        exact H
      · replace H := H.2 c11
        refine s_aload_n 38 0 rfl dX9_fewer_37 rfl rfl ?_
        refine s_getf 41 41 10 rfl dX9_fewer_38 ck9 rfl (by decide) rfl (by decide) w745 rfl (v := (2, 50)) rfl ?_
        refine s_iload 43 5 rfl dX9_fewer_41 rfl ?_
        refine s_iald 44 rfl dX9_fewer_43 ia50 c0 c1 (v9 := h 50 x5) rfl ?_
        refine s_iload_n 45 2 rfl dX9_fewer_44 rfl rfl ?_
        refine s_icmp_ne 48 52 rfl dX9_fewer_45 (by decide) (fun c10 => ?_) (fun c10 => ?_)
        · replace H := H.1 c10
          refine s_iconst 53 rfl dX9_fewer_52 ⟨by decide, by decide⟩ ?_
          have c6 := H.1
          replace H := H.2
          refine s_iadd 54 rfl dX9_fewer_53 c6 ?_
          refine s_istore 56 4 rfl dX9_fewer_54 (by decide) (L2 := [(2, 41), (9, 0), (0, x2), (0, x3), (0, x4 + 0), (0, x5)]) rfl ?_
          have c7 := H.1
          replace H := H.2
          refine s_iinc 59 5 rfl dX9_fewer_56 (by decide) (z := x5) rfl (L2 := [(2, 41), (9, 0), (0, x2), (0, x3), (0, x4 + 0), (0, x5 + 1)]) rfl c7 ?_
          refine s_goto 11 dX9_fewer_59 (by decide) ?_
          exact H
        · replace H := H.2 c10
          refine s_iconst 49 rfl dX9_fewer_48 ⟨by decide, by decide⟩ ?_
          refine s_goto 53 dX9_fewer_49 (by decide) ?_
          have c8 := H.1
          replace H := H.2
          refine s_iadd 54 rfl dX9_fewer_53 c8 ?_
          refine s_istore 56 4 rfl dX9_fewer_54 (by decide) (L2 := [(2, 41), (9, 0), (0, x2), (0, x3), (0, x4 + 1), (0, x5)]) rfl ?_
          have c9 := H.1
          replace H := H.2
          refine s_iinc 59 5 rfl dX9_fewer_56 (by decide) (z := x5) rfl (L2 := [(2, 41), (9, 0), (0, x2), (0, x3), (0, x4 + 1), (0, x5 + 1)]) rfl c9 ?_
          refine s_goto 11 dX9_fewer_59 (by decide) ?_
          exact H
theorem vX9_level__0 {X : Nat × (Int → Int)} {h : HP} {Q : Int → HP → Prop} {x1 : Int} (H : ((¬ h 43 4 = 0 → (Wd mX9_endOf X 0 [(2, 41), (0, x1), (9, 0)] [] h (fun r1 h2 => 0 ≤ x1 ∧ x1 < 601 ∧ inI (r1 - h2 49 x1) ∧ Wd mX9_level_ X 47 [(2, 41), (0, x1), (0, r1 - h2 49 x1), (1, 0), (9, 0), (0, h2 49 x1)] [] (xu h2 41 14 r1) Q))) ∧ (h 43 4 = 0 → (Q (h 43 5) h)))) : Wd mX9_level_ X 0 [(2, 41), (0, x1), (9, 0), (9, 0), (9, 0), (9, 0)] [] h Q := by
  refine s_aload_n 1 0 rfl dX9_level__0 rfl rfl ?_
  refine s_getf 4 41 1 rfl dX9_level__1 ck9 rfl (by decide) rfl (by decide) w736 rfl (v := (2, 43)) rfl ?_
  refine s_iconst 5 rfl dX9_level__4 ⟨by decide, by decide⟩ ?_
  refine s_iald 6 rfl dX9_level__5 ia43 (by decide) (by decide) (v9 := h 43 4) rfl ?_
  refine s_if_ne 9 16 rfl dX9_level__6 (by decide) (fun c5 => ?_) (fun c5 => ?_)
  · replace H := H.1 c5
    refine s_aload_n 17 0 rfl dX9_level__16 rfl rfl ?_
    refine s_aload_n 18 0 rfl dX9_level__17 rfl rfl ?_
    refine s_iload_n 19 1 rfl dX9_level__18 rfl rfl ?_
    refine s_callV (mj := mX9_endOf) (S := [(2, 41)]) 22 [(0, x1)] [(2, 41), (0, x1), (9, 0)] 41 rfl dX9_level__19 okX9_endOf w906 w908 w18 rfl (by decide) rfl rfl rfl rfl npX9_endOf (Nat.le_of_ble_eq_true rfl) (by decide) (Nat.le_of_ble_eq_true rfl) rfl (Wd.imp H (fun r1 h2 H => ?_))
    show Wd mX9_level_ X 22 [(2, 41), (0, x1), (9, 0), (9, 0), (9, 0), (9, 0)] [(0, r1), (2, 41)] h2 Q
    refine s_putI 25 41 14 rfl dX9_level__22 ck9 rfl (by decide) rfl (by decide) w749 rfl rfl rfl ?_
    refine s_aload_n 26 0 rfl dX9_level__25 rfl rfl ?_
    refine s_getf 29 41 14 rfl dX9_level__26 ck9 rfl (by decide) rfl (by decide) w749 rfl (v := (0, r1)) (by show (0, (xu h2 41 14 r1) 41 14) = _; rw [(xu_s _ _ _ _)]) ?_
    refine s_aload_n 30 0 rfl dX9_level__29 rfl rfl ?_
    refine s_getf 33 41 9 rfl dX9_level__30 ck9 rfl (by decide) rfl (by decide) w744 rfl (v := (2, 49)) rfl ?_
    refine s_iload_n 34 1 rfl dX9_level__33 rfl rfl ?_
    have c2 := H.1
    replace H := H.2
    have c3 := H.1
    replace H := H.2
    refine s_iald 35 rfl dX9_level__34 ia49 c2 c3 (v9 := h2 49 x1) (xu_k (by decide)) ?_
    have c4 := H.1
    replace H := H.2
    refine s_isub 36 rfl dX9_level__35 c4 ?_
    refine s_istore_n 37 2 rfl dX9_level__36 rfl (by decide) (L2 := [(2, 41), (0, x1), (0, r1 - h2 49 x1), (9, 0), (9, 0), (9, 0)]) rfl ?_
    refine s_lconst 38 0 rfl dX9_level__37 (by decide) ⟨by decide, by decide⟩ ?_
    refine s_lstore_n 39 3 rfl dX9_level__38 rfl (by decide) (L2 := [(2, 41), (0, x1), (0, r1 - h2 49 x1), (1, 0), (9, 0), (9, 0)]) rfl ?_
    refine s_aload_n 40 0 rfl dX9_level__39 rfl rfl ?_
    refine s_getf 43 41 9 rfl dX9_level__40 ck9 rfl (by decide) rfl (by decide) w744 rfl (v := (2, 49)) rfl ?_
    refine s_iload_n 44 1 rfl dX9_level__43 rfl rfl ?_
    refine s_iald 45 rfl dX9_level__44 ia49 c2 c3 (v9 := h2 49 x1) (xu_k (by decide)) ?_
    refine s_istore 47 5 rfl dX9_level__45 (by decide) (L2 := [(2, 41), (0, x1), (0, r1 - h2 49 x1), (1, 0), (9, 0), (0, h2 49 x1)]) rfl ?_
    exact H
  · replace H := H.2 c5
    refine s_aload_n 10 0 rfl dX9_level__9 rfl rfl ?_
    refine s_getf 13 41 1 rfl dX9_level__10 ck9 rfl (by decide) rfl (by decide) w736 rfl (v := (2, 43)) rfl ?_
    refine s_iconst 14 rfl dX9_level__13 ⟨by decide, by decide⟩ ?_
    refine s_iald 15 rfl dX9_level__14 ia43 (by decide) (by decide) (v9 := h 43 5) rfl ?_
    exact s_iret (S := []) dX9_level__15 rfl H
theorem vX9_level__47 {X : Nat × (Int → Int)} {h : HP} {Q : Int → HP → Prop} {x1 x2 x3 x5 : Int} (H : ((h 41 14 ≤ x5 → (Wd mX9_down X 0 [(1, x3), (9, 0), (1, x2), (9, 0), (9, 0), (9, 0)] [] h (fun r1 h2 => inI r1 ∧ Q r1 h2))) ∧ (¬ (h 41 14 ≤ x5) → (0 ≤ x5 ∧ x5 < 600 ∧ inJ (x3 + h 50 x5) ∧ ((¬ h 43 4 = 2 → (inI (x5 + 1) ∧ Wd mX9_level_ X 47 [(2, 41), (0, x1), (0, x2), (1, x3 + h 50 x5), (9, 0), (0, x5 + 1)] [] h Q)) ∧ (h 43 4 = 2 → (Wd mX9_fewer X 0 [(2, 41), (0, x1), (0, h 50 x5), (0, 0), (9, 0), (9, 0)] [] h (fun r8 h9 => inI (x2 - 1) ∧ inI (Int.tdiv (x2 - 1) 2) ∧ ((Int.tdiv (x2 - 1) 2 < r8 → (inI (x5 + 1) ∧ Wd mX9_level_ X 47 [(2, 41), (0, x1), (0, x2), (1, x3 + h 50 x5), (9, 0), (0, x5 + 1)] [] h9 Q)) ∧ (¬ (Int.tdiv (x2 - 1) 2 < r8) → (Wd mX9_fewer X 0 [(2, 41), (0, x1), (0, h9 50 x5), (0, 1), (9, 0), (9, 0)] [] h9 (fun r13 h14 => ((r13 ≤ Int.tdiv (x2 - 1) 2 → (inI (x5 + 1) ∧ Wd mX9_level_ X 47 [(2, 41), (0, x1), (0, x2), (1, x3 + h 50 x5), (9, 0), (0, x5 + 1)] [] h14 Q)) ∧ (¬ (r13 ≤ Int.tdiv (x2 - 1) 2) → (Q (h14 50 x5) h14))))))))))))))) : Wd mX9_level_ X 47 [(2, 41), (0, x1), (0, x2), (1, x3), (9, 0), (0, x5)] [] h Q := by
  refine s_iload 49 5 rfl dX9_level__47 rfl ?_
  refine s_aload_n 50 0 rfl dX9_level__49 rfl rfl ?_
  refine s_getf 53 41 14 rfl dX9_level__50 ck9 rfl (by decide) rfl (by decide) w749 rfl (v := (0, h 41 14)) rfl ?_
  refine s_icmp_ge 56 133 rfl dX9_level__53 (by decide) (fun c18 => ?_) (fun c18 => ?_)
  · replace H := H.1 c18
    refine s_lload_n 134 3 rfl dX9_level__133 rfl rfl ?_
    refine s_iload_n 135 2 rfl dX9_level__134 rfl rfl ?_
    refine s_i2l 136 rfl dX9_level__135 ?_
    refine s_callS (mj := mX9_down) (S := []) 139 [(1, x3), (1, x2)] [(1, x3), (9, 0), (1, x2), (9, 0), (9, 0), (9, 0)] rfl dX9_level__136 okX9_down w890 w891 rfl npX9_down (Nat.le_of_ble_eq_true rfl) (by decide) (Nat.le_of_ble_eq_true rfl) rfl (Wd.imp H (fun r1 h2 H => ?_))
    show Wd mX9_level_ X 139 [(2, 41), (0, x1), (0, x2), (1, x3), (9, 0), (0, x5)] [(1, r1)] h2 Q
    have c2 := H.1
    replace H := H.2
    refine s_l2i 140 rfl dX9_level__139 c2 ?_
    exact s_iret (S := []) dX9_level__140 rfl H
  · replace H := H.2 c18
    refine s_lload_n 57 3 rfl dX9_level__56 rfl rfl ?_
    refine s_aload_n 58 0 rfl dX9_level__57 rfl rfl ?_
    refine s_getf 61 41 10 rfl dX9_level__58 ck9 rfl (by decide) rfl (by decide) w745 rfl (v := (2, 50)) rfl ?_
    refine s_iload 63 5 rfl dX9_level__61 rfl ?_
    have c3 := H.1
    replace H := H.2
    have c4 := H.1
    replace H := H.2
    refine s_iald 64 rfl dX9_level__63 ia50 c3 c4 (v9 := h 50 x5) rfl ?_
    refine s_i2l 65 rfl dX9_level__64 ?_
    have c5 := H.1
    replace H := H.2
    refine s_ladd 66 rfl dX9_level__65 c5 ?_
    refine s_lstore_n 67 3 rfl dX9_level__66 rfl (by decide) (L2 := [(2, 41), (0, x1), (0, x2), (1, x3 + h 50 x5), (9, 0), (0, x5)]) rfl ?_
    refine s_aload_n 68 0 rfl dX9_level__67 rfl rfl ?_
    refine s_getf 71 41 1 rfl dX9_level__68 ck9 rfl (by decide) rfl (by decide) w736 rfl (v := (2, 43)) rfl ?_
    refine s_iconst 72 rfl dX9_level__71 ⟨by decide, by decide⟩ ?_
    refine s_iald 73 rfl dX9_level__72 ia43 (by decide) (by decide) (v9 := h 43 4) rfl ?_
    refine s_iconst 74 rfl dX9_level__73 ⟨by decide, by decide⟩ ?_
    refine s_icmp_ne 77 127 rfl dX9_level__74 (by decide) (fun c17 => ?_) (fun c17 => ?_)
    · replace H := H.1 c17
      have c6 := H.1
      replace H := H.2
      refine s_iinc 130 5 rfl dX9_level__127 (by decide) (z := x5) rfl (L2 := [(2, 41), (0, x1), (0, x2), (1, x3 + h 50 x5), (9, 0), (0, x5 + 1)]) rfl c6 ?_
      refine s_goto 47 dX9_level__130 (by decide) ?_
      exact H
    · replace H := H.2 c17
      refine s_aload_n 78 0 rfl dX9_level__77 rfl rfl ?_
      refine s_iload_n 79 1 rfl dX9_level__78 rfl rfl ?_
      refine s_aload_n 80 0 rfl dX9_level__79 rfl rfl ?_
      refine s_getf 83 41 10 rfl dX9_level__80 ck9 rfl (by decide) rfl (by decide) w745 rfl (v := (2, 50)) rfl ?_
      refine s_iload 85 5 rfl dX9_level__83 rfl ?_
      refine s_iald 86 rfl dX9_level__85 ia50 c3 c4 (v9 := h 50 x5) rfl ?_
      refine s_iconst 87 rfl dX9_level__86 ⟨by decide, by decide⟩ ?_
      refine s_callV (mj := mX9_fewer) (S := []) 90 [(0, x1), (0, h 50 x5), (0, 0)] [(2, 41), (0, x1), (0, h 50 x5), (0, 0), (9, 0), (9, 0)] 41 rfl dX9_level__87 okX9_fewer w910 w912 w19 rfl (by decide) rfl rfl rfl rfl npX9_fewer (Nat.le_of_ble_eq_true rfl) (by decide) (Nat.le_of_ble_eq_true rfl) rfl (Wd.imp H (fun r8 h9 H => ?_))
      show Wd mX9_level_ X 90 [(2, 41), (0, x1), (0, x2), (1, x3 + h 50 x5), (9, 0), (0, x5)] [(0, r8)] h9 Q
      refine s_iload_n 91 2 rfl dX9_level__90 rfl rfl ?_
      refine s_iconst 92 rfl dX9_level__91 ⟨by decide, by decide⟩ ?_
      have c9 := H.1
      replace H := H.2
      refine s_isub 93 rfl dX9_level__92 c9 ?_
      refine s_iconst 94 rfl dX9_level__93 ⟨by decide, by decide⟩ ?_
      have c10 := H.1
      replace H := H.2
      refine s_idiv 95 rfl dX9_level__94 (by decide) c10 ?_
      refine s_icmp_gt 98 127 rfl dX9_level__95 (by decide) (fun c16 => ?_) (fun c16 => ?_)
      · replace H := H.1 c16
        have c11 := H.1
        replace H := H.2
        refine s_iinc 130 5 rfl dX9_level__127 (by decide) (z := x5) rfl (L2 := [(2, 41), (0, x1), (0, x2), (1, x3 + h 50 x5), (9, 0), (0, x5 + 1)]) rfl c11 ?_
        refine s_goto 47 dX9_level__130 (by decide) ?_
        exact H
      · replace H := H.2 c16
        refine s_aload_n 99 0 rfl dX9_level__98 rfl rfl ?_
        refine s_iload_n 100 1 rfl dX9_level__99 rfl rfl ?_
        refine s_aload_n 101 0 rfl dX9_level__100 rfl rfl ?_
        refine s_getf 104 41 10 rfl dX9_level__101 ck9 rfl (by decide) rfl (by decide) w745 rfl (v := (2, 50)) rfl ?_
        refine s_iload 106 5 rfl dX9_level__104 rfl ?_
        refine s_iald 107 rfl dX9_level__106 ia50 c3 c4 (v9 := h9 50 x5) rfl ?_
        refine s_iconst 108 rfl dX9_level__107 ⟨by decide, by decide⟩ ?_
        refine s_callV (mj := mX9_fewer) (S := []) 111 [(0, x1), (0, h9 50 x5), (0, 1)] [(2, 41), (0, x1), (0, h9 50 x5), (0, 1), (9, 0), (9, 0)] 41 rfl dX9_level__108 okX9_fewer w910 w912 w19 rfl (by decide) rfl rfl rfl rfl npX9_fewer (Nat.le_of_ble_eq_true rfl) (by decide) (Nat.le_of_ble_eq_true rfl) rfl (Wd.imp H (fun r13 h14 H => ?_))
        show Wd mX9_level_ X 111 [(2, 41), (0, x1), (0, x2), (1, x3 + h 50 x5), (9, 0), (0, x5)] [(0, r13)] h14 Q
        refine s_iload_n 112 2 rfl dX9_level__111 rfl rfl ?_
        refine s_iconst 113 rfl dX9_level__112 ⟨by decide, by decide⟩ ?_
        refine s_isub 114 rfl dX9_level__113 c9 ?_
        refine s_iconst 115 rfl dX9_level__114 ⟨by decide, by decide⟩ ?_
        refine s_idiv 116 rfl dX9_level__115 (by decide) c10 ?_
        refine s_icmp_le 119 127 rfl dX9_level__116 (by decide) (fun c15 => ?_) (fun c15 => ?_)
        · replace H := H.1 c15
          have c14 := H.1
          replace H := H.2
          refine s_iinc 130 5 rfl dX9_level__127 (by decide) (z := x5) rfl (L2 := [(2, 41), (0, x1), (0, x2), (1, x3 + h 50 x5), (9, 0), (0, x5 + 1)]) rfl c14 ?_
          refine s_goto 47 dX9_level__130 (by decide) ?_
          exact H
        · replace H := H.2 c15
          refine s_aload_n 120 0 rfl dX9_level__119 rfl rfl ?_
          refine s_getf 123 41 10 rfl dX9_level__120 ck9 rfl (by decide) rfl (by decide) w745 rfl (v := (2, 50)) rfl ?_
          refine s_iload 125 5 rfl dX9_level__123 rfl ?_
          refine s_iald 126 rfl dX9_level__125 ia50 c3 c4 (v9 := h14 50 x5) rfl ?_
          exact s_iret (S := []) dX9_level__126 rfl H
theorem vX9_crosses_0 {X : Nat × (Int → Int)} {h : HP} {Q : Int → HP → Prop} {x1 x2 x3 : Int} (H : 0 ≤ x1 ∧ x1 < 600 ∧ inI (x2 - x3) ∧ (((x2 - x3) ≤ h 50 x1 → ((h 41 29 = 0 → (Q 0 h)) ∧ (¬ h 41 29 = 0 → (inI (x2 + x3) ∧ (((x2 + x3) < h 50 x1 → (Q 1 (xu h 41 29 0))) ∧ (¬ ((x2 + x3) < h 50 x1) → (Q 0 h))))))) ∧ (¬ ((x2 - x3) ≤ h 50 x1) → (inI (x2 + x3) ∧ (((x2 + x3) < h 50 x1 → (Q 1 (xu (xu h 41 29 1) 41 29 0))) ∧ (¬ ((x2 + x3) < h 50 x1) → (Q 0 (xu h 41 29 1)))))))) : Wd mX9_crosses X 0 [(2, 41), (0, x1), (0, x2), (0, x3)] [] h Q := by
  refine s_aload_n 1 0 rfl dX9_crosses_0 rfl rfl ?_
  refine s_getf 4 41 10 rfl dX9_crosses_1 ck9 rfl (by decide) rfl (by decide) w745 rfl (v := (2, 50)) rfl ?_
  refine s_iload_n 5 1 rfl dX9_crosses_4 rfl rfl ?_
  have c0 := H.1
  replace H := H.2
  have c1 := H.1
  replace H := H.2
  refine s_iald 6 rfl dX9_crosses_5 ia50 c0 c1 (v9 := h 50 x1) rfl ?_
  refine s_iload_n 7 2 rfl dX9_crosses_6 rfl rfl ?_
  refine s_iload_n 8 3 rfl dX9_crosses_7 rfl rfl ?_
  have c2 := H.1
  replace H := H.2
  refine s_isub 9 rfl dX9_crosses_8 c2 ?_
  refine s_icmp_ge 12 17 rfl dX9_crosses_9 (by decide) (fun c9 => ?_) (fun c9 => ?_)
  · replace H := H.1 c9
    refine s_aload_n 18 0 rfl dX9_crosses_17 rfl rfl ?_
    refine s_getf 21 41 29 rfl dX9_crosses_18 ck9 rfl (by decide) rfl (by decide) w764 rfl (v := (0, h 41 29)) rfl ?_
    refine s_if_eq 24 36 rfl dX9_crosses_21 (by decide) (fun c5 => ?_) (fun c5 => ?_)
    · replace H := H.1 c5
      refine s_iconst 37 rfl dX9_crosses_36 ⟨by decide, by decide⟩ ?_
      exact s_zret (S := []) dX9_crosses_37 rfl (Or.inl rfl) H
    · replace H := H.2 c5
      refine s_aload_n 25 0 rfl dX9_crosses_24 rfl rfl ?_
      refine s_getf 28 41 10 rfl dX9_crosses_25 ck9 rfl (by decide) rfl (by decide) w745 rfl (v := (2, 50)) rfl ?_
      refine s_iload_n 29 1 rfl dX9_crosses_28 rfl rfl ?_
      refine s_iald 30 rfl dX9_crosses_29 ia50 c0 c1 (v9 := h 50 x1) rfl ?_
      refine s_iload_n 31 2 rfl dX9_crosses_30 rfl rfl ?_
      refine s_iload_n 32 3 rfl dX9_crosses_31 rfl rfl ?_
      have c3 := H.1
      replace H := H.2
      refine s_iadd 33 rfl dX9_crosses_32 c3 ?_
      refine s_icmp_gt 36 38 rfl dX9_crosses_33 (by decide) (fun c4 => ?_) (fun c4 => ?_)
      · replace H := H.1 c4
        refine s_aload_n 39 0 rfl dX9_crosses_38 rfl rfl ?_
        refine s_iconst 40 rfl dX9_crosses_39 ⟨by decide, by decide⟩ ?_
        refine s_putZ 43 41 29 rfl dX9_crosses_40 ck9 rfl (by decide) rfl (by decide) w764 rfl rfl rfl (Or.inl rfl) ?_
        refine s_iconst 44 rfl dX9_crosses_43 ⟨by decide, by decide⟩ ?_
        exact s_zret (S := []) dX9_crosses_44 rfl (Or.inr rfl) H
      · replace H := H.2 c4
        refine s_iconst 37 rfl dX9_crosses_36 ⟨by decide, by decide⟩ ?_
        exact s_zret (S := []) dX9_crosses_37 rfl (Or.inl rfl) H
  · replace H := H.2 c9
    refine s_aload_n 13 0 rfl dX9_crosses_12 rfl rfl ?_
    refine s_iconst 14 rfl dX9_crosses_13 ⟨by decide, by decide⟩ ?_
    refine s_putZ 17 41 29 rfl dX9_crosses_14 ck9 rfl (by decide) rfl (by decide) w764 rfl rfl rfl (Or.inr rfl) ?_
    refine s_aload_n 18 0 rfl dX9_crosses_17 rfl rfl ?_
    refine s_getf 21 41 29 rfl dX9_crosses_18 ck9 rfl (by decide) rfl (by decide) w764 rfl (v := (0, 1)) (by show (0, (xu h 41 29 1) 41 29) = _; rw [(xu_s _ _ _ _)]) ?_
    refine s_if_eq 24 36 rfl dX9_crosses_21 (by decide) (fun c6 => ?_) (fun c6 => ?_)
    · exact absurd c6 (by decide)
    · refine s_aload_n 25 0 rfl dX9_crosses_24 rfl rfl ?_
      refine s_getf 28 41 10 rfl dX9_crosses_25 ck9 rfl (by decide) rfl (by decide) w745 rfl (v := (2, 50)) rfl ?_
      refine s_iload_n 29 1 rfl dX9_crosses_28 rfl rfl ?_
      refine s_iald 30 rfl dX9_crosses_29 ia50 c0 c1 (v9 := h 50 x1) (xu_k (by decide)) ?_
      refine s_iload_n 31 2 rfl dX9_crosses_30 rfl rfl ?_
      refine s_iload_n 32 3 rfl dX9_crosses_31 rfl rfl ?_
      have c7 := H.1
      replace H := H.2
      refine s_iadd 33 rfl dX9_crosses_32 c7 ?_
      refine s_icmp_gt 36 38 rfl dX9_crosses_33 (by decide) (fun c8 => ?_) (fun c8 => ?_)
      · replace H := H.1 c8
        refine s_aload_n 39 0 rfl dX9_crosses_38 rfl rfl ?_
        refine s_iconst 40 rfl dX9_crosses_39 ⟨by decide, by decide⟩ ?_
        refine s_putZ 43 41 29 rfl dX9_crosses_40 ck9 rfl (by decide) rfl (by decide) w764 rfl rfl rfl (Or.inl rfl) ?_
        refine s_iconst 44 rfl dX9_crosses_43 ⟨by decide, by decide⟩ ?_
        exact s_zret (S := []) dX9_crosses_44 rfl (Or.inr rfl) H
      · replace H := H.2 c8
        refine s_iconst 37 rfl dX9_crosses_36 ⟨by decide, by decide⟩ ?_
        exact s_zret (S := []) dX9_crosses_37 rfl (Or.inl rfl) H
theorem vX9_countWaves_0 {X : Nat × (Int → Int)} {h : HP} {Q : Int → HP → Prop} {x1 : Int} (H : Wd mX9_countWaves X 4 [(2, 41), (0, x1), (0, 0), (0, 0), (9, 0), (9, 0)] [] h Q) : Wd mX9_countWaves X 0 [(2, 41), (0, x1), (9, 0), (9, 0), (9, 0), (9, 0)] [] h Q := by
  refine s_iconst 1 rfl dX9_countWaves_0 ⟨by decide, by decide⟩ ?_
  refine s_istore_n 2 2 rfl dX9_countWaves_1 rfl (by decide) (L2 := [(2, 41), (0, x1), (0, 0), (9, 0), (9, 0), (9, 0)]) rfl ?_
  refine s_iconst 3 rfl dX9_countWaves_2 ⟨by decide, by decide⟩ ?_
  refine s_istore_n 4 3 rfl dX9_countWaves_3 rfl (by decide) (L2 := [(2, 41), (0, x1), (0, 0), (0, 0), (9, 0), (9, 0)]) rfl ?_
  exact H
theorem vX9_countWaves_4 {X : Nat × (Int → Int)} {h : HP} {Q : Int → HP → Prop} {x1 x2 x3 : Int} (H : ((h 41 12 ≤ x3 → (Q x2 h)) ∧ (¬ (h 41 12 ≤ x3) → (0 ≤ x3 ∧ x3 < 601 ∧ Wd mX9_countWaves X 28 [(2, 41), (0, x1), (0, x2), (0, x3), (0, 0), (0, h 49 x3)] [] (xu h 41 29 0) Q)))) : Wd mX9_countWaves X 4 [(2, 41), (0, x1), (0, x2), (0, x3), (9, 0), (9, 0)] [] h Q := by
  refine s_iload_n 5 3 rfl dX9_countWaves_4 rfl rfl ?_
  refine s_aload_n 6 0 rfl dX9_countWaves_5 rfl rfl ?_
  refine s_getf 9 41 12 rfl dX9_countWaves_6 ck9 rfl (by decide) rfl (by decide) w747 rfl (v := (0, h 41 12)) rfl ?_
  refine s_icmp_ge 12 103 rfl dX9_countWaves_9 (by decide) (fun c2 => ?_) (fun c2 => ?_)
  · replace H := H.1 c2
    refine s_iload_n 104 2 rfl dX9_countWaves_103 rfl rfl ?_
    exact s_iret (S := []) dX9_countWaves_104 rfl H
  · replace H := H.2 c2
    refine s_aload_n 13 0 rfl dX9_countWaves_12 rfl rfl ?_
    refine s_iconst 14 rfl dX9_countWaves_13 ⟨by decide, by decide⟩ ?_
    refine s_putZ 17 41 29 rfl dX9_countWaves_14 ck9 rfl (by decide) rfl (by decide) w764 rfl rfl rfl (Or.inl rfl) ?_
    refine s_iconst 18 rfl dX9_countWaves_17 ⟨by decide, by decide⟩ ?_
    refine s_istore 20 4 rfl dX9_countWaves_18 (by decide) (L2 := [(2, 41), (0, x1), (0, x2), (0, x3), (0, 0), (9, 0)]) rfl ?_
    refine s_aload_n 21 0 rfl dX9_countWaves_20 rfl rfl ?_
    refine s_getf 24 41 9 rfl dX9_countWaves_21 ck9 rfl (by decide) rfl (by decide) w744 rfl (v := (2, 49)) rfl ?_
    refine s_iload_n 25 3 rfl dX9_countWaves_24 rfl rfl ?_
    have c0 := H.1
    replace H := H.2
    have c1 := H.1
    replace H := H.2
    refine s_iald 26 rfl dX9_countWaves_25 ia49 c0 c1 (v9 := h 49 x3) (xu_k (by decide)) ?_
    refine s_istore 28 5 rfl dX9_countWaves_26 (by decide) (L2 := [(2, 41), (0, x1), (0, x2), (0, x3), (0, 0), (0, h 49 x3)]) rfl ?_
    exact H
theorem vX9_countWaves_28 {X : Nat × (Int → Int)} {h : HP} {Q : Int → HP → Prop} {x1 x2 x3 x4 x5 : Int} (H : ((h 41 5 ≤ x5 → ((x4 ≤ 1 → (inI (x2 + 0) ∧ inI (x3 + 1) ∧ Wd mX9_countWaves X 4 [(2, 41), (0, x1), (0, x2 + 0), (0, x3 + 1), (9, 0), (9, 0)] [] h Q)) ∧ (¬ (x4 ≤ 1) → (inI (x4 - 1) ∧ inI (x2 + (x4 - 1)) ∧ inI (x3 + 1) ∧ Wd mX9_countWaves X 4 [(2, 41), (0, x1), (0, x2 + (x4 - 1)), (0, x3 + 1), (9, 0), (9, 0)] [] h Q)))) ∧ (¬ (h 41 5 ≤ x5) → (0 ≤ x5 ∧ x5 < 600 ∧ ((¬ h 48 x5 = x3 → ((x4 ≤ 1 → (inI (x2 + 0) ∧ inI (x3 + 1) ∧ Wd mX9_countWaves X 4 [(2, 41), (0, x1), (0, x2 + 0), (0, x3 + 1), (9, 0), (9, 0)] [] h Q)) ∧ (¬ (x4 ≤ 1) → (inI (x4 - 1) ∧ inI (x2 + (x4 - 1)) ∧ inI (x3 + 1) ∧ Wd mX9_countWaves X 4 [(2, 41), (0, x1), (0, x2 + (x4 - 1)), (0, x3 + 1), (9, 0), (9, 0)] [] h Q)))) ∧ (h 48 x5 = x3 → (0 ≤ x3 ∧ x3 < 601 ∧ Wd mX9_crosses X 0 [(2, 41), (0, x5), (0, h 52 x3), (0, x1)] [] h (fun r17 h18 => ((r17 = 0 → (inI (x4 + 0) ∧ inI (x5 + 1) ∧ Wd mX9_countWaves X 28 [(2, 41), (0, x1), (0, x2), (0, x3), (0, x4 + 0), (0, x5 + 1)] [] h18 Q)) ∧ (¬ r17 = 0 → (inI (x4 + 1) ∧ inI (x5 + 1) ∧ Wd mX9_countWaves X 28 [(2, 41), (0, x1), (0, x2), (0, x3), (0, x4 + 1), (0, x5 + 1)] [] h18 Q))))))))))) : Wd mX9_countWaves X 28 [(2, 41), (0, x1), (0, x2), (0, x3), (0, x4), (0, x5)] [] h Q := by
  refine s_iload 30 5 rfl dX9_countWaves_28 rfl ?_
  refine s_aload_n 31 0 rfl dX9_countWaves_30 rfl rfl ?_
  refine s_getf 34 41 5 rfl dX9_countWaves_31 ck9 rfl (by decide) rfl (by decide) w740 rfl (v := (0, h 41 5)) rfl ?_
  refine s_icmp_ge 37 80 rfl dX9_countWaves_34 (by decide) (fun c24 => ?_) (fun c24 => ?_)
  · replace H := H.1 c24
    refine s_iload_n 81 2 rfl dX9_countWaves_80 rfl rfl ?_
    refine s_iload 83 4 rfl dX9_countWaves_81 rfl ?_
    refine s_iconst 84 rfl dX9_countWaves_83 ⟨by decide, by decide⟩ ?_
    refine s_icmp_le 87 94 rfl dX9_countWaves_84 (by decide) (fun c5 => ?_) (fun c5 => ?_)
    · replace H := H.1 c5
      refine s_iconst 95 rfl dX9_countWaves_94 ⟨by decide, by decide⟩ ?_
      have c0 := H.1
      replace H := H.2
      refine s_iadd 96 rfl dX9_countWaves_95 c0 ?_
      refine s_istore_n 97 2 rfl dX9_countWaves_96 rfl (by decide) (L2 := [(2, 41), (0, x1), (0, x2 + 0), (0, x3), (0, x4), (0, x5)]) rfl ?_
      have c1 := H.1
      replace H := H.2
      refine s_iinc 100 3 rfl dX9_countWaves_97 (by decide) (z := x3) rfl (L2 := [(2, 41), (0, x1), (0, x2 + 0), (0, x3 + 1), (0, x4), (0, x5)]) rfl c1 ?_
      refine s_goto 4 dX9_countWaves_100 (by decide) ?_
      exact s_less [(2, 41), (0, x1), (0, x2 + 0), (0, x3 + 1), (9, 0), (9, 0)] ⟨Or.inr rfl, Or.inr rfl, Or.inr rfl, Or.inr rfl, Or.inl rfl, Or.inl rfl, trivial⟩ H
    · replace H := H.2 c5
      refine s_iload 89 4 rfl dX9_countWaves_87 rfl ?_
      refine s_iconst 90 rfl dX9_countWaves_89 ⟨by decide, by decide⟩ ?_
      have c2 := H.1
      replace H := H.2
      refine s_isub 91 rfl dX9_countWaves_90 c2 ?_
      refine s_goto 95 dX9_countWaves_91 (by decide) ?_
      have c3 := H.1
      replace H := H.2
      refine s_iadd 96 rfl dX9_countWaves_95 c3 ?_
      refine s_istore_n 97 2 rfl dX9_countWaves_96 rfl (by decide) (L2 := [(2, 41), (0, x1), (0, x2 + (x4 - 1)), (0, x3), (0, x4), (0, x5)]) rfl ?_
      have c4 := H.1
      replace H := H.2
      refine s_iinc 100 3 rfl dX9_countWaves_97 (by decide) (z := x3) rfl (L2 := [(2, 41), (0, x1), (0, x2 + (x4 - 1)), (0, x3 + 1), (0, x4), (0, x5)]) rfl c4 ?_
      refine s_goto 4 dX9_countWaves_100 (by decide) ?_
      exact s_less [(2, 41), (0, x1), (0, x2 + (x4 - 1)), (0, x3 + 1), (9, 0), (9, 0)] ⟨Or.inr rfl, Or.inr rfl, Or.inr rfl, Or.inr rfl, Or.inl rfl, Or.inl rfl, trivial⟩ H
  · replace H := H.2 c24
    refine s_aload_n 38 0 rfl dX9_countWaves_37 rfl rfl ?_
    refine s_getf 41 41 8 rfl dX9_countWaves_38 ck9 rfl (by decide) rfl (by decide) w743 rfl (v := (2, 48)) rfl ?_
    refine s_iload 43 5 rfl dX9_countWaves_41 rfl ?_
    have c6 := H.1
    replace H := H.2
    have c7 := H.1
    replace H := H.2
    refine s_iald 44 rfl dX9_countWaves_43 ia48 c6 c7 (v9 := h 48 x5) rfl ?_
    refine s_iload_n 45 3 rfl dX9_countWaves_44 rfl rfl ?_
    refine s_icmp_ne 48 80 rfl dX9_countWaves_45 (by decide) (fun c23 => ?_) (fun c23 => ?_)
    · replace H := H.1 c23
      refine s_iload_n 81 2 rfl dX9_countWaves_80 rfl rfl ?_
      refine s_iload 83 4 rfl dX9_countWaves_81 rfl ?_
      refine s_iconst 84 rfl dX9_countWaves_83 ⟨by decide, by decide⟩ ?_
      refine s_icmp_le 87 94 rfl dX9_countWaves_84 (by decide) (fun c13 => ?_) (fun c13 => ?_)
      · replace H := H.1 c13
        refine s_iconst 95 rfl dX9_countWaves_94 ⟨by decide, by decide⟩ ?_
        have c8 := H.1
        replace H := H.2
        refine s_iadd 96 rfl dX9_countWaves_95 c8 ?_
        refine s_istore_n 97 2 rfl dX9_countWaves_96 rfl (by decide) (L2 := [(2, 41), (0, x1), (0, x2 + 0), (0, x3), (0, x4), (0, x5)]) rfl ?_
        have c9 := H.1
        replace H := H.2
        refine s_iinc 100 3 rfl dX9_countWaves_97 (by decide) (z := x3) rfl (L2 := [(2, 41), (0, x1), (0, x2 + 0), (0, x3 + 1), (0, x4), (0, x5)]) rfl c9 ?_
        refine s_goto 4 dX9_countWaves_100 (by decide) ?_
        exact s_less [(2, 41), (0, x1), (0, x2 + 0), (0, x3 + 1), (9, 0), (9, 0)] ⟨Or.inr rfl, Or.inr rfl, Or.inr rfl, Or.inr rfl, Or.inl rfl, Or.inl rfl, trivial⟩ H
      · replace H := H.2 c13
        refine s_iload 89 4 rfl dX9_countWaves_87 rfl ?_
        refine s_iconst 90 rfl dX9_countWaves_89 ⟨by decide, by decide⟩ ?_
        have c10 := H.1
        replace H := H.2
        refine s_isub 91 rfl dX9_countWaves_90 c10 ?_
        refine s_goto 95 dX9_countWaves_91 (by decide) ?_
        have c11 := H.1
        replace H := H.2
        refine s_iadd 96 rfl dX9_countWaves_95 c11 ?_
        refine s_istore_n 97 2 rfl dX9_countWaves_96 rfl (by decide) (L2 := [(2, 41), (0, x1), (0, x2 + (x4 - 1)), (0, x3), (0, x4), (0, x5)]) rfl ?_
        have c12 := H.1
        replace H := H.2
        refine s_iinc 100 3 rfl dX9_countWaves_97 (by decide) (z := x3) rfl (L2 := [(2, 41), (0, x1), (0, x2 + (x4 - 1)), (0, x3 + 1), (0, x4), (0, x5)]) rfl c12 ?_
        refine s_goto 4 dX9_countWaves_100 (by decide) ?_
        exact s_less [(2, 41), (0, x1), (0, x2 + (x4 - 1)), (0, x3 + 1), (9, 0), (9, 0)] ⟨Or.inr rfl, Or.inr rfl, Or.inr rfl, Or.inr rfl, Or.inl rfl, Or.inl rfl, trivial⟩ H
    · replace H := H.2 c23
      refine s_iload 50 4 rfl dX9_countWaves_48 rfl ?_
      refine s_aload_n 51 0 rfl dX9_countWaves_50 rfl rfl ?_
      refine s_iload 53 5 rfl dX9_countWaves_51 rfl ?_
      refine s_aload_n 54 0 rfl dX9_countWaves_53 rfl rfl ?_
      refine s_getf 57 41 15 rfl dX9_countWaves_54 ck9 rfl (by decide) rfl (by decide) w750 rfl (v := (2, 52)) rfl ?_
      refine s_iload_n 58 3 rfl dX9_countWaves_57 rfl rfl ?_
      have c14 := H.1
      replace H := H.2
      have c15 := H.1
      replace H := H.2
      refine s_iald 59 rfl dX9_countWaves_58 ia52 c14 c15 (v9 := h 52 x3) rfl ?_
      refine s_iload_n 60 1 rfl dX9_countWaves_59 rfl rfl ?_
      refine s_callV (mj := mX9_crosses) (S := [(0, x4)]) 63 [(0, x5), (0, h 52 x3), (0, x1)] [(2, 41), (0, x5), (0, h 52 x3), (0, x1)] 41 rfl dX9_countWaves_60 okX9_crosses w914 w916 w20 rfl (by decide) rfl rfl rfl rfl npX9_crosses (Nat.le_of_ble_eq_true rfl) (by decide) (Nat.le_of_ble_eq_true rfl) rfl (Wd.imp H (fun r17 h18 H => ?_))
      show Wd mX9_countWaves X 63 [(2, 41), (0, x1), (0, x2), (0, x3), (0, x4), (0, x5)] [(0, r17), (0, x4)] h18 Q
      refine s_if_eq 66 70 rfl dX9_countWaves_63 (by decide) (fun c22 => ?_) (fun c22 => ?_)
      · replace H := H.1 c22
        refine s_iconst 71 rfl dX9_countWaves_70 ⟨by decide, by decide⟩ ?_
        have c18 := H.1
        replace H := H.2
        refine s_iadd 72 rfl dX9_countWaves_71 c18 ?_
        refine s_istore 74 4 rfl dX9_countWaves_72 (by decide) (L2 := [(2, 41), (0, x1), (0, x2), (0, x3), (0, x4 + 0), (0, x5)]) rfl ?_
        have c19 := H.1
        replace H := H.2
        refine s_iinc 77 5 rfl dX9_countWaves_74 (by decide) (z := x5) rfl (L2 := [(2, 41), (0, x1), (0, x2), (0, x3), (0, x4 + 0), (0, x5 + 1)]) rfl c19 ?_
        refine s_goto 28 dX9_countWaves_77 (by decide) ?_
        exact H
      · replace H := H.2 c22
        refine s_iconst 67 rfl dX9_countWaves_66 ⟨by decide, by decide⟩ ?_
        refine s_goto 71 dX9_countWaves_67 (by decide) ?_
        have c20 := H.1
        replace H := H.2
        refine s_iadd 72 rfl dX9_countWaves_71 c20 ?_
        refine s_istore 74 4 rfl dX9_countWaves_72 (by decide) (L2 := [(2, 41), (0, x1), (0, x2), (0, x3), (0, x4 + 1), (0, x5)]) rfl ?_
        have c21 := H.1
        replace H := H.2
        refine s_iinc 77 5 rfl dX9_countWaves_74 (by decide) (z := x5) rfl (L2 := [(2, 41), (0, x1), (0, x2), (0, x3), (0, x4 + 1), (0, x5 + 1)]) rfl c21 ?_
        refine s_goto 28 dX9_countWaves_77 (by decide) ?_
        exact H
theorem vX9_height_0 {X : Nat × (Int → Int)} {h : HP} {Q : Int → HP → Prop} {x1 : Int} (H : 0 ≤ x1 ∧ x1 < 301 ∧ inI (h 59 x1 - h 60 x1) ∧ Q (h 59 x1 - h 60 x1) h) : Wd mX9_height X 0 [(2, 41), (0, x1)] [] h Q := by
  refine s_aload_n 1 0 rfl dX9_height_0 rfl rfl ?_
  refine s_getf 4 41 22 rfl dX9_height_1 ck9 rfl (by decide) rfl (by decide) w757 rfl (v := (2, 59)) rfl ?_
  refine s_iload_n 5 1 rfl dX9_height_4 rfl rfl ?_
  have c0 := H.1
  replace H := H.2
  have c1 := H.1
  replace H := H.2
  refine s_iald 6 rfl dX9_height_5 ia59 c0 c1 (v9 := h 59 x1) rfl ?_
  refine s_aload_n 7 0 rfl dX9_height_6 rfl rfl ?_
  refine s_getf 10 41 23 rfl dX9_height_7 ck9 rfl (by decide) rfl (by decide) w758 rfl (v := (2, 60)) rfl ?_
  refine s_iload_n 11 1 rfl dX9_height_10 rfl rfl ?_
  refine s_iald 12 rfl dX9_height_11 ia60 c0 c1 (v9 := h 60 x1) rfl ?_
  have c2 := H.1
  replace H := H.2
  refine s_isub 13 rfl dX9_height_12 c2 ?_
  exact s_iret (S := []) dX9_height_13 rfl H
theorem vX9_highestMany_0 {X : Nat × (Int → Int)} {h : HP} {Q : Int → HP → Prop} {x1 : Int} (H : ((¬ h 41 28 = 0 → (¬ x1 = 0 ∧ inI (Int.tdiv (h 41 28) x1) ∧ ((1 ≤ Int.tdiv (h 41 28) x1 → (Q (Int.tdiv (h 41 28) x1) h)) ∧ (¬ (1 ≤ Int.tdiv (h 41 28) x1) → (Q 1 h))))) ∧ (h 41 28 = 0 → (Q 0 h)))) : Wd mX9_highestMany X 0 [(2, 41), (0, x1)] [] h Q := by
  refine s_aload_n 1 0 rfl dX9_highestMany_0 rfl rfl ?_
  refine s_getf 4 41 28 rfl dX9_highestMany_1 ck9 rfl (by decide) rfl (by decide) w763 rfl (v := (0, h 41 28)) rfl ?_
  refine s_if_ne 7 11 rfl dX9_highestMany_4 (by decide) (fun c3 => ?_) (fun c3 => ?_)
  · replace H := H.1 c3
    refine s_aload_n 12 0 rfl dX9_highestMany_11 rfl rfl ?_
    refine s_getf 15 41 28 rfl dX9_highestMany_12 ck9 rfl (by decide) rfl (by decide) w763 rfl (v := (0, h 41 28)) rfl ?_
    refine s_iload_n 16 1 rfl dX9_highestMany_15 rfl rfl ?_
    have c0 := H.1
    replace H := H.2
    have c1 := H.1
    replace H := H.2
    refine s_idiv 17 rfl dX9_highestMany_16 c0 c1 ?_
    refine s_iconst 18 rfl dX9_highestMany_17 ⟨by decide, by decide⟩ ?_
    refine s_icmp_ge 21 25 rfl dX9_highestMany_18 (by decide) (fun c2 => ?_) (fun c2 => ?_)
    · replace H := H.1 c2
      refine s_aload_n 26 0 rfl dX9_highestMany_25 rfl rfl ?_
      refine s_getf 29 41 28 rfl dX9_highestMany_26 ck9 rfl (by decide) rfl (by decide) w763 rfl (v := (0, h 41 28)) rfl ?_
      refine s_iload_n 30 1 rfl dX9_highestMany_29 rfl rfl ?_
      refine s_idiv 31 rfl dX9_highestMany_30 c0 c1 ?_
      exact s_iret (S := []) dX9_highestMany_31 rfl H
    · replace H := H.2 c2
      refine s_iconst 22 rfl dX9_highestMany_21 ⟨by decide, by decide⟩ ?_
      refine s_goto 31 dX9_highestMany_22 (by decide) ?_
      exact s_iret (S := []) dX9_highestMany_31 rfl H
  · replace H := H.2 c3
    refine s_iconst 8 rfl dX9_highestMany_7 ⟨by decide, by decide⟩ ?_
    refine s_goto 31 dX9_highestMany_8 (by decide) ?_
    exact s_iret (S := []) dX9_highestMany_31 rfl H
theorem vX9_highestSum_0 {X : Nat × (Int → Int)} {h : HP} {Q : Int → HP → Prop} {x1 x2 : Int} (H : Wd mX9_highestSum X 5 [(2, 41), (0, x1), (0, x2), (1, 0), (9, 0), (0, 0)] [] h Q) : Wd mX9_highestSum X 0 [(2, 41), (0, x1), (0, x2), (9, 0), (9, 0), (9, 0)] [] h Q := by
  refine s_lconst 1 0 rfl dX9_highestSum_0 (by decide) ⟨by decide, by decide⟩ ?_
  refine s_lstore_n 2 3 rfl dX9_highestSum_1 rfl (by decide) (L2 := [(2, 41), (0, x1), (0, x2), (1, 0), (9, 0), (9, 0)]) rfl ?_
  refine s_iconst 3 rfl dX9_highestSum_2 ⟨by decide, by decide⟩ ?_
  refine s_istore 5 5 rfl dX9_highestSum_3 (by decide) (L2 := [(2, 41), (0, x1), (0, x2), (1, 0), (9, 0), (0, 0)]) rfl ?_
  exact H
theorem vX9_highestSum_5 {X : Nat × (Int → Int)} {h : HP} {Q : Int → HP → Prop} {x1 x2 x3 x5 : Int} (H : ((h 41 28 ≤ x5 → (Q x3 h)) ∧ (¬ (h 41 28 ≤ x5) → (0 ≤ x5 ∧ x5 < 301 ∧ Wd mX9_highestMany X 0 [(2, 41), (0, x1)] [] h (fun r3 h4 => ((r3 ≤ h 63 x5 → (inI (x5 + 1) ∧ Wd mX9_highestSum X 5 [(2, 41), (0, x1), (0, x2), (1, x3), (9, 0), (0, x5 + 1)] [] h4 Q)) ∧ (¬ (r3 ≤ h 63 x5) → ((x2 = 0 → (inJ (x3 + h4 58 x5) ∧ inI (x5 + 1) ∧ Wd mX9_highestSum X 5 [(2, 41), (0, x1), (0, x2), (1, x3 + h4 58 x5), (9, 0), (0, x5 + 1)] [] h4 Q)) ∧ (¬ x2 = 0 → (Wd mX9_height X 0 [(2, 41), (0, x5)] [] h4 (fun r8 h9 => inJ (x3 + r8) ∧ inI (x5 + 1) ∧ Wd mX9_highestSum X 5 [(2, 41), (0, x1), (0, x2), (1, x3 + r8), (9, 0), (0, x5 + 1)] [] h9 Q))))))))))) : Wd mX9_highestSum X 5 [(2, 41), (0, x1), (0, x2), (1, x3), (9, 0), (0, x5)] [] h Q := by
  refine s_iload 7 5 rfl dX9_highestSum_5 rfl ?_
  refine s_aload_n 8 0 rfl dX9_highestSum_7 rfl rfl ?_
  refine s_getf 11 41 28 rfl dX9_highestSum_8 ck9 rfl (by decide) rfl (by decide) w763 rfl (v := (0, h 41 28)) rfl ?_
  refine s_icmp_ge 14 60 rfl dX9_highestSum_11 (by decide) (fun c13 => ?_) (fun c13 => ?_)
  · replace H := H.1 c13
    refine s_lload_n 61 3 rfl dX9_highestSum_60 rfl rfl ?_
    exact s_lret (S := []) dX9_highestSum_61 rfl H
  · replace H := H.2 c13
    refine s_aload_n 15 0 rfl dX9_highestSum_14 rfl rfl ?_
    refine s_getf 18 41 26 rfl dX9_highestSum_15 ck9 rfl (by decide) rfl (by decide) w761 rfl (v := (2, 63)) rfl ?_
    refine s_iload 20 5 rfl dX9_highestSum_18 rfl ?_
    have c0 := H.1
    replace H := H.2
    have c1 := H.1
    replace H := H.2
    refine s_iald 21 rfl dX9_highestSum_20 ia63 c0 c1 (v9 := h 63 x5) rfl ?_
    refine s_aload_n 22 0 rfl dX9_highestSum_21 rfl rfl ?_
    refine s_iload_n 23 1 rfl dX9_highestSum_22 rfl rfl ?_
    refine s_callV (mj := mX9_highestMany) (S := [(0, h 63 x5)]) 26 [(0, x1)] [(2, 41), (0, x1)] 41 rfl dX9_highestSum_23 okX9_highestMany w934 w936 w25 rfl (by decide) rfl rfl rfl rfl npX9_highestMany (Nat.le_of_ble_eq_true rfl) (by decide) (Nat.le_of_ble_eq_true rfl) rfl (Wd.imp H (fun r3 h4 H => ?_))
    show Wd mX9_highestSum X 26 [(2, 41), (0, x1), (0, x2), (1, x3), (9, 0), (0, x5)] [(0, r3), (0, h 63 x5)] h4 Q
    refine s_icmp_ge 29 54 rfl dX9_highestSum_26 (by decide) (fun c12 => ?_) (fun c12 => ?_)
    · replace H := H.1 c12
      have c4 := H.1
      replace H := H.2
      refine s_iinc 57 5 rfl dX9_highestSum_54 (by decide) (z := x5) rfl (L2 := [(2, 41), (0, x1), (0, x2), (1, x3), (9, 0), (0, x5 + 1)]) rfl c4 ?_
      refine s_goto 5 dX9_highestSum_57 (by decide) ?_
      exact H
    · replace H := H.2 c12
      refine s_lload_n 30 3 rfl dX9_highestSum_29 rfl rfl ?_
      refine s_iload_n 31 2 rfl dX9_highestSum_30 rfl rfl ?_
      refine s_if_eq 34 44 rfl dX9_highestSum_31 (by decide) (fun c11 => ?_) (fun c11 => ?_)
      · replace H := H.1 c11
        refine s_aload_n 45 0 rfl dX9_highestSum_44 rfl rfl ?_
        refine s_getf 48 41 21 rfl dX9_highestSum_45 ck9 rfl (by decide) rfl (by decide) w756 rfl (v := (2, 58)) rfl ?_
        refine s_iload 50 5 rfl dX9_highestSum_48 rfl ?_
        refine s_iald 51 rfl dX9_highestSum_50 ia58 c0 c1 (v9 := h4 58 x5) rfl ?_
        refine s_i2l 52 rfl dX9_highestSum_51 ?_
        have c5 := H.1
        replace H := H.2
        refine s_ladd 53 rfl dX9_highestSum_52 c5 ?_
        refine s_lstore_n 54 3 rfl dX9_highestSum_53 rfl (by decide) (L2 := [(2, 41), (0, x1), (0, x2), (1, x3 + h4 58 x5), (9, 0), (0, x5)]) rfl ?_
        have c6 := H.1
        replace H := H.2
        refine s_iinc 57 5 rfl dX9_highestSum_54 (by decide) (z := x5) rfl (L2 := [(2, 41), (0, x1), (0, x2), (1, x3 + h4 58 x5), (9, 0), (0, x5 + 1)]) rfl c6 ?_
        refine s_goto 5 dX9_highestSum_57 (by decide) ?_
        exact H
      · replace H := H.2 c11
        refine s_aload_n 35 0 rfl dX9_highestSum_34 rfl rfl ?_
        refine s_iload 37 5 rfl dX9_highestSum_35 rfl ?_
        refine s_callV (mj := mX9_height) (S := [(1, x3)]) 40 [(0, x5)] [(2, 41), (0, x5)] 41 rfl dX9_highestSum_37 okX9_height w922 w924 w22 rfl (by decide) rfl rfl rfl rfl npX9_height (Nat.le_of_ble_eq_true rfl) (by decide) (Nat.le_of_ble_eq_true rfl) rfl (Wd.imp H (fun r8 h9 H => ?_))
        show Wd mX9_highestSum X 40 [(2, 41), (0, x1), (0, x2), (1, x3), (9, 0), (0, x5)] [(0, r8), (1, x3)] h9 Q
        refine s_i2l 41 rfl dX9_highestSum_40 ?_
        refine s_goto 52 dX9_highestSum_41 (by decide) ?_
        have c9 := H.1
        replace H := H.2
        refine s_ladd 53 rfl dX9_highestSum_52 c9 ?_
        refine s_lstore_n 54 3 rfl dX9_highestSum_53 rfl (by decide) (L2 := [(2, 41), (0, x1), (0, x2), (1, x3 + r8), (9, 0), (0, x5)]) rfl ?_
        have c10 := H.1
        replace H := H.2
        refine s_iinc 57 5 rfl dX9_highestSum_54 (by decide) (z := x5) rfl (L2 := [(2, 41), (0, x1), (0, x2), (1, x3 + r8), (9, 0), (0, x5 + 1)]) rfl c10 ?_
        refine s_goto 5 dX9_highestSum_57 (by decide) ?_
        exact H
theorem vX9_middleHeight_0 {X : Nat × (Int → Int)} {h : HP} {Q : Int → HP → Prop} (H : Wd mX9_middleHeight X 2 [(2, 41), (0, 0), (9, 0), (9, 0), (9, 0)] [] h Q) : Wd mX9_middleHeight X 0 [(2, 41), (9, 0), (9, 0), (9, 0), (9, 0)] [] h Q := by
  refine s_iconst 1 rfl dX9_middleHeight_0 ⟨by decide, by decide⟩ ?_
  refine s_istore_n 2 1 rfl dX9_middleHeight_1 rfl (by decide) (L2 := [(2, 41), (0, 0), (9, 0), (9, 0), (9, 0)]) rfl ?_
  exact H
theorem vX9_middleHeight_2 {X : Nat × (Int → Int)} {h : HP} {Q : Int → HP → Prop} {x1 : Int} (H : ((h 41 28 ≤ x1 → (Q 0 h)) ∧ (¬ (h 41 28 ≤ x1) → (Wd mX9_middleHeight X 17 [(2, 41), (0, x1), (0, 0), (0, 0), (0, 0)] [] h Q)))) : Wd mX9_middleHeight X 2 [(2, 41), (0, x1), (9, 0), (9, 0), (9, 0)] [] h Q := by
  refine s_iload_n 3 1 rfl dX9_middleHeight_2 rfl rfl ?_
  refine s_aload_n 4 0 rfl dX9_middleHeight_3 rfl rfl ?_
  refine s_getf 7 41 28 rfl dX9_middleHeight_4 ck9 rfl (by decide) rfl (by decide) w763 rfl (v := (0, h 41 28)) rfl ?_
  refine s_icmp_ge 10 112 rfl dX9_middleHeight_7 (by decide) (fun c0 => ?_) (fun c0 => ?_)
  · replace H := H.1 c0
    refine s_iconst 113 rfl dX9_middleHeight_112 ⟨by decide, by decide⟩ ?_
    exact s_iret (S := []) dX9_middleHeight_113 rfl H
  · replace H := H.2 c0
    refine s_iconst 11 rfl dX9_middleHeight_10 ⟨by decide, by decide⟩ ?_
    refine s_istore_n 12 2 rfl dX9_middleHeight_11 rfl (by decide) (L2 := [(2, 41), (0, x1), (0, 0), (9, 0), (9, 0)]) rfl ?_
    refine s_iconst 13 rfl dX9_middleHeight_12 ⟨by decide, by decide⟩ ?_
    refine s_istore_n 14 3 rfl dX9_middleHeight_13 rfl (by decide) (L2 := [(2, 41), (0, x1), (0, 0), (0, 0), (9, 0)]) rfl ?_
    refine s_iconst 15 rfl dX9_middleHeight_14 ⟨by decide, by decide⟩ ?_
    refine s_istore 17 4 rfl dX9_middleHeight_15 (by decide) (L2 := [(2, 41), (0, x1), (0, 0), (0, 0), (0, 0)]) rfl ?_
    exact H
theorem vX9_middleHeight_17 {X : Nat × (Int → Int)} {h : HP} {Q : Int → HP → Prop} {x1 x2 x3 x4 : Int} (H : ((h 41 28 ≤ x4 → (inI (h 41 28 - 1) ∧ inI (Int.tdiv (h 41 28 - 1) 2) ∧ ((Int.tdiv (h 41 28 - 1) 2 < x2 → (inI (x1 + 1) ∧ Wd mX9_middleHeight X 2 [(2, 41), (0, x1 + 1), (9, 0), (9, 0), (9, 0)] [] h Q)) ∧ (¬ (Int.tdiv (h 41 28 - 1) 2 < x2) → ((x3 ≤ Int.tdiv (h 41 28 - 1) 2 → (inI (x1 + 1) ∧ Wd mX9_middleHeight X 2 [(2, 41), (0, x1 + 1), (9, 0), (9, 0), (9, 0)] [] h Q)) ∧ (¬ (x3 ≤ Int.tdiv (h 41 28 - 1) 2) → (Wd mX9_height X 0 [(2, 41), (0, x1)] [] h (fun r5 h6 => Q r5 h6)))))))) ∧ (¬ (h 41 28 ≤ x4) → (Wd mX9_height X 0 [(2, 41), (0, x4)] [] h (fun r9 h10 => Wd mX9_height X 0 [(2, 41), (0, x1)] [] h10 (fun r11 h12 => ((r11 ≤ r9 → (inI (x2 + 0) ∧ Wd mX9_height X 0 [(2, 41), (0, x4)] [] h12 (fun r14 h15 => Wd mX9_height X 0 [(2, 41), (0, x1)] [] h15 (fun r16 h17 => ((r16 < r14 → (inI (x3 + 0) ∧ inI (x4 + 1) ∧ Wd mX9_middleHeight X 17 [(2, 41), (0, x1), (0, x2 + 0), (0, x3 + 0), (0, x4 + 1)] [] h17 Q)) ∧ (¬ (r16 < r14) → (inI (x3 + 1) ∧ inI (x4 + 1) ∧ Wd mX9_middleHeight X 17 [(2, 41), (0, x1), (0, x2 + 0), (0, x3 + 1), (0, x4 + 1)] [] h17 Q))))))) ∧ (¬ (r11 ≤ r9) → (inI (x2 + 1) ∧ Wd mX9_height X 0 [(2, 41), (0, x4)] [] h12 (fun r24 h25 => Wd mX9_height X 0 [(2, 41), (0, x1)] [] h25 (fun r26 h27 => ((r26 < r24 → (inI (x3 + 0) ∧ inI (x4 + 1) ∧ Wd mX9_middleHeight X 17 [(2, 41), (0, x1), (0, x2 + 1), (0, x3 + 0), (0, x4 + 1)] [] h27 Q)) ∧ (¬ (r26 < r24) → (inI (x3 + 1) ∧ inI (x4 + 1) ∧ Wd mX9_middleHeight X 17 [(2, 41), (0, x1), (0, x2 + 1), (0, x3 + 1), (0, x4 + 1)] [] h27 Q)))))))))))))) : Wd mX9_middleHeight X 17 [(2, 41), (0, x1), (0, x2), (0, x3), (0, x4)] [] h Q := by
  refine s_iload 19 4 rfl dX9_middleHeight_17 rfl ?_
  refine s_aload_n 20 0 rfl dX9_middleHeight_19 rfl rfl ?_
  refine s_getf 23 41 28 rfl dX9_middleHeight_20 ck9 rfl (by decide) rfl (by decide) w763 rfl (v := (0, h 41 28)) rfl ?_
  refine s_icmp_ge 26 76 rfl dX9_middleHeight_23 (by decide) (fun c33 => ?_) (fun c33 => ?_)
  · replace H := H.1 c33
    refine s_iload_n 77 2 rfl dX9_middleHeight_76 rfl rfl ?_
    refine s_aload_n 78 0 rfl dX9_middleHeight_77 rfl rfl ?_
    refine s_getf 81 41 28 rfl dX9_middleHeight_78 ck9 rfl (by decide) rfl (by decide) w763 rfl (v := (0, h 41 28)) rfl ?_
    refine s_iconst 82 rfl dX9_middleHeight_81 ⟨by decide, by decide⟩ ?_
    have c0 := H.1
    replace H := H.2
    refine s_isub 83 rfl dX9_middleHeight_82 c0 ?_
    refine s_iconst 84 rfl dX9_middleHeight_83 ⟨by decide, by decide⟩ ?_
    have c1 := H.1
    replace H := H.2
    refine s_idiv 85 rfl dX9_middleHeight_84 (by decide) c1 ?_
    refine s_icmp_gt 88 106 rfl dX9_middleHeight_85 (by decide) (fun c7 => ?_) (fun c7 => ?_)
    · replace H := H.1 c7
      have c2 := H.1
      replace H := H.2
      refine s_iinc 109 1 rfl dX9_middleHeight_106 (by decide) (z := x1) rfl (L2 := [(2, 41), (0, x1 + 1), (0, x2), (0, x3), (0, x4)]) rfl c2 ?_
      refine s_goto 2 dX9_middleHeight_109 (by decide) ?_
      exact s_less [(2, 41), (0, x1 + 1), (9, 0), (9, 0), (9, 0)] ⟨Or.inr rfl, Or.inr rfl, Or.inl rfl, Or.inl rfl, Or.inl rfl, trivial⟩ H
    · replace H := H.2 c7
      refine s_iload_n 89 3 rfl dX9_middleHeight_88 rfl rfl ?_
      refine s_aload_n 90 0 rfl dX9_middleHeight_89 rfl rfl ?_
      refine s_getf 93 41 28 rfl dX9_middleHeight_90 ck9 rfl (by decide) rfl (by decide) w763 rfl (v := (0, h 41 28)) rfl ?_
      refine s_iconst 94 rfl dX9_middleHeight_93 ⟨by decide, by decide⟩ ?_
      refine s_isub 95 rfl dX9_middleHeight_94 c0 ?_
      refine s_iconst 96 rfl dX9_middleHeight_95 ⟨by decide, by decide⟩ ?_
      refine s_idiv 97 rfl dX9_middleHeight_96 (by decide) c1 ?_
      refine s_icmp_le 100 106 rfl dX9_middleHeight_97 (by decide) (fun c6 => ?_) (fun c6 => ?_)
      · replace H := H.1 c6
        have c3 := H.1
        replace H := H.2
        refine s_iinc 109 1 rfl dX9_middleHeight_106 (by decide) (z := x1) rfl (L2 := [(2, 41), (0, x1 + 1), (0, x2), (0, x3), (0, x4)]) rfl c3 ?_
        refine s_goto 2 dX9_middleHeight_109 (by decide) ?_
        exact s_less [(2, 41), (0, x1 + 1), (9, 0), (9, 0), (9, 0)] ⟨Or.inr rfl, Or.inr rfl, Or.inl rfl, Or.inl rfl, Or.inl rfl, trivial⟩ H
      · replace H := H.2 c6
        refine s_aload_n 101 0 rfl dX9_middleHeight_100 rfl rfl ?_
        refine s_iload_n 102 1 rfl dX9_middleHeight_101 rfl rfl ?_
        refine s_callV (mj := mX9_height) (S := []) 105 [(0, x1)] [(2, 41), (0, x1)] 41 rfl dX9_middleHeight_102 okX9_height w922 w924 w22 rfl (by decide) rfl rfl rfl rfl npX9_height (Nat.le_of_ble_eq_true rfl) (by decide) (Nat.le_of_ble_eq_true rfl) rfl (Wd.imp H (fun r5 h6 H => ?_))
        show Wd mX9_middleHeight X 105 [(2, 41), (0, x1), (0, x2), (0, x3), (0, x4)] [(0, r5)] h6 Q
        exact s_iret (S := []) dX9_middleHeight_105 rfl H
  · replace H := H.2 c33
    refine s_iload_n 27 2 rfl dX9_middleHeight_26 rfl rfl ?_
    refine s_aload_n 28 0 rfl dX9_middleHeight_27 rfl rfl ?_
    refine s_iload 30 4 rfl dX9_middleHeight_28 rfl ?_
    refine s_callV (mj := mX9_height) (S := [(0, x2)]) 33 [(0, x4)] [(2, 41), (0, x4)] 41 rfl dX9_middleHeight_30 okX9_height w922 w924 w22 rfl (by decide) rfl rfl rfl rfl npX9_height (Nat.le_of_ble_eq_true rfl) (by decide) (Nat.le_of_ble_eq_true rfl) rfl (Wd.imp H (fun r9 h10 H => ?_))
    show Wd mX9_middleHeight X 33 [(2, 41), (0, x1), (0, x2), (0, x3), (0, x4)] [(0, r9), (0, x2)] h10 Q
    refine s_aload_n 34 0 rfl dX9_middleHeight_33 rfl rfl ?_
    refine s_iload_n 35 1 rfl dX9_middleHeight_34 rfl rfl ?_
    refine s_callV (mj := mX9_height) (S := [(0, r9), (0, x2)]) 38 [(0, x1)] [(2, 41), (0, x1)] 41 rfl dX9_middleHeight_35 okX9_height w922 w924 w22 rfl (by decide) rfl rfl rfl rfl npX9_height (Nat.le_of_ble_eq_true rfl) (by decide) (Nat.le_of_ble_eq_true rfl) rfl (Wd.imp H (fun r11 h12 H => ?_))
    show Wd mX9_middleHeight X 38 [(2, 41), (0, x1), (0, x2), (0, x3), (0, x4)] [(0, r11), (0, r9), (0, x2)] h12 Q
    refine s_icmp_ge 41 45 rfl dX9_middleHeight_38 (by decide) (fun c32 => ?_) (fun c32 => ?_)
    · replace H := H.1 c32
      refine s_iconst 46 rfl dX9_middleHeight_45 ⟨by decide, by decide⟩ ?_
      have c12 := H.1
      replace H := H.2
      refine s_iadd 47 rfl dX9_middleHeight_46 c12 ?_
      refine s_istore_n 48 2 rfl dX9_middleHeight_47 rfl (by decide) (L2 := [(2, 41), (0, x1), (0, x2 + 0), (0, x3), (0, x4)]) rfl ?_
      refine s_iload_n 49 3 rfl dX9_middleHeight_48 rfl rfl ?_
      refine s_aload_n 50 0 rfl dX9_middleHeight_49 rfl rfl ?_
      refine s_iload 52 4 rfl dX9_middleHeight_50 rfl ?_
      refine s_callV (mj := mX9_height) (S := [(0, x3)]) 55 [(0, x4)] [(2, 41), (0, x4)] 41 rfl dX9_middleHeight_52 okX9_height w922 w924 w22 rfl (by decide) rfl rfl rfl rfl npX9_height (Nat.le_of_ble_eq_true rfl) (by decide) (Nat.le_of_ble_eq_true rfl) rfl (Wd.imp H (fun r14 h15 H => ?_))
      show Wd mX9_middleHeight X 55 [(2, 41), (0, x1), (0, x2 + 0), (0, x3), (0, x4)] [(0, r14), (0, x3)] h15 Q
      refine s_aload_n 56 0 rfl dX9_middleHeight_55 rfl rfl ?_
      refine s_iload_n 57 1 rfl dX9_middleHeight_56 rfl rfl ?_
      refine s_callV (mj := mX9_height) (S := [(0, r14), (0, x3)]) 60 [(0, x1)] [(2, 41), (0, x1)] 41 rfl dX9_middleHeight_57 okX9_height w922 w924 w22 rfl (by decide) rfl rfl rfl rfl npX9_height (Nat.le_of_ble_eq_true rfl) (by decide) (Nat.le_of_ble_eq_true rfl) rfl (Wd.imp H (fun r16 h17 H => ?_))
      show Wd mX9_middleHeight X 60 [(2, 41), (0, x1), (0, x2 + 0), (0, x3), (0, x4)] [(0, r16), (0, r14), (0, x3)] h17 Q
      refine s_icmp_gt 63 67 rfl dX9_middleHeight_60 (by decide) (fun c21 => ?_) (fun c21 => ?_)
      · replace H := H.1 c21
        refine s_iconst 68 rfl dX9_middleHeight_67 ⟨by decide, by decide⟩ ?_
        have c17 := H.1
        replace H := H.2
        refine s_iadd 69 rfl dX9_middleHeight_68 c17 ?_
        refine s_istore_n 70 3 rfl dX9_middleHeight_69 rfl (by decide) (L2 := [(2, 41), (0, x1), (0, x2 + 0), (0, x3 + 0), (0, x4)]) rfl ?_
        have c18 := H.1
        replace H := H.2
        refine s_iinc 73 4 rfl dX9_middleHeight_70 (by decide) (z := x4) rfl (L2 := [(2, 41), (0, x1), (0, x2 + 0), (0, x3 + 0), (0, x4 + 1)]) rfl c18 ?_
        refine s_goto 17 dX9_middleHeight_73 (by decide) ?_
        exact H
      · replace H := H.2 c21
        refine s_iconst 64 rfl dX9_middleHeight_63 ⟨by decide, by decide⟩ ?_
        refine s_goto 68 dX9_middleHeight_64 (by decide) ?_
        have c19 := H.1
        replace H := H.2
        refine s_iadd 69 rfl dX9_middleHeight_68 c19 ?_
        refine s_istore_n 70 3 rfl dX9_middleHeight_69 rfl (by decide) (L2 := [(2, 41), (0, x1), (0, x2 + 0), (0, x3 + 1), (0, x4)]) rfl ?_
        have c20 := H.1
        replace H := H.2
        refine s_iinc 73 4 rfl dX9_middleHeight_70 (by decide) (z := x4) rfl (L2 := [(2, 41), (0, x1), (0, x2 + 0), (0, x3 + 1), (0, x4 + 1)]) rfl c20 ?_
        refine s_goto 17 dX9_middleHeight_73 (by decide) ?_
        exact H
    · replace H := H.2 c32
      refine s_iconst 42 rfl dX9_middleHeight_41 ⟨by decide, by decide⟩ ?_
      refine s_goto 46 dX9_middleHeight_42 (by decide) ?_
      have c22 := H.1
      replace H := H.2
      refine s_iadd 47 rfl dX9_middleHeight_46 c22 ?_
      refine s_istore_n 48 2 rfl dX9_middleHeight_47 rfl (by decide) (L2 := [(2, 41), (0, x1), (0, x2 + 1), (0, x3), (0, x4)]) rfl ?_
      refine s_iload_n 49 3 rfl dX9_middleHeight_48 rfl rfl ?_
      refine s_aload_n 50 0 rfl dX9_middleHeight_49 rfl rfl ?_
      refine s_iload 52 4 rfl dX9_middleHeight_50 rfl ?_
      refine s_callV (mj := mX9_height) (S := [(0, x3)]) 55 [(0, x4)] [(2, 41), (0, x4)] 41 rfl dX9_middleHeight_52 okX9_height w922 w924 w22 rfl (by decide) rfl rfl rfl rfl npX9_height (Nat.le_of_ble_eq_true rfl) (by decide) (Nat.le_of_ble_eq_true rfl) rfl (Wd.imp H (fun r24 h25 H => ?_))
      show Wd mX9_middleHeight X 55 [(2, 41), (0, x1), (0, x2 + 1), (0, x3), (0, x4)] [(0, r24), (0, x3)] h25 Q
      refine s_aload_n 56 0 rfl dX9_middleHeight_55 rfl rfl ?_
      refine s_iload_n 57 1 rfl dX9_middleHeight_56 rfl rfl ?_
      refine s_callV (mj := mX9_height) (S := [(0, r24), (0, x3)]) 60 [(0, x1)] [(2, 41), (0, x1)] 41 rfl dX9_middleHeight_57 okX9_height w922 w924 w22 rfl (by decide) rfl rfl rfl rfl npX9_height (Nat.le_of_ble_eq_true rfl) (by decide) (Nat.le_of_ble_eq_true rfl) rfl (Wd.imp H (fun r26 h27 H => ?_))
      show Wd mX9_middleHeight X 60 [(2, 41), (0, x1), (0, x2 + 1), (0, x3), (0, x4)] [(0, r26), (0, r24), (0, x3)] h27 Q
      refine s_icmp_gt 63 67 rfl dX9_middleHeight_60 (by decide) (fun c31 => ?_) (fun c31 => ?_)
      · replace H := H.1 c31
        refine s_iconst 68 rfl dX9_middleHeight_67 ⟨by decide, by decide⟩ ?_
        have c27 := H.1
        replace H := H.2
        refine s_iadd 69 rfl dX9_middleHeight_68 c27 ?_
        refine s_istore_n 70 3 rfl dX9_middleHeight_69 rfl (by decide) (L2 := [(2, 41), (0, x1), (0, x2 + 1), (0, x3 + 0), (0, x4)]) rfl ?_
        have c28 := H.1
        replace H := H.2
        refine s_iinc 73 4 rfl dX9_middleHeight_70 (by decide) (z := x4) rfl (L2 := [(2, 41), (0, x1), (0, x2 + 1), (0, x3 + 0), (0, x4 + 1)]) rfl c28 ?_
        refine s_goto 17 dX9_middleHeight_73 (by decide) ?_
        exact H
      · replace H := H.2 c31
        refine s_iconst 64 rfl dX9_middleHeight_63 ⟨by decide, by decide⟩ ?_
        refine s_goto 68 dX9_middleHeight_64 (by decide) ?_
        have c29 := H.1
        replace H := H.2
        refine s_iadd 69 rfl dX9_middleHeight_68 c29 ?_
        refine s_istore_n 70 3 rfl dX9_middleHeight_69 rfl (by decide) (L2 := [(2, 41), (0, x1), (0, x2 + 1), (0, x3 + 1), (0, x4)]) rfl ?_
        have c30 := H.1
        replace H := H.2
        refine s_iinc 73 4 rfl dX9_middleHeight_70 (by decide) (z := x4) rfl (L2 := [(2, 41), (0, x1), (0, x2 + 1), (0, x3 + 1), (0, x4 + 1)]) rfl c30 ?_
        refine s_goto 17 dX9_middleHeight_73 (by decide) ?_
        exact H
theorem vX9_laysHigh_0 {X : Nat × (Int → Int)} {h : HP} {Q : Int → HP → Prop} (H : ((h 43 6 = 1 → ((¬ h 43 6 = 1 → (Wd mX9_highestSum X 0 [(2, 41), (0, 3), (0, 1), (9, 0), (9, 0), (9, 0)] [] h (fun r1 h2 => Wd mX9_highestMany X 0 [(2, 41), (0, 3)] [] h2 (fun r3 h4 => ((¬ h4 43 6 = 3 → (Wd mX9_laysHigh X 87 [(2, 41), (1, r1), (9, 0), (1, r3), (9, 0), (0, 0)] [] h4 Q)) ∧ (h4 43 6 = 3 → (Wd mX9_middleHeight X 0 [(2, 41), (9, 0), (9, 0), (9, 0), (9, 0)] [] h4 (fun r5 h6 => Wd mX9_laysHigh X 87 [(2, 41), (1, r5), (9, 0), (1, r3), (9, 0), (0, 0)] [] h6 Q)))))))) ∧ (h 43 6 = 1 → (Wd mX9_highestSum X 0 [(2, 41), (0, 1), (0, 1), (9, 0), (9, 0), (9, 0)] [] h (fun r8 h9 => Wd mX9_highestMany X 0 [(2, 41), (0, 1)] [] h9 (fun r10 h11 => ((¬ h11 43 6 = 3 → (Wd mX9_laysHigh X 87 [(2, 41), (1, r8), (9, 0), (1, r10), (9, 0), (0, 0)] [] h11 Q)) ∧ (h11 43 6 = 3 → (Wd mX9_middleHeight X 0 [(2, 41), (9, 0), (9, 0), (9, 0), (9, 0)] [] h11 (fun r12 h13 => Wd mX9_laysHigh X 87 [(2, 41), (1, r12), (9, 0), (1, r10), (9, 0), (0, 0)] [] h13 Q)))))))))) ∧ (¬ h 43 6 = 1 → ((¬ h 43 6 = 2 → ((¬ h 43 6 = 3 → (Wd mX9_laysHigh X 87 [(2, 41), (1, h 43 7), (9, 0), (1, 1), (9, 0), (0, 0)] [] h Q)) ∧ (h 43 6 = 3 → (Wd mX9_middleHeight X 0 [(2, 41), (9, 0), (9, 0), (9, 0), (9, 0)] [] h (fun r16 h17 => Wd mX9_laysHigh X 87 [(2, 41), (1, r16), (9, 0), (1, 1), (9, 0), (0, 0)] [] h17 Q))))) ∧ (h 43 6 = 2 → ((¬ h 43 6 = 1 → (Wd mX9_highestSum X 0 [(2, 41), (0, 3), (0, 1), (9, 0), (9, 0), (9, 0)] [] h (fun r19 h20 => Wd mX9_highestMany X 0 [(2, 41), (0, 3)] [] h20 (fun r21 h22 => ((¬ h22 43 6 = 3 → (Wd mX9_laysHigh X 87 [(2, 41), (1, r19), (9, 0), (1, r21), (9, 0), (0, 0)] [] h22 Q)) ∧ (h22 43 6 = 3 → (Wd mX9_middleHeight X 0 [(2, 41), (9, 0), (9, 0), (9, 0), (9, 0)] [] h22 (fun r23 h24 => Wd mX9_laysHigh X 87 [(2, 41), (1, r23), (9, 0), (1, r21), (9, 0), (0, 0)] [] h24 Q)))))))) ∧ (h 43 6 = 1 → (Wd mX9_highestSum X 0 [(2, 41), (0, 1), (0, 1), (9, 0), (9, 0), (9, 0)] [] h (fun r26 h27 => Wd mX9_highestMany X 0 [(2, 41), (0, 1)] [] h27 (fun r28 h29 => ((¬ h29 43 6 = 3 → (Wd mX9_laysHigh X 87 [(2, 41), (1, r26), (9, 0), (1, r28), (9, 0), (0, 0)] [] h29 Q)) ∧ (h29 43 6 = 3 → (Wd mX9_middleHeight X 0 [(2, 41), (9, 0), (9, 0), (9, 0), (9, 0)] [] h29 (fun r30 h31 => Wd mX9_laysHigh X 87 [(2, 41), (1, r30), (9, 0), (1, r28), (9, 0), (0, 0)] [] h31 Q)))))))))))))) : Wd mX9_laysHigh X 0 [(2, 41), (9, 0), (9, 0), (9, 0), (9, 0), (9, 0)] [] h Q := by
  refine s_aload_n 1 0 rfl dX9_laysHigh_0 rfl rfl ?_
  refine s_getf 4 41 1 rfl dX9_laysHigh_1 ck9 rfl (by decide) rfl (by decide) w736 rfl (v := (2, 43)) rfl ?_
  refine s_bipush 6 rfl dX9_laysHigh_4 (by decide) ⟨by decide, by decide⟩ ?_
  refine s_iald 7 rfl dX9_laysHigh_6 ia43 (by decide) (by decide) (v9 := h 43 7) rfl ?_
  refine s_i2l 8 rfl dX9_laysHigh_7 ?_
  refine s_lstore_n 9 1 rfl dX9_laysHigh_8 rfl (by decide) (L2 := [(2, 41), (1, h 43 7), (9, 0), (9, 0), (9, 0), (9, 0)]) rfl ?_
  refine s_lconst 10 1 rfl dX9_laysHigh_9 (by decide) ⟨by decide, by decide⟩ ?_
  refine s_lstore_n 11 3 rfl dX9_laysHigh_10 rfl (by decide) (L2 := [(2, 41), (1, h 43 7), (9, 0), (1, 1), (9, 0), (9, 0)]) rfl ?_
  refine s_aload_n 12 0 rfl dX9_laysHigh_11 rfl rfl ?_
  refine s_getf 15 41 1 rfl dX9_laysHigh_12 ck9 rfl (by decide) rfl (by decide) w736 rfl (v := (2, 43)) rfl ?_
  refine s_bipush 17 rfl dX9_laysHigh_15 (by decide) ⟨by decide, by decide⟩ ?_
  refine s_iald 18 rfl dX9_laysHigh_17 ia43 (by decide) (by decide) (v9 := h 43 6) rfl ?_
  refine s_iconst 19 rfl dX9_laysHigh_18 ⟨by decide, by decide⟩ ?_
  refine s_icmp_eq 22 33 rfl dX9_laysHigh_19 (by decide) (fun c34 => ?_) (fun c34 => ?_)
  · replace H := H.1 c34
    refine s_aload_n 34 0 rfl dX9_laysHigh_33 rfl rfl ?_
    refine s_getf 37 41 1 rfl dX9_laysHigh_34 ck9 rfl (by decide) rfl (by decide) w736 rfl (v := (2, 43)) rfl ?_
    refine s_bipush 39 rfl dX9_laysHigh_37 (by decide) ⟨by decide, by decide⟩ ?_
    refine s_iald 40 rfl dX9_laysHigh_39 ia43 (by decide) (by decide) (v9 := h 43 6) rfl ?_
    refine s_iconst 41 rfl dX9_laysHigh_40 ⟨by decide, by decide⟩ ?_
    refine s_icmp_ne 44 48 rfl dX9_laysHigh_41 (by decide) (fun c14 => ?_) (fun c14 => ?_)
    · replace H := H.1 c14
      refine s_iconst 49 rfl dX9_laysHigh_48 ⟨by decide, by decide⟩ ?_
      refine s_istore 51 5 rfl dX9_laysHigh_49 (by decide) (L2 := [(2, 41), (1, h 43 7), (9, 0), (1, 1), (9, 0), (0, 3)]) rfl ?_
      refine s_aload_n 52 0 rfl dX9_laysHigh_51 rfl rfl ?_
      refine s_iload 54 5 rfl dX9_laysHigh_52 rfl ?_
      refine s_iconst 55 rfl dX9_laysHigh_54 ⟨by decide, by decide⟩ ?_
      refine s_callV (mj := mX9_highestSum) (S := []) 58 [(0, 3), (0, 1)] [(2, 41), (0, 3), (0, 1), (9, 0), (9, 0), (9, 0)] 41 rfl dX9_laysHigh_55 okX9_highestSum w930 w932 w24 rfl (by decide) rfl rfl rfl rfl npX9_highestSum (Nat.le_of_ble_eq_true rfl) (by decide) (Nat.le_of_ble_eq_true rfl) rfl (Wd.imp H (fun r1 h2 H => ?_))
      show Wd mX9_laysHigh X 58 [(2, 41), (1, h 43 7), (9, 0), (1, 1), (9, 0), (0, 3)] [(1, r1)] h2 Q
      refine s_lstore_n 59 1 rfl dX9_laysHigh_58 rfl (by decide) (L2 := [(2, 41), (1, r1), (9, 0), (1, 1), (9, 0), (0, 3)]) rfl ?_
      refine s_aload_n 60 0 rfl dX9_laysHigh_59 rfl rfl ?_
      refine s_iload 62 5 rfl dX9_laysHigh_60 rfl ?_
      refine s_callV (mj := mX9_highestMany) (S := []) 65 [(0, 3)] [(2, 41), (0, 3)] 41 rfl dX9_laysHigh_62 okX9_highestMany w934 w936 w25 rfl (by decide) rfl rfl rfl rfl npX9_highestMany (Nat.le_of_ble_eq_true rfl) (by decide) (Nat.le_of_ble_eq_true rfl) rfl (Wd.imp H (fun r3 h4 H => ?_))
      show Wd mX9_laysHigh X 65 [(2, 41), (1, r1), (9, 0), (1, 1), (9, 0), (0, 3)] [(0, r3)] h4 Q
      refine s_i2l 66 rfl dX9_laysHigh_65 ?_
      refine s_lstore_n 67 3 rfl dX9_laysHigh_66 rfl (by decide) (L2 := [(2, 41), (1, r1), (9, 0), (1, r3), (9, 0), (0, 3)]) rfl ?_
      refine s_aload_n 68 0 rfl dX9_laysHigh_67 rfl rfl ?_
      refine s_getf 71 41 1 rfl dX9_laysHigh_68 ck9 rfl (by decide) rfl (by decide) w736 rfl (v := (2, 43)) rfl ?_
      refine s_bipush 73 rfl dX9_laysHigh_71 (by decide) ⟨by decide, by decide⟩ ?_
      refine s_iald 74 rfl dX9_laysHigh_73 ia43 (by decide) (by decide) (v9 := h4 43 6) rfl ?_
      refine s_iconst 75 rfl dX9_laysHigh_74 ⟨by decide, by decide⟩ ?_
      refine s_icmp_ne 78 84 rfl dX9_laysHigh_75 (by decide) (fun c6 => ?_) (fun c6 => ?_)
      · replace H := H.1 c6
        refine s_iconst 85 rfl dX9_laysHigh_84 ⟨by decide, by decide⟩ ?_
        refine s_istore 87 5 rfl dX9_laysHigh_85 (by decide) (L2 := [(2, 41), (1, r1), (9, 0), (1, r3), (9, 0), (0, 0)]) rfl ?_
        exact H
      · replace H := H.2 c6
        refine s_aload_n 79 0 rfl dX9_laysHigh_78 rfl rfl ?_
        refine s_callV (mj := mX9_middleHeight) (S := []) 82 [] [(2, 41), (9, 0), (9, 0), (9, 0), (9, 0)] 41 rfl dX9_laysHigh_79 okX9_middleHeight w938 w940 w26 rfl (by decide) rfl rfl rfl rfl npX9_middleHeight (Nat.le_of_ble_eq_true rfl) (by decide) (Nat.le_of_ble_eq_true rfl) rfl (Wd.imp H (fun r5 h6 H => ?_))
        show Wd mX9_laysHigh X 82 [(2, 41), (1, r1), (9, 0), (1, r3), (9, 0), (0, 3)] [(0, r5)] h6 Q
        refine s_i2l 83 rfl dX9_laysHigh_82 ?_
        refine s_lstore_n 84 1 rfl dX9_laysHigh_83 rfl (by decide) (L2 := [(2, 41), (1, r5), (9, 0), (1, r3), (9, 0), (0, 3)]) rfl ?_
        refine s_iconst 85 rfl dX9_laysHigh_84 ⟨by decide, by decide⟩ ?_
        refine s_istore 87 5 rfl dX9_laysHigh_85 (by decide) (L2 := [(2, 41), (1, r5), (9, 0), (1, r3), (9, 0), (0, 0)]) rfl ?_
        exact H
    · replace H := H.2 c14
      refine s_iconst 45 rfl dX9_laysHigh_44 ⟨by decide, by decide⟩ ?_
      refine s_goto 49 dX9_laysHigh_45 (by decide) ?_
      refine s_istore 51 5 rfl dX9_laysHigh_49 (by decide) (L2 := [(2, 41), (1, h 43 7), (9, 0), (1, 1), (9, 0), (0, 1)]) rfl ?_
      refine s_aload_n 52 0 rfl dX9_laysHigh_51 rfl rfl ?_
      refine s_iload 54 5 rfl dX9_laysHigh_52 rfl ?_
      refine s_iconst 55 rfl dX9_laysHigh_54 ⟨by decide, by decide⟩ ?_
      refine s_callV (mj := mX9_highestSum) (S := []) 58 [(0, 1), (0, 1)] [(2, 41), (0, 1), (0, 1), (9, 0), (9, 0), (9, 0)] 41 rfl dX9_laysHigh_55 okX9_highestSum w930 w932 w24 rfl (by decide) rfl rfl rfl rfl npX9_highestSum (Nat.le_of_ble_eq_true rfl) (by decide) (Nat.le_of_ble_eq_true rfl) rfl (Wd.imp H (fun r8 h9 H => ?_))
      show Wd mX9_laysHigh X 58 [(2, 41), (1, h 43 7), (9, 0), (1, 1), (9, 0), (0, 1)] [(1, r8)] h9 Q
      refine s_lstore_n 59 1 rfl dX9_laysHigh_58 rfl (by decide) (L2 := [(2, 41), (1, r8), (9, 0), (1, 1), (9, 0), (0, 1)]) rfl ?_
      refine s_aload_n 60 0 rfl dX9_laysHigh_59 rfl rfl ?_
      refine s_iload 62 5 rfl dX9_laysHigh_60 rfl ?_
      refine s_callV (mj := mX9_highestMany) (S := []) 65 [(0, 1)] [(2, 41), (0, 1)] 41 rfl dX9_laysHigh_62 okX9_highestMany w934 w936 w25 rfl (by decide) rfl rfl rfl rfl npX9_highestMany (Nat.le_of_ble_eq_true rfl) (by decide) (Nat.le_of_ble_eq_true rfl) rfl (Wd.imp H (fun r10 h11 H => ?_))
      show Wd mX9_laysHigh X 65 [(2, 41), (1, r8), (9, 0), (1, 1), (9, 0), (0, 1)] [(0, r10)] h11 Q
      refine s_i2l 66 rfl dX9_laysHigh_65 ?_
      refine s_lstore_n 67 3 rfl dX9_laysHigh_66 rfl (by decide) (L2 := [(2, 41), (1, r8), (9, 0), (1, r10), (9, 0), (0, 1)]) rfl ?_
      refine s_aload_n 68 0 rfl dX9_laysHigh_67 rfl rfl ?_
      refine s_getf 71 41 1 rfl dX9_laysHigh_68 ck9 rfl (by decide) rfl (by decide) w736 rfl (v := (2, 43)) rfl ?_
      refine s_bipush 73 rfl dX9_laysHigh_71 (by decide) ⟨by decide, by decide⟩ ?_
      refine s_iald 74 rfl dX9_laysHigh_73 ia43 (by decide) (by decide) (v9 := h11 43 6) rfl ?_
      refine s_iconst 75 rfl dX9_laysHigh_74 ⟨by decide, by decide⟩ ?_
      refine s_icmp_ne 78 84 rfl dX9_laysHigh_75 (by decide) (fun c13 => ?_) (fun c13 => ?_)
      · replace H := H.1 c13
        refine s_iconst 85 rfl dX9_laysHigh_84 ⟨by decide, by decide⟩ ?_
        refine s_istore 87 5 rfl dX9_laysHigh_85 (by decide) (L2 := [(2, 41), (1, r8), (9, 0), (1, r10), (9, 0), (0, 0)]) rfl ?_
        exact H
      · replace H := H.2 c13
        refine s_aload_n 79 0 rfl dX9_laysHigh_78 rfl rfl ?_
        refine s_callV (mj := mX9_middleHeight) (S := []) 82 [] [(2, 41), (9, 0), (9, 0), (9, 0), (9, 0)] 41 rfl dX9_laysHigh_79 okX9_middleHeight w938 w940 w26 rfl (by decide) rfl rfl rfl rfl npX9_middleHeight (Nat.le_of_ble_eq_true rfl) (by decide) (Nat.le_of_ble_eq_true rfl) rfl (Wd.imp H (fun r12 h13 H => ?_))
        show Wd mX9_laysHigh X 82 [(2, 41), (1, r8), (9, 0), (1, r10), (9, 0), (0, 1)] [(0, r12)] h13 Q
        refine s_i2l 83 rfl dX9_laysHigh_82 ?_
        refine s_lstore_n 84 1 rfl dX9_laysHigh_83 rfl (by decide) (L2 := [(2, 41), (1, r12), (9, 0), (1, r10), (9, 0), (0, 1)]) rfl ?_
        refine s_iconst 85 rfl dX9_laysHigh_84 ⟨by decide, by decide⟩ ?_
        refine s_istore 87 5 rfl dX9_laysHigh_85 (by decide) (L2 := [(2, 41), (1, r12), (9, 0), (1, r10), (9, 0), (0, 0)]) rfl ?_
        exact H
  · replace H := H.2 c34
    refine s_aload_n 23 0 rfl dX9_laysHigh_22 rfl rfl ?_
    refine s_getf 26 41 1 rfl dX9_laysHigh_23 ck9 rfl (by decide) rfl (by decide) w736 rfl (v := (2, 43)) rfl ?_
    refine s_bipush 28 rfl dX9_laysHigh_26 (by decide) ⟨by decide, by decide⟩ ?_
    refine s_iald 29 rfl dX9_laysHigh_28 ia43 (by decide) (by decide) (v9 := h 43 6) rfl ?_
    refine s_iconst 30 rfl dX9_laysHigh_29 ⟨by decide, by decide⟩ ?_
    refine s_icmp_ne 33 67 rfl dX9_laysHigh_30 (by decide) (fun c33 => ?_) (fun c33 => ?_)
    · replace H := H.1 c33
      refine s_aload_n 68 0 rfl dX9_laysHigh_67 rfl rfl ?_
      refine s_getf 71 41 1 rfl dX9_laysHigh_68 ck9 rfl (by decide) rfl (by decide) w736 rfl (v := (2, 43)) rfl ?_
      refine s_bipush 73 rfl dX9_laysHigh_71 (by decide) ⟨by decide, by decide⟩ ?_
      refine s_iald 74 rfl dX9_laysHigh_73 ia43 (by decide) (by decide) (v9 := h 43 6) rfl ?_
      refine s_iconst 75 rfl dX9_laysHigh_74 ⟨by decide, by decide⟩ ?_
      refine s_icmp_ne 78 84 rfl dX9_laysHigh_75 (by decide) (fun c17 => ?_) (fun c17 => ?_)
      · replace H := H.1 c17
        refine s_iconst 85 rfl dX9_laysHigh_84 ⟨by decide, by decide⟩ ?_
        refine s_istore 87 5 rfl dX9_laysHigh_85 (by decide) (L2 := [(2, 41), (1, h 43 7), (9, 0), (1, 1), (9, 0), (0, 0)]) rfl ?_
        exact H
      · replace H := H.2 c17
        refine s_aload_n 79 0 rfl dX9_laysHigh_78 rfl rfl ?_
        refine s_callV (mj := mX9_middleHeight) (S := []) 82 [] [(2, 41), (9, 0), (9, 0), (9, 0), (9, 0)] 41 rfl dX9_laysHigh_79 okX9_middleHeight w938 w940 w26 rfl (by decide) rfl rfl rfl rfl npX9_middleHeight (Nat.le_of_ble_eq_true rfl) (by decide) (Nat.le_of_ble_eq_true rfl) rfl (Wd.imp H (fun r16 h17 H => ?_))
        show Wd mX9_laysHigh X 82 [(2, 41), (1, h 43 7), (9, 0), (1, 1), (9, 0), (9, 0)] [(0, r16)] h17 Q
        refine s_i2l 83 rfl dX9_laysHigh_82 ?_
        refine s_lstore_n 84 1 rfl dX9_laysHigh_83 rfl (by decide) (L2 := [(2, 41), (1, r16), (9, 0), (1, 1), (9, 0), (9, 0)]) rfl ?_
        refine s_iconst 85 rfl dX9_laysHigh_84 ⟨by decide, by decide⟩ ?_
        refine s_istore 87 5 rfl dX9_laysHigh_85 (by decide) (L2 := [(2, 41), (1, r16), (9, 0), (1, 1), (9, 0), (0, 0)]) rfl ?_
        exact H
    · replace H := H.2 c33
      refine s_aload_n 34 0 rfl dX9_laysHigh_33 rfl rfl ?_
      refine s_getf 37 41 1 rfl dX9_laysHigh_34 ck9 rfl (by decide) rfl (by decide) w736 rfl (v := (2, 43)) rfl ?_
      refine s_bipush 39 rfl dX9_laysHigh_37 (by decide) ⟨by decide, by decide⟩ ?_
      refine s_iald 40 rfl dX9_laysHigh_39 ia43 (by decide) (by decide) (v9 := h 43 6) rfl ?_
      refine s_iconst 41 rfl dX9_laysHigh_40 ⟨by decide, by decide⟩ ?_
      refine s_icmp_ne 44 48 rfl dX9_laysHigh_41 (by decide) (fun c32 => ?_) (fun c32 => ?_)
      · replace H := H.1 c32
        refine s_iconst 49 rfl dX9_laysHigh_48 ⟨by decide, by decide⟩ ?_
        refine s_istore 51 5 rfl dX9_laysHigh_49 (by decide) (L2 := [(2, 41), (1, h 43 7), (9, 0), (1, 1), (9, 0), (0, 3)]) rfl ?_
        refine s_aload_n 52 0 rfl dX9_laysHigh_51 rfl rfl ?_
        refine s_iload 54 5 rfl dX9_laysHigh_52 rfl ?_
        refine s_iconst 55 rfl dX9_laysHigh_54 ⟨by decide, by decide⟩ ?_
        refine s_callV (mj := mX9_highestSum) (S := []) 58 [(0, 3), (0, 1)] [(2, 41), (0, 3), (0, 1), (9, 0), (9, 0), (9, 0)] 41 rfl dX9_laysHigh_55 okX9_highestSum w930 w932 w24 rfl (by decide) rfl rfl rfl rfl npX9_highestSum (Nat.le_of_ble_eq_true rfl) (by decide) (Nat.le_of_ble_eq_true rfl) rfl (Wd.imp H (fun r19 h20 H => ?_))
        show Wd mX9_laysHigh X 58 [(2, 41), (1, h 43 7), (9, 0), (1, 1), (9, 0), (0, 3)] [(1, r19)] h20 Q
        refine s_lstore_n 59 1 rfl dX9_laysHigh_58 rfl (by decide) (L2 := [(2, 41), (1, r19), (9, 0), (1, 1), (9, 0), (0, 3)]) rfl ?_
        refine s_aload_n 60 0 rfl dX9_laysHigh_59 rfl rfl ?_
        refine s_iload 62 5 rfl dX9_laysHigh_60 rfl ?_
        refine s_callV (mj := mX9_highestMany) (S := []) 65 [(0, 3)] [(2, 41), (0, 3)] 41 rfl dX9_laysHigh_62 okX9_highestMany w934 w936 w25 rfl (by decide) rfl rfl rfl rfl npX9_highestMany (Nat.le_of_ble_eq_true rfl) (by decide) (Nat.le_of_ble_eq_true rfl) rfl (Wd.imp H (fun r21 h22 H => ?_))
        show Wd mX9_laysHigh X 65 [(2, 41), (1, r19), (9, 0), (1, 1), (9, 0), (0, 3)] [(0, r21)] h22 Q
        refine s_i2l 66 rfl dX9_laysHigh_65 ?_
        refine s_lstore_n 67 3 rfl dX9_laysHigh_66 rfl (by decide) (L2 := [(2, 41), (1, r19), (9, 0), (1, r21), (9, 0), (0, 3)]) rfl ?_
        refine s_aload_n 68 0 rfl dX9_laysHigh_67 rfl rfl ?_
        refine s_getf 71 41 1 rfl dX9_laysHigh_68 ck9 rfl (by decide) rfl (by decide) w736 rfl (v := (2, 43)) rfl ?_
        refine s_bipush 73 rfl dX9_laysHigh_71 (by decide) ⟨by decide, by decide⟩ ?_
        refine s_iald 74 rfl dX9_laysHigh_73 ia43 (by decide) (by decide) (v9 := h22 43 6) rfl ?_
        refine s_iconst 75 rfl dX9_laysHigh_74 ⟨by decide, by decide⟩ ?_
        refine s_icmp_ne 78 84 rfl dX9_laysHigh_75 (by decide) (fun c24 => ?_) (fun c24 => ?_)
        · replace H := H.1 c24
          refine s_iconst 85 rfl dX9_laysHigh_84 ⟨by decide, by decide⟩ ?_
          refine s_istore 87 5 rfl dX9_laysHigh_85 (by decide) (L2 := [(2, 41), (1, r19), (9, 0), (1, r21), (9, 0), (0, 0)]) rfl ?_
          exact H
        · replace H := H.2 c24
          refine s_aload_n 79 0 rfl dX9_laysHigh_78 rfl rfl ?_
          refine s_callV (mj := mX9_middleHeight) (S := []) 82 [] [(2, 41), (9, 0), (9, 0), (9, 0), (9, 0)] 41 rfl dX9_laysHigh_79 okX9_middleHeight w938 w940 w26 rfl (by decide) rfl rfl rfl rfl npX9_middleHeight (Nat.le_of_ble_eq_true rfl) (by decide) (Nat.le_of_ble_eq_true rfl) rfl (Wd.imp H (fun r23 h24 H => ?_))
          show Wd mX9_laysHigh X 82 [(2, 41), (1, r19), (9, 0), (1, r21), (9, 0), (0, 3)] [(0, r23)] h24 Q
          refine s_i2l 83 rfl dX9_laysHigh_82 ?_
          refine s_lstore_n 84 1 rfl dX9_laysHigh_83 rfl (by decide) (L2 := [(2, 41), (1, r23), (9, 0), (1, r21), (9, 0), (0, 3)]) rfl ?_
          refine s_iconst 85 rfl dX9_laysHigh_84 ⟨by decide, by decide⟩ ?_
          refine s_istore 87 5 rfl dX9_laysHigh_85 (by decide) (L2 := [(2, 41), (1, r23), (9, 0), (1, r21), (9, 0), (0, 0)]) rfl ?_
          exact H
      · replace H := H.2 c32
        refine s_iconst 45 rfl dX9_laysHigh_44 ⟨by decide, by decide⟩ ?_
        refine s_goto 49 dX9_laysHigh_45 (by decide) ?_
        refine s_istore 51 5 rfl dX9_laysHigh_49 (by decide) (L2 := [(2, 41), (1, h 43 7), (9, 0), (1, 1), (9, 0), (0, 1)]) rfl ?_
        refine s_aload_n 52 0 rfl dX9_laysHigh_51 rfl rfl ?_
        refine s_iload 54 5 rfl dX9_laysHigh_52 rfl ?_
        refine s_iconst 55 rfl dX9_laysHigh_54 ⟨by decide, by decide⟩ ?_
        refine s_callV (mj := mX9_highestSum) (S := []) 58 [(0, 1), (0, 1)] [(2, 41), (0, 1), (0, 1), (9, 0), (9, 0), (9, 0)] 41 rfl dX9_laysHigh_55 okX9_highestSum w930 w932 w24 rfl (by decide) rfl rfl rfl rfl npX9_highestSum (Nat.le_of_ble_eq_true rfl) (by decide) (Nat.le_of_ble_eq_true rfl) rfl (Wd.imp H (fun r26 h27 H => ?_))
        show Wd mX9_laysHigh X 58 [(2, 41), (1, h 43 7), (9, 0), (1, 1), (9, 0), (0, 1)] [(1, r26)] h27 Q
        refine s_lstore_n 59 1 rfl dX9_laysHigh_58 rfl (by decide) (L2 := [(2, 41), (1, r26), (9, 0), (1, 1), (9, 0), (0, 1)]) rfl ?_
        refine s_aload_n 60 0 rfl dX9_laysHigh_59 rfl rfl ?_
        refine s_iload 62 5 rfl dX9_laysHigh_60 rfl ?_
        refine s_callV (mj := mX9_highestMany) (S := []) 65 [(0, 1)] [(2, 41), (0, 1)] 41 rfl dX9_laysHigh_62 okX9_highestMany w934 w936 w25 rfl (by decide) rfl rfl rfl rfl npX9_highestMany (Nat.le_of_ble_eq_true rfl) (by decide) (Nat.le_of_ble_eq_true rfl) rfl (Wd.imp H (fun r28 h29 H => ?_))
        show Wd mX9_laysHigh X 65 [(2, 41), (1, r26), (9, 0), (1, 1), (9, 0), (0, 1)] [(0, r28)] h29 Q
        refine s_i2l 66 rfl dX9_laysHigh_65 ?_
        refine s_lstore_n 67 3 rfl dX9_laysHigh_66 rfl (by decide) (L2 := [(2, 41), (1, r26), (9, 0), (1, r28), (9, 0), (0, 1)]) rfl ?_
        refine s_aload_n 68 0 rfl dX9_laysHigh_67 rfl rfl ?_
        refine s_getf 71 41 1 rfl dX9_laysHigh_68 ck9 rfl (by decide) rfl (by decide) w736 rfl (v := (2, 43)) rfl ?_
        refine s_bipush 73 rfl dX9_laysHigh_71 (by decide) ⟨by decide, by decide⟩ ?_
        refine s_iald 74 rfl dX9_laysHigh_73 ia43 (by decide) (by decide) (v9 := h29 43 6) rfl ?_
        refine s_iconst 75 rfl dX9_laysHigh_74 ⟨by decide, by decide⟩ ?_
        refine s_icmp_ne 78 84 rfl dX9_laysHigh_75 (by decide) (fun c31 => ?_) (fun c31 => ?_)
        · replace H := H.1 c31
          refine s_iconst 85 rfl dX9_laysHigh_84 ⟨by decide, by decide⟩ ?_
          refine s_istore 87 5 rfl dX9_laysHigh_85 (by decide) (L2 := [(2, 41), (1, r26), (9, 0), (1, r28), (9, 0), (0, 0)]) rfl ?_
          exact H
        · replace H := H.2 c31
          refine s_aload_n 79 0 rfl dX9_laysHigh_78 rfl rfl ?_
          refine s_callV (mj := mX9_middleHeight) (S := []) 82 [] [(2, 41), (9, 0), (9, 0), (9, 0), (9, 0)] 41 rfl dX9_laysHigh_79 okX9_middleHeight w938 w940 w26 rfl (by decide) rfl rfl rfl rfl npX9_middleHeight (Nat.le_of_ble_eq_true rfl) (by decide) (Nat.le_of_ble_eq_true rfl) rfl (Wd.imp H (fun r30 h31 H => ?_))
          show Wd mX9_laysHigh X 82 [(2, 41), (1, r26), (9, 0), (1, r28), (9, 0), (0, 1)] [(0, r30)] h31 Q
          refine s_i2l 83 rfl dX9_laysHigh_82 ?_
          refine s_lstore_n 84 1 rfl dX9_laysHigh_83 rfl (by decide) (L2 := [(2, 41), (1, r30), (9, 0), (1, r28), (9, 0), (0, 1)]) rfl ?_
          refine s_iconst 85 rfl dX9_laysHigh_84 ⟨by decide, by decide⟩ ?_
          refine s_istore 87 5 rfl dX9_laysHigh_85 (by decide) (L2 := [(2, 41), (1, r30), (9, 0), (1, r28), (9, 0), (0, 0)]) rfl ?_
          exact H
theorem vX9_laysHigh_87 {X : Nat × (Int → Int)} {h : HP} {Q : Int → HP → Prop} {x1 x3 x5 : Int} (H : ((h 41 28 ≤ x5 → (Q 0 h)) ∧ (¬ (h 41 28 ≤ x5) → (Wd mX9_height X 0 [(2, 41), (0, x5)] [] h (fun r1 h2 => inJ (r1 * x3) ∧ ((r1 * x3 ≤ x1 → (0 ≤ x5 ∧ x5 < 301 ∧ inI (x5 + 1) ∧ Wd mX9_laysHigh X 87 [(2, 41), (1, x1), (9, 0), (1, x3), (9, 0), (0, x5 + 1)] [] (xu h2 64 x5 0) Q)) ∧ (¬ (r1 * x3 ≤ x1) → (0 ≤ x5 ∧ x5 < 301 ∧ inI (x5 + 1) ∧ Wd mX9_laysHigh X 87 [(2, 41), (1, x1), (9, 0), (1, x3), (9, 0), (0, x5 + 1)] [] (xu h2 64 x5 1) Q)))))))) : Wd mX9_laysHigh X 87 [(2, 41), (1, x1), (9, 0), (1, x3), (9, 0), (0, x5)] [] h Q := by
  refine s_iload 89 5 rfl dX9_laysHigh_87 rfl ?_
  refine s_aload_n 90 0 rfl dX9_laysHigh_89 rfl rfl ?_
  refine s_getf 93 41 28 rfl dX9_laysHigh_90 ck9 rfl (by decide) rfl (by decide) w763 rfl (v := (0, h 41 28)) rfl ?_
  refine s_icmp_ge 96 128 rfl dX9_laysHigh_93 (by decide) (fun c10 => ?_) (fun c10 => ?_)
  · replace H := H.1 c10
    exact s_vret (S := []) dX9_laysHigh_128 rfl H
  · replace H := H.2 c10
    refine s_aload_n 97 0 rfl dX9_laysHigh_96 rfl rfl ?_
    refine s_getf 100 41 27 rfl dX9_laysHigh_97 ck9 rfl (by decide) rfl (by decide) w762 rfl (v := (2, 64)) rfl ?_
    refine s_iload 102 5 rfl dX9_laysHigh_100 rfl ?_
    refine s_aload_n 103 0 rfl dX9_laysHigh_102 rfl rfl ?_
    refine s_iload 105 5 rfl dX9_laysHigh_103 rfl ?_
    refine s_callV (mj := mX9_height) (S := [(0, x5), (2, 64)]) 108 [(0, x5)] [(2, 41), (0, x5)] 41 rfl dX9_laysHigh_105 okX9_height w922 w924 w22 rfl (by decide) rfl rfl rfl rfl npX9_height (Nat.le_of_ble_eq_true rfl) (by decide) (Nat.le_of_ble_eq_true rfl) rfl (Wd.imp H (fun r1 h2 H => ?_))
    show Wd mX9_laysHigh X 108 [(2, 41), (1, x1), (9, 0), (1, x3), (9, 0), (0, x5)] [(0, r1), (0, x5), (2, 64)] h2 Q
    refine s_i2l 109 rfl dX9_laysHigh_108 ?_
    refine s_lload_n 110 3 rfl dX9_laysHigh_109 rfl rfl ?_
    have c2 := H.1
    replace H := H.2
    refine s_lmul 111 rfl dX9_laysHigh_110 c2 ?_
    refine s_lload_n 112 1 rfl dX9_laysHigh_111 rfl rfl ?_
    refine s_lcmp 113 rfl dX9_laysHigh_112 ?_
    refine s_if_le 116 120 rfl dX9_laysHigh_113 (by decide) (fun c9 => ?_) (fun c9 => ?_)
    · replace H := H.1 (lcz_le.mp c9)
      refine s_iconst 121 rfl dX9_laysHigh_120 ⟨by decide, by decide⟩ ?_
      have c3 := H.1
      replace H := H.2
      have c4 := H.1
      replace H := H.2
      refine s_zast 122 rfl dX9_laysHigh_121 za64 c3 c4 (Or.inl rfl) ?_
      have c5 := H.1
      replace H := H.2
      refine s_iinc 125 5 rfl dX9_laysHigh_122 (by decide) (z := x5) rfl (L2 := [(2, 41), (1, x1), (9, 0), (1, x3), (9, 0), (0, x5 + 1)]) rfl c5 ?_
      refine s_goto 87 dX9_laysHigh_125 (by decide) ?_
      exact H
    · replace H := H.2 (fun y => c9 (lcz_le.mpr y))
      refine s_iconst 117 rfl dX9_laysHigh_116 ⟨by decide, by decide⟩ ?_
      refine s_goto 121 dX9_laysHigh_117 (by decide) ?_
      have c6 := H.1
      replace H := H.2
      have c7 := H.1
      replace H := H.2
      refine s_zast 122 rfl dX9_laysHigh_121 za64 c6 c7 (Or.inr rfl) ?_
      have c8 := H.1
      replace H := H.2
      refine s_iinc 125 5 rfl dX9_laysHigh_122 (by decide) (z := x5) rfl (L2 := [(2, 41), (1, x1), (9, 0), (1, x3), (9, 0), (0, x5 + 1)]) rfl c8 ?_
      refine s_goto 87 dX9_laysHigh_125 (by decide) ?_
      exact H
theorem vX9_wave_0 {X : Nat × (Int → Int)} {h : HP} {Q : Int → HP → Prop} {x1 x2 x3 : Int} (H : 0 ≤ h 41 28 ∧ h 41 28 < 301 ∧ inI (x3 - x2) ∧ 0 ≤ x2 ∧ x2 < 600 ∧ Wd mX9_wave X 56 [(2, 41), (9, 0), (9, 0), (0, x3), (0, h 41 28), (0, x2)] [] (xu (xu (xu (xu (xu h 57 (h 41 28) x2) 58 (h 41 28) (x3 - x2)) 62 (h 41 28) x1) 61 (h 41 28) x2) 60 (h 41 28) (h 50 x2)) Q) : Wd mX9_wave X 0 [(2, 41), (0, x1), (0, x2), (0, x3), (9, 0), (9, 0)] [] h Q := by
  refine s_aload_n 1 0 rfl dX9_wave_0 rfl rfl ?_
  refine s_getf 4 41 28 rfl dX9_wave_1 ck9 rfl (by decide) rfl (by decide) w763 rfl (v := (0, h 41 28)) rfl ?_
  refine s_istore 6 4 rfl dX9_wave_4 (by decide) (L2 := [(2, 41), (0, x1), (0, x2), (0, x3), (0, h 41 28), (9, 0)]) rfl ?_
  refine s_aload_n 7 0 rfl dX9_wave_6 rfl rfl ?_
  refine s_getf 10 41 20 rfl dX9_wave_7 ck9 rfl (by decide) rfl (by decide) w755 rfl (v := (2, 57)) rfl ?_
  refine s_iload 12 4 rfl dX9_wave_10 rfl ?_
  refine s_iload_n 13 2 rfl dX9_wave_12 rfl rfl ?_
  have c0 := H.1
  replace H := H.2
  have c1 := H.1
  replace H := H.2
  refine s_iast 14 rfl dX9_wave_13 ia57 c0 c1 ?_
  refine s_aload_n 15 0 rfl dX9_wave_14 rfl rfl ?_
  refine s_getf 18 41 21 rfl dX9_wave_15 ck9 rfl (by decide) rfl (by decide) w756 rfl (v := (2, 58)) rfl ?_
  refine s_iload 20 4 rfl dX9_wave_18 rfl ?_
  refine s_iload_n 21 3 rfl dX9_wave_20 rfl rfl ?_
  refine s_iload_n 22 2 rfl dX9_wave_21 rfl rfl ?_
  have c2 := H.1
  replace H := H.2
  refine s_isub 23 rfl dX9_wave_22 c2 ?_
  refine s_iast 24 rfl dX9_wave_23 ia58 c0 c1 ?_
  refine s_aload_n 25 0 rfl dX9_wave_24 rfl rfl ?_
  refine s_getf 28 41 25 rfl dX9_wave_25 ck9 rfl (by decide) rfl (by decide) w760 rfl (v := (2, 62)) rfl ?_
  refine s_iload 30 4 rfl dX9_wave_28 rfl ?_
  refine s_iload_n 31 1 rfl dX9_wave_30 rfl rfl ?_
  refine s_iast 32 rfl dX9_wave_31 ia62 c0 c1 ?_
  refine s_aload_n 33 0 rfl dX9_wave_32 rfl rfl ?_
  refine s_getf 36 41 24 rfl dX9_wave_33 ck9 rfl (by decide) rfl (by decide) w759 rfl (v := (2, 61)) rfl ?_
  refine s_iload 38 4 rfl dX9_wave_36 rfl ?_
  refine s_iload_n 39 2 rfl dX9_wave_38 rfl rfl ?_
  refine s_iast 40 rfl dX9_wave_39 ia61 c0 c1 ?_
  refine s_aload_n 41 0 rfl dX9_wave_40 rfl rfl ?_
  refine s_getf 44 41 23 rfl dX9_wave_41 ck9 rfl (by decide) rfl (by decide) w758 rfl (v := (2, 60)) rfl ?_
  refine s_iload 46 4 rfl dX9_wave_44 rfl ?_
  refine s_aload_n 47 0 rfl dX9_wave_46 rfl rfl ?_
  refine s_getf 50 41 10 rfl dX9_wave_47 ck9 rfl (by decide) rfl (by decide) w745 rfl (v := (2, 50)) rfl ?_
  refine s_iload_n 51 2 rfl dX9_wave_50 rfl rfl ?_
  have c3 := H.1
  replace H := H.2
  have c4 := H.1
  replace H := H.2
  refine s_iald 52 rfl dX9_wave_51 ia50 c3 c4 (v9 := h 50 x2) ((xu_k (by decide)).trans ((xu_k (by decide)).trans ((xu_k (by decide)).trans (xu_k (by decide))))) ?_
  refine s_iast 53 rfl dX9_wave_52 ia60 c0 c1 ?_
  refine s_iload_n 54 2 rfl dX9_wave_53 rfl rfl ?_
  refine s_istore 56 5 rfl dX9_wave_54 (by decide) (L2 := [(2, 41), (0, x1), (0, x2), (0, x3), (0, h 41 28), (0, x2)]) rfl ?_
  exact s_less [(2, 41), (9, 0), (9, 0), (0, x3), (0, h 41 28), (0, x2)] ⟨Or.inr rfl, Or.inl rfl, Or.inl rfl, Or.inr rfl, Or.inr rfl, Or.inr rfl, trivial⟩ H
theorem vX9_wave_56 {X : Nat × (Int → Int)} {h : HP} {Q : Int → HP → Prop} {x3 x4 x5 : Int} (H : ((x3 ≤ x5 → (0 ≤ x4 ∧ x4 < 301 ∧ 0 ≤ h 61 x4 ∧ h 61 x4 < 600 ∧ inI (h 41 28 + 1) ∧ Q 0 (xu (xu h 59 x4 (h 50 (h 61 x4))) 41 28 (h 41 28 + 1)))) ∧ (¬ (x3 ≤ x5) → (0 ≤ x5 ∧ x5 < 600 ∧ 0 ≤ x4 ∧ x4 < 301 ∧ 0 ≤ h 61 x4 ∧ h 61 x4 < 600 ∧ ((h 50 x5 ≤ h 50 (h 61 x4) → ((h 60 x4 ≤ h 50 x5 → (inI (x5 + 1) ∧ Wd mX9_wave X 56 [(2, 41), (9, 0), (9, 0), (0, x3), (0, x4), (0, x5 + 1)] [] (xu h 56 x5 x4) Q)) ∧ (¬ (h 60 x4 ≤ h 50 x5) → (inI (x5 + 1) ∧ Wd mX9_wave X 56 [(2, 41), (9, 0), (9, 0), (0, x3), (0, x4), (0, x5 + 1)] [] (xu (xu h 60 x4 (h 50 x5)) 56 x5 x4) Q)))) ∧ (¬ (h 50 x5 ≤ h 50 (h 61 x4)) → ((h 60 x4 ≤ h 50 x5 → (inI (x5 + 1) ∧ Wd mX9_wave X 56 [(2, 41), (9, 0), (9, 0), (0, x3), (0, x4), (0, x5 + 1)] [] (xu (xu h 61 x4 x5) 56 x5 x4) Q)) ∧ (¬ (h 60 x4 ≤ h 50 x5) → (inI (x5 + 1) ∧ Wd mX9_wave X 56 [(2, 41), (9, 0), (9, 0), (0, x3), (0, x4), (0, x5 + 1)] [] (xu (xu (xu h 61 x4 x5) 60 x4 (h 50 x5)) 56 x5 x4) Q))))))))) : Wd mX9_wave X 56 [(2, 41), (9, 0), (9, 0), (0, x3), (0, x4), (0, x5)] [] h Q := by
  refine s_iload 58 5 rfl dX9_wave_56 rfl ?_
  refine s_iload_n 59 3 rfl dX9_wave_58 rfl rfl ?_
  refine s_icmp_ge 62 139 rfl dX9_wave_59 (by decide) (fun c18 => ?_) (fun c18 => ?_)
  · replace H := H.1 c18
    refine s_aload_n 140 0 rfl dX9_wave_139 rfl rfl ?_
    refine s_getf 143 41 22 rfl dX9_wave_140 ck9 rfl (by decide) rfl (by decide) w757 rfl (v := (2, 59)) rfl ?_
    refine s_iload 145 4 rfl dX9_wave_143 rfl ?_
    refine s_aload_n 146 0 rfl dX9_wave_145 rfl rfl ?_
    refine s_getf 149 41 10 rfl dX9_wave_146 ck9 rfl (by decide) rfl (by decide) w745 rfl (v := (2, 50)) rfl ?_
    refine s_aload_n 150 0 rfl dX9_wave_149 rfl rfl ?_
    refine s_getf 153 41 24 rfl dX9_wave_150 ck9 rfl (by decide) rfl (by decide) w759 rfl (v := (2, 61)) rfl ?_
    refine s_iload 155 4 rfl dX9_wave_153 rfl ?_
    have c0 := H.1
    replace H := H.2
    have c1 := H.1
    replace H := H.2
    refine s_iald 156 rfl dX9_wave_155 ia61 c0 c1 (v9 := h 61 x4) rfl ?_
    have c2 := H.1
    replace H := H.2
    have c3 := H.1
    replace H := H.2
    refine s_iald 157 rfl dX9_wave_156 ia50 c2 c3 (v9 := h 50 (h 61 x4)) rfl ?_
    refine s_iast 158 rfl dX9_wave_157 ia59 c0 c1 ?_
    refine s_aload_n 159 0 rfl dX9_wave_158 rfl rfl ?_
    refine s_dup 160 rfl dX9_wave_159 (by decide : ¬ (2 : Nat) = 1) ?_
    refine s_getf 163 41 28 rfl dX9_wave_160 ck9 rfl (by decide) rfl (by decide) w763 rfl (v := (0, h 41 28)) (by show (0, (xu h 59 x4 (h 50 (h 61 x4))) 41 28) = _; rw [(xu_k (by decide))]) ?_
    refine s_iconst 164 rfl dX9_wave_163 ⟨by decide, by decide⟩ ?_
    have c4 := H.1
    replace H := H.2
    refine s_iadd 165 rfl dX9_wave_164 c4 ?_
    refine s_putI 168 41 28 rfl dX9_wave_165 ck9 rfl (by decide) rfl (by decide) w763 rfl rfl rfl ?_
    exact s_vret (S := []) dX9_wave_168 rfl H
  · replace H := H.2 c18
    refine s_aload_n 63 0 rfl dX9_wave_62 rfl rfl ?_
    refine s_getf 66 41 10 rfl dX9_wave_63 ck9 rfl (by decide) rfl (by decide) w745 rfl (v := (2, 50)) rfl ?_
    refine s_iload 68 5 rfl dX9_wave_66 rfl ?_
    have c5 := H.1
    replace H := H.2
    have c6 := H.1
    replace H := H.2
    refine s_iald 69 rfl dX9_wave_68 ia50 c5 c6 (v9 := h 50 x5) rfl ?_
    refine s_aload_n 70 0 rfl dX9_wave_69 rfl rfl ?_
    refine s_getf 73 41 10 rfl dX9_wave_70 ck9 rfl (by decide) rfl (by decide) w745 rfl (v := (2, 50)) rfl ?_
    refine s_aload_n 74 0 rfl dX9_wave_73 rfl rfl ?_
    refine s_getf 77 41 24 rfl dX9_wave_74 ck9 rfl (by decide) rfl (by decide) w759 rfl (v := (2, 61)) rfl ?_
    refine s_iload 79 4 rfl dX9_wave_77 rfl ?_
    have c7 := H.1
    replace H := H.2
    have c8 := H.1
    replace H := H.2
    refine s_iald 80 rfl dX9_wave_79 ia61 c7 c8 (v9 := h 61 x4) rfl ?_
    have c9 := H.1
    replace H := H.2
    have c10 := H.1
    replace H := H.2
    refine s_iald 81 rfl dX9_wave_80 ia50 c9 c10 (v9 := h 50 (h 61 x4)) rfl ?_
    refine s_icmp_le 84 93 rfl dX9_wave_81 (by decide) (fun c17 => ?_) (fun c17 => ?_)
    · replace H := H.1 c17
      refine s_aload_n 94 0 rfl dX9_wave_93 rfl rfl ?_
      refine s_getf 97 41 10 rfl dX9_wave_94 ck9 rfl (by decide) rfl (by decide) w745 rfl (v := (2, 50)) rfl ?_
      refine s_iload 99 5 rfl dX9_wave_97 rfl ?_
      refine s_iald 100 rfl dX9_wave_99 ia50 c5 c6 (v9 := h 50 x5) rfl ?_
      refine s_aload_n 101 0 rfl dX9_wave_100 rfl rfl ?_
      refine s_getf 104 41 23 rfl dX9_wave_101 ck9 rfl (by decide) rfl (by decide) w758 rfl (v := (2, 60)) rfl ?_
      refine s_iload 106 4 rfl dX9_wave_104 rfl ?_
      refine s_iald 107 rfl dX9_wave_106 ia60 c7 c8 (v9 := h 60 x4) rfl ?_
      refine s_icmp_ge 110 124 rfl dX9_wave_107 (by decide) (fun c13 => ?_) (fun c13 => ?_)
      · replace H := H.1 c13
        refine s_aload_n 125 0 rfl dX9_wave_124 rfl rfl ?_
        refine s_getf 128 41 19 rfl dX9_wave_125 ck9 rfl (by decide) rfl (by decide) w754 rfl (v := (2, 56)) rfl ?_
        refine s_iload 130 5 rfl dX9_wave_128 rfl ?_
        refine s_iload 132 4 rfl dX9_wave_130 rfl ?_
        refine s_iast 133 rfl dX9_wave_132 ia56 c5 c6 ?_
        have c11 := H.1
        replace H := H.2
        refine s_iinc 136 5 rfl dX9_wave_133 (by decide) (z := x5) rfl (L2 := [(2, 41), (9, 0), (9, 0), (0, x3), (0, x4), (0, x5 + 1)]) rfl c11 ?_
        refine s_goto 56 dX9_wave_136 (by decide) ?_
        exact H
      · replace H := H.2 c13
        refine s_aload_n 111 0 rfl dX9_wave_110 rfl rfl ?_
        refine s_getf 114 41 23 rfl dX9_wave_111 ck9 rfl (by decide) rfl (by decide) w758 rfl (v := (2, 60)) rfl ?_
        refine s_iload 116 4 rfl dX9_wave_114 rfl ?_
        refine s_aload_n 117 0 rfl dX9_wave_116 rfl rfl ?_
        refine s_getf 120 41 10 rfl dX9_wave_117 ck9 rfl (by decide) rfl (by decide) w745 rfl (v := (2, 50)) rfl ?_
        refine s_iload 122 5 rfl dX9_wave_120 rfl ?_
        refine s_iald 123 rfl dX9_wave_122 ia50 c5 c6 (v9 := h 50 x5) rfl ?_
        refine s_iast 124 rfl dX9_wave_123 ia60 c7 c8 ?_
        refine s_aload_n 125 0 rfl dX9_wave_124 rfl rfl ?_
        refine s_getf 128 41 19 rfl dX9_wave_125 ck9 rfl (by decide) rfl (by decide) w754 rfl (v := (2, 56)) rfl ?_
        refine s_iload 130 5 rfl dX9_wave_128 rfl ?_
        refine s_iload 132 4 rfl dX9_wave_130 rfl ?_
        refine s_iast 133 rfl dX9_wave_132 ia56 c5 c6 ?_
        have c12 := H.1
        replace H := H.2
        refine s_iinc 136 5 rfl dX9_wave_133 (by decide) (z := x5) rfl (L2 := [(2, 41), (9, 0), (9, 0), (0, x3), (0, x4), (0, x5 + 1)]) rfl c12 ?_
        refine s_goto 56 dX9_wave_136 (by decide) ?_
        exact H
    · replace H := H.2 c17
      refine s_aload_n 85 0 rfl dX9_wave_84 rfl rfl ?_
      refine s_getf 88 41 24 rfl dX9_wave_85 ck9 rfl (by decide) rfl (by decide) w759 rfl (v := (2, 61)) rfl ?_
      refine s_iload 90 4 rfl dX9_wave_88 rfl ?_
      refine s_iload 92 5 rfl dX9_wave_90 rfl ?_
      refine s_iast 93 rfl dX9_wave_92 ia61 c7 c8 ?_
      refine s_aload_n 94 0 rfl dX9_wave_93 rfl rfl ?_
      refine s_getf 97 41 10 rfl dX9_wave_94 ck9 rfl (by decide) rfl (by decide) w745 rfl (v := (2, 50)) rfl ?_
      refine s_iload 99 5 rfl dX9_wave_97 rfl ?_
      refine s_iald 100 rfl dX9_wave_99 ia50 c5 c6 (v9 := h 50 x5) (xu_k (by decide)) ?_
      refine s_aload_n 101 0 rfl dX9_wave_100 rfl rfl ?_
      refine s_getf 104 41 23 rfl dX9_wave_101 ck9 rfl (by decide) rfl (by decide) w758 rfl (v := (2, 60)) rfl ?_
      refine s_iload 106 4 rfl dX9_wave_104 rfl ?_
      refine s_iald 107 rfl dX9_wave_106 ia60 c7 c8 (v9 := h 60 x4) (xu_k (by decide)) ?_
      refine s_icmp_ge 110 124 rfl dX9_wave_107 (by decide) (fun c16 => ?_) (fun c16 => ?_)
      · replace H := H.1 c16
        refine s_aload_n 125 0 rfl dX9_wave_124 rfl rfl ?_
        refine s_getf 128 41 19 rfl dX9_wave_125 ck9 rfl (by decide) rfl (by decide) w754 rfl (v := (2, 56)) rfl ?_
        refine s_iload 130 5 rfl dX9_wave_128 rfl ?_
        refine s_iload 132 4 rfl dX9_wave_130 rfl ?_
        refine s_iast 133 rfl dX9_wave_132 ia56 c5 c6 ?_
        have c14 := H.1
        replace H := H.2
        refine s_iinc 136 5 rfl dX9_wave_133 (by decide) (z := x5) rfl (L2 := [(2, 41), (9, 0), (9, 0), (0, x3), (0, x4), (0, x5 + 1)]) rfl c14 ?_
        refine s_goto 56 dX9_wave_136 (by decide) ?_
        exact H
      · replace H := H.2 c16
        refine s_aload_n 111 0 rfl dX9_wave_110 rfl rfl ?_
        refine s_getf 114 41 23 rfl dX9_wave_111 ck9 rfl (by decide) rfl (by decide) w758 rfl (v := (2, 60)) rfl ?_
        refine s_iload 116 4 rfl dX9_wave_114 rfl ?_
        refine s_aload_n 117 0 rfl dX9_wave_116 rfl rfl ?_
        refine s_getf 120 41 10 rfl dX9_wave_117 ck9 rfl (by decide) rfl (by decide) w745 rfl (v := (2, 50)) rfl ?_
        refine s_iload 122 5 rfl dX9_wave_120 rfl ?_
        refine s_iald 123 rfl dX9_wave_122 ia50 c5 c6 (v9 := h 50 x5) (xu_k (by decide)) ?_
        refine s_iast 124 rfl dX9_wave_123 ia60 c7 c8 ?_
        refine s_aload_n 125 0 rfl dX9_wave_124 rfl rfl ?_
        refine s_getf 128 41 19 rfl dX9_wave_125 ck9 rfl (by decide) rfl (by decide) w754 rfl (v := (2, 56)) rfl ?_
        refine s_iload 130 5 rfl dX9_wave_128 rfl ?_
        refine s_iload 132 4 rfl dX9_wave_130 rfl ?_
        refine s_iast 133 rfl dX9_wave_132 ia56 c5 c6 ?_
        have c15 := H.1
        replace H := H.2
        refine s_iinc 136 5 rfl dX9_wave_133 (by decide) (z := x5) rfl (L2 := [(2, 41), (9, 0), (9, 0), (0, x3), (0, x4), (0, x5 + 1)]) rfl c15 ?_
        refine s_goto 56 dX9_wave_136 (by decide) ?_
        exact H
theorem vX9_laysWaves_0 {X : Nat × (Int → Int)} {h : HP} {Q : Int → HP → Prop} (H : Wd mX9_laysShown X 0 [(2, 41), (0, h 41 6), (9, 0), (9, 0)] [] h (fun _ h2 => Wd mX9_laysWaves X 15 [(2, 41), (0, 0), (9, 0), (9, 0)] [] (xu h2 41 28 0) Q)) : Wd mX9_laysWaves X 0 [(2, 41), (9, 0), (9, 0), (9, 0)] [] h Q := by
  refine s_aload_n 1 0 rfl dX9_laysWaves_0 rfl rfl ?_
  refine s_aload_n 2 0 rfl dX9_laysWaves_1 rfl rfl ?_
  refine s_getf 5 41 6 rfl dX9_laysWaves_2 ck9 rfl (by decide) rfl (by decide) w741 rfl (v := (0, h 41 6)) rfl ?_
  refine s_callV (mj := mX9_laysShown) (S := []) 8 [(0, h 41 6)] [(2, 41), (0, h 41 6), (9, 0), (9, 0)] 41 rfl dX9_laysWaves_5 okX9_laysShown w882 w884 w13 rfl (by decide) rfl rfl rfl rfl npX9_laysShown (Nat.le_of_ble_eq_true rfl) (by decide) (Nat.le_of_ble_eq_true rfl) rfl (Wd.imp H (fun _ h2 H => ?_))
  show Wd mX9_laysWaves X 8 [(2, 41), (9, 0), (9, 0), (9, 0)] [] h2 Q
  refine s_aload_n 9 0 rfl dX9_laysWaves_8 rfl rfl ?_
  refine s_iconst 10 rfl dX9_laysWaves_9 ⟨by decide, by decide⟩ ?_
  refine s_putI 13 41 28 rfl dX9_laysWaves_10 ck9 rfl (by decide) rfl (by decide) w763 rfl rfl rfl ?_
  refine s_iconst 14 rfl dX9_laysWaves_13 ⟨by decide, by decide⟩ ?_
  refine s_istore_n 15 1 rfl dX9_laysWaves_14 rfl (by decide) (L2 := [(2, 41), (0, 0), (9, 0), (9, 0)]) rfl ?_
  exact H
theorem vX9_laysWaves_15 {X : Nat × (Int → Int)} {h : HP} {Q : Int → HP → Prop} {x1 : Int} (H : ((h 41 5 ≤ x1 → (Wd mX9_laysWaves X 38 [(2, 41), (0, 0), (9, 0), (9, 0)] [] h Q)) ∧ (¬ (h 41 5 ≤ x1) → (0 ≤ x1 ∧ x1 < 600 ∧ inI (x1 + 1) ∧ Wd mX9_laysWaves X 15 [(2, 41), (0, x1 + 1), (9, 0), (9, 0)] [] (xu h 56 x1 (-1)) Q)))) : Wd mX9_laysWaves X 15 [(2, 41), (0, x1), (9, 0), (9, 0)] [] h Q := by
  refine s_iload_n 16 1 rfl dX9_laysWaves_15 rfl rfl ?_
  refine s_aload_n 17 0 rfl dX9_laysWaves_16 rfl rfl ?_
  refine s_getf 20 41 5 rfl dX9_laysWaves_17 ck9 rfl (by decide) rfl (by decide) w740 rfl (v := (0, h 41 5)) rfl ?_
  refine s_icmp_ge 23 36 rfl dX9_laysWaves_20 (by decide) (fun c3 => ?_) (fun c3 => ?_)
  · replace H := H.1 c3
    refine s_iconst 37 rfl dX9_laysWaves_36 ⟨by decide, by decide⟩ ?_
    refine s_istore_n 38 1 rfl dX9_laysWaves_37 rfl (by decide) (L2 := [(2, 41), (0, 0), (9, 0), (9, 0)]) rfl ?_
    exact H
  · replace H := H.2 c3
    refine s_aload_n 24 0 rfl dX9_laysWaves_23 rfl rfl ?_
    refine s_getf 27 41 19 rfl dX9_laysWaves_24 ck9 rfl (by decide) rfl (by decide) w754 rfl (v := (2, 56)) rfl ?_
    refine s_iload_n 28 1 rfl dX9_laysWaves_27 rfl rfl ?_
    refine s_iconst 29 rfl dX9_laysWaves_28 ⟨by decide, by decide⟩ ?_
    have c0 := H.1
    replace H := H.2
    have c1 := H.1
    replace H := H.2
    refine s_iast 30 rfl dX9_laysWaves_29 ia56 c0 c1 ?_
    have c2 := H.1
    replace H := H.2
    refine s_iinc 33 1 rfl dX9_laysWaves_30 (by decide) (z := x1) rfl (L2 := [(2, 41), (0, x1 + 1), (9, 0), (9, 0)]) rfl c2 ?_
    refine s_goto 15 dX9_laysWaves_33 (by decide) ?_
    exact H
theorem vX9_laysWaves_38 {X : Nat × (Int → Int)} {h : HP} {Q : Int → HP → Prop} {x1 : Int} (H : ((h 41 12 ≤ x1 → (Wd mX9_laysWaves X 174 [(2, 41), (0, 0), (9, 0), (9, 0)] [] h Q)) ∧ (¬ (h 41 12 ≤ x1) → (Wd mX9_level_ X 0 [(2, 41), (0, x1), (9, 0), (9, 0), (9, 0), (9, 0)] [] h (fun r1 h2 => 0 ≤ x1 ∧ x1 < 601 ∧ Wd mX9_laysWaves X 78 [(2, 41), (0, x1), (0, (-1)), (0, h2 49 x1)] [] (xu (xu (xu h2 52 x1 r1) 53 x1 0) 41 29 0) Q))))) : Wd mX9_laysWaves X 38 [(2, 41), (0, x1), (9, 0), (9, 0)] [] h Q := by
  refine s_iload_n 39 1 rfl dX9_laysWaves_38 rfl rfl ?_
  refine s_aload_n 40 0 rfl dX9_laysWaves_39 rfl rfl ?_
  refine s_getf 43 41 12 rfl dX9_laysWaves_40 ck9 rfl (by decide) rfl (by decide) w747 rfl (v := (0, h 41 12)) rfl ?_
  refine s_icmp_ge 46 172 rfl dX9_laysWaves_43 (by decide) (fun c4 => ?_) (fun c4 => ?_)
  · replace H := H.1 c4
    refine s_iconst 173 rfl dX9_laysWaves_172 ⟨by decide, by decide⟩ ?_
    refine s_istore_n 174 1 rfl dX9_laysWaves_173 rfl (by decide) (L2 := [(2, 41), (0, 0), (9, 0), (9, 0)]) rfl ?_
    exact H
  · replace H := H.2 c4
    refine s_aload_n 47 0 rfl dX9_laysWaves_46 rfl rfl ?_
    refine s_getf 50 41 15 rfl dX9_laysWaves_47 ck9 rfl (by decide) rfl (by decide) w750 rfl (v := (2, 52)) rfl ?_
    refine s_iload_n 51 1 rfl dX9_laysWaves_50 rfl rfl ?_
    refine s_aload_n 52 0 rfl dX9_laysWaves_51 rfl rfl ?_
    refine s_iload_n 53 1 rfl dX9_laysWaves_52 rfl rfl ?_
    refine s_callV (mj := mX9_level_) (S := [(0, x1), (2, 52)]) 56 [(0, x1)] [(2, 41), (0, x1), (9, 0), (9, 0), (9, 0), (9, 0)] 41 rfl dX9_laysWaves_53 okX9_level_ w902 w904 w17 rfl (by decide) rfl rfl rfl rfl npX9_level_ (Nat.le_of_ble_eq_true rfl) (by decide) (Nat.le_of_ble_eq_true rfl) rfl (Wd.imp H (fun r1 h2 H => ?_))
    show Wd mX9_laysWaves X 56 [(2, 41), (0, x1), (9, 0), (9, 0)] [(0, r1), (0, x1), (2, 52)] h2 Q
    have c2 := H.1
    replace H := H.2
    have c3 := H.1
    replace H := H.2
    refine s_iast 57 rfl dX9_laysWaves_56 ia52 c2 c3 ?_
    refine s_aload_n 58 0 rfl dX9_laysWaves_57 rfl rfl ?_
    refine s_getf 61 41 16 rfl dX9_laysWaves_58 ck9 rfl (by decide) rfl (by decide) w751 rfl (v := (2, 53)) rfl ?_
    refine s_iload_n 62 1 rfl dX9_laysWaves_61 rfl rfl ?_
    refine s_iconst 63 rfl dX9_laysWaves_62 ⟨by decide, by decide⟩ ?_
    refine s_iast 64 rfl dX9_laysWaves_63 ia53 c2 c3 ?_
    refine s_aload_n 65 0 rfl dX9_laysWaves_64 rfl rfl ?_
    refine s_iconst 66 rfl dX9_laysWaves_65 ⟨by decide, by decide⟩ ?_
    refine s_putZ 69 41 29 rfl dX9_laysWaves_66 ck9 rfl (by decide) rfl (by decide) w764 rfl rfl rfl (Or.inl rfl) ?_
    refine s_iconst 70 rfl dX9_laysWaves_69 ⟨by decide, by decide⟩ ?_
    refine s_istore_n 71 2 rfl dX9_laysWaves_70 rfl (by decide) (L2 := [(2, 41), (0, x1), (0, (-1)), (9, 0)]) rfl ?_
    refine s_aload_n 72 0 rfl dX9_laysWaves_71 rfl rfl ?_
    refine s_getf 75 41 9 rfl dX9_laysWaves_72 ck9 rfl (by decide) rfl (by decide) w744 rfl (v := (2, 49)) rfl ?_
    refine s_iload_n 76 1 rfl dX9_laysWaves_75 rfl rfl ?_
    refine s_iald 77 rfl dX9_laysWaves_76 ia49 c2 c3 (v9 := h2 49 x1) ((xu_k (by decide)).trans ((xu_k (by decide)).trans (xu_k (by decide)))) ?_
    refine s_istore_n 78 3 rfl dX9_laysWaves_77 rfl (by decide) (L2 := [(2, 41), (0, x1), (0, (-1)), (0, h2 49 x1)]) rfl ?_
    exact H
theorem vX9_laysWaves_174 {X : Nat × (Int → Int)} {h : HP} {Q : Int → HP → Prop} {x1 : Int} (H : ((h 41 28 ≤ x1 → (Wd mX9_laysHigh X 0 [(2, 41), (9, 0), (9, 0), (9, 0), (9, 0), (9, 0)] [] h (fun _ h2 => Q 0 h2))) ∧ (¬ (h 41 28 ≤ x1) → (0 ≤ x1 ∧ x1 < 301 ∧ Wd mX9_laysWaves X 191 [(2, 41), (0, x1), (0, 0), (9, 0)] [] (xu h 63 x1 0) Q)))) : Wd mX9_laysWaves X 174 [(2, 41), (0, x1), (9, 0), (9, 0)] [] h Q := by
  refine s_iload_n 175 1 rfl dX9_laysWaves_174 rfl rfl ?_
  refine s_aload_n 176 0 rfl dX9_laysWaves_175 rfl rfl ?_
  refine s_getf 179 41 28 rfl dX9_laysWaves_176 ck9 rfl (by decide) rfl (by decide) w763 rfl (v := (0, h 41 28)) rfl ?_
  refine s_icmp_ge 182 256 rfl dX9_laysWaves_179 (by decide) (fun c4 => ?_) (fun c4 => ?_)
  · replace H := H.1 c4
    refine s_aload_n 257 0 rfl dX9_laysWaves_256 rfl rfl ?_
    refine s_callV (mj := mX9_laysHigh) (S := []) 260 [] [(2, 41), (9, 0), (9, 0), (9, 0), (9, 0), (9, 0)] 41 rfl dX9_laysWaves_257 okX9_laysHigh w926 w928 w23 rfl (by decide) rfl rfl rfl rfl npX9_laysHigh (Nat.le_of_ble_eq_true rfl) (by decide) (Nat.le_of_ble_eq_true rfl) rfl (Wd.imp H (fun _ h2 H => ?_))
    show Wd mX9_laysWaves X 260 [(2, 41), (0, x1), (9, 0), (9, 0)] [] h2 Q
    exact s_vret (S := []) dX9_laysWaves_260 rfl H
  · replace H := H.2 c4
    refine s_aload_n 183 0 rfl dX9_laysWaves_182 rfl rfl ?_
    refine s_getf 186 41 26 rfl dX9_laysWaves_183 ck9 rfl (by decide) rfl (by decide) w761 rfl (v := (2, 63)) rfl ?_
    refine s_iload_n 187 1 rfl dX9_laysWaves_186 rfl rfl ?_
    refine s_iconst 188 rfl dX9_laysWaves_187 ⟨by decide, by decide⟩ ?_
    have c2 := H.1
    replace H := H.2
    have c3 := H.1
    replace H := H.2
    refine s_iast 189 rfl dX9_laysWaves_188 ia63 c2 c3 ?_
    refine s_iconst 190 rfl dX9_laysWaves_189 ⟨by decide, by decide⟩ ?_
    refine s_istore_n 191 2 rfl dX9_laysWaves_190 rfl (by decide) (L2 := [(2, 41), (0, x1), (0, 0), (9, 0)]) rfl ?_
    exact H
theorem vX9_laysWaves_78 {X : Nat × (Int → Int)} {h : HP} {Q : Int → HP → Prop} {x1 x2 x3 : Int} (H : ((h 41 5 ≤ x3 → (0 ≤ x1 ∧ x1 < 601 ∧ inI (x1 + 1) ∧ Wd mX9_laysWaves X 38 [(2, 41), (0, x1 + 1), (9, 0), (9, 0)] [] (xu h 55 x1 x2) Q)) ∧ (¬ (h 41 5 ≤ x3) → (0 ≤ x3 ∧ x3 < 600 ∧ ((¬ h 48 x3 = x1 → (0 ≤ x1 ∧ x1 < 601 ∧ inI (x1 + 1) ∧ Wd mX9_laysWaves X 38 [(2, 41), (0, x1 + 1), (9, 0), (9, 0)] [] (xu h 55 x1 x2) Q)) ∧ (h 48 x3 = x1 → (0 ≤ x1 ∧ x1 < 601 ∧ Wd mX9_crosses X 0 [(2, 41), (0, x3), (0, h 52 x1), (0, h 43 1)] [] h (fun r11 h12 => ((¬ r11 = 0 → ((x2 = (-1) → (inI (h12 53 x1 + 1) ∧ inI (x3 + 1) ∧ Wd mX9_laysWaves X 78 [(2, 41), (0, x1), (0, x3), (0, x3 + 1)] [] (xu (xu h12 54 x1 x3) 53 x1 (h12 53 x1 + 1)) Q)) ∧ (¬ x2 = (-1) → (Wd mX9_wave X 0 [(2, 41), (0, x1), (0, x2), (0, x3), (9, 0), (9, 0)] [] h12 (fun _ h16 => inI (h16 53 x1 + 1) ∧ inI (x3 + 1) ∧ Wd mX9_laysWaves X 78 [(2, 41), (0, x1), (0, x3), (0, x3 + 1)] [] (xu h16 53 x1 (h16 53 x1 + 1)) Q))))) ∧ (r11 = 0 → (inI (x3 + 1) ∧ Wd mX9_laysWaves X 78 [(2, 41), (0, x1), (0, x2), (0, x3 + 1)] [] h12 Q))))))))))) : Wd mX9_laysWaves X 78 [(2, 41), (0, x1), (0, x2), (0, x3)] [] h Q := by
  refine s_iload_n 79 3 rfl dX9_laysWaves_78 rfl rfl ?_
  refine s_aload_n 80 0 rfl dX9_laysWaves_79 rfl rfl ?_
  refine s_getf 83 41 5 rfl dX9_laysWaves_80 ck9 rfl (by decide) rfl (by decide) w740 rfl (v := (0, h 41 5)) rfl ?_
  refine s_icmp_ge 86 159 rfl dX9_laysWaves_83 (by decide) (fun c22 => ?_) (fun c22 => ?_)
  · replace H := H.1 c22
    refine s_aload_n 160 0 rfl dX9_laysWaves_159 rfl rfl ?_
    refine s_getf 163 41 18 rfl dX9_laysWaves_160 ck9 rfl (by decide) rfl (by decide) w753 rfl (v := (2, 55)) rfl ?_
    refine s_iload_n 164 1 rfl dX9_laysWaves_163 rfl rfl ?_
    refine s_iload_n 165 2 rfl dX9_laysWaves_164 rfl rfl ?_
    have c0 := H.1
    replace H := H.2
    have c1 := H.1
    replace H := H.2
    refine s_iast 166 rfl dX9_laysWaves_165 ia55 c0 c1 ?_
    have c2 := H.1
    replace H := H.2
    refine s_iinc 169 1 rfl dX9_laysWaves_166 (by decide) (z := x1) rfl (L2 := [(2, 41), (0, x1 + 1), (0, x2), (0, x3)]) rfl c2 ?_
    refine s_goto 38 dX9_laysWaves_169 (by decide) ?_
    exact s_less [(2, 41), (0, x1 + 1), (9, 0), (9, 0)] ⟨Or.inr rfl, Or.inr rfl, Or.inl rfl, Or.inl rfl, trivial⟩ H
  · replace H := H.2 c22
    refine s_aload_n 87 0 rfl dX9_laysWaves_86 rfl rfl ?_
    refine s_getf 90 41 8 rfl dX9_laysWaves_87 ck9 rfl (by decide) rfl (by decide) w743 rfl (v := (2, 48)) rfl ?_
    refine s_iload_n 91 3 rfl dX9_laysWaves_90 rfl rfl ?_
    have c3 := H.1
    replace H := H.2
    have c4 := H.1
    replace H := H.2
    refine s_iald 92 rfl dX9_laysWaves_91 ia48 c3 c4 (v9 := h 48 x3) rfl ?_
    refine s_iload_n 93 1 rfl dX9_laysWaves_92 rfl rfl ?_
    refine s_icmp_ne 96 159 rfl dX9_laysWaves_93 (by decide) (fun c21 => ?_) (fun c21 => ?_)
    · replace H := H.1 c21
      refine s_aload_n 160 0 rfl dX9_laysWaves_159 rfl rfl ?_
      refine s_getf 163 41 18 rfl dX9_laysWaves_160 ck9 rfl (by decide) rfl (by decide) w753 rfl (v := (2, 55)) rfl ?_
      refine s_iload_n 164 1 rfl dX9_laysWaves_163 rfl rfl ?_
      refine s_iload_n 165 2 rfl dX9_laysWaves_164 rfl rfl ?_
      have c5 := H.1
      replace H := H.2
      have c6 := H.1
      replace H := H.2
      refine s_iast 166 rfl dX9_laysWaves_165 ia55 c5 c6 ?_
      have c7 := H.1
      replace H := H.2
      refine s_iinc 169 1 rfl dX9_laysWaves_166 (by decide) (z := x1) rfl (L2 := [(2, 41), (0, x1 + 1), (0, x2), (0, x3)]) rfl c7 ?_
      refine s_goto 38 dX9_laysWaves_169 (by decide) ?_
      exact s_less [(2, 41), (0, x1 + 1), (9, 0), (9, 0)] ⟨Or.inr rfl, Or.inr rfl, Or.inl rfl, Or.inl rfl, trivial⟩ H
    · replace H := H.2 c21
      refine s_aload_n 97 0 rfl dX9_laysWaves_96 rfl rfl ?_
      refine s_iload_n 98 3 rfl dX9_laysWaves_97 rfl rfl ?_
      refine s_aload_n 99 0 rfl dX9_laysWaves_98 rfl rfl ?_
      refine s_getf 102 41 15 rfl dX9_laysWaves_99 ck9 rfl (by decide) rfl (by decide) w750 rfl (v := (2, 52)) rfl ?_
      refine s_iload_n 103 1 rfl dX9_laysWaves_102 rfl rfl ?_
      have c8 := H.1
      replace H := H.2
      have c9 := H.1
      replace H := H.2
      refine s_iald 104 rfl dX9_laysWaves_103 ia52 c8 c9 (v9 := h 52 x1) rfl ?_
      refine s_aload_n 105 0 rfl dX9_laysWaves_104 rfl rfl ?_
      refine s_getf 108 41 1 rfl dX9_laysWaves_105 ck9 rfl (by decide) rfl (by decide) w736 rfl (v := (2, 43)) rfl ?_
      refine s_iconst 109 rfl dX9_laysWaves_108 ⟨by decide, by decide⟩ ?_
      refine s_iald 110 rfl dX9_laysWaves_109 ia43 (by decide) (by decide) (v9 := h 43 1) rfl ?_
      refine s_callV (mj := mX9_crosses) (S := []) 113 [(0, x3), (0, h 52 x1), (0, h 43 1)] [(2, 41), (0, x3), (0, h 52 x1), (0, h 43 1)] 41 rfl dX9_laysWaves_110 okX9_crosses w914 w916 w20 rfl (by decide) rfl rfl rfl rfl npX9_crosses (Nat.le_of_ble_eq_true rfl) (by decide) (Nat.le_of_ble_eq_true rfl) rfl (Wd.imp H (fun r11 h12 H => ?_))
      show Wd mX9_laysWaves X 113 [(2, 41), (0, x1), (0, x2), (0, x3)] [(0, r11)] h12 Q
      refine s_if_ne 116 119 rfl dX9_laysWaves_113 (by decide) (fun c20 => ?_) (fun c20 => ?_)
      · replace H := H.1 c20
        refine s_iload_n 120 2 rfl dX9_laysWaves_119 rfl rfl ?_
        refine s_iconst 121 rfl dX9_laysWaves_120 ⟨by decide, by decide⟩ ?_
        refine s_icmp_eq 124 134 rfl dX9_laysWaves_121 (by decide) (fun c18 => ?_) (fun c18 => ?_)
        · replace H := H.1 c18
          refine s_aload_n 135 0 rfl dX9_laysWaves_134 rfl rfl ?_
          refine s_getf 138 41 17 rfl dX9_laysWaves_135 ck9 rfl (by decide) rfl (by decide) w752 rfl (v := (2, 54)) rfl ?_
          refine s_iload_n 139 1 rfl dX9_laysWaves_138 rfl rfl ?_
          refine s_iload_n 140 3 rfl dX9_laysWaves_139 rfl rfl ?_
          refine s_iast 141 rfl dX9_laysWaves_140 ia54 c8 c9 ?_
          refine s_iload_n 142 3 rfl dX9_laysWaves_141 rfl rfl ?_
          refine s_istore_n 143 2 rfl dX9_laysWaves_142 rfl (by decide) (L2 := [(2, 41), (0, x1), (0, x3), (0, x3)]) rfl ?_
          refine s_aload_n 144 0 rfl dX9_laysWaves_143 rfl rfl ?_
          refine s_getf 147 41 16 rfl dX9_laysWaves_144 ck9 rfl (by decide) rfl (by decide) w751 rfl (v := (2, 53)) rfl ?_
          refine s_iload_n 148 1 rfl dX9_laysWaves_147 rfl rfl ?_
          refine s_dup2 149 rfl dX9_laysWaves_148 (by decide : ¬ (0 : Nat) = 1) (by decide : ¬ (2 : Nat) = 1) ?_
          refine s_iald 150 rfl dX9_laysWaves_149 ia53 c8 c9 (v9 := h12 53 x1) (xu_k (by decide)) ?_
          refine s_iconst 151 rfl dX9_laysWaves_150 ⟨by decide, by decide⟩ ?_
          have c12 := H.1
          replace H := H.2
          refine s_iadd 152 rfl dX9_laysWaves_151 c12 ?_
          refine s_iast 153 rfl dX9_laysWaves_152 ia53 c8 c9 ?_
          have c13 := H.1
          replace H := H.2
          refine s_iinc 156 3 rfl dX9_laysWaves_153 (by decide) (z := x3) rfl (L2 := [(2, 41), (0, x1), (0, x3), (0, x3 + 1)]) rfl c13 ?_
          refine s_goto 78 dX9_laysWaves_156 (by decide) ?_
          exact H
        · replace H := H.2 c18
          refine s_aload_n 125 0 rfl dX9_laysWaves_124 rfl rfl ?_
          refine s_iload_n 126 1 rfl dX9_laysWaves_125 rfl rfl ?_
          refine s_iload_n 127 2 rfl dX9_laysWaves_126 rfl rfl ?_
          refine s_iload_n 128 3 rfl dX9_laysWaves_127 rfl rfl ?_
          refine s_callV (mj := mX9_wave) (S := []) 131 [(0, x1), (0, x2), (0, x3)] [(2, 41), (0, x1), (0, x2), (0, x3), (9, 0), (9, 0)] 41 rfl dX9_laysWaves_128 okX9_wave w918 w920 w21 rfl (by decide) rfl rfl rfl rfl npX9_wave (Nat.le_of_ble_eq_true rfl) (by decide) (Nat.le_of_ble_eq_true rfl) rfl (Wd.imp H (fun _ h16 H => ?_))
          show Wd mX9_laysWaves X 131 [(2, 41), (0, x1), (0, x2), (0, x3)] [] h16 Q
          refine s_goto 141 dX9_laysWaves_131 (by decide) ?_
          refine s_iload_n 142 3 rfl dX9_laysWaves_141 rfl rfl ?_
          refine s_istore_n 143 2 rfl dX9_laysWaves_142 rfl (by decide) (L2 := [(2, 41), (0, x1), (0, x3), (0, x3)]) rfl ?_
          refine s_aload_n 144 0 rfl dX9_laysWaves_143 rfl rfl ?_
          refine s_getf 147 41 16 rfl dX9_laysWaves_144 ck9 rfl (by decide) rfl (by decide) w751 rfl (v := (2, 53)) rfl ?_
          refine s_iload_n 148 1 rfl dX9_laysWaves_147 rfl rfl ?_
          refine s_dup2 149 rfl dX9_laysWaves_148 (by decide : ¬ (0 : Nat) = 1) (by decide : ¬ (2 : Nat) = 1) ?_
          refine s_iald 150 rfl dX9_laysWaves_149 ia53 c8 c9 (v9 := h16 53 x1) rfl ?_
          refine s_iconst 151 rfl dX9_laysWaves_150 ⟨by decide, by decide⟩ ?_
          have c16 := H.1
          replace H := H.2
          refine s_iadd 152 rfl dX9_laysWaves_151 c16 ?_
          refine s_iast 153 rfl dX9_laysWaves_152 ia53 c8 c9 ?_
          have c17 := H.1
          replace H := H.2
          refine s_iinc 156 3 rfl dX9_laysWaves_153 (by decide) (z := x3) rfl (L2 := [(2, 41), (0, x1), (0, x3), (0, x3 + 1)]) rfl c17 ?_
          refine s_goto 78 dX9_laysWaves_156 (by decide) ?_
          exact H
      · replace H := H.2 c20
        refine s_goto 153 dX9_laysWaves_116 (by decide) ?_
        have c19 := H.1
        replace H := H.2
        refine s_iinc 156 3 rfl dX9_laysWaves_153 (by decide) (z := x3) rfl (L2 := [(2, 41), (0, x1), (0, x2), (0, x3 + 1)]) rfl c19 ?_
        refine s_goto 78 dX9_laysWaves_156 (by decide) ?_
        exact H
theorem vX9_laysWaves_191 {X : Nat × (Int → Int)} {h : HP} {Q : Int → HP → Prop} {x1 x2 : Int} (H : ((h 41 28 ≤ x2 → (inI (x1 + 1) ∧ Wd mX9_laysWaves X 174 [(2, 41), (0, x1 + 1), (9, 0), (9, 0)] [] h Q)) ∧ (¬ (h 41 28 ≤ x2) → (0 ≤ x1 ∧ x1 < 301 ∧ Wd mX9_height X 0 [(2, 41), (0, x2)] [] h (fun r4 h5 => Wd mX9_height X 0 [(2, 41), (0, x1)] [] h5 (fun r6 h7 => ((r6 < r4 → (inI (h 63 x1 + 1) ∧ inI (x2 + 1) ∧ Wd mX9_laysWaves X 191 [(2, 41), (0, x1), (0, x2 + 1), (9, 0)] [] (xu h7 63 x1 (h 63 x1 + 1)) Q)) ∧ (¬ (r6 < r4) → (Wd mX9_height X 0 [(2, 41), (0, x2)] [] h7 (fun r10 h11 => Wd mX9_height X 0 [(2, 41), (0, x1)] [] h11 (fun r12 h13 => ((¬ r10 = r12 → (inI (h 63 x1 + 0) ∧ inI (x2 + 1) ∧ Wd mX9_laysWaves X 191 [(2, 41), (0, x1), (0, x2 + 1), (9, 0)] [] (xu h13 63 x1 (h 63 x1 + 0)) Q)) ∧ (r10 = r12 → ((x1 ≤ x2 → (inI (h 63 x1 + 0) ∧ inI (x2 + 1) ∧ Wd mX9_laysWaves X 191 [(2, 41), (0, x1), (0, x2 + 1), (9, 0)] [] (xu h13 63 x1 (h 63 x1 + 0)) Q)) ∧ (¬ (x1 ≤ x2) → (inI (h 63 x1 + 1) ∧ inI (x2 + 1) ∧ Wd mX9_laysWaves X 191 [(2, 41), (0, x1), (0, x2 + 1), (9, 0)] [] (xu h13 63 x1 (h 63 x1 + 1)) Q)))))))))))))))) : Wd mX9_laysWaves X 191 [(2, 41), (0, x1), (0, x2), (9, 0)] [] h Q := by
  refine s_iload_n 192 2 rfl dX9_laysWaves_191 rfl rfl ?_
  refine s_aload_n 193 0 rfl dX9_laysWaves_192 rfl rfl ?_
  refine s_getf 196 41 28 rfl dX9_laysWaves_193 ck9 rfl (by decide) rfl (by decide) w763 rfl (v := (0, h 41 28)) rfl ?_
  refine s_icmp_ge 199 250 rfl dX9_laysWaves_196 (by decide) (fun c22 => ?_) (fun c22 => ?_)
  · replace H := H.1 c22
    have c0 := H.1
    replace H := H.2
    refine s_iinc 253 1 rfl dX9_laysWaves_250 (by decide) (z := x1) rfl (L2 := [(2, 41), (0, x1 + 1), (0, x2), (9, 0)]) rfl c0 ?_
    refine s_goto 174 dX9_laysWaves_253 (by decide) ?_
    exact s_less [(2, 41), (0, x1 + 1), (9, 0), (9, 0)] ⟨Or.inr rfl, Or.inr rfl, Or.inl rfl, Or.inl rfl, trivial⟩ H
  · replace H := H.2 c22
    refine s_aload_n 200 0 rfl dX9_laysWaves_199 rfl rfl ?_
    refine s_getf 203 41 26 rfl dX9_laysWaves_200 ck9 rfl (by decide) rfl (by decide) w761 rfl (v := (2, 63)) rfl ?_
    refine s_iload_n 204 1 rfl dX9_laysWaves_203 rfl rfl ?_
    refine s_dup2 205 rfl dX9_laysWaves_204 (by decide : ¬ (0 : Nat) = 1) (by decide : ¬ (2 : Nat) = 1) ?_
    have c1 := H.1
    replace H := H.2
    have c2 := H.1
    replace H := H.2
    refine s_iald 206 rfl dX9_laysWaves_205 ia63 c1 c2 (v9 := h 63 x1) rfl ?_
    refine s_aload_n 207 0 rfl dX9_laysWaves_206 rfl rfl ?_
    refine s_iload_n 208 2 rfl dX9_laysWaves_207 rfl rfl ?_
    refine s_callV (mj := mX9_height) (S := [(0, h 63 x1), (0, x1), (2, 63)]) 211 [(0, x2)] [(2, 41), (0, x2)] 41 rfl dX9_laysWaves_208 okX9_height w922 w924 w22 rfl (by decide) rfl rfl rfl rfl npX9_height (Nat.le_of_ble_eq_true rfl) (by decide) (Nat.le_of_ble_eq_true rfl) rfl (Wd.imp H (fun r4 h5 H => ?_))
    show Wd mX9_laysWaves X 211 [(2, 41), (0, x1), (0, x2), (9, 0)] [(0, r4), (0, h 63 x1), (0, x1), (2, 63)] h5 Q
    refine s_aload_n 212 0 rfl dX9_laysWaves_211 rfl rfl ?_
    refine s_iload_n 213 1 rfl dX9_laysWaves_212 rfl rfl ?_
    refine s_callV (mj := mX9_height) (S := [(0, r4), (0, h 63 x1), (0, x1), (2, 63)]) 216 [(0, x1)] [(2, 41), (0, x1)] 41 rfl dX9_laysWaves_213 okX9_height w922 w924 w22 rfl (by decide) rfl rfl rfl rfl npX9_height (Nat.le_of_ble_eq_true rfl) (by decide) (Nat.le_of_ble_eq_true rfl) rfl (Wd.imp H (fun r6 h7 H => ?_))
    show Wd mX9_laysWaves X 216 [(2, 41), (0, x1), (0, x2), (9, 0)] [(0, r6), (0, r4), (0, h 63 x1), (0, x1), (2, 63)] h7 Q
    refine s_icmp_gt 219 237 rfl dX9_laysWaves_216 (by decide) (fun c21 => ?_) (fun c21 => ?_)
    · replace H := H.1 c21
      refine s_iconst 238 rfl dX9_laysWaves_237 ⟨by decide, by decide⟩ ?_
      refine s_goto 242 dX9_laysWaves_238 (by decide) ?_
      have c7 := H.1
      replace H := H.2
      refine s_iadd 243 rfl dX9_laysWaves_242 c7 ?_
      refine s_iast 244 rfl dX9_laysWaves_243 ia63 c1 c2 ?_
      have c8 := H.1
      replace H := H.2
      refine s_iinc 247 2 rfl dX9_laysWaves_244 (by decide) (z := x2) rfl (L2 := [(2, 41), (0, x1), (0, x2 + 1), (9, 0)]) rfl c8 ?_
      refine s_goto 191 dX9_laysWaves_247 (by decide) ?_
      exact H
    · replace H := H.2 c21
      refine s_aload_n 220 0 rfl dX9_laysWaves_219 rfl rfl ?_
      refine s_iload_n 221 2 rfl dX9_laysWaves_220 rfl rfl ?_
      refine s_callV (mj := mX9_height) (S := [(0, h 63 x1), (0, x1), (2, 63)]) 224 [(0, x2)] [(2, 41), (0, x2)] 41 rfl dX9_laysWaves_221 okX9_height w922 w924 w22 rfl (by decide) rfl rfl rfl rfl npX9_height (Nat.le_of_ble_eq_true rfl) (by decide) (Nat.le_of_ble_eq_true rfl) rfl (Wd.imp H (fun r10 h11 H => ?_))
      show Wd mX9_laysWaves X 224 [(2, 41), (0, x1), (0, x2), (9, 0)] [(0, r10), (0, h 63 x1), (0, x1), (2, 63)] h11 Q
      refine s_aload_n 225 0 rfl dX9_laysWaves_224 rfl rfl ?_
      refine s_iload_n 226 1 rfl dX9_laysWaves_225 rfl rfl ?_
      refine s_callV (mj := mX9_height) (S := [(0, r10), (0, h 63 x1), (0, x1), (2, 63)]) 229 [(0, x1)] [(2, 41), (0, x1)] 41 rfl dX9_laysWaves_226 okX9_height w922 w924 w22 rfl (by decide) rfl rfl rfl rfl npX9_height (Nat.le_of_ble_eq_true rfl) (by decide) (Nat.le_of_ble_eq_true rfl) rfl (Wd.imp H (fun r12 h13 H => ?_))
      show Wd mX9_laysWaves X 229 [(2, 41), (0, x1), (0, x2), (9, 0)] [(0, r12), (0, r10), (0, h 63 x1), (0, x1), (2, 63)] h13 Q
      refine s_icmp_ne 232 241 rfl dX9_laysWaves_229 (by decide) (fun c20 => ?_) (fun c20 => ?_)
      · replace H := H.1 c20
        refine s_iconst 242 rfl dX9_laysWaves_241 ⟨by decide, by decide⟩ ?_
        have c13 := H.1
        replace H := H.2
        refine s_iadd 243 rfl dX9_laysWaves_242 c13 ?_
        refine s_iast 244 rfl dX9_laysWaves_243 ia63 c1 c2 ?_
        have c14 := H.1
        replace H := H.2
        refine s_iinc 247 2 rfl dX9_laysWaves_244 (by decide) (z := x2) rfl (L2 := [(2, 41), (0, x1), (0, x2 + 1), (9, 0)]) rfl c14 ?_
        refine s_goto 191 dX9_laysWaves_247 (by decide) ?_
        exact H
      · replace H := H.2 c20
        refine s_iload_n 233 2 rfl dX9_laysWaves_232 rfl rfl ?_
        refine s_iload_n 234 1 rfl dX9_laysWaves_233 rfl rfl ?_
        refine s_icmp_ge 237 241 rfl dX9_laysWaves_234 (by decide) (fun c19 => ?_) (fun c19 => ?_)
        · replace H := H.1 c19
          refine s_iconst 242 rfl dX9_laysWaves_241 ⟨by decide, by decide⟩ ?_
          have c15 := H.1
          replace H := H.2
          refine s_iadd 243 rfl dX9_laysWaves_242 c15 ?_
          refine s_iast 244 rfl dX9_laysWaves_243 ia63 c1 c2 ?_
          have c16 := H.1
          replace H := H.2
          refine s_iinc 247 2 rfl dX9_laysWaves_244 (by decide) (z := x2) rfl (L2 := [(2, 41), (0, x1), (0, x2 + 1), (9, 0)]) rfl c16 ?_
          refine s_goto 191 dX9_laysWaves_247 (by decide) ?_
          exact H
        · replace H := H.2 c19
          refine s_iconst 238 rfl dX9_laysWaves_237 ⟨by decide, by decide⟩ ?_
          refine s_goto 242 dX9_laysWaves_238 (by decide) ?_
          have c17 := H.1
          replace H := H.2
          refine s_iadd 243 rfl dX9_laysWaves_242 c17 ?_
          refine s_iast 244 rfl dX9_laysWaves_243 ia63 c1 c2 ?_
          have c18 := H.1
          replace H := H.2
          refine s_iinc 247 2 rfl dX9_laysWaves_244 (by decide) (z := x2) rfl (L2 := [(2, 41), (0, x1), (0, x2 + 1), (9, 0)]) rfl c18 ?_
          refine s_goto 191 dX9_laysWaves_247 (by decide) ?_
          exact H
theorem vX9_isFreak_0 {X : Nat × (Int → Int)} {h : HP} {Q : Int → HP → Prop} {x1 : Int} (H : Wd mX9_height X 0 [(2, 41), (0, x1)] [] h (fun r1 h2 => inJ (10 * r1) ∧ Wd mX9_highestMany X 0 [(2, 41), (0, 3)] [] h2 (fun r4 h5 => inJ (10 * r1 * r4) ∧ Wd mX9_highestSum X 0 [(2, 41), (0, 3), (0, 1), (9, 0), (9, 0), (9, 0)] [] h5 (fun r7 h8 => inJ (h5 43 2 * r7) ∧ ((10 * r1 * r4 ≤ h5 43 2 * r7 → (Q 0 h8)) ∧ (¬ (10 * r1 * r4 ≤ h5 43 2 * r7) → (Q 1 h8))))))) : Wd mX9_isFreak X 0 [(2, 41), (0, x1)] [] h Q := by
  refine s_ldc2 3 10 rfl dX9_isFreak_0 w901 ⟨by decide, by decide⟩ ?_
  refine s_aload_n 4 0 rfl dX9_isFreak_3 rfl rfl ?_
  refine s_iload_n 5 1 rfl dX9_isFreak_4 rfl rfl ?_
  refine s_callV (mj := mX9_height) (S := [(1, 10)]) 8 [(0, x1)] [(2, 41), (0, x1)] 41 rfl dX9_isFreak_5 okX9_height w922 w924 w22 rfl (by decide) rfl rfl rfl rfl npX9_height (Nat.le_of_ble_eq_true rfl) (by decide) (Nat.le_of_ble_eq_true rfl) rfl (Wd.imp H (fun r1 h2 H => ?_))
  show Wd mX9_isFreak X 8 [(2, 41), (0, x1)] [(0, r1), (1, 10)] h2 Q
  refine s_i2l 9 rfl dX9_isFreak_8 ?_
  have c2 := H.1
  replace H := H.2
  refine s_lmul 10 rfl dX9_isFreak_9 c2 ?_
  refine s_aload_n 11 0 rfl dX9_isFreak_10 rfl rfl ?_
  refine s_iconst 12 rfl dX9_isFreak_11 ⟨by decide, by decide⟩ ?_
  refine s_callV (mj := mX9_highestMany) (S := [(1, 10 * r1)]) 15 [(0, 3)] [(2, 41), (0, 3)] 41 rfl dX9_isFreak_12 okX9_highestMany w934 w936 w25 rfl (by decide) rfl rfl rfl rfl npX9_highestMany (Nat.le_of_ble_eq_true rfl) (by decide) (Nat.le_of_ble_eq_true rfl) rfl (Wd.imp H (fun r4 h5 H => ?_))
  show Wd mX9_isFreak X 15 [(2, 41), (0, x1)] [(0, r4), (1, 10 * r1)] h5 Q
  refine s_i2l 16 rfl dX9_isFreak_15 ?_
  have c5 := H.1
  replace H := H.2
  refine s_lmul 17 rfl dX9_isFreak_16 c5 ?_
  refine s_aload_n 18 0 rfl dX9_isFreak_17 rfl rfl ?_
  refine s_getf 21 41 1 rfl dX9_isFreak_18 ck9 rfl (by decide) rfl (by decide) w736 rfl (v := (2, 43)) rfl ?_
  refine s_iconst 22 rfl dX9_isFreak_21 ⟨by decide, by decide⟩ ?_
  refine s_iald 23 rfl dX9_isFreak_22 ia43 (by decide) (by decide) (v9 := h5 43 2) rfl ?_
  refine s_i2l 24 rfl dX9_isFreak_23 ?_
  refine s_aload_n 25 0 rfl dX9_isFreak_24 rfl rfl ?_
  refine s_iconst 26 rfl dX9_isFreak_25 ⟨by decide, by decide⟩ ?_
  refine s_iconst 27 rfl dX9_isFreak_26 ⟨by decide, by decide⟩ ?_
  refine s_callV (mj := mX9_highestSum) (S := [(1, h5 43 2), (1, 10 * r1 * r4)]) 30 [(0, 3), (0, 1)] [(2, 41), (0, 3), (0, 1), (9, 0), (9, 0), (9, 0)] 41 rfl dX9_isFreak_27 okX9_highestSum w930 w932 w24 rfl (by decide) rfl rfl rfl rfl npX9_highestSum (Nat.le_of_ble_eq_true rfl) (by decide) (Nat.le_of_ble_eq_true rfl) rfl (Wd.imp H (fun r7 h8 H => ?_))
  show Wd mX9_isFreak X 30 [(2, 41), (0, x1)] [(1, r7), (1, h5 43 2), (1, 10 * r1 * r4)] h8 Q
  have c8 := H.1
  replace H := H.2
  refine s_lmul 31 rfl dX9_isFreak_30 c8 ?_
  refine s_lcmp 32 rfl dX9_isFreak_31 ?_
  refine s_if_le 35 39 rfl dX9_isFreak_32 (by decide) (fun c9 => ?_) (fun c9 => ?_)
  · replace H := H.1 (lcz_le.mp c9)
    refine s_iconst 40 rfl dX9_isFreak_39 ⟨by decide, by decide⟩ ?_
    exact s_zret (S := []) dX9_isFreak_40 rfl (Or.inl rfl) H
  · replace H := H.2 (fun y => c9 (lcz_le.mpr y))
    refine s_iconst 36 rfl dX9_isFreak_35 ⟨by decide, by decide⟩ ?_
    refine s_goto 40 dX9_isFreak_36 (by decide) ?_
    exact s_zret (S := []) dX9_isFreak_40 rfl (Or.inr rfl) H
theorem vX9_freaks_0 {X : Nat × (Int → Int)} {h : HP} {Q : Int → HP → Prop} (H : Wd mX9_freaks X 4 [(2, 41), (0, 0), (0, 0)] [] h Q) : Wd mX9_freaks X 0 [(2, 41), (9, 0), (9, 0)] [] h Q := by
  refine s_iconst 1 rfl dX9_freaks_0 ⟨by decide, by decide⟩ ?_
  refine s_istore_n 2 1 rfl dX9_freaks_1 rfl (by decide) (L2 := [(2, 41), (0, 0), (9, 0)]) rfl ?_
  refine s_iconst 3 rfl dX9_freaks_2 ⟨by decide, by decide⟩ ?_
  refine s_istore_n 4 2 rfl dX9_freaks_3 rfl (by decide) (L2 := [(2, 41), (0, 0), (0, 0)]) rfl ?_
  exact H
theorem vX9_freaks_4 {X : Nat × (Int → Int)} {h : HP} {Q : Int → HP → Prop} {x1 x2 : Int} (H : ((h 41 28 ≤ x2 → (Q x1 h)) ∧ (¬ (h 41 28 ≤ x2) → (Wd mX9_isFreak X 0 [(2, 41), (0, x2)] [] h (fun r1 h2 => ((r1 = 0 → (inI (x1 + 0) ∧ inI (x2 + 1) ∧ Wd mX9_freaks X 4 [(2, 41), (0, x1 + 0), (0, x2 + 1)] [] h2 Q)) ∧ (¬ r1 = 0 → (inI (x1 + 1) ∧ inI (x2 + 1) ∧ Wd mX9_freaks X 4 [(2, 41), (0, x1 + 1), (0, x2 + 1)] [] h2 Q)))))))) : Wd mX9_freaks X 4 [(2, 41), (0, x1), (0, x2)] [] h Q := by
  refine s_iload_n 5 2 rfl dX9_freaks_4 rfl rfl ?_
  refine s_aload_n 6 0 rfl dX9_freaks_5 rfl rfl ?_
  refine s_getf 9 41 28 rfl dX9_freaks_6 ck9 rfl (by decide) rfl (by decide) w763 rfl (v := (0, h 41 28)) rfl ?_
  refine s_icmp_ge 12 34 rfl dX9_freaks_9 (by decide) (fun c7 => ?_) (fun c7 => ?_)
  · replace H := H.1 c7
    refine s_iload_n 35 1 rfl dX9_freaks_34 rfl rfl ?_
    exact s_iret (S := []) dX9_freaks_35 rfl H
  · replace H := H.2 c7
    refine s_iload_n 13 1 rfl dX9_freaks_12 rfl rfl ?_
    refine s_aload_n 14 0 rfl dX9_freaks_13 rfl rfl ?_
    refine s_iload_n 15 2 rfl dX9_freaks_14 rfl rfl ?_
    refine s_callV (mj := mX9_isFreak) (S := [(0, x1)]) 18 [(0, x2)] [(2, 41), (0, x2)] 41 rfl dX9_freaks_15 okX9_isFreak w946 w948 w28 rfl (by decide) rfl rfl rfl rfl npX9_isFreak (Nat.le_of_ble_eq_true rfl) (by decide) (Nat.le_of_ble_eq_true rfl) rfl (Wd.imp H (fun r1 h2 H => ?_))
    show Wd mX9_freaks X 18 [(2, 41), (0, x1), (0, x2)] [(0, r1), (0, x1)] h2 Q
    refine s_if_eq 21 25 rfl dX9_freaks_18 (by decide) (fun c6 => ?_) (fun c6 => ?_)
    · replace H := H.1 c6
      refine s_iconst 26 rfl dX9_freaks_25 ⟨by decide, by decide⟩ ?_
      have c2 := H.1
      replace H := H.2
      refine s_iadd 27 rfl dX9_freaks_26 c2 ?_
      refine s_istore_n 28 1 rfl dX9_freaks_27 rfl (by decide) (L2 := [(2, 41), (0, x1 + 0), (0, x2)]) rfl ?_
      have c3 := H.1
      replace H := H.2
      refine s_iinc 31 2 rfl dX9_freaks_28 (by decide) (z := x2) rfl (L2 := [(2, 41), (0, x1 + 0), (0, x2 + 1)]) rfl c3 ?_
      refine s_goto 4 dX9_freaks_31 (by decide) ?_
      exact H
    · replace H := H.2 c6
      refine s_iconst 22 rfl dX9_freaks_21 ⟨by decide, by decide⟩ ?_
      refine s_goto 26 dX9_freaks_22 (by decide) ?_
      have c4 := H.1
      replace H := H.2
      refine s_iadd 27 rfl dX9_freaks_26 c4 ?_
      refine s_istore_n 28 1 rfl dX9_freaks_27 rfl (by decide) (L2 := [(2, 41), (0, x1 + 1), (0, x2)]) rfl ?_
      have c5 := H.1
      replace H := H.2
      refine s_iinc 31 2 rfl dX9_freaks_28 (by decide) (z := x2) rfl (L2 := [(2, 41), (0, x1 + 1), (0, x2 + 1)]) rfl c5 ?_
      refine s_goto 4 dX9_freaks_31 (by decide) ?_
      exact H
theorem vX9_run_0 {X : Nat × (Int → Int)} {h : HP} {Q : Int → HP → Prop} {x1 : Int} (H : 0 ≤ x1 ∧ x1 < 301 ∧ ((h 64 x1 = 0 → (Q 0 h)) ∧ (¬ h 64 x1 = 0 → ((x1 ≤ 0 → (Wd mX9_run X 45 [(2, 41), (0, x1), (0, 0)] [] h Q)) ∧ (¬ (x1 ≤ 0) → (inI (x1 - 1) ∧ 0 ≤ x1 - 1 ∧ x1 - 1 < 301 ∧ ((h 64 (x1 - 1) = 0 → (Wd mX9_run X 45 [(2, 41), (0, x1), (0, 0)] [] h Q)) ∧ (¬ h 64 (x1 - 1) = 0 → ((¬ h 62 (x1 - 1) = h 62 x1 → (Wd mX9_run X 45 [(2, 41), (0, x1), (0, 0)] [] h Q)) ∧ (h 62 (x1 - 1) = h 62 x1 → (Q 0 h))))))))))) : Wd mX9_run X 0 [(2, 41), (0, x1), (9, 0)] [] h Q := by
  refine s_aload_n 1 0 rfl dX9_run_0 rfl rfl ?_
  refine s_getf 4 41 27 rfl dX9_run_1 ck9 rfl (by decide) rfl (by decide) w762 rfl (v := (2, 64)) rfl ?_
  refine s_iload_n 5 1 rfl dX9_run_4 rfl rfl ?_
  have c0 := H.1
  replace H := H.2
  have c1 := H.1
  replace H := H.2
  refine s_zald 6 rfl dX9_run_5 za64 c0 c1 (v9 := h 64 x1) rfl ?_
  refine s_if_eq 9 41 rfl dX9_run_6 (by decide) (fun c8 => ?_) (fun c8 => ?_)
  · replace H := H.1 c8
    refine s_iconst 42 rfl dX9_run_41 ⟨by decide, by decide⟩ ?_
    exact s_iret (S := []) dX9_run_42 rfl H
  · replace H := H.2 c8
    refine s_iload_n 10 1 rfl dX9_run_9 rfl rfl ?_
    refine s_if_le 13 43 rfl dX9_run_10 (by decide) (fun c7 => ?_) (fun c7 => ?_)
    · replace H := H.1 c7
      refine s_iconst 44 rfl dX9_run_43 ⟨by decide, by decide⟩ ?_
      refine s_istore_n 45 2 rfl dX9_run_44 rfl (by decide) (L2 := [(2, 41), (0, x1), (0, 0)]) rfl ?_
      exact H
    · replace H := H.2 c7
      refine s_aload_n 14 0 rfl dX9_run_13 rfl rfl ?_
      refine s_getf 17 41 27 rfl dX9_run_14 ck9 rfl (by decide) rfl (by decide) w762 rfl (v := (2, 64)) rfl ?_
      refine s_iload_n 18 1 rfl dX9_run_17 rfl rfl ?_
      refine s_iconst 19 rfl dX9_run_18 ⟨by decide, by decide⟩ ?_
      have c2 := H.1
      replace H := H.2
      refine s_isub 20 rfl dX9_run_19 c2 ?_
      have c3 := H.1
      replace H := H.2
      have c4 := H.1
      replace H := H.2
      refine s_zald 21 rfl dX9_run_20 za64 c3 c4 (v9 := h 64 (x1 - 1)) rfl ?_
      refine s_if_eq 24 43 rfl dX9_run_21 (by decide) (fun c6 => ?_) (fun c6 => ?_)
      · replace H := H.1 c6
        refine s_iconst 44 rfl dX9_run_43 ⟨by decide, by decide⟩ ?_
        refine s_istore_n 45 2 rfl dX9_run_44 rfl (by decide) (L2 := [(2, 41), (0, x1), (0, 0)]) rfl ?_
        exact H
      · replace H := H.2 c6
        refine s_aload_n 25 0 rfl dX9_run_24 rfl rfl ?_
        refine s_getf 28 41 25 rfl dX9_run_25 ck9 rfl (by decide) rfl (by decide) w760 rfl (v := (2, 62)) rfl ?_
        refine s_iload_n 29 1 rfl dX9_run_28 rfl rfl ?_
        refine s_iconst 30 rfl dX9_run_29 ⟨by decide, by decide⟩ ?_
        refine s_isub 31 rfl dX9_run_30 c2 ?_
        refine s_iald 32 rfl dX9_run_31 ia62 c3 c4 (v9 := h 62 (x1 - 1)) rfl ?_
        refine s_aload_n 33 0 rfl dX9_run_32 rfl rfl ?_
        refine s_getf 36 41 25 rfl dX9_run_33 ck9 rfl (by decide) rfl (by decide) w760 rfl (v := (2, 62)) rfl ?_
        refine s_iload_n 37 1 rfl dX9_run_36 rfl rfl ?_
        refine s_iald 38 rfl dX9_run_37 ia62 c0 c1 (v9 := h 62 x1) rfl ?_
        refine s_icmp_ne 41 43 rfl dX9_run_38 (by decide) (fun c5 => ?_) (fun c5 => ?_)
        · replace H := H.1 c5
          refine s_iconst 44 rfl dX9_run_43 ⟨by decide, by decide⟩ ?_
          refine s_istore_n 45 2 rfl dX9_run_44 rfl (by decide) (L2 := [(2, 41), (0, x1), (0, 0)]) rfl ?_
          exact H
        · replace H := H.2 c5
          refine s_iconst 42 rfl dX9_run_41 ⟨by decide, by decide⟩ ?_
          exact s_iret (S := []) dX9_run_42 rfl H
theorem vX9_run_45 {X : Nat × (Int → Int)} {h : HP} {Q : Int → HP → Prop} {x1 x2 : Int} (H : inI (x1 + x2) ∧ ((h 41 28 ≤ (x1 + x2) → (Q x2 h)) ∧ (¬ (h 41 28 ≤ (x1 + x2)) → (0 ≤ x1 + x2 ∧ x1 + x2 < 301 ∧ ((h 64 (x1 + x2) = 0 → (Q x2 h)) ∧ (¬ h 64 (x1 + x2) = 0 → (0 ≤ x1 ∧ x1 < 301 ∧ ((¬ h 62 (x1 + x2) = h 62 x1 → (Q x2 h)) ∧ (h 62 (x1 + x2) = h 62 x1 → (inI (x2 + 1) ∧ Wd mX9_run X 45 [(2, 41), (0, x1), (0, x2 + 1)] [] h Q)))))))))) : Wd mX9_run X 45 [(2, 41), (0, x1), (0, x2)] [] h Q := by
  refine s_iload_n 46 1 rfl dX9_run_45 rfl rfl ?_
  refine s_iload_n 47 2 rfl dX9_run_46 rfl rfl ?_
  have c0 := H.1
  replace H := H.2
  refine s_iadd 48 rfl dX9_run_47 c0 ?_
  refine s_aload_n 49 0 rfl dX9_run_48 rfl rfl ?_
  refine s_getf 52 41 28 rfl dX9_run_49 ck9 rfl (by decide) rfl (by decide) w763 rfl (v := (0, h 41 28)) rfl ?_
  refine s_icmp_ge 55 89 rfl dX9_run_52 (by decide) (fun c8 => ?_) (fun c8 => ?_)
  · replace H := H.1 c8
    refine s_iload_n 90 2 rfl dX9_run_89 rfl rfl ?_
    exact s_iret (S := []) dX9_run_90 rfl H
  · replace H := H.2 c8
    refine s_aload_n 56 0 rfl dX9_run_55 rfl rfl ?_
    refine s_getf 59 41 27 rfl dX9_run_56 ck9 rfl (by decide) rfl (by decide) w762 rfl (v := (2, 64)) rfl ?_
    refine s_iload_n 60 1 rfl dX9_run_59 rfl rfl ?_
    refine s_iload_n 61 2 rfl dX9_run_60 rfl rfl ?_
    refine s_iadd 62 rfl dX9_run_61 c0 ?_
    have c1 := H.1
    replace H := H.2
    have c2 := H.1
    replace H := H.2
    refine s_zald 63 rfl dX9_run_62 za64 c1 c2 (v9 := h 64 (x1 + x2)) rfl ?_
    refine s_if_eq 66 89 rfl dX9_run_63 (by decide) (fun c7 => ?_) (fun c7 => ?_)
    · replace H := H.1 c7
      refine s_iload_n 90 2 rfl dX9_run_89 rfl rfl ?_
      exact s_iret (S := []) dX9_run_90 rfl H
    · replace H := H.2 c7
      refine s_aload_n 67 0 rfl dX9_run_66 rfl rfl ?_
      refine s_getf 70 41 25 rfl dX9_run_67 ck9 rfl (by decide) rfl (by decide) w760 rfl (v := (2, 62)) rfl ?_
      refine s_iload_n 71 1 rfl dX9_run_70 rfl rfl ?_
      refine s_iload_n 72 2 rfl dX9_run_71 rfl rfl ?_
      refine s_iadd 73 rfl dX9_run_72 c0 ?_
      refine s_iald 74 rfl dX9_run_73 ia62 c1 c2 (v9 := h 62 (x1 + x2)) rfl ?_
      refine s_aload_n 75 0 rfl dX9_run_74 rfl rfl ?_
      refine s_getf 78 41 25 rfl dX9_run_75 ck9 rfl (by decide) rfl (by decide) w760 rfl (v := (2, 62)) rfl ?_
      refine s_iload_n 79 1 rfl dX9_run_78 rfl rfl ?_
      have c3 := H.1
      replace H := H.2
      have c4 := H.1
      replace H := H.2
      refine s_iald 80 rfl dX9_run_79 ia62 c3 c4 (v9 := h 62 x1) rfl ?_
      refine s_icmp_ne 83 89 rfl dX9_run_80 (by decide) (fun c6 => ?_) (fun c6 => ?_)
      · replace H := H.1 c6
        refine s_iload_n 90 2 rfl dX9_run_89 rfl rfl ?_
        exact s_iret (S := []) dX9_run_90 rfl H
      · replace H := H.2 c6
        have c5 := H.1
        replace H := H.2
        refine s_iinc 86 2 rfl dX9_run_83 (by decide) (z := x2) rfl (L2 := [(2, 41), (0, x1), (0, x2 + 1)]) rfl c5 ?_
        refine s_goto 45 dX9_run_86 (by decide) ?_
        exact H
theorem vX9_groupAt_0 {X : Nat × (Int → Int)} {h : HP} {Q : Int → HP → Prop} {x1 : Int} (H : Wd mX9_groupAt X 4 [(2, 41), (0, x1), (0, 0), (0, 0)] [] h Q) : Wd mX9_groupAt X 0 [(2, 41), (0, x1), (9, 0), (9, 0)] [] h Q := by
  refine s_iconst 1 rfl dX9_groupAt_0 ⟨by decide, by decide⟩ ?_
  refine s_istore_n 2 2 rfl dX9_groupAt_1 rfl (by decide) (L2 := [(2, 41), (0, x1), (0, 0), (9, 0)]) rfl ?_
  refine s_iconst 3 rfl dX9_groupAt_2 ⟨by decide, by decide⟩ ?_
  refine s_istore_n 4 3 rfl dX9_groupAt_3 rfl (by decide) (L2 := [(2, 41), (0, x1), (0, 0), (0, 0)]) rfl ?_
  exact H
theorem vX9_groupAt_4 {X : Nat × (Int → Int)} {h : HP} {Q : Int → HP → Prop} {x1 x2 x3 : Int} (H : ((h 41 28 ≤ x3 → (Q (-1) h)) ∧ (¬ (h 41 28 ≤ x3) → (Wd mX9_run X 0 [(2, 41), (0, x3), (9, 0)] [] h (fun r1 h2 => ((h2 43 3 ≤ r1 → ((¬ x2 = x1 → (inI (x2 + 1) ∧ inI (x3 + 1) ∧ Wd mX9_groupAt X 4 [(2, 41), (0, x1), (0, x2 + 1), (0, x3 + 1)] [] h2 Q)) ∧ (x2 = x1 → (Q x3 h2)))) ∧ (¬ (h2 43 3 ≤ r1) → (inI (x3 + 1) ∧ Wd mX9_groupAt X 4 [(2, 41), (0, x1), (0, x2), (0, x3 + 1)] [] h2 Q)))))))) : Wd mX9_groupAt X 4 [(2, 41), (0, x1), (0, x2), (0, x3)] [] h Q := by
  refine s_iload_n 5 3 rfl dX9_groupAt_4 rfl rfl ?_
  refine s_aload_n 6 0 rfl dX9_groupAt_5 rfl rfl ?_
  refine s_getf 9 41 28 rfl dX9_groupAt_6 ck9 rfl (by decide) rfl (by decide) w763 rfl (v := (0, h 41 28)) rfl ?_
  refine s_icmp_ge 12 45 rfl dX9_groupAt_9 (by decide) (fun c7 => ?_) (fun c7 => ?_)
  · replace H := H.1 c7
    refine s_iconst 46 rfl dX9_groupAt_45 ⟨by decide, by decide⟩ ?_
    exact s_iret (S := []) dX9_groupAt_46 rfl H
  · replace H := H.2 c7
    refine s_aload_n 13 0 rfl dX9_groupAt_12 rfl rfl ?_
    refine s_iload_n 14 3 rfl dX9_groupAt_13 rfl rfl ?_
    refine s_callV (mj := mX9_run) (S := []) 17 [(0, x3)] [(2, 41), (0, x3), (9, 0)] 41 rfl dX9_groupAt_14 okX9_run w954 w956 w30 rfl (by decide) rfl rfl rfl rfl npX9_run (Nat.le_of_ble_eq_true rfl) (by decide) (Nat.le_of_ble_eq_true rfl) rfl (Wd.imp H (fun r1 h2 H => ?_))
    show Wd mX9_groupAt X 17 [(2, 41), (0, x1), (0, x2), (0, x3)] [(0, r1)] h2 Q
    refine s_aload_n 18 0 rfl dX9_groupAt_17 rfl rfl ?_
    refine s_getf 21 41 1 rfl dX9_groupAt_18 ck9 rfl (by decide) rfl (by decide) w736 rfl (v := (2, 43)) rfl ?_
    refine s_iconst 22 rfl dX9_groupAt_21 ⟨by decide, by decide⟩ ?_
    refine s_iald 23 rfl dX9_groupAt_22 ia43 (by decide) (by decide) (v9 := h2 43 3) rfl ?_
    refine s_icmp_ge 26 29 rfl dX9_groupAt_23 (by decide) (fun c6 => ?_) (fun c6 => ?_)
    · replace H := H.1 c6
      refine s_iload_n 30 2 rfl dX9_groupAt_29 rfl rfl ?_
      refine s_iload_n 31 1 rfl dX9_groupAt_30 rfl rfl ?_
      refine s_icmp_ne 34 36 rfl dX9_groupAt_31 (by decide) (fun c4 => ?_) (fun c4 => ?_)
      · replace H := H.1 c4
        have c2 := H.1
        replace H := H.2
        refine s_iinc 39 2 rfl dX9_groupAt_36 (by decide) (z := x2) rfl (L2 := [(2, 41), (0, x1), (0, x2 + 1), (0, x3)]) rfl c2 ?_
        have c3 := H.1
        replace H := H.2
        refine s_iinc 42 3 rfl dX9_groupAt_39 (by decide) (z := x3) rfl (L2 := [(2, 41), (0, x1), (0, x2 + 1), (0, x3 + 1)]) rfl c3 ?_
        refine s_goto 4 dX9_groupAt_42 (by decide) ?_
        exact H
      · replace H := H.2 c4
        refine s_iload_n 35 3 rfl dX9_groupAt_34 rfl rfl ?_
        exact s_iret (S := []) dX9_groupAt_35 rfl H
    · replace H := H.2 c6
      refine s_goto 39 dX9_groupAt_26 (by decide) ?_
      have c5 := H.1
      replace H := H.2
      refine s_iinc 42 3 rfl dX9_groupAt_39 (by decide) (z := x3) rfl (L2 := [(2, 41), (0, x1), (0, x2), (0, x3 + 1)]) rfl c5 ?_
      refine s_goto 4 dX9_groupAt_42 (by decide) ?_
      exact H
theorem vX9_groups_0 {X : Nat × (Int → Int)} {h : HP} {Q : Int → HP → Prop} (H : Wd mX9_groups X 4 [(2, 41), (0, 0), (0, 0)] [] h Q) : Wd mX9_groups X 0 [(2, 41), (9, 0), (9, 0)] [] h Q := by
  refine s_iconst 1 rfl dX9_groups_0 ⟨by decide, by decide⟩ ?_
  refine s_istore_n 2 1 rfl dX9_groups_1 rfl (by decide) (L2 := [(2, 41), (0, 0), (9, 0)]) rfl ?_
  refine s_iconst 3 rfl dX9_groups_2 ⟨by decide, by decide⟩ ?_
  refine s_istore_n 4 2 rfl dX9_groups_3 rfl (by decide) (L2 := [(2, 41), (0, 0), (0, 0)]) rfl ?_
  exact H
theorem vX9_groups_4 {X : Nat × (Int → Int)} {h : HP} {Q : Int → HP → Prop} {x1 x2 : Int} (H : ((h 41 28 ≤ x2 → (Q x1 h)) ∧ (¬ (h 41 28 ≤ x2) → (Wd mX9_run X 0 [(2, 41), (0, x2), (9, 0)] [] h (fun r1 h2 => ((r1 < h2 43 3 → (inI (x1 + 0) ∧ inI (x2 + 1) ∧ Wd mX9_groups X 4 [(2, 41), (0, x1 + 0), (0, x2 + 1)] [] h2 Q)) ∧ (¬ (r1 < h2 43 3) → (inI (x1 + 1) ∧ inI (x2 + 1) ∧ Wd mX9_groups X 4 [(2, 41), (0, x1 + 1), (0, x2 + 1)] [] h2 Q)))))))) : Wd mX9_groups X 4 [(2, 41), (0, x1), (0, x2)] [] h Q := by
  refine s_iload_n 5 2 rfl dX9_groups_4 rfl rfl ?_
  refine s_aload_n 6 0 rfl dX9_groups_5 rfl rfl ?_
  refine s_getf 9 41 28 rfl dX9_groups_6 ck9 rfl (by decide) rfl (by decide) w763 rfl (v := (0, h 41 28)) rfl ?_
  refine s_icmp_ge 12 40 rfl dX9_groups_9 (by decide) (fun c7 => ?_) (fun c7 => ?_)
  · replace H := H.1 c7
    refine s_iload_n 41 1 rfl dX9_groups_40 rfl rfl ?_
    exact s_iret (S := []) dX9_groups_41 rfl H
  · replace H := H.2 c7
    refine s_iload_n 13 1 rfl dX9_groups_12 rfl rfl ?_
    refine s_aload_n 14 0 rfl dX9_groups_13 rfl rfl ?_
    refine s_iload_n 15 2 rfl dX9_groups_14 rfl rfl ?_
    refine s_callV (mj := mX9_run) (S := [(0, x1)]) 18 [(0, x2)] [(2, 41), (0, x2), (9, 0)] 41 rfl dX9_groups_15 okX9_run w954 w956 w30 rfl (by decide) rfl rfl rfl rfl npX9_run (Nat.le_of_ble_eq_true rfl) (by decide) (Nat.le_of_ble_eq_true rfl) rfl (Wd.imp H (fun r1 h2 H => ?_))
    show Wd mX9_groups X 18 [(2, 41), (0, x1), (0, x2)] [(0, r1), (0, x1)] h2 Q
    refine s_aload_n 19 0 rfl dX9_groups_18 rfl rfl ?_
    refine s_getf 22 41 1 rfl dX9_groups_19 ck9 rfl (by decide) rfl (by decide) w736 rfl (v := (2, 43)) rfl ?_
    refine s_iconst 23 rfl dX9_groups_22 ⟨by decide, by decide⟩ ?_
    refine s_iald 24 rfl dX9_groups_23 ia43 (by decide) (by decide) (v9 := h2 43 3) rfl ?_
    refine s_icmp_lt 27 31 rfl dX9_groups_24 (by decide) (fun c6 => ?_) (fun c6 => ?_)
    · replace H := H.1 c6
      refine s_iconst 32 rfl dX9_groups_31 ⟨by decide, by decide⟩ ?_
      have c2 := H.1
      replace H := H.2
      refine s_iadd 33 rfl dX9_groups_32 c2 ?_
      refine s_istore_n 34 1 rfl dX9_groups_33 rfl (by decide) (L2 := [(2, 41), (0, x1 + 0), (0, x2)]) rfl ?_
      have c3 := H.1
      replace H := H.2
      refine s_iinc 37 2 rfl dX9_groups_34 (by decide) (z := x2) rfl (L2 := [(2, 41), (0, x1 + 0), (0, x2 + 1)]) rfl c3 ?_
      refine s_goto 4 dX9_groups_37 (by decide) ?_
      exact H
    · replace H := H.2 c6
      refine s_iconst 28 rfl dX9_groups_27 ⟨by decide, by decide⟩ ?_
      refine s_goto 32 dX9_groups_28 (by decide) ?_
      have c4 := H.1
      replace H := H.2
      refine s_iadd 33 rfl dX9_groups_32 c4 ?_
      refine s_istore_n 34 1 rfl dX9_groups_33 rfl (by decide) (L2 := [(2, 41), (0, x1 + 1), (0, x2)]) rfl ?_
      have c5 := H.1
      replace H := H.2
      refine s_iinc 37 2 rfl dX9_groups_34 (by decide) (z := x2) rfl (L2 := [(2, 41), (0, x1 + 1), (0, x2 + 1)]) rfl c5 ?_
      refine s_goto 4 dX9_groups_37 (by decide) ?_
      exact H
theorem vX9_groupOf_0 {X : Nat × (Int → Int)} {h : HP} {Q : Int → HP → Prop} {x1 : Int} (H : Wd mX9_groupOf X 4 [(2, 41), (0, x1), (0, (-1)), (0, 0)] [] h Q) : Wd mX9_groupOf X 0 [(2, 41), (0, x1), (9, 0), (9, 0)] [] h Q := by
  refine s_iconst 1 rfl dX9_groupOf_0 ⟨by decide, by decide⟩ ?_
  refine s_istore_n 2 2 rfl dX9_groupOf_1 rfl (by decide) (L2 := [(2, 41), (0, x1), (0, (-1)), (9, 0)]) rfl ?_
  refine s_iconst 3 rfl dX9_groupOf_2 ⟨by decide, by decide⟩ ?_
  refine s_istore_n 4 3 rfl dX9_groupOf_3 rfl (by decide) (L2 := [(2, 41), (0, x1), (0, (-1)), (0, 0)]) rfl ?_
  exact H
theorem vX9_groupOf_4 {X : Nat × (Int → Int)} {h : HP} {Q : Int → HP → Prop} {x1 x2 x3 : Int} (H : ((x1 < x3 → (Q (-1) h)) ∧ (¬ (x1 < x3) → (Wd mX9_run X 0 [(2, 41), (0, x3), (9, 0)] [] h (fun r1 h2 => ((h2 43 3 ≤ r1 → (inI (x2 + 1) ∧ Wd mX9_run X 0 [(2, 41), (0, x3), (9, 0)] [] h2 (fun r4 h5 => inI (x3 + r4) ∧ (((x3 + r4) ≤ x1 → (inI (x3 + 1) ∧ Wd mX9_groupOf X 4 [(2, 41), (0, x1), (0, x2 + 1), (0, x3 + 1)] [] h5 Q)) ∧ (¬ ((x3 + r4) ≤ x1) → (Q (x2 + 1) h5)))))) ∧ (¬ (h2 43 3 ≤ r1) → (inI (x3 + 1) ∧ Wd mX9_groupOf X 4 [(2, 41), (0, x1), (0, x2), (0, x3 + 1)] [] h2 Q)))))))) : Wd mX9_groupOf X 4 [(2, 41), (0, x1), (0, x2), (0, x3)] [] h Q := by
  refine s_iload_n 5 3 rfl dX9_groupOf_4 rfl rfl ?_
  refine s_iload_n 6 1 rfl dX9_groupOf_5 rfl rfl ?_
  refine s_icmp_gt 9 48 rfl dX9_groupOf_6 (by decide) (fun c10 => ?_) (fun c10 => ?_)
  · replace H := H.1 c10
    refine s_iconst 49 rfl dX9_groupOf_48 ⟨by decide, by decide⟩ ?_
    exact s_iret (S := []) dX9_groupOf_49 rfl H
  · replace H := H.2 c10
    refine s_aload_n 10 0 rfl dX9_groupOf_9 rfl rfl ?_
    refine s_iload_n 11 3 rfl dX9_groupOf_10 rfl rfl ?_
    refine s_callV (mj := mX9_run) (S := []) 14 [(0, x3)] [(2, 41), (0, x3), (9, 0)] 41 rfl dX9_groupOf_11 okX9_run w954 w956 w30 rfl (by decide) rfl rfl rfl rfl npX9_run (Nat.le_of_ble_eq_true rfl) (by decide) (Nat.le_of_ble_eq_true rfl) rfl (Wd.imp H (fun r1 h2 H => ?_))
    show Wd mX9_groupOf X 14 [(2, 41), (0, x1), (0, x2), (0, x3)] [(0, r1)] h2 Q
    refine s_aload_n 15 0 rfl dX9_groupOf_14 rfl rfl ?_
    refine s_getf 18 41 1 rfl dX9_groupOf_15 ck9 rfl (by decide) rfl (by decide) w736 rfl (v := (2, 43)) rfl ?_
    refine s_iconst 19 rfl dX9_groupOf_18 ⟨by decide, by decide⟩ ?_
    refine s_iald 20 rfl dX9_groupOf_19 ia43 (by decide) (by decide) (v9 := h2 43 3) rfl ?_
    refine s_icmp_ge 23 26 rfl dX9_groupOf_20 (by decide) (fun c9 => ?_) (fun c9 => ?_)
    · replace H := H.1 c9
      have c2 := H.1
      replace H := H.2
      refine s_iinc 29 2 rfl dX9_groupOf_26 (by decide) (z := x2) rfl (L2 := [(2, 41), (0, x1), (0, x2 + 1), (0, x3)]) rfl c2 ?_
      refine s_iload_n 30 1 rfl dX9_groupOf_29 rfl rfl ?_
      refine s_iload_n 31 3 rfl dX9_groupOf_30 rfl rfl ?_
      refine s_aload_n 32 0 rfl dX9_groupOf_31 rfl rfl ?_
      refine s_iload_n 33 3 rfl dX9_groupOf_32 rfl rfl ?_
      refine s_callV (mj := mX9_run) (S := [(0, x3), (0, x1)]) 36 [(0, x3)] [(2, 41), (0, x3), (9, 0)] 41 rfl dX9_groupOf_33 okX9_run w954 w956 w30 rfl (by decide) rfl rfl rfl rfl npX9_run (Nat.le_of_ble_eq_true rfl) (by decide) (Nat.le_of_ble_eq_true rfl) rfl (Wd.imp H (fun r4 h5 H => ?_))
      show Wd mX9_groupOf X 36 [(2, 41), (0, x1), (0, x2 + 1), (0, x3)] [(0, r4), (0, x3), (0, x1)] h5 Q
      have c5 := H.1
      replace H := H.2
      refine s_iadd 37 rfl dX9_groupOf_36 c5 ?_
      refine s_icmp_ge 40 42 rfl dX9_groupOf_37 (by decide) (fun c7 => ?_) (fun c7 => ?_)
      · replace H := H.1 c7
        have c6 := H.1
        replace H := H.2
        refine s_iinc 45 3 rfl dX9_groupOf_42 (by decide) (z := x3) rfl (L2 := [(2, 41), (0, x1), (0, x2 + 1), (0, x3 + 1)]) rfl c6 ?_
        refine s_goto 4 dX9_groupOf_45 (by decide) ?_
        exact H
      · replace H := H.2 c7
        refine s_iload_n 41 2 rfl dX9_groupOf_40 rfl rfl ?_
        exact s_iret (S := []) dX9_groupOf_41 rfl H
    · replace H := H.2 c9
      refine s_goto 42 dX9_groupOf_23 (by decide) ?_
      have c8 := H.1
      replace H := H.2
      refine s_iinc 45 3 rfl dX9_groupOf_42 (by decide) (z := x3) rfl (L2 := [(2, 41), (0, x1), (0, x2), (0, x3 + 1)]) rfl c8 ?_
      refine s_goto 4 dX9_groupOf_45 (by decide) ?_
      exact H
theorem vX9_names_0 {X : Nat × (Int → Int)} {h : HP} {Q : Int → HP → Prop} (H : Wd mX9_names X 4 [(2, 41), (0, 0), (0, 0)] [] h Q) : Wd mX9_names X 0 [(2, 41), (9, 0), (9, 0)] [] h Q := by
  refine s_iconst 1 rfl dX9_names_0 ⟨by decide, by decide⟩ ?_
  refine s_istore_n 2 1 rfl dX9_names_1 rfl (by decide) (L2 := [(2, 41), (0, 0), (9, 0)]) rfl ?_
  refine s_iconst 3 rfl dX9_names_2 ⟨by decide, by decide⟩ ?_
  refine s_istore_n 4 2 rfl dX9_names_3 rfl (by decide) (L2 := [(2, 41), (0, 0), (0, 0)]) rfl ?_
  exact H
theorem vX9_names_4 {X : Nat × (Int → Int)} {h : HP} {Q : Int → HP → Prop} {x1 x2 : Int} (H : ((h 41 5 ≤ x2 → (Q x1 h)) ∧ (¬ (h 41 5 ≤ x2) → (0 ≤ x2 ∧ x2 < 600 ∧ ((¬ h 46 x2 = (-1) → (inI (x1 + 1) ∧ inI (x2 + 1) ∧ Wd mX9_names X 4 [(2, 41), (0, x1 + 1), (0, x2 + 1)] [] h Q)) ∧ (h 46 x2 = (-1) → (inI (x1 + 0) ∧ inI (x2 + 1) ∧ Wd mX9_names X 4 [(2, 41), (0, x1 + 0), (0, x2 + 1)] [] h Q))))))) : Wd mX9_names X 4 [(2, 41), (0, x1), (0, x2)] [] h Q := by
  refine s_iload_n 5 2 rfl dX9_names_4 rfl rfl ?_
  refine s_aload_n 6 0 rfl dX9_names_5 rfl rfl ?_
  refine s_getf 9 41 5 rfl dX9_names_6 ck9 rfl (by decide) rfl (by decide) w740 rfl (v := (0, h 41 5)) rfl ?_
  refine s_icmp_ge 12 36 rfl dX9_names_9 (by decide) (fun c7 => ?_) (fun c7 => ?_)
  · replace H := H.1 c7
    refine s_iload_n 37 1 rfl dX9_names_36 rfl rfl ?_
    exact s_iret (S := []) dX9_names_37 rfl H
  · replace H := H.2 c7
    refine s_iload_n 13 1 rfl dX9_names_12 rfl rfl ?_
    refine s_aload_n 14 0 rfl dX9_names_13 rfl rfl ?_
    refine s_getf 17 41 4 rfl dX9_names_14 ck9 rfl (by decide) rfl (by decide) w739 rfl (v := (2, 46)) rfl ?_
    refine s_iload_n 18 2 rfl dX9_names_17 rfl rfl ?_
    have c0 := H.1
    replace H := H.2
    have c1 := H.1
    replace H := H.2
    refine s_iald 19 rfl dX9_names_18 ia46 c0 c1 (v9 := h 46 x2) rfl ?_
    refine s_iconst 20 rfl dX9_names_19 ⟨by decide, by decide⟩ ?_
    refine s_icmp_ne 23 27 rfl dX9_names_20 (by decide) (fun c6 => ?_) (fun c6 => ?_)
    · replace H := H.1 c6
      refine s_iconst 28 rfl dX9_names_27 ⟨by decide, by decide⟩ ?_
      have c2 := H.1
      replace H := H.2
      refine s_iadd 29 rfl dX9_names_28 c2 ?_
      refine s_istore_n 30 1 rfl dX9_names_29 rfl (by decide) (L2 := [(2, 41), (0, x1 + 1), (0, x2)]) rfl ?_
      have c3 := H.1
      replace H := H.2
      refine s_iinc 33 2 rfl dX9_names_30 (by decide) (z := x2) rfl (L2 := [(2, 41), (0, x1 + 1), (0, x2 + 1)]) rfl c3 ?_
      refine s_goto 4 dX9_names_33 (by decide) ?_
      exact H
    · replace H := H.2 c6
      refine s_iconst 24 rfl dX9_names_23 ⟨by decide, by decide⟩ ?_
      refine s_goto 28 dX9_names_24 (by decide) ?_
      have c4 := H.1
      replace H := H.2
      refine s_iadd 29 rfl dX9_names_28 c4 ?_
      refine s_istore_n 30 1 rfl dX9_names_29 rfl (by decide) (L2 := [(2, 41), (0, x1 + 0), (0, x2)]) rfl ?_
      have c5 := H.1
      replace H := H.2
      refine s_iinc 33 2 rfl dX9_names_30 (by decide) (z := x2) rfl (L2 := [(2, 41), (0, x1 + 0), (0, x2 + 1)]) rfl c5 ?_
      refine s_goto 4 dX9_names_33 (by decide) ?_
      exact H
theorem vX9_gaps_0 {X : Nat × (Int → Int)} {h : HP} {Q : Int → HP → Prop} (H : Wd mX9_gaps X 4 [(2, 41), (0, 0), (0, 0)] [] h Q) : Wd mX9_gaps X 0 [(2, 41), (9, 0), (9, 0)] [] h Q := by
  refine s_iconst 1 rfl dX9_gaps_0 ⟨by decide, by decide⟩ ?_
  refine s_istore_n 2 1 rfl dX9_gaps_1 rfl (by decide) (L2 := [(2, 41), (0, 0), (9, 0)]) rfl ?_
  refine s_iconst 3 rfl dX9_gaps_2 ⟨by decide, by decide⟩ ?_
  refine s_istore_n 4 2 rfl dX9_gaps_3 rfl (by decide) (L2 := [(2, 41), (0, 0), (0, 0)]) rfl ?_
  exact H
theorem vX9_gaps_4 {X : Nat × (Int → Int)} {h : HP} {Q : Int → HP → Prop} {x1 x2 : Int} (H : ((h 41 5 ≤ x2 → (Q x1 h)) ∧ (¬ (h 41 5 ≤ x2) → (0 ≤ x2 ∧ x2 < 600 ∧ ((¬ h 42 x2 = (-32768) → (inI (x1 + 0) ∧ inI (x2 + 1) ∧ Wd mX9_gaps X 4 [(2, 41), (0, x1 + 0), (0, x2 + 1)] [] h Q)) ∧ (h 42 x2 = (-32768) → (inI (x1 + 1) ∧ inI (x2 + 1) ∧ Wd mX9_gaps X 4 [(2, 41), (0, x1 + 1), (0, x2 + 1)] [] h Q))))))) : Wd mX9_gaps X 4 [(2, 41), (0, x1), (0, x2)] [] h Q := by
  refine s_iload_n 5 2 rfl dX9_gaps_4 rfl rfl ?_
  refine s_aload_n 6 0 rfl dX9_gaps_5 rfl rfl ?_
  refine s_getf 9 41 5 rfl dX9_gaps_6 ck9 rfl (by decide) rfl (by decide) w740 rfl (v := (0, h 41 5)) rfl ?_
  refine s_icmp_ge 12 38 rfl dX9_gaps_9 (by decide) (fun c7 => ?_) (fun c7 => ?_)
  · replace H := H.1 c7
    refine s_iload_n 39 1 rfl dX9_gaps_38 rfl rfl ?_
    exact s_iret (S := []) dX9_gaps_39 rfl H
  · replace H := H.2 c7
    refine s_iload_n 13 1 rfl dX9_gaps_12 rfl rfl ?_
    refine s_aload_n 14 0 rfl dX9_gaps_13 rfl rfl ?_
    refine s_getf 17 41 0 rfl dX9_gaps_14 ck9 rfl (by decide) rfl (by decide) w735 rfl (v := (2, 42)) rfl ?_
    refine s_iload_n 18 2 rfl dX9_gaps_17 rfl rfl ?_
    have c0 := H.1
    replace H := H.2
    have c1 := H.1
    replace H := H.2
    refine s_iald 19 rfl dX9_gaps_18 ia42 c0 c1 (v9 := h 42 x2) rfl ?_
    refine s_sipush 22 rfl dX9_gaps_19 (by decide) ⟨by decide, by decide⟩ ?_
    refine s_icmp_ne 25 29 rfl dX9_gaps_22 (by decide) (fun c6 => ?_) (fun c6 => ?_)
    · replace H := H.1 c6
      refine s_iconst 30 rfl dX9_gaps_29 ⟨by decide, by decide⟩ ?_
      have c2 := H.1
      replace H := H.2
      refine s_iadd 31 rfl dX9_gaps_30 c2 ?_
      refine s_istore_n 32 1 rfl dX9_gaps_31 rfl (by decide) (L2 := [(2, 41), (0, x1 + 0), (0, x2)]) rfl ?_
      have c3 := H.1
      replace H := H.2
      refine s_iinc 35 2 rfl dX9_gaps_32 (by decide) (z := x2) rfl (L2 := [(2, 41), (0, x1 + 0), (0, x2 + 1)]) rfl c3 ?_
      refine s_goto 4 dX9_gaps_35 (by decide) ?_
      exact H
    · replace H := H.2 c6
      refine s_iconst 26 rfl dX9_gaps_25 ⟨by decide, by decide⟩ ?_
      refine s_goto 30 dX9_gaps_26 (by decide) ?_
      have c4 := H.1
      replace H := H.2
      refine s_iadd 31 rfl dX9_gaps_30 c4 ?_
      refine s_istore_n 32 1 rfl dX9_gaps_31 rfl (by decide) (L2 := [(2, 41), (0, x1 + 1), (0, x2)]) rfl ?_
      have c5 := H.1
      replace H := H.2
      refine s_iinc 35 2 rfl dX9_gaps_32 (by decide) (z := x2) rfl (L2 := [(2, 41), (0, x1 + 1), (0, x2 + 1)]) rfl c5 ?_
      refine s_goto 4 dX9_gaps_35 (by decide) ?_
      exact H
theorem vX9_waved_0 {X : Nat × (Int → Int)} {h : HP} {Q : Int → HP → Prop} (H : Wd mX9_waved X 4 [(2, 41), (0, 0), (0, 0)] [] h Q) : Wd mX9_waved X 0 [(2, 41), (9, 0), (9, 0)] [] h Q := by
  refine s_iconst 1 rfl dX9_waved_0 ⟨by decide, by decide⟩ ?_
  refine s_istore_n 2 1 rfl dX9_waved_1 rfl (by decide) (L2 := [(2, 41), (0, 0), (9, 0)]) rfl ?_
  refine s_iconst 3 rfl dX9_waved_2 ⟨by decide, by decide⟩ ?_
  refine s_istore_n 4 2 rfl dX9_waved_3 rfl (by decide) (L2 := [(2, 41), (0, 0), (0, 0)]) rfl ?_
  exact H
theorem vX9_waved_4 {X : Nat × (Int → Int)} {h : HP} {Q : Int → HP → Prop} {x1 x2 : Int} (H : ((h 41 28 ≤ x2 → (Q x1 h)) ∧ (¬ (h 41 28 ≤ x2) → (0 ≤ x2 ∧ x2 < 301 ∧ inI (x1 + h 58 x2) ∧ inI (x2 + 1) ∧ Wd mX9_waved X 4 [(2, 41), (0, x1 + h 58 x2), (0, x2 + 1)] [] h Q)))) : Wd mX9_waved X 4 [(2, 41), (0, x1), (0, x2)] [] h Q := by
  refine s_iload_n 5 2 rfl dX9_waved_4 rfl rfl ?_
  refine s_aload_n 6 0 rfl dX9_waved_5 rfl rfl ?_
  refine s_getf 9 41 28 rfl dX9_waved_6 ck9 rfl (by decide) rfl (by decide) w763 rfl (v := (0, h 41 28)) rfl ?_
  refine s_icmp_ge 12 27 rfl dX9_waved_9 (by decide) (fun c4 => ?_) (fun c4 => ?_)
  · replace H := H.1 c4
    refine s_iload_n 28 1 rfl dX9_waved_27 rfl rfl ?_
    exact s_iret (S := []) dX9_waved_28 rfl H
  · replace H := H.2 c4
    refine s_iload_n 13 1 rfl dX9_waved_12 rfl rfl ?_
    refine s_aload_n 14 0 rfl dX9_waved_13 rfl rfl ?_
    refine s_getf 17 41 21 rfl dX9_waved_14 ck9 rfl (by decide) rfl (by decide) w756 rfl (v := (2, 58)) rfl ?_
    refine s_iload_n 18 2 rfl dX9_waved_17 rfl rfl ?_
    have c0 := H.1
    replace H := H.2
    have c1 := H.1
    replace H := H.2
    refine s_iald 19 rfl dX9_waved_18 ia58 c0 c1 (v9 := h 58 x2) rfl ?_
    have c2 := H.1
    replace H := H.2
    refine s_iadd 20 rfl dX9_waved_19 c2 ?_
    refine s_istore_n 21 1 rfl dX9_waved_20 rfl (by decide) (L2 := [(2, 41), (0, x1 + h 58 x2), (0, x2)]) rfl ?_
    have c3 := H.1
    replace H := H.2
    refine s_iinc 24 2 rfl dX9_waved_21 (by decide) (z := x2) rfl (L2 := [(2, 41), (0, x1 + h 58 x2), (0, x2 + 1)]) rfl c3 ?_
    refine s_goto 4 dX9_waved_24 (by decide) ?_
    exact H
theorem vX9_count_0 {X : Nat × (Int → Int)} {h : HP} {Q : Int → HP → Prop} {x1 : Int} (H : Wd mX9_laysWaves X 0 [(2, 41), (9, 0), (9, 0), (9, 0)] [] h (fun _ h2 => ((x1 < 0 ∨ 15 < x1 → (Q (-1) h2)) ∧ (x1 = 0 → (Q (h2 41 5) h2)) ∧ (x1 = 1 → (Q (h2 41 12) h2)) ∧ (x1 = 2 → (Q (h2 41 28) h2)) ∧ (x1 = 3 → (Wd mX9_freaks X 0 [(2, 41), (9, 0), (9, 0)] [] h2 (fun r4 h5 => Q r4 h5))) ∧ (x1 = 4 → (Wd mX9_groups X 0 [(2, 41), (9, 0), (9, 0)] [] h2 (fun r6 h7 => Q r6 h7))) ∧ (x1 = 5 → (Q (h2 41 6) h2)) ∧ (x1 = 6 → (Wd mX9_names X 0 [(2, 41), (9, 0), (9, 0)] [] h2 (fun r8 h9 => Q r8 h9))) ∧ (x1 = 7 → (Q (h2 43 0) h2)) ∧ (x1 = 8 → (Q (h2 43 1) h2)) ∧ (x1 = 9 → (Q (h2 43 2) h2)) ∧ (x1 = 10 → (Q (h2 43 3) h2)) ∧ (x1 = 11 → (Q (h2 43 4) h2)) ∧ (x1 = 12 → (Q (h2 43 6) h2)) ∧ (x1 = 13 → (Wd mX9_gaps X 0 [(2, 41), (9, 0), (9, 0)] [] h2 (fun r10 h11 => Q r10 h11))) ∧ (x1 = 14 → (Q (h2 41 13) h2)) ∧ (x1 = 15 → (Wd mX9_waved X 0 [(2, 41), (9, 0), (9, 0)] [] h2 (fun r12 h13 => Q r12 h13)))))) : Wd mX9_count X 0 [(2, 41), (0, x1)] [] h Q := by
  refine s_aload_n 1 0 rfl dX9_count_0 rfl rfl ?_
  refine s_callV (mj := mX9_laysWaves) (S := []) 4 [] [(2, 41), (9, 0), (9, 0), (9, 0)] 41 rfl dX9_count_1 okX9_laysWaves w878 w880 w12 rfl (by decide) rfl rfl rfl rfl npX9_laysWaves (Nat.le_of_ble_eq_true rfl) (by decide) (Nat.le_of_ble_eq_true rfl) rfl (Wd.imp H (fun _ h2 H => ?_))
  show Wd mX9_count X 4 [(2, 41), (0, x1)] [] h2 Q
  refine s_iload_n 5 1 rfl dX9_count_4 rfl rfl ?_
  rcases (by omega : (x1 < 0 ∨ 15 < x1) ∨ x1 = 0 ∨ x1 = 1 ∨ x1 = 2 ∨ x1 = 3 ∨ x1 = 4 ∨ x1 = 5 ∨ x1 = 6 ∨ x1 = 7 ∨ x1 = 8 ∨ x1 = 9 ∨ x1 = 10 ∨ x1 = 11 ∨ x1 = 12 ∨ x1 = 13 ∨ x1 = 14 ∨ x1 = 15) with c2 | c2 | c2 | c2 | c2 | c2 | c2 | c2 | c2 | c2 | c2 | c2 | c2 | c2 | c2 | c2 | c2
  · refine s_tsd 177 dX9_count_5 c2 (by decide) ?_
    replace H := H.1 c2
    refine s_iconst 178 rfl dX9_count_177 ⟨by decide, by decide⟩ ?_
    exact s_iret (S := []) dX9_count_178 rfl H
  · refine s_tsw 84 dX9_count_5 (by omega) (by omega) (by rw [c2]; rfl) (by decide) ?_
    replace H := H.2.1 c2
    refine s_aload_n 85 0 rfl dX9_count_84 rfl rfl ?_
    refine s_getf 88 41 5 rfl dX9_count_85 ck9 rfl (by decide) rfl (by decide) w740 rfl (v := (0, h2 41 5)) rfl ?_
    exact s_iret (S := []) dX9_count_88 rfl H
  · refine s_tsw 89 dX9_count_5 (by omega) (by omega) (by rw [c2]; rfl) (by decide) ?_
    replace H := H.2.2.1 c2
    refine s_aload_n 90 0 rfl dX9_count_89 rfl rfl ?_
    refine s_getf 93 41 12 rfl dX9_count_90 ck9 rfl (by decide) rfl (by decide) w747 rfl (v := (0, h2 41 12)) rfl ?_
    exact s_iret (S := []) dX9_count_93 rfl H
  · refine s_tsw 94 dX9_count_5 (by omega) (by omega) (by rw [c2]; rfl) (by decide) ?_
    replace H := H.2.2.2.1 c2
    refine s_aload_n 95 0 rfl dX9_count_94 rfl rfl ?_
    refine s_getf 98 41 28 rfl dX9_count_95 ck9 rfl (by decide) rfl (by decide) w763 rfl (v := (0, h2 41 28)) rfl ?_
    exact s_iret (S := []) dX9_count_98 rfl H
  · refine s_tsw 99 dX9_count_5 (by omega) (by omega) (by rw [c2]; rfl) (by decide) ?_
    replace H := H.2.2.2.2.1 c2
    refine s_aload_n 100 0 rfl dX9_count_99 rfl rfl ?_
    refine s_callV (mj := mX9_freaks) (S := []) 103 [] [(2, 41), (9, 0), (9, 0)] 41 rfl dX9_count_100 okX9_freaks w942 w944 w27 rfl (by decide) rfl rfl rfl rfl npX9_freaks (Nat.le_of_ble_eq_true rfl) (by decide) (Nat.le_of_ble_eq_true rfl) rfl (Wd.imp H (fun r4 h5 H => ?_))
    show Wd mX9_count X 103 [(2, 41), (0, x1)] [(0, r4)] h5 Q
    exact s_iret (S := []) dX9_count_103 rfl H
  · refine s_tsw 104 dX9_count_5 (by omega) (by omega) (by rw [c2]; rfl) (by decide) ?_
    replace H := H.2.2.2.2.2.1 c2
    refine s_aload_n 105 0 rfl dX9_count_104 rfl rfl ?_
    refine s_callV (mj := mX9_groups) (S := []) 108 [] [(2, 41), (9, 0), (9, 0)] 41 rfl dX9_count_105 okX9_groups w950 w952 w29 rfl (by decide) rfl rfl rfl rfl npX9_groups (Nat.le_of_ble_eq_true rfl) (by decide) (Nat.le_of_ble_eq_true rfl) rfl (Wd.imp H (fun r6 h7 H => ?_))
    show Wd mX9_count X 108 [(2, 41), (0, x1)] [(0, r6)] h7 Q
    exact s_iret (S := []) dX9_count_108 rfl H
  · refine s_tsw 109 dX9_count_5 (by omega) (by omega) (by rw [c2]; rfl) (by decide) ?_
    replace H := H.2.2.2.2.2.2.1 c2
    refine s_aload_n 110 0 rfl dX9_count_109 rfl rfl ?_
    refine s_getf 113 41 6 rfl dX9_count_110 ck9 rfl (by decide) rfl (by decide) w741 rfl (v := (0, h2 41 6)) rfl ?_
    exact s_iret (S := []) dX9_count_113 rfl H
  · refine s_tsw 114 dX9_count_5 (by omega) (by omega) (by rw [c2]; rfl) (by decide) ?_
    replace H := H.2.2.2.2.2.2.2.1 c2
    refine s_aload_n 115 0 rfl dX9_count_114 rfl rfl ?_
    refine s_callV (mj := mX9_names) (S := []) 118 [] [(2, 41), (9, 0), (9, 0)] 41 rfl dX9_count_115 okX9_names w958 w960 w31 rfl (by decide) rfl rfl rfl rfl npX9_names (Nat.le_of_ble_eq_true rfl) (by decide) (Nat.le_of_ble_eq_true rfl) rfl (Wd.imp H (fun r8 h9 H => ?_))
    show Wd mX9_count X 118 [(2, 41), (0, x1)] [(0, r8)] h9 Q
    exact s_iret (S := []) dX9_count_118 rfl H
  · refine s_tsw 119 dX9_count_5 (by omega) (by omega) (by rw [c2]; rfl) (by decide) ?_
    replace H := H.2.2.2.2.2.2.2.2.1 c2
    refine s_aload_n 120 0 rfl dX9_count_119 rfl rfl ?_
    refine s_getf 123 41 1 rfl dX9_count_120 ck9 rfl (by decide) rfl (by decide) w736 rfl (v := (2, 43)) rfl ?_
    refine s_iconst 124 rfl dX9_count_123 ⟨by decide, by decide⟩ ?_
    refine s_iald 125 rfl dX9_count_124 ia43 (by decide) (by decide) (v9 := h2 43 0) rfl ?_
    exact s_iret (S := []) dX9_count_125 rfl H
  · refine s_tsw 126 dX9_count_5 (by omega) (by omega) (by rw [c2]; rfl) (by decide) ?_
    replace H := H.2.2.2.2.2.2.2.2.2.1 c2
    refine s_aload_n 127 0 rfl dX9_count_126 rfl rfl ?_
    refine s_getf 130 41 1 rfl dX9_count_127 ck9 rfl (by decide) rfl (by decide) w736 rfl (v := (2, 43)) rfl ?_
    refine s_iconst 131 rfl dX9_count_130 ⟨by decide, by decide⟩ ?_
    refine s_iald 132 rfl dX9_count_131 ia43 (by decide) (by decide) (v9 := h2 43 1) rfl ?_
    exact s_iret (S := []) dX9_count_132 rfl H
  · refine s_tsw 133 dX9_count_5 (by omega) (by omega) (by rw [c2]; rfl) (by decide) ?_
    replace H := H.2.2.2.2.2.2.2.2.2.2.1 c2
    refine s_aload_n 134 0 rfl dX9_count_133 rfl rfl ?_
    refine s_getf 137 41 1 rfl dX9_count_134 ck9 rfl (by decide) rfl (by decide) w736 rfl (v := (2, 43)) rfl ?_
    refine s_iconst 138 rfl dX9_count_137 ⟨by decide, by decide⟩ ?_
    refine s_iald 139 rfl dX9_count_138 ia43 (by decide) (by decide) (v9 := h2 43 2) rfl ?_
    exact s_iret (S := []) dX9_count_139 rfl H
  · refine s_tsw 140 dX9_count_5 (by omega) (by omega) (by rw [c2]; rfl) (by decide) ?_
    replace H := H.2.2.2.2.2.2.2.2.2.2.2.1 c2
    refine s_aload_n 141 0 rfl dX9_count_140 rfl rfl ?_
    refine s_getf 144 41 1 rfl dX9_count_141 ck9 rfl (by decide) rfl (by decide) w736 rfl (v := (2, 43)) rfl ?_
    refine s_iconst 145 rfl dX9_count_144 ⟨by decide, by decide⟩ ?_
    refine s_iald 146 rfl dX9_count_145 ia43 (by decide) (by decide) (v9 := h2 43 3) rfl ?_
    exact s_iret (S := []) dX9_count_146 rfl H
  · refine s_tsw 147 dX9_count_5 (by omega) (by omega) (by rw [c2]; rfl) (by decide) ?_
    replace H := H.2.2.2.2.2.2.2.2.2.2.2.2.1 c2
    refine s_aload_n 148 0 rfl dX9_count_147 rfl rfl ?_
    refine s_getf 151 41 1 rfl dX9_count_148 ck9 rfl (by decide) rfl (by decide) w736 rfl (v := (2, 43)) rfl ?_
    refine s_iconst 152 rfl dX9_count_151 ⟨by decide, by decide⟩ ?_
    refine s_iald 153 rfl dX9_count_152 ia43 (by decide) (by decide) (v9 := h2 43 4) rfl ?_
    exact s_iret (S := []) dX9_count_153 rfl H
  · refine s_tsw 154 dX9_count_5 (by omega) (by omega) (by rw [c2]; rfl) (by decide) ?_
    replace H := H.2.2.2.2.2.2.2.2.2.2.2.2.2.1 c2
    refine s_aload_n 155 0 rfl dX9_count_154 rfl rfl ?_
    refine s_getf 158 41 1 rfl dX9_count_155 ck9 rfl (by decide) rfl (by decide) w736 rfl (v := (2, 43)) rfl ?_
    refine s_bipush 160 rfl dX9_count_158 (by decide) ⟨by decide, by decide⟩ ?_
    refine s_iald 161 rfl dX9_count_160 ia43 (by decide) (by decide) (v9 := h2 43 6) rfl ?_
    exact s_iret (S := []) dX9_count_161 rfl H
  · refine s_tsw 162 dX9_count_5 (by omega) (by omega) (by rw [c2]; rfl) (by decide) ?_
    replace H := H.2.2.2.2.2.2.2.2.2.2.2.2.2.2.1 c2
    refine s_aload_n 163 0 rfl dX9_count_162 rfl rfl ?_
    refine s_callV (mj := mX9_gaps) (S := []) 166 [] [(2, 41), (9, 0), (9, 0)] 41 rfl dX9_count_163 okX9_gaps w962 w964 w32 rfl (by decide) rfl rfl rfl rfl npX9_gaps (Nat.le_of_ble_eq_true rfl) (by decide) (Nat.le_of_ble_eq_true rfl) rfl (Wd.imp H (fun r10 h11 H => ?_))
    show Wd mX9_count X 166 [(2, 41), (0, x1)] [(0, r10)] h11 Q
    exact s_iret (S := []) dX9_count_166 rfl H
  · refine s_tsw 167 dX9_count_5 (by omega) (by omega) (by rw [c2]; rfl) (by decide) ?_
    replace H := H.2.2.2.2.2.2.2.2.2.2.2.2.2.2.2.1 c2
    refine s_aload_n 168 0 rfl dX9_count_167 rfl rfl ?_
    refine s_getf 171 41 13 rfl dX9_count_168 ck9 rfl (by decide) rfl (by decide) w748 rfl (v := (0, h2 41 13)) rfl ?_
    exact s_iret (S := []) dX9_count_171 rfl H
  · refine s_tsw 172 dX9_count_5 (by omega) (by omega) (by rw [c2]; rfl) (by decide) ?_
    replace H := H.2.2.2.2.2.2.2.2.2.2.2.2.2.2.2.2 c2
    refine s_aload_n 173 0 rfl dX9_count_172 rfl rfl ?_
    refine s_callV (mj := mX9_waved) (S := []) 176 [] [(2, 41), (9, 0), (9, 0)] 41 rfl dX9_count_173 okX9_waved w966 w968 w33 rfl (by decide) rfl rfl rfl rfl npX9_waved (Nat.le_of_ble_eq_true rfl) (by decide) (Nat.le_of_ble_eq_true rfl) rfl (Wd.imp H (fun r12 h13 H => ?_))
    show Wd mX9_count X 176 [(2, 41), (0, x1)] [(0, r12)] h13 Q
    exact s_iret (S := []) dX9_count_176 rfl H
theorem vX9_isSample_0 {X : Nat × (Int → Int)} {h : HP} {Q : Int → HP → Prop} {x1 : Int} (H : inI (h 41 5 - 1) ∧ Wd mX9_isIn X 0 [(0, x1), (0, 0), (0, h 41 5 - 1)] [] h (fun r2 h3 => (r2 = 0 ∨ r2 = 1) ∧ Q r2 h3)) : Wd mX9_isSample X 0 [(2, 41), (0, x1)] [] h Q := by
  refine s_iload_n 1 1 rfl dX9_isSample_0 rfl rfl ?_
  refine s_iconst 2 rfl dX9_isSample_1 ⟨by decide, by decide⟩ ?_
  refine s_aload_n 3 0 rfl dX9_isSample_2 rfl rfl ?_
  refine s_getf 6 41 5 rfl dX9_isSample_3 ck9 rfl (by decide) rfl (by decide) w740 rfl (v := (0, h 41 5)) rfl ?_
  refine s_iconst 7 rfl dX9_isSample_6 ⟨by decide, by decide⟩ ?_
  have c0 := H.1
  replace H := H.2
  refine s_isub 8 rfl dX9_isSample_7 c0 ?_
  refine s_callS (mj := mX9_isIn) (S := []) 11 [(0, x1), (0, 0), (0, h 41 5 - 1)] [(0, x1), (0, 0), (0, h 41 5 - 1)] rfl dX9_isSample_8 okX9_isIn w834 w835 rfl npX9_isIn (Nat.le_of_ble_eq_true rfl) (by decide) (Nat.le_of_ble_eq_true rfl) rfl (Wd.imp H (fun r2 h3 H => ?_))
  show Wd mX9_isSample X 11 [(2, 41), (0, x1)] [(0, r2)] h3 Q
  exact s_zret (S := []) dX9_isSample_11 rfl H.1 H.2
theorem vX9_sample_0 {X : Nat × (Int → Int)} {h : HP} {Q : Int → HP → Prop} {x1 x2 : Int} (H : Wd mX9_isSample X 0 [(2, 41), (0, x1)] [] h (fun r1 h2 => ((¬ r1 = 0 → (Wd mX9_laysWaves X 0 [(2, 41), (9, 0), (9, 0), (9, 0)] [] h2 (fun _ h4 => ((x2 < 0 ∨ 5 < x2 → (Q (-1) h4)) ∧ (x2 = 0 → (0 ≤ x1 ∧ x1 < 600 ∧ Q (h4 42 x1) h4)) ∧ (x2 = 1 → (0 ≤ x1 ∧ x1 < 600 ∧ Q (h4 47 x1) h4)) ∧ (x2 = 2 → (0 ≤ x1 ∧ x1 < 600 ∧ Q (h4 50 x1) h4)) ∧ (x2 = 3 → (0 ≤ x1 ∧ x1 < 600 ∧ Q (h4 48 x1) h4)) ∧ (x2 = 4 → (0 ≤ x1 ∧ x1 < 600 ∧ Q (h4 56 x1) h4)) ∧ (x2 = 5 → (0 ≤ x1 ∧ x1 < 600 ∧ Q (h4 46 x1) h4)))))) ∧ (r1 = 0 → (Q (-1) h2))))) : Wd mX9_sample X 0 [(2, 41), (0, x1), (0, x2)] [] h Q := by
  refine s_aload_n 1 0 rfl dX9_sample_0 rfl rfl ?_
  refine s_iload_n 2 1 rfl dX9_sample_1 rfl rfl ?_
  refine s_callV (mj := mX9_isSample) (S := []) 5 [(0, x1)] [(2, 41), (0, x1)] 41 rfl dX9_sample_2 okX9_isSample w974 w976 w34 rfl (by decide) rfl rfl rfl rfl npX9_isSample (Nat.le_of_ble_eq_true rfl) (by decide) (Nat.le_of_ble_eq_true rfl) rfl (Wd.imp H (fun r1 h2 H => ?_))
  show Wd mX9_sample X 5 [(2, 41), (0, x1), (0, x2)] [(0, r1)] h2 Q
  refine s_if_ne 8 10 rfl dX9_sample_5 (by decide) (fun c17 => ?_) (fun c17 => ?_)
  · replace H := H.1 c17
    refine s_aload_n 11 0 rfl dX9_sample_10 rfl rfl ?_
    refine s_callV (mj := mX9_laysWaves) (S := []) 14 [] [(2, 41), (9, 0), (9, 0), (9, 0)] 41 rfl dX9_sample_11 okX9_laysWaves w878 w880 w12 rfl (by decide) rfl rfl rfl rfl npX9_laysWaves (Nat.le_of_ble_eq_true rfl) (by decide) (Nat.le_of_ble_eq_true rfl) rfl (Wd.imp H (fun _ h4 H => ?_))
    show Wd mX9_sample X 14 [(2, 41), (0, x1), (0, x2)] [] h4 Q
    refine s_iload_n 15 2 rfl dX9_sample_14 rfl rfl ?_
    rcases (by omega : (x2 < 0 ∨ 5 < x2) ∨ x2 = 0 ∨ x2 = 1 ∨ x2 = 2 ∨ x2 = 3 ∨ x2 = 4 ∨ x2 = 5) with c4 | c4 | c4 | c4 | c4 | c4 | c4
    · refine s_tsd 94 dX9_sample_15 c4 (by decide) ?_
      replace H := H.1 c4
      refine s_iconst 95 rfl dX9_sample_94 ⟨by decide, by decide⟩ ?_
      exact s_iret (S := []) dX9_sample_95 rfl H
    · refine s_tsw 52 dX9_sample_15 (by omega) (by omega) (by rw [c4]; rfl) (by decide) ?_
      replace H := H.2.1 c4
      refine s_aload_n 53 0 rfl dX9_sample_52 rfl rfl ?_
      refine s_getf 56 41 0 rfl dX9_sample_53 ck9 rfl (by decide) rfl (by decide) w735 rfl (v := (2, 42)) rfl ?_
      refine s_iload_n 57 1 rfl dX9_sample_56 rfl rfl ?_
      have c5 := H.1
      replace H := H.2
      have c6 := H.1
      replace H := H.2
      refine s_iald 58 rfl dX9_sample_57 ia42 c5 c6 (v9 := h4 42 x1) rfl ?_
      exact s_iret (S := []) dX9_sample_58 rfl H
    · refine s_tsw 59 dX9_sample_15 (by omega) (by omega) (by rw [c4]; rfl) (by decide) ?_
      replace H := H.2.2.1 c4
      refine s_aload_n 60 0 rfl dX9_sample_59 rfl rfl ?_
      refine s_getf 63 41 7 rfl dX9_sample_60 ck9 rfl (by decide) rfl (by decide) w742 rfl (v := (2, 47)) rfl ?_
      refine s_iload_n 64 1 rfl dX9_sample_63 rfl rfl ?_
      have c7 := H.1
      replace H := H.2
      have c8 := H.1
      replace H := H.2
      refine s_iald 65 rfl dX9_sample_64 ia47 c7 c8 (v9 := h4 47 x1) rfl ?_
      exact s_iret (S := []) dX9_sample_65 rfl H
    · refine s_tsw 66 dX9_sample_15 (by omega) (by omega) (by rw [c4]; rfl) (by decide) ?_
      replace H := H.2.2.2.1 c4
      refine s_aload_n 67 0 rfl dX9_sample_66 rfl rfl ?_
      refine s_getf 70 41 10 rfl dX9_sample_67 ck9 rfl (by decide) rfl (by decide) w745 rfl (v := (2, 50)) rfl ?_
      refine s_iload_n 71 1 rfl dX9_sample_70 rfl rfl ?_
      have c9 := H.1
      replace H := H.2
      have c10 := H.1
      replace H := H.2
      refine s_iald 72 rfl dX9_sample_71 ia50 c9 c10 (v9 := h4 50 x1) rfl ?_
      exact s_iret (S := []) dX9_sample_72 rfl H
    · refine s_tsw 73 dX9_sample_15 (by omega) (by omega) (by rw [c4]; rfl) (by decide) ?_
      replace H := H.2.2.2.2.1 c4
      refine s_aload_n 74 0 rfl dX9_sample_73 rfl rfl ?_
      refine s_getf 77 41 8 rfl dX9_sample_74 ck9 rfl (by decide) rfl (by decide) w743 rfl (v := (2, 48)) rfl ?_
      refine s_iload_n 78 1 rfl dX9_sample_77 rfl rfl ?_
      have c11 := H.1
      replace H := H.2
      have c12 := H.1
      replace H := H.2
      refine s_iald 79 rfl dX9_sample_78 ia48 c11 c12 (v9 := h4 48 x1) rfl ?_
      exact s_iret (S := []) dX9_sample_79 rfl H
    · refine s_tsw 80 dX9_sample_15 (by omega) (by omega) (by rw [c4]; rfl) (by decide) ?_
      replace H := H.2.2.2.2.2.1 c4
      refine s_aload_n 81 0 rfl dX9_sample_80 rfl rfl ?_
      refine s_getf 84 41 19 rfl dX9_sample_81 ck9 rfl (by decide) rfl (by decide) w754 rfl (v := (2, 56)) rfl ?_
      refine s_iload_n 85 1 rfl dX9_sample_84 rfl rfl ?_
      have c13 := H.1
      replace H := H.2
      have c14 := H.1
      replace H := H.2
      refine s_iald 86 rfl dX9_sample_85 ia56 c13 c14 (v9 := h4 56 x1) rfl ?_
      exact s_iret (S := []) dX9_sample_86 rfl H
    · refine s_tsw 87 dX9_sample_15 (by omega) (by omega) (by rw [c4]; rfl) (by decide) ?_
      replace H := H.2.2.2.2.2.2 c4
      refine s_aload_n 88 0 rfl dX9_sample_87 rfl rfl ?_
      refine s_getf 91 41 4 rfl dX9_sample_88 ck9 rfl (by decide) rfl (by decide) w739 rfl (v := (2, 46)) rfl ?_
      refine s_iload_n 92 1 rfl dX9_sample_91 rfl rfl ?_
      have c15 := H.1
      replace H := H.2
      have c16 := H.1
      replace H := H.2
      refine s_iald 93 rfl dX9_sample_92 ia46 c15 c16 (v9 := h4 46 x1) rfl ?_
      exact s_iret (S := []) dX9_sample_93 rfl H
  · replace H := H.2 c17
    refine s_iconst 9 rfl dX9_sample_8 ⟨by decide, by decide⟩ ?_
    exact s_iret (S := []) dX9_sample_9 rfl H
theorem vX9_through_0 {X : Nat × (Int → Int)} {h : HP} {Q : Int → HP → Prop} {x1 x2 : Int} (H : Wd mX9_isSample X 0 [(2, 41), (0, x1)] [] h (fun r1 h2 => ((r1 = 0 → (Q (-32768) h2)) ∧ (¬ r1 = 0 → (Wd mX9_isIn X 0 [(0, x2), (0, 0), (0, h2 41 6)] [] h2 (fun r3 h4 => ((¬ r3 = 0 → (Wd mX9_laysShown X 0 [(2, 41), (0, x2), (9, 0), (9, 0)] [] h4 (fun _ h6 => 0 ≤ x1 ∧ x1 < 600 ∧ Q (h6 50 x1) h6))) ∧ (r3 = 0 → (Q (-32768) h4))))))))) : Wd mX9_through X 0 [(2, 41), (0, x1), (0, x2)] [] h Q := by
  refine s_aload_n 1 0 rfl dX9_through_0 rfl rfl ?_
  refine s_iload_n 2 1 rfl dX9_through_1 rfl rfl ?_
  refine s_callV (mj := mX9_isSample) (S := []) 5 [(0, x1)] [(2, 41), (0, x1)] 41 rfl dX9_through_2 okX9_isSample w974 w976 w34 rfl (by decide) rfl rfl rfl rfl npX9_isSample (Nat.le_of_ble_eq_true rfl) (by decide) (Nat.le_of_ble_eq_true rfl) rfl (Wd.imp H (fun r1 h2 H => ?_))
  show Wd mX9_through X 5 [(2, 41), (0, x1), (0, x2)] [(0, r1)] h2 Q
  refine s_if_eq 8 20 rfl dX9_through_5 (by decide) (fun c9 => ?_) (fun c9 => ?_)
  · replace H := H.1 c9
    refine s_sipush 23 rfl dX9_through_20 (by decide) ⟨by decide, by decide⟩ ?_
    exact s_iret (S := []) dX9_through_23 rfl H
  · replace H := H.2 c9
    refine s_iload_n 9 2 rfl dX9_through_8 rfl rfl ?_
    refine s_iconst 10 rfl dX9_through_9 ⟨by decide, by decide⟩ ?_
    refine s_aload_n 11 0 rfl dX9_through_10 rfl rfl ?_
    refine s_getf 14 41 6 rfl dX9_through_11 ck9 rfl (by decide) rfl (by decide) w741 rfl (v := (0, h2 41 6)) rfl ?_
    refine s_callS (mj := mX9_isIn) (S := []) 17 [(0, x2), (0, 0), (0, h2 41 6)] [(0, x2), (0, 0), (0, h2 41 6)] rfl dX9_through_14 okX9_isIn w834 w835 rfl npX9_isIn (Nat.le_of_ble_eq_true rfl) (by decide) (Nat.le_of_ble_eq_true rfl) rfl (Wd.imp H (fun r3 h4 H => ?_))
    show Wd mX9_through X 17 [(2, 41), (0, x1), (0, x2)] [(0, r3)] h4 Q
    refine s_if_ne 20 24 rfl dX9_through_17 (by decide) (fun c8 => ?_) (fun c8 => ?_)
    · replace H := H.1 c8
      refine s_aload_n 25 0 rfl dX9_through_24 rfl rfl ?_
      refine s_iload_n 26 2 rfl dX9_through_25 rfl rfl ?_
      refine s_callV (mj := mX9_laysShown) (S := []) 29 [(0, x2)] [(2, 41), (0, x2), (9, 0), (9, 0)] 41 rfl dX9_through_26 okX9_laysShown w882 w884 w13 rfl (by decide) rfl rfl rfl rfl npX9_laysShown (Nat.le_of_ble_eq_true rfl) (by decide) (Nat.le_of_ble_eq_true rfl) rfl (Wd.imp H (fun _ h6 H => ?_))
      show Wd mX9_through X 29 [(2, 41), (0, x1), (0, x2)] [] h6 Q
      refine s_aload_n 30 0 rfl dX9_through_29 rfl rfl ?_
      refine s_getf 33 41 10 rfl dX9_through_30 ck9 rfl (by decide) rfl (by decide) w745 rfl (v := (2, 50)) rfl ?_
      refine s_iload_n 34 1 rfl dX9_through_33 rfl rfl ?_
      have c6 := H.1
      replace H := H.2
      have c7 := H.1
      replace H := H.2
      refine s_iald 35 rfl dX9_through_34 ia50 c6 c7 (v9 := h6 50 x1) rfl ?_
      exact s_iret (S := []) dX9_through_35 rfl H
    · replace H := H.2 c8
      refine s_sipush 23 rfl dX9_through_20 (by decide) ⟨by decide, by decide⟩ ?_
      exact s_iret (S := []) dX9_through_23 rfl H
theorem vX9_extreme_0 {X : Nat × (Int → Int)} {h : HP} {Q : Int → HP → Prop} {x1 x2 : Int} (H : 0 ≤ x1 ∧ x1 < 601 ∧ 0 ≤ h 49 x1 ∧ h 49 x1 < 600 ∧ Wd mX9_extreme X 20 [(2, 41), (0, x1), (0, x2), (0, h 50 (h 49 x1)), (0, h 49 x1)] [] h Q) : Wd mX9_extreme X 0 [(2, 41), (0, x1), (0, x2), (9, 0), (9, 0)] [] h Q := by
  refine s_aload_n 1 0 rfl dX9_extreme_0 rfl rfl ?_
  refine s_getf 4 41 10 rfl dX9_extreme_1 ck9 rfl (by decide) rfl (by decide) w745 rfl (v := (2, 50)) rfl ?_
  refine s_aload_n 5 0 rfl dX9_extreme_4 rfl rfl ?_
  refine s_getf 8 41 9 rfl dX9_extreme_5 ck9 rfl (by decide) rfl (by decide) w744 rfl (v := (2, 49)) rfl ?_
  refine s_iload_n 9 1 rfl dX9_extreme_8 rfl rfl ?_
  have c0 := H.1
  replace H := H.2
  have c1 := H.1
  replace H := H.2
  refine s_iald 10 rfl dX9_extreme_9 ia49 c0 c1 (v9 := h 49 x1) rfl ?_
  have c2 := H.1
  replace H := H.2
  have c3 := H.1
  replace H := H.2
  refine s_iald 11 rfl dX9_extreme_10 ia50 c2 c3 (v9 := h 50 (h 49 x1)) rfl ?_
  refine s_istore_n 12 3 rfl dX9_extreme_11 rfl (by decide) (L2 := [(2, 41), (0, x1), (0, x2), (0, h 50 (h 49 x1)), (9, 0)]) rfl ?_
  refine s_aload_n 13 0 rfl dX9_extreme_12 rfl rfl ?_
  refine s_getf 16 41 9 rfl dX9_extreme_13 ck9 rfl (by decide) rfl (by decide) w744 rfl (v := (2, 49)) rfl ?_
  refine s_iload_n 17 1 rfl dX9_extreme_16 rfl rfl ?_
  refine s_iald 18 rfl dX9_extreme_17 ia49 c0 c1 (v9 := h 49 x1) rfl ?_
  refine s_istore 20 4 rfl dX9_extreme_18 (by decide) (L2 := [(2, 41), (0, x1), (0, x2), (0, h 50 (h 49 x1)), (0, h 49 x1)]) rfl ?_
  exact H
theorem vX9_extreme_20 {X : Nat × (Int → Int)} {h : HP} {Q : Int → HP → Prop} {x1 x2 x3 x4 : Int} (H : ((h 41 5 ≤ x4 → (Q x3 h)) ∧ (¬ (h 41 5 ≤ x4) → (0 ≤ x4 ∧ x4 < 600 ∧ ((¬ h 48 x4 = x1 → (Q x3 h)) ∧ (h 48 x4 = x1 → ((x2 = 0 → ((x3 ≤ h 50 x4 → (inI (x4 + 1) ∧ Wd mX9_extreme X 20 [(2, 41), (0, x1), (0, x2), (0, x3), (0, x4 + 1)] [] h Q)) ∧ (¬ (x3 ≤ h 50 x4) → (inI (x4 + 1) ∧ Wd mX9_extreme X 20 [(2, 41), (0, x1), (0, x2), (0, h 50 x4), (0, x4 + 1)] [] h Q)))) ∧ (¬ x2 = 0 → ((h 50 x4 ≤ x3 → (inI (x4 + 1) ∧ Wd mX9_extreme X 20 [(2, 41), (0, x1), (0, x2), (0, x3), (0, x4 + 1)] [] h Q)) ∧ (¬ (h 50 x4 ≤ x3) → (inI (x4 + 1) ∧ Wd mX9_extreme X 20 [(2, 41), (0, x1), (0, x2), (0, h 50 x4), (0, x4 + 1)] [] h Q))))))))))) : Wd mX9_extreme X 20 [(2, 41), (0, x1), (0, x2), (0, x3), (0, x4)] [] h Q := by
  refine s_iload 22 4 rfl dX9_extreme_20 rfl ?_
  refine s_aload_n 23 0 rfl dX9_extreme_22 rfl rfl ?_
  refine s_getf 26 41 5 rfl dX9_extreme_23 ck9 rfl (by decide) rfl (by decide) w740 rfl (v := (0, h 41 5)) rfl ?_
  refine s_icmp_ge 29 83 rfl dX9_extreme_26 (by decide) (fun c10 => ?_) (fun c10 => ?_)
  · replace H := H.1 c10
    refine s_iload_n 84 3 rfl dX9_extreme_83 rfl rfl ?_
    exact s_iret (S := []) dX9_extreme_84 rfl H
  · replace H := H.2 c10
    refine s_aload_n 30 0 rfl dX9_extreme_29 rfl rfl ?_
    refine s_getf 33 41 8 rfl dX9_extreme_30 ck9 rfl (by decide) rfl (by decide) w743 rfl (v := (2, 48)) rfl ?_
    refine s_iload 35 4 rfl dX9_extreme_33 rfl ?_
    have c0 := H.1
    replace H := H.2
    have c1 := H.1
    replace H := H.2
    refine s_iald 36 rfl dX9_extreme_35 ia48 c0 c1 (v9 := h 48 x4) rfl ?_
    refine s_iload_n 37 1 rfl dX9_extreme_36 rfl rfl ?_
    refine s_icmp_ne 40 83 rfl dX9_extreme_37 (by decide) (fun c9 => ?_) (fun c9 => ?_)
    · replace H := H.1 c9
      refine s_iload_n 84 3 rfl dX9_extreme_83 rfl rfl ?_
      exact s_iret (S := []) dX9_extreme_84 rfl H
    · replace H := H.2 c9
      refine s_iload_n 41 2 rfl dX9_extreme_40 rfl rfl ?_
      refine s_if_eq 44 58 rfl dX9_extreme_41 (by decide) (fun c8 => ?_) (fun c8 => ?_)
      · replace H := H.1 c8
        refine s_aload_n 59 0 rfl dX9_extreme_58 rfl rfl ?_
        refine s_getf 62 41 10 rfl dX9_extreme_59 ck9 rfl (by decide) rfl (by decide) w745 rfl (v := (2, 50)) rfl ?_
        refine s_iload 64 4 rfl dX9_extreme_62 rfl ?_
        refine s_iald 65 rfl dX9_extreme_64 ia50 c0 c1 (v9 := h 50 x4) rfl ?_
        refine s_iload_n 66 3 rfl dX9_extreme_65 rfl rfl ?_
        refine s_icmp_ge 69 77 rfl dX9_extreme_66 (by decide) (fun c4 => ?_) (fun c4 => ?_)
        · replace H := H.1 c4
          have c2 := H.1
          replace H := H.2
          refine s_iinc 80 4 rfl dX9_extreme_77 (by decide) (z := x4) rfl (L2 := [(2, 41), (0, x1), (0, x2), (0, x3), (0, x4 + 1)]) rfl c2 ?_
          refine s_goto 20 dX9_extreme_80 (by decide) ?_
          exact H
        · replace H := H.2 c4
          refine s_aload_n 70 0 rfl dX9_extreme_69 rfl rfl ?_
          refine s_getf 73 41 10 rfl dX9_extreme_70 ck9 rfl (by decide) rfl (by decide) w745 rfl (v := (2, 50)) rfl ?_
          refine s_iload 75 4 rfl dX9_extreme_73 rfl ?_
          refine s_iald 76 rfl dX9_extreme_75 ia50 c0 c1 (v9 := h 50 x4) rfl ?_
          refine s_istore_n 77 3 rfl dX9_extreme_76 rfl (by decide) (L2 := [(2, 41), (0, x1), (0, x2), (0, h 50 x4), (0, x4)]) rfl ?_
          have c3 := H.1
          replace H := H.2
          refine s_iinc 80 4 rfl dX9_extreme_77 (by decide) (z := x4) rfl (L2 := [(2, 41), (0, x1), (0, x2), (0, h 50 x4), (0, x4 + 1)]) rfl c3 ?_
          refine s_goto 20 dX9_extreme_80 (by decide) ?_
          exact H
      · replace H := H.2 c8
        refine s_aload_n 45 0 rfl dX9_extreme_44 rfl rfl ?_
        refine s_getf 48 41 10 rfl dX9_extreme_45 ck9 rfl (by decide) rfl (by decide) w745 rfl (v := (2, 50)) rfl ?_
        refine s_iload 50 4 rfl dX9_extreme_48 rfl ?_
        refine s_iald 51 rfl dX9_extreme_50 ia50 c0 c1 (v9 := h 50 x4) rfl ?_
        refine s_iload_n 52 3 rfl dX9_extreme_51 rfl rfl ?_
        refine s_icmp_le 55 77 rfl dX9_extreme_52 (by decide) (fun c7 => ?_) (fun c7 => ?_)
        · replace H := H.1 c7
          have c5 := H.1
          replace H := H.2
          refine s_iinc 80 4 rfl dX9_extreme_77 (by decide) (z := x4) rfl (L2 := [(2, 41), (0, x1), (0, x2), (0, x3), (0, x4 + 1)]) rfl c5 ?_
          refine s_goto 20 dX9_extreme_80 (by decide) ?_
          exact H
        · replace H := H.2 c7
          refine s_goto 69 dX9_extreme_55 (by decide) ?_
          refine s_aload_n 70 0 rfl dX9_extreme_69 rfl rfl ?_
          refine s_getf 73 41 10 rfl dX9_extreme_70 ck9 rfl (by decide) rfl (by decide) w745 rfl (v := (2, 50)) rfl ?_
          refine s_iload 75 4 rfl dX9_extreme_73 rfl ?_
          refine s_iald 76 rfl dX9_extreme_75 ia50 c0 c1 (v9 := h 50 x4) rfl ?_
          refine s_istore_n 77 3 rfl dX9_extreme_76 rfl (by decide) (L2 := [(2, 41), (0, x1), (0, x2), (0, h 50 x4), (0, x4)]) rfl ?_
          have c6 := H.1
          replace H := H.2
          refine s_iinc 80 4 rfl dX9_extreme_77 (by decide) (z := x4) rfl (L2 := [(2, 41), (0, x1), (0, x2), (0, h 50 x4), (0, x4 + 1)]) rfl c6 ?_
          refine s_goto 20 dX9_extreme_80 (by decide) ?_
          exact H
theorem vX9_stretch_0 {X : Nat × (Int → Int)} {h : HP} {Q : Int → HP → Prop} {x1 x2 : Int} (H : Wd mX9_laysWaves X 0 [(2, 41), (9, 0), (9, 0), (9, 0)] [] h (fun _ h2 => inI (h2 41 12 - 1) ∧ Wd mX9_isIn X 0 [(0, x1), (0, 0), (0, h2 41 12 - 1)] [] h2 (fun r4 h5 => ((¬ r4 = 0 → (0 ≤ x1 ∧ x1 < 601 ∧ Wd mX9_endOf X 0 [(2, 41), (0, x1), (9, 0)] [] h5 (fun r8 h9 => ((x2 < 0 ∨ 7 < x2 → (Q (-1) h9)) ∧ (x2 = 0 → (Q (h5 49 x1) h9)) ∧ (x2 = 1 → (inI (r8 - h5 49 x1) ∧ Q (r8 - h5 49 x1) h9)) ∧ (x2 = 2 → (Q (h9 52 x1) h9)) ∧ (x2 = 3 → ((h9 53 x1 ≤ 1 → (Q 0 h9)) ∧ (¬ (h9 53 x1 ≤ 1) → (inI (h9 53 x1 - 1) ∧ Q (h9 53 x1 - 1) h9)))) ∧ (x2 = 4 → ((¬ h9 53 x1 = 0 → (inI (h9 54 x1 - h5 49 x1) ∧ Q (h9 54 x1 - h5 49 x1) h9)) ∧ (h9 53 x1 = 0 → (inI (r8 - h5 49 x1) ∧ Q (r8 - h5 49 x1) h9)))) ∧ (x2 = 5 → ((¬ h9 53 x1 = 0 → (inI (r8 - h9 55 x1) ∧ Q (r8 - h9 55 x1) h9)) ∧ (h9 53 x1 = 0 → (Q 0 h9)))) ∧ (x2 = 6 → (Wd mX9_extreme X 0 [(2, 41), (0, x1), (0, 1), (9, 0), (9, 0)] [] h9 (fun r19 h20 => Q r19 h20))) ∧ (x2 = 7 → (Wd mX9_extreme X 0 [(2, 41), (0, x1), (0, 0), (9, 0), (9, 0)] [] h9 (fun r21 h22 => Q r21 h22))))))) ∧ (r4 = 0 → (Q (-1) h5)))))) : Wd mX9_stretch X 0 [(2, 41), (0, x1), (0, x2), (9, 0), (9, 0)] [] h Q := by
  refine s_aload_n 1 0 rfl dX9_stretch_0 rfl rfl ?_
  refine s_callV (mj := mX9_laysWaves) (S := []) 4 [] [(2, 41), (9, 0), (9, 0), (9, 0)] 41 rfl dX9_stretch_1 okX9_laysWaves w878 w880 w12 rfl (by decide) rfl rfl rfl rfl npX9_laysWaves (Nat.le_of_ble_eq_true rfl) (by decide) (Nat.le_of_ble_eq_true rfl) rfl (Wd.imp H (fun _ h2 H => ?_))
  show Wd mX9_stretch X 4 [(2, 41), (0, x1), (0, x2), (9, 0), (9, 0)] [] h2 Q
  refine s_iload_n 5 1 rfl dX9_stretch_4 rfl rfl ?_
  refine s_iconst 6 rfl dX9_stretch_5 ⟨by decide, by decide⟩ ?_
  refine s_aload_n 7 0 rfl dX9_stretch_6 rfl rfl ?_
  refine s_getf 10 41 12 rfl dX9_stretch_7 ck9 rfl (by decide) rfl (by decide) w747 rfl (v := (0, h2 41 12)) rfl ?_
  refine s_iconst 11 rfl dX9_stretch_10 ⟨by decide, by decide⟩ ?_
  have c2 := H.1
  replace H := H.2
  refine s_isub 12 rfl dX9_stretch_11 c2 ?_
  refine s_callS (mj := mX9_isIn) (S := []) 15 [(0, x1), (0, 0), (0, h2 41 12 - 1)] [(0, x1), (0, 0), (0, h2 41 12 - 1)] rfl dX9_stretch_12 okX9_isIn w834 w835 rfl npX9_isIn (Nat.le_of_ble_eq_true rfl) (by decide) (Nat.le_of_ble_eq_true rfl) rfl (Wd.imp H (fun r4 h5 H => ?_))
  show Wd mX9_stretch X 15 [(2, 41), (0, x1), (0, x2), (9, 0), (9, 0)] [(0, r4)] h5 Q
  refine s_if_ne 18 20 rfl dX9_stretch_15 (by decide) (fun c22 => ?_) (fun c22 => ?_)
  · replace H := H.1 c22
    refine s_aload_n 21 0 rfl dX9_stretch_20 rfl rfl ?_
    refine s_getf 24 41 9 rfl dX9_stretch_21 ck9 rfl (by decide) rfl (by decide) w744 rfl (v := (2, 49)) rfl ?_
    refine s_iload_n 25 1 rfl dX9_stretch_24 rfl rfl ?_
    have c5 := H.1
    replace H := H.2
    have c6 := H.1
    replace H := H.2
    refine s_iald 26 rfl dX9_stretch_25 ia49 c5 c6 (v9 := h5 49 x1) rfl ?_
    refine s_istore_n 27 3 rfl dX9_stretch_26 rfl (by decide) (L2 := [(2, 41), (0, x1), (0, x2), (0, h5 49 x1), (9, 0)]) rfl ?_
    refine s_aload_n 28 0 rfl dX9_stretch_27 rfl rfl ?_
    refine s_iload_n 29 1 rfl dX9_stretch_28 rfl rfl ?_
    refine s_callV (mj := mX9_endOf) (S := []) 32 [(0, x1)] [(2, 41), (0, x1), (9, 0)] 41 rfl dX9_stretch_29 okX9_endOf w906 w908 w18 rfl (by decide) rfl rfl rfl rfl npX9_endOf (Nat.le_of_ble_eq_true rfl) (by decide) (Nat.le_of_ble_eq_true rfl) rfl (Wd.imp H (fun r8 h9 H => ?_))
    show Wd mX9_stretch X 32 [(2, 41), (0, x1), (0, x2), (0, h5 49 x1), (9, 0)] [(0, r8)] h9 Q
    refine s_istore 34 4 rfl dX9_stretch_32 (by decide) (L2 := [(2, 41), (0, x1), (0, x2), (0, h5 49 x1), (0, r8)]) rfl ?_
    refine s_iload_n 35 2 rfl dX9_stretch_34 rfl rfl ?_
    rcases (by omega : (x2 < 0 ∨ 7 < x2) ∨ x2 = 0 ∨ x2 = 1 ∨ x2 = 2 ∨ x2 = 3 ∨ x2 = 4 ∨ x2 = 5 ∨ x2 = 6 ∨ x2 = 7) with c9 | c9 | c9 | c9 | c9 | c9 | c9 | c9 | c9
    · refine s_tsd 179 dX9_stretch_35 c9 (by decide) ?_
      replace H := H.1 c9
      refine s_iconst 180 rfl dX9_stretch_179 ⟨by decide, by decide⟩ ?_
      exact s_iret (S := []) dX9_stretch_180 rfl H
    · refine s_tsw 80 dX9_stretch_35 (by omega) (by omega) (by rw [c9]; rfl) (by decide) ?_
      replace H := H.2.1 c9
      refine s_iload_n 81 3 rfl dX9_stretch_80 rfl rfl ?_
      exact s_iret (S := []) dX9_stretch_81 rfl H
    · refine s_tsw 82 dX9_stretch_35 (by omega) (by omega) (by rw [c9]; rfl) (by decide) ?_
      replace H := H.2.2.1 c9
      refine s_iload 84 4 rfl dX9_stretch_82 rfl ?_
      refine s_iload_n 85 3 rfl dX9_stretch_84 rfl rfl ?_
      have c10 := H.1
      replace H := H.2
      refine s_isub 86 rfl dX9_stretch_85 c10 ?_
      exact s_iret (S := []) dX9_stretch_86 rfl H
    · refine s_tsw 87 dX9_stretch_35 (by omega) (by omega) (by rw [c9]; rfl) (by decide) ?_
      replace H := H.2.2.2.1 c9
      refine s_aload_n 88 0 rfl dX9_stretch_87 rfl rfl ?_
      refine s_getf 91 41 15 rfl dX9_stretch_88 ck9 rfl (by decide) rfl (by decide) w750 rfl (v := (2, 52)) rfl ?_
      refine s_iload_n 92 1 rfl dX9_stretch_91 rfl rfl ?_
      refine s_iald 93 rfl dX9_stretch_92 ia52 c5 c6 (v9 := h9 52 x1) rfl ?_
      exact s_iret (S := []) dX9_stretch_93 rfl H
    · refine s_tsw 94 dX9_stretch_35 (by omega) (by omega) (by rw [c9]; rfl) (by decide) ?_
      replace H := H.2.2.2.2.1 c9
      refine s_aload_n 95 0 rfl dX9_stretch_94 rfl rfl ?_
      refine s_getf 98 41 16 rfl dX9_stretch_95 ck9 rfl (by decide) rfl (by decide) w751 rfl (v := (2, 53)) rfl ?_
      refine s_iload_n 99 1 rfl dX9_stretch_98 rfl rfl ?_
      refine s_iald 100 rfl dX9_stretch_99 ia53 c5 c6 (v9 := h9 53 x1) rfl ?_
      refine s_iconst 101 rfl dX9_stretch_100 ⟨by decide, by decide⟩ ?_
      refine s_icmp_le 104 115 rfl dX9_stretch_101 (by decide) (fun c12 => ?_) (fun c12 => ?_)
      · replace H := H.1 c12
        refine s_iconst 116 rfl dX9_stretch_115 ⟨by decide, by decide⟩ ?_
        exact s_iret (S := []) dX9_stretch_116 rfl H
      · replace H := H.2 c12
        refine s_aload_n 105 0 rfl dX9_stretch_104 rfl rfl ?_
        refine s_getf 108 41 16 rfl dX9_stretch_105 ck9 rfl (by decide) rfl (by decide) w751 rfl (v := (2, 53)) rfl ?_
        refine s_iload_n 109 1 rfl dX9_stretch_108 rfl rfl ?_
        refine s_iald 110 rfl dX9_stretch_109 ia53 c5 c6 (v9 := h9 53 x1) rfl ?_
        refine s_iconst 111 rfl dX9_stretch_110 ⟨by decide, by decide⟩ ?_
        have c11 := H.1
        replace H := H.2
        refine s_isub 112 rfl dX9_stretch_111 c11 ?_
        refine s_goto 116 dX9_stretch_112 (by decide) ?_
        exact s_iret (S := []) dX9_stretch_116 rfl H
    · refine s_tsw 117 dX9_stretch_35 (by omega) (by omega) (by rw [c9]; rfl) (by decide) ?_
      replace H := H.2.2.2.2.2.1 c9
      refine s_aload_n 118 0 rfl dX9_stretch_117 rfl rfl ?_
      refine s_getf 121 41 16 rfl dX9_stretch_118 ck9 rfl (by decide) rfl (by decide) w751 rfl (v := (2, 53)) rfl ?_
      refine s_iload_n 122 1 rfl dX9_stretch_121 rfl rfl ?_
      refine s_iald 123 rfl dX9_stretch_122 ia53 c5 c6 (v9 := h9 53 x1) rfl ?_
      refine s_if_ne 126 133 rfl dX9_stretch_123 (by decide) (fun c15 => ?_) (fun c15 => ?_)
      · replace H := H.1 c15
        refine s_aload_n 134 0 rfl dX9_stretch_133 rfl rfl ?_
        refine s_getf 137 41 17 rfl dX9_stretch_134 ck9 rfl (by decide) rfl (by decide) w752 rfl (v := (2, 54)) rfl ?_
        refine s_iload_n 138 1 rfl dX9_stretch_137 rfl rfl ?_
        refine s_iald 139 rfl dX9_stretch_138 ia54 c5 c6 (v9 := h9 54 x1) rfl ?_
        refine s_iload_n 140 3 rfl dX9_stretch_139 rfl rfl ?_
        have c13 := H.1
        replace H := H.2
        refine s_isub 141 rfl dX9_stretch_140 c13 ?_
        exact s_iret (S := []) dX9_stretch_141 rfl H
      · replace H := H.2 c15
        refine s_iload 128 4 rfl dX9_stretch_126 rfl ?_
        refine s_iload_n 129 3 rfl dX9_stretch_128 rfl rfl ?_
        have c14 := H.1
        replace H := H.2
        refine s_isub 130 rfl dX9_stretch_129 c14 ?_
        refine s_goto 141 dX9_stretch_130 (by decide) ?_
        exact s_iret (S := []) dX9_stretch_141 rfl H
    · refine s_tsw 142 dX9_stretch_35 (by omega) (by omega) (by rw [c9]; rfl) (by decide) ?_
      replace H := H.2.2.2.2.2.2.1 c9
      refine s_aload_n 143 0 rfl dX9_stretch_142 rfl rfl ?_
      refine s_getf 146 41 16 rfl dX9_stretch_143 ck9 rfl (by decide) rfl (by decide) w751 rfl (v := (2, 53)) rfl ?_
      refine s_iload_n 147 1 rfl dX9_stretch_146 rfl rfl ?_
      refine s_iald 148 rfl dX9_stretch_147 ia53 c5 c6 (v9 := h9 53 x1) rfl ?_
      refine s_if_ne 151 155 rfl dX9_stretch_148 (by decide) (fun c17 => ?_) (fun c17 => ?_)
      · replace H := H.1 c17
        refine s_iload 157 4 rfl dX9_stretch_155 rfl ?_
        refine s_aload_n 158 0 rfl dX9_stretch_157 rfl rfl ?_
        refine s_getf 161 41 18 rfl dX9_stretch_158 ck9 rfl (by decide) rfl (by decide) w753 rfl (v := (2, 55)) rfl ?_
        refine s_iload_n 162 1 rfl dX9_stretch_161 rfl rfl ?_
        refine s_iald 163 rfl dX9_stretch_162 ia55 c5 c6 (v9 := h9 55 x1) rfl ?_
        have c16 := H.1
        replace H := H.2
        refine s_isub 164 rfl dX9_stretch_163 c16 ?_
        exact s_iret (S := []) dX9_stretch_164 rfl H
      · replace H := H.2 c17
        refine s_iconst 152 rfl dX9_stretch_151 ⟨by decide, by decide⟩ ?_
        refine s_goto 164 dX9_stretch_152 (by decide) ?_
        exact s_iret (S := []) dX9_stretch_164 rfl H
    · refine s_tsw 165 dX9_stretch_35 (by omega) (by omega) (by rw [c9]; rfl) (by decide) ?_
      replace H := H.2.2.2.2.2.2.2.1 c9
      refine s_aload_n 166 0 rfl dX9_stretch_165 rfl rfl ?_
      refine s_iload_n 167 1 rfl dX9_stretch_166 rfl rfl ?_
      refine s_iconst 168 rfl dX9_stretch_167 ⟨by decide, by decide⟩ ?_
      refine s_callV (mj := mX9_extreme) (S := []) 171 [(0, x1), (0, 1)] [(2, 41), (0, x1), (0, 1), (9, 0), (9, 0)] 41 rfl dX9_stretch_168 okX9_extreme w986 w988 w35 rfl (by decide) rfl rfl rfl rfl npX9_extreme (Nat.le_of_ble_eq_true rfl) (by decide) (Nat.le_of_ble_eq_true rfl) rfl (Wd.imp H (fun r19 h20 H => ?_))
      show Wd mX9_stretch X 171 [(2, 41), (0, x1), (0, x2), (0, h5 49 x1), (0, r8)] [(0, r19)] h20 Q
      exact s_iret (S := []) dX9_stretch_171 rfl H
    · refine s_tsw 172 dX9_stretch_35 (by omega) (by omega) (by rw [c9]; rfl) (by decide) ?_
      replace H := H.2.2.2.2.2.2.2.2 c9
      refine s_aload_n 173 0 rfl dX9_stretch_172 rfl rfl ?_
      refine s_iload_n 174 1 rfl dX9_stretch_173 rfl rfl ?_
      refine s_iconst 175 rfl dX9_stretch_174 ⟨by decide, by decide⟩ ?_
      refine s_callV (mj := mX9_extreme) (S := []) 178 [(0, x1), (0, 0)] [(2, 41), (0, x1), (0, 0), (9, 0), (9, 0)] 41 rfl dX9_stretch_175 okX9_extreme w986 w988 w35 rfl (by decide) rfl rfl rfl rfl npX9_extreme (Nat.le_of_ble_eq_true rfl) (by decide) (Nat.le_of_ble_eq_true rfl) rfl (Wd.imp H (fun r21 h22 H => ?_))
      show Wd mX9_stretch X 178 [(2, 41), (0, x1), (0, x2), (0, h5 49 x1), (0, r8)] [(0, r21)] h22 Q
      exact s_iret (S := []) dX9_stretch_178 rfl H
  · replace H := H.2 c22
    refine s_iconst 19 rfl dX9_stretch_18 ⟨by decide, by decide⟩ ?_
    exact s_iret (S := []) dX9_stretch_19 rfl H
theorem vX9_isWave_0 {X : Nat × (Int → Int)} {h : HP} {Q : Int → HP → Prop} {x1 : Int} (H : inI (h 41 28 - 1) ∧ Wd mX9_isIn X 0 [(0, x1), (0, 0), (0, h 41 28 - 1)] [] h (fun r2 h3 => (r2 = 0 ∨ r2 = 1) ∧ Q r2 h3)) : Wd mX9_isWave X 0 [(2, 41), (0, x1)] [] h Q := by
  refine s_iload_n 1 1 rfl dX9_isWave_0 rfl rfl ?_
  refine s_iconst 2 rfl dX9_isWave_1 ⟨by decide, by decide⟩ ?_
  refine s_aload_n 3 0 rfl dX9_isWave_2 rfl rfl ?_
  refine s_getf 6 41 28 rfl dX9_isWave_3 ck9 rfl (by decide) rfl (by decide) w763 rfl (v := (0, h 41 28)) rfl ?_
  refine s_iconst 7 rfl dX9_isWave_6 ⟨by decide, by decide⟩ ?_
  have c0 := H.1
  replace H := H.2
  refine s_isub 8 rfl dX9_isWave_7 c0 ?_
  refine s_callS (mj := mX9_isIn) (S := []) 11 [(0, x1), (0, 0), (0, h 41 28 - 1)] [(0, x1), (0, 0), (0, h 41 28 - 1)] rfl dX9_isWave_8 okX9_isIn w834 w835 rfl npX9_isIn (Nat.le_of_ble_eq_true rfl) (by decide) (Nat.le_of_ble_eq_true rfl) rfl (Wd.imp H (fun r2 h3 H => ?_))
  show Wd mX9_isWave X 11 [(2, 41), (0, x1)] [(0, r2)] h3 Q
  exact s_zret (S := []) dX9_isWave_11 rfl H.1 H.2
theorem vX9_borne_0 {X : Nat × (Int → Int)} {h : HP} {Q : Int → HP → Prop} {x1 : Int} (H : 0 ≤ x1 ∧ x1 < 301 ∧ Wd mX9_borne X 9 [(2, 41), (0, x1), (0, (-1)), (0, h 57 x1)] [] h Q) : Wd mX9_borne X 0 [(2, 41), (0, x1), (9, 0), (9, 0)] [] h Q := by
  refine s_iconst 1 rfl dX9_borne_0 ⟨by decide, by decide⟩ ?_
  refine s_istore_n 2 2 rfl dX9_borne_1 rfl (by decide) (L2 := [(2, 41), (0, x1), (0, (-1)), (9, 0)]) rfl ?_
  refine s_aload_n 3 0 rfl dX9_borne_2 rfl rfl ?_
  refine s_getf 6 41 20 rfl dX9_borne_3 ck9 rfl (by decide) rfl (by decide) w755 rfl (v := (2, 57)) rfl ?_
  refine s_iload_n 7 1 rfl dX9_borne_6 rfl rfl ?_
  have c0 := H.1
  replace H := H.2
  have c1 := H.1
  replace H := H.2
  refine s_iald 8 rfl dX9_borne_7 ia57 c0 c1 (v9 := h 57 x1) rfl ?_
  refine s_istore_n 9 3 rfl dX9_borne_8 rfl (by decide) (L2 := [(2, 41), (0, x1), (0, (-1)), (0, h 57 x1)]) rfl ?_
  exact H
theorem vX9_borne_9 {X : Nat × (Int → Int)} {h : HP} {Q : Int → HP → Prop} {x1 x2 x3 : Int} (H : 0 ≤ x1 ∧ x1 < 301 ∧ inI (h 57 x1 + h 58 x1) ∧ (((h 57 x1 + h 58 x1) ≤ x3 → (Q x2 h)) ∧ (¬ ((h 57 x1 + h 58 x1) ≤ x3) → (0 ≤ x3 ∧ x3 < 600 ∧ ((h 46 x3 = (-1) → (inI (x3 + 1) ∧ Wd mX9_borne X 9 [(2, 41), (0, x1), (0, x2), (0, x3 + 1)] [] h Q)) ∧ (¬ h 46 x3 = (-1) → ((x2 = (-1) → (inI (x3 + 1) ∧ Wd mX9_borne X 9 [(2, 41), (0, x1), (0, h 46 x3), (0, x3 + 1)] [] h Q)) ∧ (¬ x2 = (-1) → ((x2 ≤ h 46 x3 → (inI (x3 + 1) ∧ Wd mX9_borne X 9 [(2, 41), (0, x1), (0, x2), (0, x3 + 1)] [] h Q)) ∧ (¬ (x2 ≤ h 46 x3) → (inI (x3 + 1) ∧ Wd mX9_borne X 9 [(2, 41), (0, x1), (0, h 46 x3), (0, x3 + 1)] [] h Q))))))))))) : Wd mX9_borne X 9 [(2, 41), (0, x1), (0, x2), (0, x3)] [] h Q := by
  refine s_iload_n 10 3 rfl dX9_borne_9 rfl rfl ?_
  refine s_aload_n 11 0 rfl dX9_borne_10 rfl rfl ?_
  refine s_getf 14 41 20 rfl dX9_borne_11 ck9 rfl (by decide) rfl (by decide) w755 rfl (v := (2, 57)) rfl ?_
  refine s_iload_n 15 1 rfl dX9_borne_14 rfl rfl ?_
  have c0 := H.1
  replace H := H.2
  have c1 := H.1
  replace H := H.2
  refine s_iald 16 rfl dX9_borne_15 ia57 c0 c1 (v9 := h 57 x1) rfl ?_
  refine s_aload_n 17 0 rfl dX9_borne_16 rfl rfl ?_
  refine s_getf 20 41 21 rfl dX9_borne_17 ck9 rfl (by decide) rfl (by decide) w756 rfl (v := (2, 58)) rfl ?_
  refine s_iload_n 21 1 rfl dX9_borne_20 rfl rfl ?_
  refine s_iald 22 rfl dX9_borne_21 ia58 c0 c1 (v9 := h 58 x1) rfl ?_
  have c2 := H.1
  replace H := H.2
  refine s_iadd 23 rfl dX9_borne_22 c2 ?_
  refine s_icmp_ge 26 64 rfl dX9_borne_23 (by decide) (fun c12 => ?_) (fun c12 => ?_)
  · replace H := H.1 c12
    refine s_iload_n 65 2 rfl dX9_borne_64 rfl rfl ?_
    exact s_iret (S := []) dX9_borne_65 rfl H
  · replace H := H.2 c12
    refine s_aload_n 27 0 rfl dX9_borne_26 rfl rfl ?_
    refine s_getf 30 41 4 rfl dX9_borne_27 ck9 rfl (by decide) rfl (by decide) w739 rfl (v := (2, 46)) rfl ?_
    refine s_iload_n 31 3 rfl dX9_borne_30 rfl rfl ?_
    have c3 := H.1
    replace H := H.2
    have c4 := H.1
    replace H := H.2
    refine s_iald 32 rfl dX9_borne_31 ia46 c3 c4 (v9 := h 46 x3) rfl ?_
    refine s_iconst 33 rfl dX9_borne_32 ⟨by decide, by decide⟩ ?_
    refine s_icmp_eq 36 58 rfl dX9_borne_33 (by decide) (fun c11 => ?_) (fun c11 => ?_)
    · replace H := H.1 c11
      have c5 := H.1
      replace H := H.2
      refine s_iinc 61 3 rfl dX9_borne_58 (by decide) (z := x3) rfl (L2 := [(2, 41), (0, x1), (0, x2), (0, x3 + 1)]) rfl c5 ?_
      refine s_goto 9 dX9_borne_61 (by decide) ?_
      exact H
    · replace H := H.2 c11
      refine s_iload_n 37 2 rfl dX9_borne_36 rfl rfl ?_
      refine s_iconst 38 rfl dX9_borne_37 ⟨by decide, by decide⟩ ?_
      refine s_icmp_eq 41 51 rfl dX9_borne_38 (by decide) (fun c10 => ?_) (fun c10 => ?_)
      · replace H := H.1 c10
        refine s_aload_n 52 0 rfl dX9_borne_51 rfl rfl ?_
        refine s_getf 55 41 4 rfl dX9_borne_52 ck9 rfl (by decide) rfl (by decide) w739 rfl (v := (2, 46)) rfl ?_
        refine s_iload_n 56 3 rfl dX9_borne_55 rfl rfl ?_
        refine s_iald 57 rfl dX9_borne_56 ia46 c3 c4 (v9 := h 46 x3) rfl ?_
        refine s_istore_n 58 2 rfl dX9_borne_57 rfl (by decide) (L2 := [(2, 41), (0, x1), (0, h 46 x3), (0, x3)]) rfl ?_
        have c6 := H.1
        replace H := H.2
        refine s_iinc 61 3 rfl dX9_borne_58 (by decide) (z := x3) rfl (L2 := [(2, 41), (0, x1), (0, h 46 x3), (0, x3 + 1)]) rfl c6 ?_
        refine s_goto 9 dX9_borne_61 (by decide) ?_
        exact H
      · replace H := H.2 c10
        refine s_aload_n 42 0 rfl dX9_borne_41 rfl rfl ?_
        refine s_getf 45 41 4 rfl dX9_borne_42 ck9 rfl (by decide) rfl (by decide) w739 rfl (v := (2, 46)) rfl ?_
        refine s_iload_n 46 3 rfl dX9_borne_45 rfl rfl ?_
        refine s_iald 47 rfl dX9_borne_46 ia46 c3 c4 (v9 := h 46 x3) rfl ?_
        refine s_iload_n 48 2 rfl dX9_borne_47 rfl rfl ?_
        refine s_icmp_ge 51 58 rfl dX9_borne_48 (by decide) (fun c9 => ?_) (fun c9 => ?_)
        · replace H := H.1 c9
          have c7 := H.1
          replace H := H.2
          refine s_iinc 61 3 rfl dX9_borne_58 (by decide) (z := x3) rfl (L2 := [(2, 41), (0, x1), (0, x2), (0, x3 + 1)]) rfl c7 ?_
          refine s_goto 9 dX9_borne_61 (by decide) ?_
          exact H
        · replace H := H.2 c9
          refine s_aload_n 52 0 rfl dX9_borne_51 rfl rfl ?_
          refine s_getf 55 41 4 rfl dX9_borne_52 ck9 rfl (by decide) rfl (by decide) w739 rfl (v := (2, 46)) rfl ?_
          refine s_iload_n 56 3 rfl dX9_borne_55 rfl rfl ?_
          refine s_iald 57 rfl dX9_borne_56 ia46 c3 c4 (v9 := h 46 x3) rfl ?_
          refine s_istore_n 58 2 rfl dX9_borne_57 rfl (by decide) (L2 := [(2, 41), (0, x1), (0, h 46 x3), (0, x3)]) rfl ?_
          have c8 := H.1
          replace H := H.2
          refine s_iinc 61 3 rfl dX9_borne_58 (by decide) (z := x3) rfl (L2 := [(2, 41), (0, x1), (0, h 46 x3), (0, x3 + 1)]) rfl c8 ?_
          refine s_goto 9 dX9_borne_61 (by decide) ?_
          exact H
theorem vX9_wave__0 {X : Nat × (Int → Int)} {h : HP} {Q : Int → HP → Prop} {x1 x2 : Int} (H : Wd mX9_laysWaves X 0 [(2, 41), (9, 0), (9, 0), (9, 0)] [] h (fun _ h2 => Wd mX9_isWave X 0 [(2, 41), (0, x1)] [] h2 (fun r3 h4 => ((¬ r3 = 0 → ((x2 < 0 ∨ 11 < x2 → (Q (-1) h4)) ∧ (x2 = 0 → (0 ≤ x1 ∧ x1 < 301 ∧ Q (h4 57 x1) h4)) ∧ (x2 = 1 → (0 ≤ x1 ∧ x1 < 301 ∧ Q (h4 58 x1) h4)) ∧ (x2 = 2 → (Wd mX9_height X 0 [(2, 41), (0, x1)] [] h4 (fun r10 h11 => Q r10 h11))) ∧ (x2 = 3 → (0 ≤ x1 ∧ x1 < 301 ∧ 0 ≤ h4 62 x1 ∧ h4 62 x1 < 601 ∧ inI (h4 59 x1 - h4 52 (h4 62 x1)) ∧ Q (h4 59 x1 - h4 52 (h4 62 x1)) h4)) ∧ (x2 = 4 → (0 ≤ x1 ∧ x1 < 301 ∧ 0 ≤ h4 62 x1 ∧ h4 62 x1 < 601 ∧ inI (h4 52 (h4 62 x1) - h4 60 x1) ∧ Q (h4 52 (h4 62 x1) - h4 60 x1) h4)) ∧ (x2 = 5 → (0 ≤ x1 ∧ x1 < 301 ∧ Q (h4 61 x1) h4)) ∧ (x2 = 6 → (0 ≤ x1 ∧ x1 < 301 ∧ Q (h4 62 x1) h4)) ∧ (x2 = 7 → (0 ≤ x1 ∧ x1 < 301 ∧ Q (h4 63 x1) h4)) ∧ (x2 = 8 → (Wd mX9_isFreak X 0 [(2, 41), (0, x1)] [] h4 (fun r28 h29 => ((r28 = 0 → (Q 0 h29)) ∧ (¬ r28 = 0 → (Q 1 h29)))))) ∧ (x2 = 9 → (0 ≤ x1 ∧ x1 < 301 ∧ ((h4 64 x1 = 0 → (Q 0 h4)) ∧ (¬ h4 64 x1 = 0 → (Q 1 h4))))) ∧ (x2 = 10 → (Wd mX9_groupOf X 0 [(2, 41), (0, x1), (9, 0), (9, 0)] [] h4 (fun r34 h35 => Q r34 h35))) ∧ (x2 = 11 → (Wd mX9_borne X 0 [(2, 41), (0, x1), (9, 0), (9, 0)] [] h4 (fun r36 h37 => Q r36 h37))))) ∧ (r3 = 0 → (Q (-1) h4)))))) : Wd mX9_wave_ X 0 [(2, 41), (0, x1), (0, x2)] [] h Q := by
  refine s_aload_n 1 0 rfl dX9_wave__0 rfl rfl ?_
  refine s_callV (mj := mX9_laysWaves) (S := []) 4 [] [(2, 41), (9, 0), (9, 0), (9, 0)] 41 rfl dX9_wave__1 okX9_laysWaves w878 w880 w12 rfl (by decide) rfl rfl rfl rfl npX9_laysWaves (Nat.le_of_ble_eq_true rfl) (by decide) (Nat.le_of_ble_eq_true rfl) rfl (Wd.imp H (fun _ h2 H => ?_))
  show Wd mX9_wave_ X 4 [(2, 41), (0, x1), (0, x2)] [] h2 Q
  refine s_aload_n 5 0 rfl dX9_wave__4 rfl rfl ?_
  refine s_iload_n 6 1 rfl dX9_wave__5 rfl rfl ?_
  refine s_callV (mj := mX9_isWave) (S := []) 9 [(0, x1)] [(2, 41), (0, x1)] 41 rfl dX9_wave__6 okX9_isWave w994 w996 w36 rfl (by decide) rfl rfl rfl rfl npX9_isWave (Nat.le_of_ble_eq_true rfl) (by decide) (Nat.le_of_ble_eq_true rfl) rfl (Wd.imp H (fun r3 h4 H => ?_))
  show Wd mX9_wave_ X 9 [(2, 41), (0, x1), (0, x2)] [(0, r3)] h4 Q
  refine s_if_ne 12 14 rfl dX9_wave__9 (by decide) (fun c37 => ?_) (fun c37 => ?_)
  · replace H := H.1 c37
    refine s_iload_n 15 2 rfl dX9_wave__14 rfl rfl ?_
    rcases (by omega : (x2 < 0 ∨ 11 < x2) ∨ x2 = 0 ∨ x2 = 1 ∨ x2 = 2 ∨ x2 = 3 ∨ x2 = 4 ∨ x2 = 5 ∨ x2 = 6 ∨ x2 = 7 ∨ x2 = 8 ∨ x2 = 9 ∨ x2 = 10 ∨ x2 = 11) with c4 | c4 | c4 | c4 | c4 | c4 | c4 | c4 | c4 | c4 | c4 | c4 | c4
    · refine s_tsd 196 dX9_wave__15 c4 (by decide) ?_
      replace H := H.1 c4
      refine s_iconst 197 rfl dX9_wave__196 ⟨by decide, by decide⟩ ?_
      exact s_iret (S := []) dX9_wave__197 rfl H
    · refine s_tsw 76 dX9_wave__15 (by omega) (by omega) (by rw [c4]; rfl) (by decide) ?_
      replace H := H.2.1 c4
      refine s_aload_n 77 0 rfl dX9_wave__76 rfl rfl ?_
      refine s_getf 80 41 20 rfl dX9_wave__77 ck9 rfl (by decide) rfl (by decide) w755 rfl (v := (2, 57)) rfl ?_
      refine s_iload_n 81 1 rfl dX9_wave__80 rfl rfl ?_
      have c5 := H.1
      replace H := H.2
      have c6 := H.1
      replace H := H.2
      refine s_iald 82 rfl dX9_wave__81 ia57 c5 c6 (v9 := h4 57 x1) rfl ?_
      exact s_iret (S := []) dX9_wave__82 rfl H
    · refine s_tsw 83 dX9_wave__15 (by omega) (by omega) (by rw [c4]; rfl) (by decide) ?_
      replace H := H.2.2.1 c4
      refine s_aload_n 84 0 rfl dX9_wave__83 rfl rfl ?_
      refine s_getf 87 41 21 rfl dX9_wave__84 ck9 rfl (by decide) rfl (by decide) w756 rfl (v := (2, 58)) rfl ?_
      refine s_iload_n 88 1 rfl dX9_wave__87 rfl rfl ?_
      have c7 := H.1
      replace H := H.2
      have c8 := H.1
      replace H := H.2
      refine s_iald 89 rfl dX9_wave__88 ia58 c7 c8 (v9 := h4 58 x1) rfl ?_
      exact s_iret (S := []) dX9_wave__89 rfl H
    · refine s_tsw 90 dX9_wave__15 (by omega) (by omega) (by rw [c4]; rfl) (by decide) ?_
      replace H := H.2.2.2.1 c4
      refine s_aload_n 91 0 rfl dX9_wave__90 rfl rfl ?_
      refine s_iload_n 92 1 rfl dX9_wave__91 rfl rfl ?_
      refine s_callV (mj := mX9_height) (S := []) 95 [(0, x1)] [(2, 41), (0, x1)] 41 rfl dX9_wave__92 okX9_height w922 w924 w22 rfl (by decide) rfl rfl rfl rfl npX9_height (Nat.le_of_ble_eq_true rfl) (by decide) (Nat.le_of_ble_eq_true rfl) rfl (Wd.imp H (fun r10 h11 H => ?_))
      show Wd mX9_wave_ X 95 [(2, 41), (0, x1), (0, x2)] [(0, r10)] h11 Q
      exact s_iret (S := []) dX9_wave__95 rfl H
    · refine s_tsw 96 dX9_wave__15 (by omega) (by omega) (by rw [c4]; rfl) (by decide) ?_
      replace H := H.2.2.2.2.1 c4
      refine s_aload_n 97 0 rfl dX9_wave__96 rfl rfl ?_
      refine s_getf 100 41 22 rfl dX9_wave__97 ck9 rfl (by decide) rfl (by decide) w757 rfl (v := (2, 59)) rfl ?_
      refine s_iload_n 101 1 rfl dX9_wave__100 rfl rfl ?_
      have c11 := H.1
      replace H := H.2
      have c12 := H.1
      replace H := H.2
      refine s_iald 102 rfl dX9_wave__101 ia59 c11 c12 (v9 := h4 59 x1) rfl ?_
      refine s_aload_n 103 0 rfl dX9_wave__102 rfl rfl ?_
      refine s_getf 106 41 15 rfl dX9_wave__103 ck9 rfl (by decide) rfl (by decide) w750 rfl (v := (2, 52)) rfl ?_
      refine s_aload_n 107 0 rfl dX9_wave__106 rfl rfl ?_
      refine s_getf 110 41 25 rfl dX9_wave__107 ck9 rfl (by decide) rfl (by decide) w760 rfl (v := (2, 62)) rfl ?_
      refine s_iload_n 111 1 rfl dX9_wave__110 rfl rfl ?_
      refine s_iald 112 rfl dX9_wave__111 ia62 c11 c12 (v9 := h4 62 x1) rfl ?_
      have c13 := H.1
      replace H := H.2
      have c14 := H.1
      replace H := H.2
      refine s_iald 113 rfl dX9_wave__112 ia52 c13 c14 (v9 := h4 52 (h4 62 x1)) rfl ?_
      have c15 := H.1
      replace H := H.2
      refine s_isub 114 rfl dX9_wave__113 c15 ?_
      exact s_iret (S := []) dX9_wave__114 rfl H
    · refine s_tsw 115 dX9_wave__15 (by omega) (by omega) (by rw [c4]; rfl) (by decide) ?_
      replace H := H.2.2.2.2.2.1 c4
      refine s_aload_n 116 0 rfl dX9_wave__115 rfl rfl ?_
      refine s_getf 119 41 15 rfl dX9_wave__116 ck9 rfl (by decide) rfl (by decide) w750 rfl (v := (2, 52)) rfl ?_
      refine s_aload_n 120 0 rfl dX9_wave__119 rfl rfl ?_
      refine s_getf 123 41 25 rfl dX9_wave__120 ck9 rfl (by decide) rfl (by decide) w760 rfl (v := (2, 62)) rfl ?_
      refine s_iload_n 124 1 rfl dX9_wave__123 rfl rfl ?_
      have c16 := H.1
      replace H := H.2
      have c17 := H.1
      replace H := H.2
      refine s_iald 125 rfl dX9_wave__124 ia62 c16 c17 (v9 := h4 62 x1) rfl ?_
      have c18 := H.1
      replace H := H.2
      have c19 := H.1
      replace H := H.2
      refine s_iald 126 rfl dX9_wave__125 ia52 c18 c19 (v9 := h4 52 (h4 62 x1)) rfl ?_
      refine s_aload_n 127 0 rfl dX9_wave__126 rfl rfl ?_
      refine s_getf 130 41 23 rfl dX9_wave__127 ck9 rfl (by decide) rfl (by decide) w758 rfl (v := (2, 60)) rfl ?_
      refine s_iload_n 131 1 rfl dX9_wave__130 rfl rfl ?_
      refine s_iald 132 rfl dX9_wave__131 ia60 c16 c17 (v9 := h4 60 x1) rfl ?_
      have c20 := H.1
      replace H := H.2
      refine s_isub 133 rfl dX9_wave__132 c20 ?_
      exact s_iret (S := []) dX9_wave__133 rfl H
    · refine s_tsw 134 dX9_wave__15 (by omega) (by omega) (by rw [c4]; rfl) (by decide) ?_
      replace H := H.2.2.2.2.2.2.1 c4
      refine s_aload_n 135 0 rfl dX9_wave__134 rfl rfl ?_
      refine s_getf 138 41 24 rfl dX9_wave__135 ck9 rfl (by decide) rfl (by decide) w759 rfl (v := (2, 61)) rfl ?_
      refine s_iload_n 139 1 rfl dX9_wave__138 rfl rfl ?_
      have c21 := H.1
      replace H := H.2
      have c22 := H.1
      replace H := H.2
      refine s_iald 140 rfl dX9_wave__139 ia61 c21 c22 (v9 := h4 61 x1) rfl ?_
      exact s_iret (S := []) dX9_wave__140 rfl H
    · refine s_tsw 141 dX9_wave__15 (by omega) (by omega) (by rw [c4]; rfl) (by decide) ?_
      replace H := H.2.2.2.2.2.2.2.1 c4
      refine s_aload_n 142 0 rfl dX9_wave__141 rfl rfl ?_
      refine s_getf 145 41 25 rfl dX9_wave__142 ck9 rfl (by decide) rfl (by decide) w760 rfl (v := (2, 62)) rfl ?_
      refine s_iload_n 146 1 rfl dX9_wave__145 rfl rfl ?_
      have c23 := H.1
      replace H := H.2
      have c24 := H.1
      replace H := H.2
      refine s_iald 147 rfl dX9_wave__146 ia62 c23 c24 (v9 := h4 62 x1) rfl ?_
      exact s_iret (S := []) dX9_wave__147 rfl H
    · refine s_tsw 148 dX9_wave__15 (by omega) (by omega) (by rw [c4]; rfl) (by decide) ?_
      replace H := H.2.2.2.2.2.2.2.2.1 c4
      refine s_aload_n 149 0 rfl dX9_wave__148 rfl rfl ?_
      refine s_getf 152 41 26 rfl dX9_wave__149 ck9 rfl (by decide) rfl (by decide) w761 rfl (v := (2, 63)) rfl ?_
      refine s_iload_n 153 1 rfl dX9_wave__152 rfl rfl ?_
      have c25 := H.1
      replace H := H.2
      have c26 := H.1
      replace H := H.2
      refine s_iald 154 rfl dX9_wave__153 ia63 c25 c26 (v9 := h4 63 x1) rfl ?_
      exact s_iret (S := []) dX9_wave__154 rfl H
    · refine s_tsw 155 dX9_wave__15 (by omega) (by omega) (by rw [c4]; rfl) (by decide) ?_
      replace H := H.2.2.2.2.2.2.2.2.2.1 c4
      refine s_aload_n 156 0 rfl dX9_wave__155 rfl rfl ?_
      refine s_iload_n 157 1 rfl dX9_wave__156 rfl rfl ?_
      refine s_callV (mj := mX9_isFreak) (S := []) 160 [(0, x1)] [(2, 41), (0, x1)] 41 rfl dX9_wave__157 okX9_isFreak w946 w948 w28 rfl (by decide) rfl rfl rfl rfl npX9_isFreak (Nat.le_of_ble_eq_true rfl) (by decide) (Nat.le_of_ble_eq_true rfl) rfl (Wd.imp H (fun r28 h29 H => ?_))
      show Wd mX9_wave_ X 160 [(2, 41), (0, x1), (0, x2)] [(0, r28)] h29 Q
      refine s_if_eq 163 167 rfl dX9_wave__160 (by decide) (fun c29 => ?_) (fun c29 => ?_)
      · replace H := H.1 c29
        refine s_iconst 168 rfl dX9_wave__167 ⟨by decide, by decide⟩ ?_
        exact s_iret (S := []) dX9_wave__168 rfl H
      · replace H := H.2 c29
        refine s_iconst 164 rfl dX9_wave__163 ⟨by decide, by decide⟩ ?_
        refine s_goto 168 dX9_wave__164 (by decide) ?_
        exact s_iret (S := []) dX9_wave__168 rfl H
    · refine s_tsw 169 dX9_wave__15 (by omega) (by omega) (by rw [c4]; rfl) (by decide) ?_
      replace H := H.2.2.2.2.2.2.2.2.2.2.1 c4
      refine s_aload_n 170 0 rfl dX9_wave__169 rfl rfl ?_
      refine s_getf 173 41 27 rfl dX9_wave__170 ck9 rfl (by decide) rfl (by decide) w762 rfl (v := (2, 64)) rfl ?_
      refine s_iload_n 174 1 rfl dX9_wave__173 rfl rfl ?_
      have c30 := H.1
      replace H := H.2
      have c31 := H.1
      replace H := H.2
      refine s_zald 175 rfl dX9_wave__174 za64 c30 c31 (v9 := h4 64 x1) rfl ?_
      refine s_if_eq 178 182 rfl dX9_wave__175 (by decide) (fun c32 => ?_) (fun c32 => ?_)
      · replace H := H.1 c32
        refine s_iconst 183 rfl dX9_wave__182 ⟨by decide, by decide⟩ ?_
        exact s_iret (S := []) dX9_wave__183 rfl H
      · replace H := H.2 c32
        refine s_iconst 179 rfl dX9_wave__178 ⟨by decide, by decide⟩ ?_
        refine s_goto 183 dX9_wave__179 (by decide) ?_
        exact s_iret (S := []) dX9_wave__183 rfl H
    · refine s_tsw 184 dX9_wave__15 (by omega) (by omega) (by rw [c4]; rfl) (by decide) ?_
      replace H := H.2.2.2.2.2.2.2.2.2.2.2.1 c4
      refine s_aload_n 185 0 rfl dX9_wave__184 rfl rfl ?_
      refine s_iload_n 186 1 rfl dX9_wave__185 rfl rfl ?_
      refine s_callV (mj := mX9_groupOf) (S := []) 189 [(0, x1)] [(2, 41), (0, x1), (9, 0), (9, 0)] 41 rfl dX9_wave__186 okX9_groupOf w998 w1000 w37 rfl (by decide) rfl rfl rfl rfl npX9_groupOf (Nat.le_of_ble_eq_true rfl) (by decide) (Nat.le_of_ble_eq_true rfl) rfl (Wd.imp H (fun r34 h35 H => ?_))
      show Wd mX9_wave_ X 189 [(2, 41), (0, x1), (0, x2)] [(0, r34)] h35 Q
      exact s_iret (S := []) dX9_wave__189 rfl H
    · refine s_tsw 190 dX9_wave__15 (by omega) (by omega) (by rw [c4]; rfl) (by decide) ?_
      replace H := H.2.2.2.2.2.2.2.2.2.2.2.2 c4
      refine s_aload_n 191 0 rfl dX9_wave__190 rfl rfl ?_
      refine s_iload_n 192 1 rfl dX9_wave__191 rfl rfl ?_
      refine s_callV (mj := mX9_borne) (S := []) 195 [(0, x1)] [(2, 41), (0, x1), (9, 0), (9, 0)] 41 rfl dX9_wave__192 okX9_borne w1002 w1004 w38 rfl (by decide) rfl rfl rfl rfl npX9_borne (Nat.le_of_ble_eq_true rfl) (by decide) (Nat.le_of_ble_eq_true rfl) rfl (Wd.imp H (fun r36 h37 H => ?_))
      show Wd mX9_wave_ X 195 [(2, 41), (0, x1), (0, x2)] [(0, r36)] h37 Q
      exact s_iret (S := []) dX9_wave__195 rfl H
  · replace H := H.2 c37
    refine s_iconst 13 rfl dX9_wave__12 ⟨by decide, by decide⟩ ?_
    exact s_iret (S := []) dX9_wave__13 rfl H
theorem vX9_ranked_0 {X : Nat × (Int → Int)} {h : HP} {Q : Int → HP → Prop} {x1 : Int} (H : Wd mX9_laysWaves X 0 [(2, 41), (9, 0), (9, 0), (9, 0)] [] h (fun _ h2 => Wd mX9_ranked X 6 [(2, 41), (0, x1), (0, 0)] [] h2 Q)) : Wd mX9_ranked X 0 [(2, 41), (0, x1), (9, 0)] [] h Q := by
  refine s_aload_n 1 0 rfl dX9_ranked_0 rfl rfl ?_
  refine s_callV (mj := mX9_laysWaves) (S := []) 4 [] [(2, 41), (9, 0), (9, 0), (9, 0)] 41 rfl dX9_ranked_1 okX9_laysWaves w878 w880 w12 rfl (by decide) rfl rfl rfl rfl npX9_laysWaves (Nat.le_of_ble_eq_true rfl) (by decide) (Nat.le_of_ble_eq_true rfl) rfl (Wd.imp H (fun _ h2 H => ?_))
  show Wd mX9_ranked X 4 [(2, 41), (0, x1), (9, 0)] [] h2 Q
  refine s_iconst 5 rfl dX9_ranked_4 ⟨by decide, by decide⟩ ?_
  refine s_istore_n 6 2 rfl dX9_ranked_5 rfl (by decide) (L2 := [(2, 41), (0, x1), (0, 0)]) rfl ?_
  exact H
theorem vX9_ranked_6 {X : Nat × (Int → Int)} {h : HP} {Q : Int → HP → Prop} {x1 x2 : Int} (H : ((h 41 28 ≤ x2 → (Q (-1) h)) ∧ (¬ (h 41 28 ≤ x2) → (0 ≤ x2 ∧ x2 < 301 ∧ ((¬ h 63 x2 = x1 → (inI (x2 + 1) ∧ Wd mX9_ranked X 6 [(2, 41), (0, x1), (0, x2 + 1)] [] h Q)) ∧ (h 63 x2 = x1 → (Q x2 h))))))) : Wd mX9_ranked X 6 [(2, 41), (0, x1), (0, x2)] [] h Q := by
  refine s_iload_n 7 2 rfl dX9_ranked_6 rfl rfl ?_
  refine s_aload_n 8 0 rfl dX9_ranked_7 rfl rfl ?_
  refine s_getf 11 41 28 rfl dX9_ranked_8 ck9 rfl (by decide) rfl (by decide) w763 rfl (v := (0, h 41 28)) rfl ?_
  refine s_icmp_ge 14 32 rfl dX9_ranked_11 (by decide) (fun c4 => ?_) (fun c4 => ?_)
  · replace H := H.1 c4
    refine s_iconst 33 rfl dX9_ranked_32 ⟨by decide, by decide⟩ ?_
    exact s_iret (S := []) dX9_ranked_33 rfl H
  · replace H := H.2 c4
    refine s_aload_n 15 0 rfl dX9_ranked_14 rfl rfl ?_
    refine s_getf 18 41 26 rfl dX9_ranked_15 ck9 rfl (by decide) rfl (by decide) w761 rfl (v := (2, 63)) rfl ?_
    refine s_iload_n 19 2 rfl dX9_ranked_18 rfl rfl ?_
    have c0 := H.1
    replace H := H.2
    have c1 := H.1
    replace H := H.2
    refine s_iald 20 rfl dX9_ranked_19 ia63 c0 c1 (v9 := h 63 x2) rfl ?_
    refine s_iload_n 21 1 rfl dX9_ranked_20 rfl rfl ?_
    refine s_icmp_ne 24 26 rfl dX9_ranked_21 (by decide) (fun c3 => ?_) (fun c3 => ?_)
    · replace H := H.1 c3
      have c2 := H.1
      replace H := H.2
      refine s_iinc 29 2 rfl dX9_ranked_26 (by decide) (z := x2) rfl (L2 := [(2, 41), (0, x1), (0, x2 + 1)]) rfl c2 ?_
      refine s_goto 6 dX9_ranked_29 (by decide) ?_
      exact H
    · replace H := H.2 c3
      refine s_iload_n 25 2 rfl dX9_ranked_24 rfl rfl ?_
      exact s_iret (S := []) dX9_ranked_25 rfl H
theorem vX9_common_0 {X : Nat × (Int → Int)} {h : HP} {Q : Int → HP → Prop} {x0 x2 : Int} (H : Wd mX9_common X 6 [(9, 0), (9, 0), (9, 0), (9, 0), (1, x0), (9, 0), (1, x2), (9, 0), (9, 0), (9, 0)] [] h Q) : Wd mX9_common X 0 [(1, x0), (9, 0), (1, x2), (9, 0), (9, 0), (9, 0), (9, 0), (9, 0), (9, 0), (9, 0)] [] h Q := by
  refine s_lload_n 1 0 rfl dX9_common_0 rfl rfl ?_
  refine s_lstore 3 4 rfl dX9_common_1 (by decide) (L2 := [(1, x0), (9, 0), (1, x2), (9, 0), (1, x0), (9, 0), (9, 0), (9, 0), (9, 0), (9, 0)]) rfl ?_
  refine s_lload_n 4 2 rfl dX9_common_3 rfl rfl ?_
  refine s_lstore 6 6 rfl dX9_common_4 (by decide) (L2 := [(1, x0), (9, 0), (1, x2), (9, 0), (1, x0), (9, 0), (1, x2), (9, 0), (9, 0), (9, 0)]) rfl ?_
  exact s_less [(9, 0), (9, 0), (9, 0), (9, 0), (1, x0), (9, 0), (1, x2), (9, 0), (9, 0), (9, 0)] ⟨Or.inl rfl, Or.inl rfl, Or.inl rfl, Or.inl rfl, Or.inr rfl, Or.inl rfl, Or.inr rfl, Or.inl rfl, Or.inl rfl, Or.inl rfl, trivial⟩ H
theorem vX9_common_6 {X : Nat × (Int → Int)} {h : HP} {Q : Int → HP → Prop} {x4 x6 : Int} (H : ((x6 = 0 → (Q x4 h)) ∧ (¬ x6 = 0 → (¬ x6 = 0 ∧ Wd mX9_common X 6 [(9, 0), (9, 0), (9, 0), (9, 0), (1, x6), (9, 0), (1, Int.tmod x4 x6), (9, 0), (9, 0), (9, 0)] [] h Q)))) : Wd mX9_common X 6 [(9, 0), (9, 0), (9, 0), (9, 0), (1, x4), (9, 0), (1, x6), (9, 0), (9, 0), (9, 0)] [] h Q := by
  refine s_lload 8 6 rfl dX9_common_6 rfl ?_
  refine s_lconst 9 0 rfl dX9_common_8 (by decide) ⟨by decide, by decide⟩ ?_
  refine s_lcmp 10 rfl dX9_common_9 ?_
  refine s_if_eq 13 31 rfl dX9_common_10 (by decide) (fun c1 => ?_) (fun c1 => ?_)
  · replace H := H.1 (lcz_eq.mp c1)
    refine s_lload 33 4 rfl dX9_common_31 rfl ?_
    exact s_lret (S := []) dX9_common_33 rfl H
  · replace H := H.2 (fun y => c1 (lcz_eq.mpr y))
    refine s_lload 15 4 rfl dX9_common_13 rfl ?_
    refine s_lload 17 6 rfl dX9_common_15 rfl ?_
    have c0 := H.1
    replace H := H.2
    refine s_lrem 18 rfl dX9_common_17 c0 ?_
    refine s_lstore 20 8 rfl dX9_common_18 (by decide) (L2 := [(9, 0), (9, 0), (9, 0), (9, 0), (1, x4), (9, 0), (1, x6), (9, 0), (1, Int.tmod x4 x6), (9, 0)]) rfl ?_
    refine s_lload 22 6 rfl dX9_common_20 rfl ?_
    refine s_lstore 24 4 rfl dX9_common_22 (by decide) (L2 := [(9, 0), (9, 0), (9, 0), (9, 0), (1, x6), (9, 0), (1, x6), (9, 0), (1, Int.tmod x4 x6), (9, 0)]) rfl ?_
    refine s_lload 26 8 rfl dX9_common_24 rfl ?_
    refine s_lstore 28 6 rfl dX9_common_26 (by decide) (L2 := [(9, 0), (9, 0), (9, 0), (9, 0), (1, x6), (9, 0), (1, Int.tmod x4 x6), (9, 0), (1, Int.tmod x4 x6), (9, 0)]) rfl ?_
    refine s_goto 6 dX9_common_28 (by decide) ?_
    exact s_less [(9, 0), (9, 0), (9, 0), (9, 0), (1, x6), (9, 0), (1, Int.tmod x4 x6), (9, 0), (9, 0), (9, 0)] ⟨Or.inl rfl, Or.inl rfl, Or.inl rfl, Or.inl rfl, Or.inr rfl, Or.inl rfl, Or.inr rfl, Or.inl rfl, Or.inl rfl, Or.inl rfl, trivial⟩ H
theorem vX9_highest_0 {X : Nat × (Int → Int)} {h : HP} {Q : Int → HP → Prop} {x1 x2 : Int} (H : Wd mX9_isIn X 0 [(0, x1), (0, 1), (0, 10)] [] h (fun r1 h2 => ((r1 = 0 → (Q (-1) h2)) ∧ (¬ r1 = 0 → (Wd mX9_isIn X 0 [(0, x2), (0, 0), (0, 4)] [] h2 (fun r3 h4 => ((¬ r3 = 0 → (Wd mX9_laysWaves X 0 [(2, 41), (9, 0), (9, 0), (9, 0)] [] h4 (fun _ h6 => Wd mX9_highestMany X 0 [(2, 41), (0, x1)] [] h6 (fun r7 h8 => ((¬ x2 = 4 → ((¬ r7 = 0 → ((2 ≤ x2 → (Wd mX9_highestSum X 0 [(2, 41), (0, x1), (0, 0), (9, 0), (9, 0), (9, 0)] [] h8 (fun r9 h10 => ((¬ Int.tmod x2 2 = 0 → (Wd mX9_common X 0 [(1, r9), (9, 0), (1, r7), (9, 0), (9, 0), (9, 0), (9, 0), (9, 0), (9, 0), (9, 0)] [] h10 (fun r11 h12 => ¬ r11 = 0 ∧ inJ (Int.tdiv r7 r11) ∧ inI (Int.tdiv r7 r11) ∧ Q (Int.tdiv r7 r11) h12))) ∧ (Int.tmod x2 2 = 0 → (Wd mX9_common X 0 [(1, r9), (9, 0), (1, r7), (9, 0), (9, 0), (9, 0), (9, 0), (9, 0), (9, 0), (9, 0)] [] h10 (fun r16 h17 => ¬ r16 = 0 ∧ inJ (Int.tdiv r9 r16) ∧ inI (Int.tdiv r9 r16) ∧ Q (Int.tdiv r9 r16) h17))))))) ∧ (¬ (2 ≤ x2) → (Wd mX9_highestSum X 0 [(2, 41), (0, x1), (0, 1), (9, 0), (9, 0), (9, 0)] [] h8 (fun r22 h23 => ((¬ Int.tmod x2 2 = 0 → (Wd mX9_common X 0 [(1, r22), (9, 0), (1, r7), (9, 0), (9, 0), (9, 0), (9, 0), (9, 0), (9, 0), (9, 0)] [] h23 (fun r24 h25 => ¬ r24 = 0 ∧ inJ (Int.tdiv r7 r24) ∧ inI (Int.tdiv r7 r24) ∧ Q (Int.tdiv r7 r24) h25))) ∧ (Int.tmod x2 2 = 0 → (Wd mX9_common X 0 [(1, r22), (9, 0), (1, r7), (9, 0), (9, 0), (9, 0), (9, 0), (9, 0), (9, 0), (9, 0)] [] h23 (fun r29 h30 => ¬ r29 = 0 ∧ inJ (Int.tdiv r22 r29) ∧ inI (Int.tdiv r22 r29) ∧ Q (Int.tdiv r22 r29) h30))))))))) ∧ (r7 = 0 → (Q (Int.tmod x2 2) h8)))) ∧ (x2 = 4 → (Q r7 h8))))))) ∧ (r3 = 0 → (Q (-1) h4))))))))) : Wd mX9_highest X 0 [(2, 41), (0, x1), (0, x2), (9, 0), (9, 0), (9, 0)] [] h Q := by
  refine s_iload_n 1 1 rfl dX9_highest_0 rfl rfl ?_
  refine s_iconst 2 rfl dX9_highest_1 ⟨by decide, by decide⟩ ?_
  refine s_bipush 4 rfl dX9_highest_2 (by decide) ⟨by decide, by decide⟩ ?_
  refine s_callS (mj := mX9_isIn) (S := []) 7 [(0, x1), (0, 1), (0, 10)] [(0, x1), (0, 1), (0, 10)] rfl dX9_highest_4 okX9_isIn w834 w835 rfl npX9_isIn (Nat.le_of_ble_eq_true rfl) (by decide) (Nat.le_of_ble_eq_true rfl) rfl (Wd.imp H (fun r1 h2 H => ?_))
  show Wd mX9_highest X 7 [(2, 41), (0, x1), (0, x2), (9, 0), (9, 0), (9, 0)] [(0, r1)] h2 Q
  refine s_if_eq 10 19 rfl dX9_highest_7 (by decide) (fun c38 => ?_) (fun c38 => ?_)
  · replace H := H.1 c38
    refine s_iconst 20 rfl dX9_highest_19 ⟨by decide, by decide⟩ ?_
    exact s_iret (S := []) dX9_highest_20 rfl H
  · replace H := H.2 c38
    refine s_iload_n 11 2 rfl dX9_highest_10 rfl rfl ?_
    refine s_iconst 12 rfl dX9_highest_11 ⟨by decide, by decide⟩ ?_
    refine s_iconst 13 rfl dX9_highest_12 ⟨by decide, by decide⟩ ?_
    refine s_callS (mj := mX9_isIn) (S := []) 16 [(0, x2), (0, 0), (0, 4)] [(0, x2), (0, 0), (0, 4)] rfl dX9_highest_13 okX9_isIn w834 w835 rfl npX9_isIn (Nat.le_of_ble_eq_true rfl) (by decide) (Nat.le_of_ble_eq_true rfl) rfl (Wd.imp H (fun r3 h4 H => ?_))
    show Wd mX9_highest X 16 [(2, 41), (0, x1), (0, x2), (9, 0), (9, 0), (9, 0)] [(0, r3)] h4 Q
    refine s_if_ne 19 21 rfl dX9_highest_16 (by decide) (fun c37 => ?_) (fun c37 => ?_)
    · replace H := H.1 c37
      refine s_aload_n 22 0 rfl dX9_highest_21 rfl rfl ?_
      refine s_callV (mj := mX9_laysWaves) (S := []) 25 [] [(2, 41), (9, 0), (9, 0), (9, 0)] 41 rfl dX9_highest_22 okX9_laysWaves w878 w880 w12 rfl (by decide) rfl rfl rfl rfl npX9_laysWaves (Nat.le_of_ble_eq_true rfl) (by decide) (Nat.le_of_ble_eq_true rfl) rfl (Wd.imp H (fun _ h6 H => ?_))
      show Wd mX9_highest X 25 [(2, 41), (0, x1), (0, x2), (9, 0), (9, 0), (9, 0)] [] h6 Q
      refine s_aload_n 26 0 rfl dX9_highest_25 rfl rfl ?_
      refine s_iload_n 27 1 rfl dX9_highest_26 rfl rfl ?_
      refine s_callV (mj := mX9_highestMany) (S := []) 30 [(0, x1)] [(2, 41), (0, x1)] 41 rfl dX9_highest_27 okX9_highestMany w934 w936 w25 rfl (by decide) rfl rfl rfl rfl npX9_highestMany (Nat.le_of_ble_eq_true rfl) (by decide) (Nat.le_of_ble_eq_true rfl) rfl (Wd.imp H (fun r7 h8 H => ?_))
      show Wd mX9_highest X 30 [(2, 41), (0, x1), (0, x2), (9, 0), (9, 0), (9, 0)] [(0, r7)] h8 Q
      refine s_istore_n 31 3 rfl dX9_highest_30 rfl (by decide) (L2 := [(2, 41), (0, x1), (0, x2), (0, r7), (9, 0), (9, 0)]) rfl ?_
      refine s_iload_n 32 2 rfl dX9_highest_31 rfl rfl ?_
      refine s_iconst 33 rfl dX9_highest_32 ⟨by decide, by decide⟩ ?_
      refine s_icmp_ne 36 38 rfl dX9_highest_33 (by decide) (fun c36 => ?_) (fun c36 => ?_)
      · replace H := H.1 c36
        refine s_iload_n 39 3 rfl dX9_highest_38 rfl rfl ?_
        refine s_if_ne 42 46 rfl dX9_highest_39 (by decide) (fun c35 => ?_) (fun c35 => ?_)
        · replace H := H.1 c35
          refine s_aload_n 47 0 rfl dX9_highest_46 rfl rfl ?_
          refine s_iload_n 48 1 rfl dX9_highest_47 rfl rfl ?_
          refine s_iload_n 49 2 rfl dX9_highest_48 rfl rfl ?_
          refine s_iconst 50 rfl dX9_highest_49 ⟨by decide, by decide⟩ ?_
          refine s_icmp_ge 53 57 rfl dX9_highest_50 (by decide) (fun c34 => ?_) (fun c34 => ?_)
          · replace H := H.1 c34
            refine s_iconst 58 rfl dX9_highest_57 ⟨by decide, by decide⟩ ?_
            refine s_callV (mj := mX9_highestSum) (S := []) 61 [(0, x1), (0, 0)] [(2, 41), (0, x1), (0, 0), (9, 0), (9, 0), (9, 0)] 41 rfl dX9_highest_58 okX9_highestSum w930 w932 w24 rfl (by decide) rfl rfl rfl rfl npX9_highestSum (Nat.le_of_ble_eq_true rfl) (by decide) (Nat.le_of_ble_eq_true rfl) rfl (Wd.imp H (fun r9 h10 H => ?_))
            show Wd mX9_highest X 61 [(2, 41), (0, x1), (0, x2), (0, r7), (9, 0), (9, 0)] [(1, r9)] h10 Q
            refine s_lstore 63 4 rfl dX9_highest_61 (by decide) (L2 := [(2, 41), (0, x1), (0, x2), (0, r7), (1, r9), (9, 0)]) rfl ?_
            refine s_iload_n 64 2 rfl dX9_highest_63 rfl rfl ?_
            refine s_iconst 65 rfl dX9_highest_64 ⟨by decide, by decide⟩ ?_
            refine s_irem 66 rfl dX9_highest_65 (by decide) ?_
            refine s_if_ne 69 74 rfl dX9_highest_66 (by decide) (fun c20 => ?_) (fun c20 => ?_)
            · replace H := H.1 c20
              refine s_iload_n 75 3 rfl dX9_highest_74 rfl rfl ?_
              refine s_i2l 76 rfl dX9_highest_75 ?_
              refine s_lload 78 4 rfl dX9_highest_76 rfl ?_
              refine s_iload_n 79 3 rfl dX9_highest_78 rfl rfl ?_
              refine s_i2l 80 rfl dX9_highest_79 ?_
              refine s_callS (mj := mX9_common) (S := [(1, r7)]) 83 [(1, r9), (1, r7)] [(1, r9), (9, 0), (1, r7), (9, 0), (9, 0), (9, 0), (9, 0), (9, 0), (9, 0), (9, 0)] rfl dX9_highest_80 okX9_common w1014 w1015 rfl npX9_common (Nat.le_of_ble_eq_true rfl) (by decide) (Nat.le_of_ble_eq_true rfl) rfl (Wd.imp H (fun r11 h12 H => ?_))
              show Wd mX9_highest X 83 [(2, 41), (0, x1), (0, x2), (0, r7), (1, r9), (9, 0)] [(1, r11), (1, r7)] h12 Q
              have c12 := H.1
              replace H := H.2
              have c13 := H.1
              replace H := H.2
              refine s_ldiv 84 rfl dX9_highest_83 c12 c13 ?_
              have c14 := H.1
              replace H := H.2
              refine s_l2i 85 rfl dX9_highest_84 c14 ?_
              exact s_iret (S := []) dX9_highest_85 rfl H
            · replace H := H.2 c20
              refine s_lload 71 4 rfl dX9_highest_69 rfl ?_
              refine s_goto 76 dX9_highest_71 (by decide) ?_
              refine s_lload 78 4 rfl dX9_highest_76 rfl ?_
              refine s_iload_n 79 3 rfl dX9_highest_78 rfl rfl ?_
              refine s_i2l 80 rfl dX9_highest_79 ?_
              refine s_callS (mj := mX9_common) (S := [(1, r9)]) 83 [(1, r9), (1, r7)] [(1, r9), (9, 0), (1, r7), (9, 0), (9, 0), (9, 0), (9, 0), (9, 0), (9, 0), (9, 0)] rfl dX9_highest_80 okX9_common w1014 w1015 rfl npX9_common (Nat.le_of_ble_eq_true rfl) (by decide) (Nat.le_of_ble_eq_true rfl) rfl (Wd.imp H (fun r16 h17 H => ?_))
              show Wd mX9_highest X 83 [(2, 41), (0, x1), (0, x2), (0, r7), (1, r9), (9, 0)] [(1, r16), (1, r9)] h17 Q
              have c17 := H.1
              replace H := H.2
              have c18 := H.1
              replace H := H.2
              refine s_ldiv 84 rfl dX9_highest_83 c17 c18 ?_
              have c19 := H.1
              replace H := H.2
              refine s_l2i 85 rfl dX9_highest_84 c19 ?_
              exact s_iret (S := []) dX9_highest_85 rfl H
          · replace H := H.2 c34
            refine s_iconst 54 rfl dX9_highest_53 ⟨by decide, by decide⟩ ?_
            refine s_goto 58 dX9_highest_54 (by decide) ?_
            refine s_callV (mj := mX9_highestSum) (S := []) 61 [(0, x1), (0, 1)] [(2, 41), (0, x1), (0, 1), (9, 0), (9, 0), (9, 0)] 41 rfl dX9_highest_58 okX9_highestSum w930 w932 w24 rfl (by decide) rfl rfl rfl rfl npX9_highestSum (Nat.le_of_ble_eq_true rfl) (by decide) (Nat.le_of_ble_eq_true rfl) rfl (Wd.imp H (fun r22 h23 H => ?_))
            show Wd mX9_highest X 61 [(2, 41), (0, x1), (0, x2), (0, r7), (9, 0), (9, 0)] [(1, r22)] h23 Q
            refine s_lstore 63 4 rfl dX9_highest_61 (by decide) (L2 := [(2, 41), (0, x1), (0, x2), (0, r7), (1, r22), (9, 0)]) rfl ?_
            refine s_iload_n 64 2 rfl dX9_highest_63 rfl rfl ?_
            refine s_iconst 65 rfl dX9_highest_64 ⟨by decide, by decide⟩ ?_
            refine s_irem 66 rfl dX9_highest_65 (by decide) ?_
            refine s_if_ne 69 74 rfl dX9_highest_66 (by decide) (fun c33 => ?_) (fun c33 => ?_)
            · replace H := H.1 c33
              refine s_iload_n 75 3 rfl dX9_highest_74 rfl rfl ?_
              refine s_i2l 76 rfl dX9_highest_75 ?_
              refine s_lload 78 4 rfl dX9_highest_76 rfl ?_
              refine s_iload_n 79 3 rfl dX9_highest_78 rfl rfl ?_
              refine s_i2l 80 rfl dX9_highest_79 ?_
              refine s_callS (mj := mX9_common) (S := [(1, r7)]) 83 [(1, r22), (1, r7)] [(1, r22), (9, 0), (1, r7), (9, 0), (9, 0), (9, 0), (9, 0), (9, 0), (9, 0), (9, 0)] rfl dX9_highest_80 okX9_common w1014 w1015 rfl npX9_common (Nat.le_of_ble_eq_true rfl) (by decide) (Nat.le_of_ble_eq_true rfl) rfl (Wd.imp H (fun r24 h25 H => ?_))
              show Wd mX9_highest X 83 [(2, 41), (0, x1), (0, x2), (0, r7), (1, r22), (9, 0)] [(1, r24), (1, r7)] h25 Q
              have c25 := H.1
              replace H := H.2
              have c26 := H.1
              replace H := H.2
              refine s_ldiv 84 rfl dX9_highest_83 c25 c26 ?_
              have c27 := H.1
              replace H := H.2
              refine s_l2i 85 rfl dX9_highest_84 c27 ?_
              exact s_iret (S := []) dX9_highest_85 rfl H
            · replace H := H.2 c33
              refine s_lload 71 4 rfl dX9_highest_69 rfl ?_
              refine s_goto 76 dX9_highest_71 (by decide) ?_
              refine s_lload 78 4 rfl dX9_highest_76 rfl ?_
              refine s_iload_n 79 3 rfl dX9_highest_78 rfl rfl ?_
              refine s_i2l 80 rfl dX9_highest_79 ?_
              refine s_callS (mj := mX9_common) (S := [(1, r22)]) 83 [(1, r22), (1, r7)] [(1, r22), (9, 0), (1, r7), (9, 0), (9, 0), (9, 0), (9, 0), (9, 0), (9, 0), (9, 0)] rfl dX9_highest_80 okX9_common w1014 w1015 rfl npX9_common (Nat.le_of_ble_eq_true rfl) (by decide) (Nat.le_of_ble_eq_true rfl) rfl (Wd.imp H (fun r29 h30 H => ?_))
              show Wd mX9_highest X 83 [(2, 41), (0, x1), (0, x2), (0, r7), (1, r22), (9, 0)] [(1, r29), (1, r22)] h30 Q
              have c30 := H.1
              replace H := H.2
              have c31 := H.1
              replace H := H.2
              refine s_ldiv 84 rfl dX9_highest_83 c30 c31 ?_
              have c32 := H.1
              replace H := H.2
              refine s_l2i 85 rfl dX9_highest_84 c32 ?_
              exact s_iret (S := []) dX9_highest_85 rfl H
        · replace H := H.2 c35
          refine s_iload_n 43 2 rfl dX9_highest_42 rfl rfl ?_
          refine s_iconst 44 rfl dX9_highest_43 ⟨by decide, by decide⟩ ?_
          refine s_irem 45 rfl dX9_highest_44 (by decide) ?_
          exact s_iret (S := []) dX9_highest_45 rfl H
      · replace H := H.2 c36
        refine s_iload_n 37 3 rfl dX9_highest_36 rfl rfl ?_
        exact s_iret (S := []) dX9_highest_37 rfl H
    · replace H := H.2 c37
      refine s_iconst 20 rfl dX9_highest_19 ⟨by decide, by decide⟩ ?_
      exact s_iret (S := []) dX9_highest_20 rfl H
theorem vX9_freak_0 {X : Nat × (Int → Int)} {h : HP} {Q : Int → HP → Prop} {x1 : Int} (H : Wd mX9_laysWaves X 0 [(2, 41), (9, 0), (9, 0), (9, 0)] [] h (fun _ h2 => Wd mX9_freak X 8 [(2, 41), (0, x1), (0, 0), (0, 0), (9, 0)] [] h2 Q)) : Wd mX9_freak X 0 [(2, 41), (0, x1), (9, 0), (9, 0), (9, 0)] [] h Q := by
  refine s_aload_n 1 0 rfl dX9_freak_0 rfl rfl ?_
  refine s_callV (mj := mX9_laysWaves) (S := []) 4 [] [(2, 41), (9, 0), (9, 0), (9, 0)] 41 rfl dX9_freak_1 okX9_laysWaves w878 w880 w12 rfl (by decide) rfl rfl rfl rfl npX9_laysWaves (Nat.le_of_ble_eq_true rfl) (by decide) (Nat.le_of_ble_eq_true rfl) rfl (Wd.imp H (fun _ h2 H => ?_))
  show Wd mX9_freak X 4 [(2, 41), (0, x1), (9, 0), (9, 0), (9, 0)] [] h2 Q
  refine s_iconst 5 rfl dX9_freak_4 ⟨by decide, by decide⟩ ?_
  refine s_istore_n 6 2 rfl dX9_freak_5 rfl (by decide) (L2 := [(2, 41), (0, x1), (0, 0), (9, 0), (9, 0)]) rfl ?_
  refine s_iconst 7 rfl dX9_freak_6 ⟨by decide, by decide⟩ ?_
  refine s_istore_n 8 3 rfl dX9_freak_7 rfl (by decide) (L2 := [(2, 41), (0, x1), (0, 0), (0, 0), (9, 0)]) rfl ?_
  exact H
theorem vX9_freak_8 {X : Nat × (Int → Int)} {h : HP} {Q : Int → HP → Prop} {x1 x2 x3 : Int} (H : ((h 41 28 ≤ x3 → (Q (-1) h)) ∧ (¬ (h 41 28 ≤ x3) → (Wd mX9_freak X 19 [(2, 41), (0, x1), (0, x2), (0, x3), (0, 0)] [] h Q)))) : Wd mX9_freak X 8 [(2, 41), (0, x1), (0, x2), (0, x3), (9, 0)] [] h Q := by
  refine s_iload_n 9 3 rfl dX9_freak_8 rfl rfl ?_
  refine s_aload_n 10 0 rfl dX9_freak_9 rfl rfl ?_
  refine s_getf 13 41 28 rfl dX9_freak_10 ck9 rfl (by decide) rfl (by decide) w763 rfl (v := (0, h 41 28)) rfl ?_
  refine s_icmp_ge 16 64 rfl dX9_freak_13 (by decide) (fun c0 => ?_) (fun c0 => ?_)
  · replace H := H.1 c0
    refine s_iconst 65 rfl dX9_freak_64 ⟨by decide, by decide⟩ ?_
    exact s_iret (S := []) dX9_freak_65 rfl H
  · replace H := H.2 c0
    refine s_iconst 17 rfl dX9_freak_16 ⟨by decide, by decide⟩ ?_
    refine s_istore 19 4 rfl dX9_freak_17 (by decide) (L2 := [(2, 41), (0, x1), (0, x2), (0, x3), (0, 0)]) rfl ?_
    exact H
theorem vX9_freak_19 {X : Nat × (Int → Int)} {h : HP} {Q : Int → HP → Prop} {x1 x2 x3 x4 : Int} (H : 0 ≤ x4 ∧ x4 < 301 ∧ ((h 63 x4 = x3 → (Wd mX9_isFreak X 0 [(2, 41), (0, x4)] [] h (fun r3 h4 => ((¬ r3 = 0 → ((¬ x2 = x1 → (inI (x2 + 1) ∧ inI (x3 + 1) ∧ Wd mX9_freak X 8 [(2, 41), (0, x1), (0, x2 + 1), (0, x3 + 1), (9, 0)] [] h4 Q)) ∧ (x2 = x1 → (Q x4 h4)))) ∧ (r3 = 0 → (Q (-1) h4)))))) ∧ (¬ h 63 x4 = x3 → (inI (x4 + 1) ∧ Wd mX9_freak X 19 [(2, 41), (0, x1), (0, x2), (0, x3), (0, x4 + 1)] [] h Q)))) : Wd mX9_freak X 19 [(2, 41), (0, x1), (0, x2), (0, x3), (0, x4)] [] h Q := by
  refine s_aload_n 20 0 rfl dX9_freak_19 rfl rfl ?_
  refine s_getf 23 41 26 rfl dX9_freak_20 ck9 rfl (by decide) rfl (by decide) w761 rfl (v := (2, 63)) rfl ?_
  refine s_iload 25 4 rfl dX9_freak_23 rfl ?_
  have c0 := H.1
  replace H := H.2
  have c1 := H.1
  replace H := H.2
  refine s_iald 26 rfl dX9_freak_25 ia63 c0 c1 (v9 := h 63 x4) rfl ?_
  refine s_iload_n 27 3 rfl dX9_freak_26 rfl rfl ?_
  refine s_icmp_eq 30 36 rfl dX9_freak_27 (by decide) (fun c9 => ?_) (fun c9 => ?_)
  · replace H := H.1 c9
    refine s_aload_n 37 0 rfl dX9_freak_36 rfl rfl ?_
    refine s_iload 39 4 rfl dX9_freak_37 rfl ?_
    refine s_callV (mj := mX9_isFreak) (S := []) 42 [(0, x4)] [(2, 41), (0, x4)] 41 rfl dX9_freak_39 okX9_isFreak w946 w948 w28 rfl (by decide) rfl rfl rfl rfl npX9_isFreak (Nat.le_of_ble_eq_true rfl) (by decide) (Nat.le_of_ble_eq_true rfl) rfl (Wd.imp H (fun r3 h4 H => ?_))
    show Wd mX9_freak X 42 [(2, 41), (0, x1), (0, x2), (0, x3), (0, x4)] [(0, r3)] h4 Q
    refine s_if_ne 45 47 rfl dX9_freak_42 (by decide) (fun c7 => ?_) (fun c7 => ?_)
    · replace H := H.1 c7
      refine s_iload_n 48 2 rfl dX9_freak_47 rfl rfl ?_
      refine s_iload_n 49 1 rfl dX9_freak_48 rfl rfl ?_
      refine s_icmp_ne 52 55 rfl dX9_freak_49 (by decide) (fun c6 => ?_) (fun c6 => ?_)
      · replace H := H.1 c6
        have c4 := H.1
        replace H := H.2
        refine s_iinc 58 2 rfl dX9_freak_55 (by decide) (z := x2) rfl (L2 := [(2, 41), (0, x1), (0, x2 + 1), (0, x3), (0, x4)]) rfl c4 ?_
        have c5 := H.1
        replace H := H.2
        refine s_iinc 61 3 rfl dX9_freak_58 (by decide) (z := x3) rfl (L2 := [(2, 41), (0, x1), (0, x2 + 1), (0, x3 + 1), (0, x4)]) rfl c5 ?_
        refine s_goto 8 dX9_freak_61 (by decide) ?_
        exact s_less [(2, 41), (0, x1), (0, x2 + 1), (0, x3 + 1), (9, 0)] ⟨Or.inr rfl, Or.inr rfl, Or.inr rfl, Or.inr rfl, Or.inl rfl, trivial⟩ H
      · replace H := H.2 c6
        refine s_iload 54 4 rfl dX9_freak_52 rfl ?_
        exact s_iret (S := []) dX9_freak_54 rfl H
    · replace H := H.2 c7
      refine s_iconst 46 rfl dX9_freak_45 ⟨by decide, by decide⟩ ?_
      exact s_iret (S := []) dX9_freak_46 rfl H
  · replace H := H.2 c9
    have c8 := H.1
    replace H := H.2
    refine s_iinc 33 4 rfl dX9_freak_30 (by decide) (z := x4) rfl (L2 := [(2, 41), (0, x1), (0, x2), (0, x3), (0, x4 + 1)]) rfl c8 ?_
    refine s_goto 19 dX9_freak_33 (by decide) ?_
    exact H
theorem vX9_group_0 {X : Nat × (Int → Int)} {h : HP} {Q : Int → HP → Prop} {x1 x2 : Int} (H : Wd mX9_laysWaves X 0 [(2, 41), (9, 0), (9, 0), (9, 0)] [] h (fun _ h2 => Wd mX9_groupAt X 0 [(2, 41), (0, x1), (9, 0), (9, 0)] [] h2 (fun r3 h4 => ((r3 = (-1) → (Q (-1) h4)) ∧ (¬ r3 = (-1) → (Wd mX9_isIn X 0 [(0, x2), (0, 0), (0, 4)] [] h4 (fun r5 h6 => ((¬ r5 = 0 → (Wd mX9_run X 0 [(2, 41), (0, r3), (9, 0)] [] h6 (fun r7 h8 => Wd mX9_group X 42 [(2, 41), (0, x1), (0, x2), (0, r3), (0, r7), (0, r3), (0, 0), (0, r3)] [] h8 Q))) ∧ (r5 = 0 → (Q (-1) h6)))))))))) : Wd mX9_group X 0 [(2, 41), (0, x1), (0, x2), (9, 0), (9, 0), (9, 0), (9, 0), (9, 0)] [] h Q := by
  refine s_aload_n 1 0 rfl dX9_group_0 rfl rfl ?_
  refine s_callV (mj := mX9_laysWaves) (S := []) 4 [] [(2, 41), (9, 0), (9, 0), (9, 0)] 41 rfl dX9_group_1 okX9_laysWaves w878 w880 w12 rfl (by decide) rfl rfl rfl rfl npX9_laysWaves (Nat.le_of_ble_eq_true rfl) (by decide) (Nat.le_of_ble_eq_true rfl) rfl (Wd.imp H (fun _ h2 H => ?_))
  show Wd mX9_group X 4 [(2, 41), (0, x1), (0, x2), (9, 0), (9, 0), (9, 0), (9, 0), (9, 0)] [] h2 Q
  refine s_aload_n 5 0 rfl dX9_group_4 rfl rfl ?_
  refine s_iload_n 6 1 rfl dX9_group_5 rfl rfl ?_
  refine s_callV (mj := mX9_groupAt) (S := []) 9 [(0, x1)] [(2, 41), (0, x1), (9, 0), (9, 0)] 41 rfl dX9_group_6 okX9_groupAt w1025 w1027 w39 rfl (by decide) rfl rfl rfl rfl npX9_groupAt (Nat.le_of_ble_eq_true rfl) (by decide) (Nat.le_of_ble_eq_true rfl) rfl (Wd.imp H (fun r3 h4 H => ?_))
  show Wd mX9_group X 9 [(2, 41), (0, x1), (0, x2), (9, 0), (9, 0), (9, 0), (9, 0), (9, 0)] [(0, r3)] h4 Q
  refine s_istore_n 10 3 rfl dX9_group_9 rfl (by decide) (L2 := [(2, 41), (0, x1), (0, x2), (0, r3), (9, 0), (9, 0), (9, 0), (9, 0)]) rfl ?_
  refine s_iload_n 11 3 rfl dX9_group_10 rfl rfl ?_
  refine s_iconst 12 rfl dX9_group_11 ⟨by decide, by decide⟩ ?_
  refine s_icmp_eq 15 24 rfl dX9_group_12 (by decide) (fun c9 => ?_) (fun c9 => ?_)
  · replace H := H.1 c9
    refine s_iconst 25 rfl dX9_group_24 ⟨by decide, by decide⟩ ?_
    exact s_iret (S := []) dX9_group_25 rfl H
  · replace H := H.2 c9
    refine s_iload_n 16 2 rfl dX9_group_15 rfl rfl ?_
    refine s_iconst 17 rfl dX9_group_16 ⟨by decide, by decide⟩ ?_
    refine s_iconst 18 rfl dX9_group_17 ⟨by decide, by decide⟩ ?_
    refine s_callS (mj := mX9_isIn) (S := []) 21 [(0, x2), (0, 0), (0, 4)] [(0, x2), (0, 0), (0, 4)] rfl dX9_group_18 okX9_isIn w834 w835 rfl npX9_isIn (Nat.le_of_ble_eq_true rfl) (by decide) (Nat.le_of_ble_eq_true rfl) rfl (Wd.imp H (fun r5 h6 H => ?_))
    show Wd mX9_group X 21 [(2, 41), (0, x1), (0, x2), (0, r3), (9, 0), (9, 0), (9, 0), (9, 0)] [(0, r5)] h6 Q
    refine s_if_ne 24 26 rfl dX9_group_21 (by decide) (fun c8 => ?_) (fun c8 => ?_)
    · replace H := H.1 c8
      refine s_aload_n 27 0 rfl dX9_group_26 rfl rfl ?_
      refine s_iload_n 28 3 rfl dX9_group_27 rfl rfl ?_
      refine s_callV (mj := mX9_run) (S := []) 31 [(0, r3)] [(2, 41), (0, r3), (9, 0)] 41 rfl dX9_group_28 okX9_run w954 w956 w30 rfl (by decide) rfl rfl rfl rfl npX9_run (Nat.le_of_ble_eq_true rfl) (by decide) (Nat.le_of_ble_eq_true rfl) rfl (Wd.imp H (fun r7 h8 H => ?_))
      show Wd mX9_group X 31 [(2, 41), (0, x1), (0, x2), (0, r3), (9, 0), (9, 0), (9, 0), (9, 0)] [(0, r7)] h8 Q
      refine s_istore 33 4 rfl dX9_group_31 (by decide) (L2 := [(2, 41), (0, x1), (0, x2), (0, r3), (0, r7), (9, 0), (9, 0), (9, 0)]) rfl ?_
      refine s_iload_n 34 3 rfl dX9_group_33 rfl rfl ?_
      refine s_istore 36 5 rfl dX9_group_34 (by decide) (L2 := [(2, 41), (0, x1), (0, x2), (0, r3), (0, r7), (0, r3), (9, 0), (9, 0)]) rfl ?_
      refine s_iconst 37 rfl dX9_group_36 ⟨by decide, by decide⟩ ?_
      refine s_istore 39 6 rfl dX9_group_37 (by decide) (L2 := [(2, 41), (0, x1), (0, x2), (0, r3), (0, r7), (0, r3), (0, 0), (9, 0)]) rfl ?_
      refine s_iload_n 40 3 rfl dX9_group_39 rfl rfl ?_
      refine s_istore 42 7 rfl dX9_group_40 (by decide) (L2 := [(2, 41), (0, x1), (0, x2), (0, r3), (0, r7), (0, r3), (0, 0), (0, r3)]) rfl ?_
      exact H
    · replace H := H.2 c8
      refine s_iconst 25 rfl dX9_group_24 ⟨by decide, by decide⟩ ?_
      exact s_iret (S := []) dX9_group_25 rfl H
theorem vX9_group_42 {X : Nat × (Int → Int)} {h : HP} {Q : Int → HP → Prop} {x1 x2 x3 x4 x5 x6 x7 : Int} (H : inI (x3 + x4) ∧ (((x3 + x4) ≤ x7 → (inI (x1 + 1) ∧ Wd mX9_groupAt X 0 [(2, 41), (0, x1 + 1), (9, 0), (9, 0)] [] h (fun r3 h4 => ((¬ x2 = 0 → ((¬ x2 = 1 → ((¬ x2 = 2 → ((¬ x2 = 4 → ((¬ r3 = (-1) → (inI (r3 - x3) ∧ Q (r3 - x3) h4)) ∧ (r3 = (-1) → (Q (-1) h4)))) ∧ (x2 = 4 → (Q x6 h4)))) ∧ (x2 = 2 → (Q x5 h4)))) ∧ (x2 = 1 → (Q x4 h4)))) ∧ (x2 = 0 → (Q x3 h4)))))) ∧ (¬ ((x3 + x4) ≤ x7) → (0 ≤ x7 ∧ x7 < 301 ∧ 0 ≤ x5 ∧ x5 < 301 ∧ ((h 63 x5 ≤ h 63 x7 → (inI (x6 + h 58 x7) ∧ inI (x7 + 1) ∧ Wd mX9_group X 42 [(2, 41), (0, x1), (0, x2), (0, x3), (0, x4), (0, x5), (0, x6 + h 58 x7), (0, x7 + 1)] [] h Q)) ∧ (¬ (h 63 x5 ≤ h 63 x7) → (inI (x6 + h 58 x7) ∧ inI (x7 + 1) ∧ Wd mX9_group X 42 [(2, 41), (0, x1), (0, x2), (0, x3), (0, x4), (0, x7), (0, x6 + h 58 x7), (0, x7 + 1)] [] h Q))))))) : Wd mX9_group X 42 [(2, 41), (0, x1), (0, x2), (0, x3), (0, x4), (0, x5), (0, x6), (0, x7)] [] h Q := by
  refine s_iload 44 7 rfl dX9_group_42 rfl ?_
  refine s_iload_n 45 3 rfl dX9_group_44 rfl rfl ?_
  refine s_iload 47 4 rfl dX9_group_45 rfl ?_
  have c0 := H.1
  replace H := H.2
  refine s_iadd 48 rfl dX9_group_47 c0 ?_
  refine s_icmp_ge 51 90 rfl dX9_group_48 (by decide) (fun c19 => ?_) (fun c19 => ?_)
  · replace H := H.1 c19
    refine s_aload_n 91 0 rfl dX9_group_90 rfl rfl ?_
    refine s_iload_n 92 1 rfl dX9_group_91 rfl rfl ?_
    refine s_iconst 93 rfl dX9_group_92 ⟨by decide, by decide⟩ ?_
    have c1 := H.1
    replace H := H.2
    refine s_iadd 94 rfl dX9_group_93 c1 ?_
    refine s_callV (mj := mX9_groupAt) (S := []) 97 [(0, x1 + 1)] [(2, 41), (0, x1 + 1), (9, 0), (9, 0)] 41 rfl dX9_group_94 okX9_groupAt w1025 w1027 w39 rfl (by decide) rfl rfl rfl rfl npX9_groupAt (Nat.le_of_ble_eq_true rfl) (by decide) (Nat.le_of_ble_eq_true rfl) rfl (Wd.imp H (fun r3 h4 H => ?_))
    show Wd mX9_group X 97 [(2, 41), (0, x1), (0, x2), (0, x3), (0, x4), (0, x5), (0, x6), (0, x7)] [(0, r3)] h4 Q
    refine s_istore 99 7 rfl dX9_group_97 (by decide) (L2 := [(2, 41), (0, x1), (0, x2), (0, x3), (0, x4), (0, x5), (0, x6), (0, r3)]) rfl ?_
    refine s_iload_n 100 2 rfl dX9_group_99 rfl rfl ?_
    refine s_if_ne 103 107 rfl dX9_group_100 (by decide) (fun c9 => ?_) (fun c9 => ?_)
    · replace H := H.1 c9
      refine s_iload_n 108 2 rfl dX9_group_107 rfl rfl ?_
      refine s_iconst 109 rfl dX9_group_108 ⟨by decide, by decide⟩ ?_
      refine s_icmp_ne 112 117 rfl dX9_group_109 (by decide) (fun c8 => ?_) (fun c8 => ?_)
      · replace H := H.1 c8
        refine s_iload_n 118 2 rfl dX9_group_117 rfl rfl ?_
        refine s_iconst 119 rfl dX9_group_118 ⟨by decide, by decide⟩ ?_
        refine s_icmp_ne 122 127 rfl dX9_group_119 (by decide) (fun c7 => ?_) (fun c7 => ?_)
        · replace H := H.1 c7
          refine s_iload_n 128 2 rfl dX9_group_127 rfl rfl ?_
          refine s_iconst 129 rfl dX9_group_128 ⟨by decide, by decide⟩ ?_
          refine s_icmp_ne 132 137 rfl dX9_group_129 (by decide) (fun c6 => ?_) (fun c6 => ?_)
          · replace H := H.1 c6
            refine s_iload 139 7 rfl dX9_group_137 rfl ?_
            refine s_iconst 140 rfl dX9_group_139 ⟨by decide, by decide⟩ ?_
            refine s_icmp_ne 143 147 rfl dX9_group_140 (by decide) (fun c5 => ?_) (fun c5 => ?_)
            · replace H := H.1 c5
              refine s_iload 149 7 rfl dX9_group_147 rfl ?_
              refine s_iload_n 150 3 rfl dX9_group_149 rfl rfl ?_
              have c4 := H.1
              replace H := H.2
              refine s_isub 151 rfl dX9_group_150 c4 ?_
              exact s_iret (S := []) dX9_group_151 rfl H
            · replace H := H.2 c5
              refine s_iconst 144 rfl dX9_group_143 ⟨by decide, by decide⟩ ?_
              refine s_goto 151 dX9_group_144 (by decide) ?_
              exact s_iret (S := []) dX9_group_151 rfl H
          · replace H := H.2 c6
            refine s_iload 134 6 rfl dX9_group_132 rfl ?_
            refine s_goto 151 dX9_group_134 (by decide) ?_
            exact s_iret (S := []) dX9_group_151 rfl H
        · replace H := H.2 c7
          refine s_iload 124 5 rfl dX9_group_122 rfl ?_
          refine s_goto 151 dX9_group_124 (by decide) ?_
          exact s_iret (S := []) dX9_group_151 rfl H
      · replace H := H.2 c8
        refine s_iload 114 4 rfl dX9_group_112 rfl ?_
        refine s_goto 151 dX9_group_114 (by decide) ?_
        exact s_iret (S := []) dX9_group_151 rfl H
    · replace H := H.2 c9
      refine s_iload_n 104 3 rfl dX9_group_103 rfl rfl ?_
      refine s_goto 151 dX9_group_104 (by decide) ?_
      exact s_iret (S := []) dX9_group_151 rfl H
  · replace H := H.2 c19
    refine s_aload_n 52 0 rfl dX9_group_51 rfl rfl ?_
    refine s_getf 55 41 26 rfl dX9_group_52 ck9 rfl (by decide) rfl (by decide) w761 rfl (v := (2, 63)) rfl ?_
    refine s_iload 57 7 rfl dX9_group_55 rfl ?_
    have c10 := H.1
    replace H := H.2
    have c11 := H.1
    replace H := H.2
    refine s_iald 58 rfl dX9_group_57 ia63 c10 c11 (v9 := h 63 x7) rfl ?_
    refine s_aload_n 59 0 rfl dX9_group_58 rfl rfl ?_
    refine s_getf 62 41 26 rfl dX9_group_59 ck9 rfl (by decide) rfl (by decide) w761 rfl (v := (2, 63)) rfl ?_
    refine s_iload 64 5 rfl dX9_group_62 rfl ?_
    have c12 := H.1
    replace H := H.2
    have c13 := H.1
    replace H := H.2
    refine s_iald 65 rfl dX9_group_64 ia63 c12 c13 (v9 := h 63 x5) rfl ?_
    refine s_icmp_ge 68 72 rfl dX9_group_65 (by decide) (fun c18 => ?_) (fun c18 => ?_)
    · replace H := H.1 c18
      refine s_iload 74 6 rfl dX9_group_72 rfl ?_
      refine s_aload_n 75 0 rfl dX9_group_74 rfl rfl ?_
      refine s_getf 78 41 21 rfl dX9_group_75 ck9 rfl (by decide) rfl (by decide) w756 rfl (v := (2, 58)) rfl ?_
      refine s_iload 80 7 rfl dX9_group_78 rfl ?_
      refine s_iald 81 rfl dX9_group_80 ia58 c10 c11 (v9 := h 58 x7) rfl ?_
      have c14 := H.1
      replace H := H.2
      refine s_iadd 82 rfl dX9_group_81 c14 ?_
      refine s_istore 84 6 rfl dX9_group_82 (by decide) (L2 := [(2, 41), (0, x1), (0, x2), (0, x3), (0, x4), (0, x5), (0, x6 + h 58 x7), (0, x7)]) rfl ?_
      have c15 := H.1
      replace H := H.2
      refine s_iinc 87 7 rfl dX9_group_84 (by decide) (z := x7) rfl (L2 := [(2, 41), (0, x1), (0, x2), (0, x3), (0, x4), (0, x5), (0, x6 + h 58 x7), (0, x7 + 1)]) rfl c15 ?_
      refine s_goto 42 dX9_group_87 (by decide) ?_
      exact H
    · replace H := H.2 c18
      refine s_iload 70 7 rfl dX9_group_68 rfl ?_
      refine s_istore 72 5 rfl dX9_group_70 (by decide) (L2 := [(2, 41), (0, x1), (0, x2), (0, x3), (0, x4), (0, x7), (0, x6), (0, x7)]) rfl ?_
      refine s_iload 74 6 rfl dX9_group_72 rfl ?_
      refine s_aload_n 75 0 rfl dX9_group_74 rfl rfl ?_
      refine s_getf 78 41 21 rfl dX9_group_75 ck9 rfl (by decide) rfl (by decide) w756 rfl (v := (2, 58)) rfl ?_
      refine s_iload 80 7 rfl dX9_group_78 rfl ?_
      refine s_iald 81 rfl dX9_group_80 ia58 c10 c11 (v9 := h 58 x7) rfl ?_
      have c16 := H.1
      replace H := H.2
      refine s_iadd 82 rfl dX9_group_81 c16 ?_
      refine s_istore 84 6 rfl dX9_group_82 (by decide) (L2 := [(2, 41), (0, x1), (0, x2), (0, x3), (0, x4), (0, x7), (0, x6 + h 58 x7), (0, x7)]) rfl ?_
      have c17 := H.1
      replace H := H.2
      refine s_iinc 87 7 rfl dX9_group_84 (by decide) (z := x7) rfl (L2 := [(2, 41), (0, x1), (0, x2), (0, x3), (0, x4), (0, x7), (0, x6 + h 58 x7), (0, x7 + 1)]) rfl c17 ?_
      refine s_goto 42 dX9_group_87 (by decide) ?_
      exact H
theorem vX9_energy_0 {X : Nat × (Int → Int)} {h : HP} {Q : Int → HP → Prop} {x1 : Int} (H : Wd mX9_laysWaves X 0 [(2, 41), (9, 0), (9, 0), (9, 0)] [] h (fun _ h2 => ((¬ x1 = (-1) → (Wd mX9_groupAt X 0 [(2, 41), (0, x1), (9, 0), (9, 0)] [] h2 (fun r3 h4 => ((¬ r3 = (-1) → ((¬ x1 = (-1) → (Wd mX9_run X 0 [(2, 41), (0, r3), (9, 0)] [] h4 (fun r5 h6 => Wd mX9_energy X 52 [(2, 41), (9, 0), (0, r3), (0, r5), (1, 0), (9, 0), (0, r3)] [] h6 Q))) ∧ (x1 = (-1) → (Wd mX9_energy X 52 [(2, 41), (9, 0), (0, r3), (0, h4 41 28), (1, 0), (9, 0), (0, r3)] [] h4 Q)))) ∧ (r3 = (-1) → (Q (-1) h4)))))) ∧ (x1 = (-1) → ((¬ x1 = (-1) → (Wd mX9_run X 0 [(2, 41), (0, 0), (9, 0)] [] h2 (fun r10 h11 => Wd mX9_energy X 52 [(2, 41), (9, 0), (0, 0), (0, r10), (1, 0), (9, 0), (0, 0)] [] h11 Q))) ∧ (x1 = (-1) → (Wd mX9_energy X 52 [(2, 41), (9, 0), (0, 0), (0, h2 41 28), (1, 0), (9, 0), (0, 0)] [] h2 Q))))))) : Wd mX9_energy X 0 [(2, 41), (0, x1), (9, 0), (9, 0), (9, 0), (9, 0), (9, 0)] [] h Q := by
  refine s_aload_n 1 0 rfl dX9_energy_0 rfl rfl ?_
  refine s_callV (mj := mX9_laysWaves) (S := []) 4 [] [(2, 41), (9, 0), (9, 0), (9, 0)] 41 rfl dX9_energy_1 okX9_laysWaves w878 w880 w12 rfl (by decide) rfl rfl rfl rfl npX9_laysWaves (Nat.le_of_ble_eq_true rfl) (by decide) (Nat.le_of_ble_eq_true rfl) rfl (Wd.imp H (fun _ h2 H => ?_))
  show Wd mX9_energy X 4 [(2, 41), (0, x1), (9, 0), (9, 0), (9, 0), (9, 0), (9, 0)] [] h2 Q
  refine s_iload_n 5 1 rfl dX9_energy_4 rfl rfl ?_
  refine s_iconst 6 rfl dX9_energy_5 ⟨by decide, by decide⟩ ?_
  refine s_icmp_ne 9 13 rfl dX9_energy_6 (by decide) (fun c12 => ?_) (fun c12 => ?_)
  · replace H := H.1 c12
    refine s_aload_n 14 0 rfl dX9_energy_13 rfl rfl ?_
    refine s_iload_n 15 1 rfl dX9_energy_14 rfl rfl ?_
    refine s_callV (mj := mX9_groupAt) (S := []) 18 [(0, x1)] [(2, 41), (0, x1), (9, 0), (9, 0)] 41 rfl dX9_energy_15 okX9_groupAt w1025 w1027 w39 rfl (by decide) rfl rfl rfl rfl npX9_groupAt (Nat.le_of_ble_eq_true rfl) (by decide) (Nat.le_of_ble_eq_true rfl) rfl (Wd.imp H (fun r3 h4 H => ?_))
    show Wd mX9_energy X 18 [(2, 41), (0, x1), (9, 0), (9, 0), (9, 0), (9, 0), (9, 0)] [(0, r3)] h4 Q
    refine s_istore_n 19 2 rfl dX9_energy_18 rfl (by decide) (L2 := [(2, 41), (0, x1), (0, r3), (9, 0), (9, 0), (9, 0), (9, 0)]) rfl ?_
    refine s_iload_n 20 2 rfl dX9_energy_19 rfl rfl ?_
    refine s_iconst 21 rfl dX9_energy_20 ⟨by decide, by decide⟩ ?_
    refine s_icmp_ne 24 28 rfl dX9_energy_21 (by decide) (fun c7 => ?_) (fun c7 => ?_)
    · replace H := H.1 c7
      refine s_iload_n 29 1 rfl dX9_energy_28 rfl rfl ?_
      refine s_iconst 30 rfl dX9_energy_29 ⟨by decide, by decide⟩ ?_
      refine s_icmp_ne 33 40 rfl dX9_energy_30 (by decide) (fun c6 => ?_) (fun c6 => ?_)
      · replace H := H.1 c6
        refine s_aload_n 41 0 rfl dX9_energy_40 rfl rfl ?_
        refine s_iload_n 42 2 rfl dX9_energy_41 rfl rfl ?_
        refine s_callV (mj := mX9_run) (S := []) 45 [(0, r3)] [(2, 41), (0, r3), (9, 0)] 41 rfl dX9_energy_42 okX9_run w954 w956 w30 rfl (by decide) rfl rfl rfl rfl npX9_run (Nat.le_of_ble_eq_true rfl) (by decide) (Nat.le_of_ble_eq_true rfl) rfl (Wd.imp H (fun r5 h6 H => ?_))
        show Wd mX9_energy X 45 [(2, 41), (0, x1), (0, r3), (9, 0), (9, 0), (9, 0), (9, 0)] [(0, r5)] h6 Q
        refine s_istore_n 46 3 rfl dX9_energy_45 rfl (by decide) (L2 := [(2, 41), (0, x1), (0, r3), (0, r5), (9, 0), (9, 0), (9, 0)]) rfl ?_
        refine s_lconst 47 0 rfl dX9_energy_46 (by decide) ⟨by decide, by decide⟩ ?_
        refine s_lstore 49 4 rfl dX9_energy_47 (by decide) (L2 := [(2, 41), (0, x1), (0, r3), (0, r5), (1, 0), (9, 0), (9, 0)]) rfl ?_
        refine s_iload_n 50 2 rfl dX9_energy_49 rfl rfl ?_
        refine s_istore 52 6 rfl dX9_energy_50 (by decide) (L2 := [(2, 41), (0, x1), (0, r3), (0, r5), (1, 0), (9, 0), (0, r3)]) rfl ?_
        exact s_less [(2, 41), (9, 0), (0, r3), (0, r5), (1, 0), (9, 0), (0, r3)] ⟨Or.inr rfl, Or.inl rfl, Or.inr rfl, Or.inr rfl, Or.inr rfl, Or.inl rfl, Or.inr rfl, trivial⟩ H
      · replace H := H.2 c6
        refine s_aload_n 34 0 rfl dX9_energy_33 rfl rfl ?_
        refine s_getf 37 41 28 rfl dX9_energy_34 ck9 rfl (by decide) rfl (by decide) w763 rfl (v := (0, h4 41 28)) rfl ?_
        refine s_goto 45 dX9_energy_37 (by decide) ?_
        refine s_istore_n 46 3 rfl dX9_energy_45 rfl (by decide) (L2 := [(2, 41), (0, x1), (0, r3), (0, h4 41 28), (9, 0), (9, 0), (9, 0)]) rfl ?_
        refine s_lconst 47 0 rfl dX9_energy_46 (by decide) ⟨by decide, by decide⟩ ?_
        refine s_lstore 49 4 rfl dX9_energy_47 (by decide) (L2 := [(2, 41), (0, x1), (0, r3), (0, h4 41 28), (1, 0), (9, 0), (9, 0)]) rfl ?_
        refine s_iload_n 50 2 rfl dX9_energy_49 rfl rfl ?_
        refine s_istore 52 6 rfl dX9_energy_50 (by decide) (L2 := [(2, 41), (0, x1), (0, r3), (0, h4 41 28), (1, 0), (9, 0), (0, r3)]) rfl ?_
        exact s_less [(2, 41), (9, 0), (0, r3), (0, h4 41 28), (1, 0), (9, 0), (0, r3)] ⟨Or.inr rfl, Or.inl rfl, Or.inr rfl, Or.inr rfl, Or.inr rfl, Or.inl rfl, Or.inr rfl, trivial⟩ H
    · replace H := H.2 c7
      refine s_ldc2 27 (-1) rfl dX9_energy_24 w1033 ⟨by decide, by decide⟩ ?_
      exact s_lret (S := []) dX9_energy_27 rfl H
  · replace H := H.2 c12
    refine s_iconst 10 rfl dX9_energy_9 ⟨by decide, by decide⟩ ?_
    refine s_goto 18 dX9_energy_10 (by decide) ?_
    refine s_istore_n 19 2 rfl dX9_energy_18 rfl (by decide) (L2 := [(2, 41), (0, x1), (0, 0), (9, 0), (9, 0), (9, 0), (9, 0)]) rfl ?_
    refine s_iload_n 20 2 rfl dX9_energy_19 rfl rfl ?_
    refine s_iconst 21 rfl dX9_energy_20 ⟨by decide, by decide⟩ ?_
    refine s_icmp_ne 24 28 rfl dX9_energy_21 (by decide) (fun c8 => ?_) (fun c8 => ?_)
    · refine s_iload_n 29 1 rfl dX9_energy_28 rfl rfl ?_
      refine s_iconst 30 rfl dX9_energy_29 ⟨by decide, by decide⟩ ?_
      refine s_icmp_ne 33 40 rfl dX9_energy_30 (by decide) (fun c11 => ?_) (fun c11 => ?_)
      · replace H := H.1 c11
        refine s_aload_n 41 0 rfl dX9_energy_40 rfl rfl ?_
        refine s_iload_n 42 2 rfl dX9_energy_41 rfl rfl ?_
        refine s_callV (mj := mX9_run) (S := []) 45 [(0, 0)] [(2, 41), (0, 0), (9, 0)] 41 rfl dX9_energy_42 okX9_run w954 w956 w30 rfl (by decide) rfl rfl rfl rfl npX9_run (Nat.le_of_ble_eq_true rfl) (by decide) (Nat.le_of_ble_eq_true rfl) rfl (Wd.imp H (fun r10 h11 H => ?_))
        show Wd mX9_energy X 45 [(2, 41), (0, x1), (0, 0), (9, 0), (9, 0), (9, 0), (9, 0)] [(0, r10)] h11 Q
        refine s_istore_n 46 3 rfl dX9_energy_45 rfl (by decide) (L2 := [(2, 41), (0, x1), (0, 0), (0, r10), (9, 0), (9, 0), (9, 0)]) rfl ?_
        refine s_lconst 47 0 rfl dX9_energy_46 (by decide) ⟨by decide, by decide⟩ ?_
        refine s_lstore 49 4 rfl dX9_energy_47 (by decide) (L2 := [(2, 41), (0, x1), (0, 0), (0, r10), (1, 0), (9, 0), (9, 0)]) rfl ?_
        refine s_iload_n 50 2 rfl dX9_energy_49 rfl rfl ?_
        refine s_istore 52 6 rfl dX9_energy_50 (by decide) (L2 := [(2, 41), (0, x1), (0, 0), (0, r10), (1, 0), (9, 0), (0, 0)]) rfl ?_
        exact s_less [(2, 41), (9, 0), (0, 0), (0, r10), (1, 0), (9, 0), (0, 0)] ⟨Or.inr rfl, Or.inl rfl, Or.inr rfl, Or.inr rfl, Or.inr rfl, Or.inl rfl, Or.inr rfl, trivial⟩ H
      · replace H := H.2 c11
        refine s_aload_n 34 0 rfl dX9_energy_33 rfl rfl ?_
        refine s_getf 37 41 28 rfl dX9_energy_34 ck9 rfl (by decide) rfl (by decide) w763 rfl (v := (0, h2 41 28)) rfl ?_
        refine s_goto 45 dX9_energy_37 (by decide) ?_
        refine s_istore_n 46 3 rfl dX9_energy_45 rfl (by decide) (L2 := [(2, 41), (0, x1), (0, 0), (0, h2 41 28), (9, 0), (9, 0), (9, 0)]) rfl ?_
        refine s_lconst 47 0 rfl dX9_energy_46 (by decide) ⟨by decide, by decide⟩ ?_
        refine s_lstore 49 4 rfl dX9_energy_47 (by decide) (L2 := [(2, 41), (0, x1), (0, 0), (0, h2 41 28), (1, 0), (9, 0), (9, 0)]) rfl ?_
        refine s_iload_n 50 2 rfl dX9_energy_49 rfl rfl ?_
        refine s_istore 52 6 rfl dX9_energy_50 (by decide) (L2 := [(2, 41), (0, x1), (0, 0), (0, h2 41 28), (1, 0), (9, 0), (0, 0)]) rfl ?_
        exact s_less [(2, 41), (9, 0), (0, 0), (0, h2 41 28), (1, 0), (9, 0), (0, 0)] ⟨Or.inr rfl, Or.inl rfl, Or.inr rfl, Or.inr rfl, Or.inr rfl, Or.inl rfl, Or.inr rfl, trivial⟩ H
    · exact absurd c8 (by decide)
theorem vX9_energy_52 {X : Nat × (Int → Int)} {h : HP} {Q : Int → HP → Prop} {x2 x3 x4 x6 : Int} (H : inI (x2 + x3) ∧ (((x2 + x3) ≤ x6 → (Q x4 h)) ∧ (¬ ((x2 + x3) ≤ x6) → (Wd mX9_height X 0 [(2, 41), (0, x6)] [] h (fun r2 h3 => Wd mX9_height X 0 [(2, 41), (0, x6)] [] h3 (fun r4 h5 => inJ (r2 * r4) ∧ inJ (x4 + r2 * r4) ∧ inI (x6 + 1) ∧ Wd mX9_energy X 52 [(2, 41), (9, 0), (0, x2), (0, x3), (1, x4 + r2 * r4), (9, 0), (0, x6 + 1)] [] h5 Q)))))) : Wd mX9_energy X 52 [(2, 41), (9, 0), (0, x2), (0, x3), (1, x4), (9, 0), (0, x6)] [] h Q := by
  refine s_iload 54 6 rfl dX9_energy_52 rfl ?_
  refine s_iload_n 55 2 rfl dX9_energy_54 rfl rfl ?_
  refine s_iload_n 56 3 rfl dX9_energy_55 rfl rfl ?_
  have c0 := H.1
  replace H := H.2
  refine s_iadd 57 rfl dX9_energy_56 c0 ?_
  refine s_icmp_ge 60 86 rfl dX9_energy_57 (by decide) (fun c8 => ?_) (fun c8 => ?_)
  · replace H := H.1 c8
    refine s_lload 88 4 rfl dX9_energy_86 rfl ?_
    exact s_lret (S := []) dX9_energy_88 rfl H
  · replace H := H.2 c8
    refine s_lload 62 4 rfl dX9_energy_60 rfl ?_
    refine s_aload_n 63 0 rfl dX9_energy_62 rfl rfl ?_
    refine s_iload 65 6 rfl dX9_energy_63 rfl ?_
    refine s_callV (mj := mX9_height) (S := [(1, x4)]) 68 [(0, x6)] [(2, 41), (0, x6)] 41 rfl dX9_energy_65 okX9_height w922 w924 w22 rfl (by decide) rfl rfl rfl rfl npX9_height (Nat.le_of_ble_eq_true rfl) (by decide) (Nat.le_of_ble_eq_true rfl) rfl (Wd.imp H (fun r2 h3 H => ?_))
    show Wd mX9_energy X 68 [(2, 41), (9, 0), (0, x2), (0, x3), (1, x4), (9, 0), (0, x6)] [(0, r2), (1, x4)] h3 Q
    refine s_i2l 69 rfl dX9_energy_68 ?_
    refine s_aload_n 70 0 rfl dX9_energy_69 rfl rfl ?_
    refine s_iload 72 6 rfl dX9_energy_70 rfl ?_
    refine s_callV (mj := mX9_height) (S := [(1, r2), (1, x4)]) 75 [(0, x6)] [(2, 41), (0, x6)] 41 rfl dX9_energy_72 okX9_height w922 w924 w22 rfl (by decide) rfl rfl rfl rfl npX9_height (Nat.le_of_ble_eq_true rfl) (by decide) (Nat.le_of_ble_eq_true rfl) rfl (Wd.imp H (fun r4 h5 H => ?_))
    show Wd mX9_energy X 75 [(2, 41), (9, 0), (0, x2), (0, x3), (1, x4), (9, 0), (0, x6)] [(0, r4), (1, r2), (1, x4)] h5 Q
    refine s_i2l 76 rfl dX9_energy_75 ?_
    have c5 := H.1
    replace H := H.2
    refine s_lmul 77 rfl dX9_energy_76 c5 ?_
    have c6 := H.1
    replace H := H.2
    refine s_ladd 78 rfl dX9_energy_77 c6 ?_
    refine s_lstore 80 4 rfl dX9_energy_78 (by decide) (L2 := [(2, 41), (9, 0), (0, x2), (0, x3), (1, x4 + r2 * r4), (9, 0), (0, x6)]) rfl ?_
    have c7 := H.1
    replace H := H.2
    refine s_iinc 83 6 rfl dX9_energy_80 (by decide) (z := x6) rfl (L2 := [(2, 41), (9, 0), (0, x2), (0, x3), (1, x4 + r2 * r4), (9, 0), (0, x6 + 1)]) rfl c7 ?_
    refine s_goto 52 dX9_energy_83 (by decide) ?_
    exact H
theorem vX9_sampleOf_0 {X : Nat × (Int → Int)} {h : HP} {Q : Int → HP → Prop} {x1 : Int} (H : Wd mX9_sampleOf X 2 [(2, 41), (0, x1), (0, 0)] [] h Q) : Wd mX9_sampleOf X 0 [(2, 41), (0, x1), (9, 0)] [] h Q := by
  refine s_iconst 1 rfl dX9_sampleOf_0 ⟨by decide, by decide⟩ ?_
  refine s_istore_n 2 2 rfl dX9_sampleOf_1 rfl (by decide) (L2 := [(2, 41), (0, x1), (0, 0)]) rfl ?_
  exact H
theorem vX9_sampleOf_2 {X : Nat × (Int → Int)} {h : HP} {Q : Int → HP → Prop} {x1 x2 : Int} (H : ((h 41 5 ≤ x2 → (Q (-1) h)) ∧ (¬ (h 41 5 ≤ x2) → (0 ≤ x2 ∧ x2 < 600 ∧ ((¬ h 46 x2 = x1 → (inI (x2 + 1) ∧ Wd mX9_sampleOf X 2 [(2, 41), (0, x1), (0, x2 + 1)] [] h Q)) ∧ (h 46 x2 = x1 → (Q x2 h))))))) : Wd mX9_sampleOf X 2 [(2, 41), (0, x1), (0, x2)] [] h Q := by
  refine s_iload_n 3 2 rfl dX9_sampleOf_2 rfl rfl ?_
  refine s_aload_n 4 0 rfl dX9_sampleOf_3 rfl rfl ?_
  refine s_getf 7 41 5 rfl dX9_sampleOf_4 ck9 rfl (by decide) rfl (by decide) w740 rfl (v := (0, h 41 5)) rfl ?_
  refine s_icmp_ge 10 28 rfl dX9_sampleOf_7 (by decide) (fun c4 => ?_) (fun c4 => ?_)
  · replace H := H.1 c4
    refine s_iconst 29 rfl dX9_sampleOf_28 ⟨by decide, by decide⟩ ?_
    exact s_iret (S := []) dX9_sampleOf_29 rfl H
  · replace H := H.2 c4
    refine s_aload_n 11 0 rfl dX9_sampleOf_10 rfl rfl ?_
    refine s_getf 14 41 4 rfl dX9_sampleOf_11 ck9 rfl (by decide) rfl (by decide) w739 rfl (v := (2, 46)) rfl ?_
    refine s_iload_n 15 2 rfl dX9_sampleOf_14 rfl rfl ?_
    have c0 := H.1
    replace H := H.2
    have c1 := H.1
    replace H := H.2
    refine s_iald 16 rfl dX9_sampleOf_15 ia46 c0 c1 (v9 := h 46 x2) rfl ?_
    refine s_iload_n 17 1 rfl dX9_sampleOf_16 rfl rfl ?_
    refine s_icmp_ne 20 22 rfl dX9_sampleOf_17 (by decide) (fun c3 => ?_) (fun c3 => ?_)
    · replace H := H.1 c3
      have c2 := H.1
      replace H := H.2
      refine s_iinc 25 2 rfl dX9_sampleOf_22 (by decide) (z := x2) rfl (L2 := [(2, 41), (0, x1), (0, x2 + 1)]) rfl c2 ?_
      refine s_goto 2 dX9_sampleOf_25 (by decide) ?_
      exact H
    · replace H := H.2 c3
      refine s_iload_n 21 2 rfl dX9_sampleOf_20 rfl rfl ?_
      exact s_iret (S := []) dX9_sampleOf_21 rfl H
theorem vX9_name_0 {X : Nat × (Int → Int)} {h : HP} {Q : Int → HP → Prop} {x1 x2 : Int} (H : Wd mX9_laysWaves X 0 [(2, 41), (9, 0), (9, 0), (9, 0)] [] h (fun _ h2 => Wd mX9_isWave X 0 [(2, 41), (0, x1)] [] h2 (fun r3 h4 => ((r3 = 0 → (Q 0 h4)) ∧ (¬ r3 = 0 → (Wd mX9_isIn X 0 [(0, x2), (0, 1), (0, 999)] [] h4 (fun r5 h6 => ((r5 = 0 → (Q 0 h6)) ∧ (¬ r5 = 0 → (0 ≤ x1 ∧ x1 < 301 ∧ 0 ≤ h6 61 x1 ∧ h6 61 x1 < 600 ∧ ((¬ h6 46 (h6 61 x1) = (-1) → (Q 0 h6)) ∧ (h6 46 (h6 61 x1) = (-1) → (Wd mX9_sampleOf X 0 [(2, 41), (0, x2), (9, 0)] [] h6 (fun r11 h12 => ((¬ r11 = (-1) → (Q 0 h12)) ∧ (r11 = (-1) → (Wd mX9_names X 0 [(2, 41), (9, 0), (9, 0)] [] h12 (fun r13 h14 => ((¬ r13 = 20 → (0 ≤ h14 61 x1 ∧ h14 61 x1 < 600 ∧ Q 1 (xu h14 46 (h14 61 x1) x2))) ∧ (r13 = 20 → (Q 0 h14))))))))))))))))))))) : Wd mX9_name X 0 [(2, 41), (0, x1), (0, x2)] [] h Q := by
  refine s_aload_n 1 0 rfl dX9_name_0 rfl rfl ?_
  refine s_callV (mj := mX9_laysWaves) (S := []) 4 [] [(2, 41), (9, 0), (9, 0), (9, 0)] 41 rfl dX9_name_1 okX9_laysWaves w878 w880 w12 rfl (by decide) rfl rfl rfl rfl npX9_laysWaves (Nat.le_of_ble_eq_true rfl) (by decide) (Nat.le_of_ble_eq_true rfl) rfl (Wd.imp H (fun _ h2 H => ?_))
  show Wd mX9_name X 4 [(2, 41), (0, x1), (0, x2)] [] h2 Q
  refine s_aload_n 5 0 rfl dX9_name_4 rfl rfl ?_
  refine s_iload_n 6 1 rfl dX9_name_5 rfl rfl ?_
  refine s_callV (mj := mX9_isWave) (S := []) 9 [(0, x1)] [(2, 41), (0, x1)] 41 rfl dX9_name_6 okX9_isWave w994 w996 w36 rfl (by decide) rfl rfl rfl rfl npX9_isWave (Nat.le_of_ble_eq_true rfl) (by decide) (Nat.le_of_ble_eq_true rfl) rfl (Wd.imp H (fun r3 h4 H => ?_))
  show Wd mX9_name X 9 [(2, 41), (0, x1), (0, x2)] [(0, r3)] h4 Q
  refine s_if_eq 12 56 rfl dX9_name_9 (by decide) (fun c20 => ?_) (fun c20 => ?_)
  · replace H := H.1 c20
    refine s_iconst 57 rfl dX9_name_56 ⟨by decide, by decide⟩ ?_
    exact s_zret (S := []) dX9_name_57 rfl (Or.inl rfl) H
  · replace H := H.2 c20
    refine s_iload_n 13 2 rfl dX9_name_12 rfl rfl ?_
    refine s_iconst 14 rfl dX9_name_13 ⟨by decide, by decide⟩ ?_
    refine s_sipush 17 rfl dX9_name_14 (by decide) ⟨by decide, by decide⟩ ?_
    refine s_callS (mj := mX9_isIn) (S := []) 20 [(0, x2), (0, 1), (0, 999)] [(0, x2), (0, 1), (0, 999)] rfl dX9_name_17 okX9_isIn w834 w835 rfl npX9_isIn (Nat.le_of_ble_eq_true rfl) (by decide) (Nat.le_of_ble_eq_true rfl) rfl (Wd.imp H (fun r5 h6 H => ?_))
    show Wd mX9_name X 20 [(2, 41), (0, x1), (0, x2)] [(0, r5)] h6 Q
    refine s_if_eq 23 56 rfl dX9_name_20 (by decide) (fun c19 => ?_) (fun c19 => ?_)
    · replace H := H.1 c19
      refine s_iconst 57 rfl dX9_name_56 ⟨by decide, by decide⟩ ?_
      exact s_zret (S := []) dX9_name_57 rfl (Or.inl rfl) H
    · replace H := H.2 c19
      refine s_aload_n 24 0 rfl dX9_name_23 rfl rfl ?_
      refine s_getf 27 41 4 rfl dX9_name_24 ck9 rfl (by decide) rfl (by decide) w739 rfl (v := (2, 46)) rfl ?_
      refine s_aload_n 28 0 rfl dX9_name_27 rfl rfl ?_
      refine s_getf 31 41 24 rfl dX9_name_28 ck9 rfl (by decide) rfl (by decide) w759 rfl (v := (2, 61)) rfl ?_
      refine s_iload_n 32 1 rfl dX9_name_31 rfl rfl ?_
      have c6 := H.1
      replace H := H.2
      have c7 := H.1
      replace H := H.2
      refine s_iald 33 rfl dX9_name_32 ia61 c6 c7 (v9 := h6 61 x1) rfl ?_
      have c8 := H.1
      replace H := H.2
      have c9 := H.1
      replace H := H.2
      refine s_iald 34 rfl dX9_name_33 ia46 c8 c9 (v9 := h6 46 (h6 61 x1)) rfl ?_
      refine s_iconst 35 rfl dX9_name_34 ⟨by decide, by decide⟩ ?_
      refine s_icmp_ne 38 56 rfl dX9_name_35 (by decide) (fun c18 => ?_) (fun c18 => ?_)
      · replace H := H.1 c18
        refine s_iconst 57 rfl dX9_name_56 ⟨by decide, by decide⟩ ?_
        exact s_zret (S := []) dX9_name_57 rfl (Or.inl rfl) H
      · replace H := H.2 c18
        refine s_aload_n 39 0 rfl dX9_name_38 rfl rfl ?_
        refine s_iload_n 40 2 rfl dX9_name_39 rfl rfl ?_
        refine s_callV (mj := mX9_sampleOf) (S := []) 43 [(0, x2)] [(2, 41), (0, x2), (9, 0)] 41 rfl dX9_name_40 okX9_sampleOf w1038 w1040 w40 rfl (by decide) rfl rfl rfl rfl npX9_sampleOf (Nat.le_of_ble_eq_true rfl) (by decide) (Nat.le_of_ble_eq_true rfl) rfl (Wd.imp H (fun r11 h12 H => ?_))
        show Wd mX9_name X 43 [(2, 41), (0, x1), (0, x2)] [(0, r11)] h12 Q
        refine s_iconst 44 rfl dX9_name_43 ⟨by decide, by decide⟩ ?_
        refine s_icmp_ne 47 56 rfl dX9_name_44 (by decide) (fun c17 => ?_) (fun c17 => ?_)
        · replace H := H.1 c17
          refine s_iconst 57 rfl dX9_name_56 ⟨by decide, by decide⟩ ?_
          exact s_zret (S := []) dX9_name_57 rfl (Or.inl rfl) H
        · replace H := H.2 c17
          refine s_aload_n 48 0 rfl dX9_name_47 rfl rfl ?_
          refine s_callV (mj := mX9_names) (S := []) 51 [] [(2, 41), (9, 0), (9, 0)] 41 rfl dX9_name_48 okX9_names w958 w960 w31 rfl (by decide) rfl rfl rfl rfl npX9_names (Nat.le_of_ble_eq_true rfl) (by decide) (Nat.le_of_ble_eq_true rfl) rfl (Wd.imp H (fun r13 h14 H => ?_))
          show Wd mX9_name X 51 [(2, 41), (0, x1), (0, x2)] [(0, r13)] h14 Q
          refine s_bipush 53 rfl dX9_name_51 (by decide) ⟨by decide, by decide⟩ ?_
          refine s_icmp_ne 56 58 rfl dX9_name_53 (by decide) (fun c16 => ?_) (fun c16 => ?_)
          · replace H := H.1 c16
            refine s_aload_n 59 0 rfl dX9_name_58 rfl rfl ?_
            refine s_getf 62 41 4 rfl dX9_name_59 ck9 rfl (by decide) rfl (by decide) w739 rfl (v := (2, 46)) rfl ?_
            refine s_aload_n 63 0 rfl dX9_name_62 rfl rfl ?_
            refine s_getf 66 41 24 rfl dX9_name_63 ck9 rfl (by decide) rfl (by decide) w759 rfl (v := (2, 61)) rfl ?_
            refine s_iload_n 67 1 rfl dX9_name_66 rfl rfl ?_
            refine s_iald 68 rfl dX9_name_67 ia61 c6 c7 (v9 := h14 61 x1) rfl ?_
            refine s_iload_n 69 2 rfl dX9_name_68 rfl rfl ?_
            have c14 := H.1
            replace H := H.2
            have c15 := H.1
            replace H := H.2
            refine s_iast 70 rfl dX9_name_69 ia46 c14 c15 ?_
            refine s_iconst 71 rfl dX9_name_70 ⟨by decide, by decide⟩ ?_
            exact s_zret (S := []) dX9_name_71 rfl (Or.inr rfl) H
          · replace H := H.2 c16
            refine s_iconst 57 rfl dX9_name_56 ⟨by decide, by decide⟩ ?_
            exact s_zret (S := []) dX9_name_57 rfl (Or.inl rfl) H
theorem vX9_unname_0 {X : Nat × (Int → Int)} {h : HP} {Q : Int → HP → Prop} {x1 : Int} (H : Wd mX9_isIn X 0 [(0, x1), (0, 1), (0, 999)] [] h (fun r1 h2 => ((¬ r1 = 0 → (Wd mX9_sampleOf X 0 [(2, 41), (0, x1), (9, 0)] [] h2 (fun r3 h4 => ((r3 = (-1) → (Q r3 h4)) ∧ (¬ r3 = (-1) → (0 ≤ r3 ∧ r3 < 600 ∧ Q r3 (xu h4 46 r3 (-1)))))))) ∧ (r1 = 0 → (Q (-1) h2))))) : Wd mX9_unname X 0 [(2, 41), (0, x1), (9, 0)] [] h Q := by
  refine s_iload_n 1 1 rfl dX9_unname_0 rfl rfl ?_
  refine s_iconst 2 rfl dX9_unname_1 ⟨by decide, by decide⟩ ?_
  refine s_sipush 5 rfl dX9_unname_2 (by decide) ⟨by decide, by decide⟩ ?_
  refine s_callS (mj := mX9_isIn) (S := []) 8 [(0, x1), (0, 1), (0, 999)] [(0, x1), (0, 1), (0, 999)] rfl dX9_unname_5 okX9_isIn w834 w835 rfl npX9_isIn (Nat.le_of_ble_eq_true rfl) (by decide) (Nat.le_of_ble_eq_true rfl) rfl (Wd.imp H (fun r1 h2 H => ?_))
  show Wd mX9_unname X 8 [(2, 41), (0, x1), (9, 0)] [(0, r1)] h2 Q
  refine s_if_ne 11 13 rfl dX9_unname_8 (by decide) (fun c7 => ?_) (fun c7 => ?_)
  · replace H := H.1 c7
    refine s_aload_n 14 0 rfl dX9_unname_13 rfl rfl ?_
    refine s_iload_n 15 1 rfl dX9_unname_14 rfl rfl ?_
    refine s_callV (mj := mX9_sampleOf) (S := []) 18 [(0, x1)] [(2, 41), (0, x1), (9, 0)] 41 rfl dX9_unname_15 okX9_sampleOf w1038 w1040 w40 rfl (by decide) rfl rfl rfl rfl npX9_sampleOf (Nat.le_of_ble_eq_true rfl) (by decide) (Nat.le_of_ble_eq_true rfl) rfl (Wd.imp H (fun r3 h4 H => ?_))
    show Wd mX9_unname X 18 [(2, 41), (0, x1), (9, 0)] [(0, r3)] h4 Q
    refine s_istore_n 19 2 rfl dX9_unname_18 rfl (by decide) (L2 := [(2, 41), (0, x1), (0, r3)]) rfl ?_
    refine s_iload_n 20 2 rfl dX9_unname_19 rfl rfl ?_
    refine s_iconst 21 rfl dX9_unname_20 ⟨by decide, by decide⟩ ?_
    refine s_icmp_eq 24 31 rfl dX9_unname_21 (by decide) (fun c6 => ?_) (fun c6 => ?_)
    · replace H := H.1 c6
      refine s_iload_n 32 2 rfl dX9_unname_31 rfl rfl ?_
      exact s_iret (S := []) dX9_unname_32 rfl H
    · replace H := H.2 c6
      refine s_aload_n 25 0 rfl dX9_unname_24 rfl rfl ?_
      refine s_getf 28 41 4 rfl dX9_unname_25 ck9 rfl (by decide) rfl (by decide) w739 rfl (v := (2, 46)) rfl ?_
      refine s_iload_n 29 2 rfl dX9_unname_28 rfl rfl ?_
      refine s_iconst 30 rfl dX9_unname_29 ⟨by decide, by decide⟩ ?_
      have c4 := H.1
      replace H := H.2
      have c5 := H.1
      replace H := H.2
      refine s_iast 31 rfl dX9_unname_30 ia46 c4 c5 ?_
      refine s_iload_n 32 2 rfl dX9_unname_31 rfl rfl ?_
      exact s_iret (S := []) dX9_unname_32 rfl H
  · replace H := H.2 c7
    refine s_iconst 12 rfl dX9_unname_11 ⟨by decide, by decide⟩ ?_
    exact s_iret (S := []) dX9_unname_12 rfl H
theorem vX9_named_0 {X : Nat × (Int → Int)} {h : HP} {Q : Int → HP → Prop} {x1 : Int} (H : Wd mX9_isIn X 0 [(0, x1), (0, 1), (0, 999)] [] h (fun r1 h2 => ((r1 = 0 → (Q (-1) h2)) ∧ (¬ r1 = 0 → (Wd mX9_sampleOf X 0 [(2, 41), (0, x1), (9, 0)] [] h2 (fun r3 h4 => ((¬ r3 = (-1) → (Wd mX9_laysWaves X 0 [(2, 41), (9, 0), (9, 0), (9, 0)] [] h4 (fun _ h6 => Wd mX9_sampleOf X 0 [(2, 41), (0, x1), (9, 0)] [] h6 (fun r7 h8 => 0 ≤ r7 ∧ r7 < 600 ∧ Q (h8 56 r7) h8)))) ∧ (r3 = (-1) → (Q (-1) h4))))))))) : Wd mX9_named X 0 [(2, 41), (0, x1)] [] h Q := by
  refine s_iload_n 1 1 rfl dX9_named_0 rfl rfl ?_
  refine s_iconst 2 rfl dX9_named_1 ⟨by decide, by decide⟩ ?_
  refine s_sipush 5 rfl dX9_named_2 (by decide) ⟨by decide, by decide⟩ ?_
  refine s_callS (mj := mX9_isIn) (S := []) 8 [(0, x1), (0, 1), (0, 999)] [(0, x1), (0, 1), (0, 999)] rfl dX9_named_5 okX9_isIn w834 w835 rfl npX9_isIn (Nat.le_of_ble_eq_true rfl) (by decide) (Nat.le_of_ble_eq_true rfl) rfl (Wd.imp H (fun r1 h2 H => ?_))
  show Wd mX9_named X 8 [(2, 41), (0, x1)] [(0, r1)] h2 Q
  refine s_if_eq 11 20 rfl dX9_named_8 (by decide) (fun c11 => ?_) (fun c11 => ?_)
  · replace H := H.1 c11
    refine s_iconst 21 rfl dX9_named_20 ⟨by decide, by decide⟩ ?_
    exact s_iret (S := []) dX9_named_21 rfl H
  · replace H := H.2 c11
    refine s_aload_n 12 0 rfl dX9_named_11 rfl rfl ?_
    refine s_iload_n 13 1 rfl dX9_named_12 rfl rfl ?_
    refine s_callV (mj := mX9_sampleOf) (S := []) 16 [(0, x1)] [(2, 41), (0, x1), (9, 0)] 41 rfl dX9_named_13 okX9_sampleOf w1038 w1040 w40 rfl (by decide) rfl rfl rfl rfl npX9_sampleOf (Nat.le_of_ble_eq_true rfl) (by decide) (Nat.le_of_ble_eq_true rfl) rfl (Wd.imp H (fun r3 h4 H => ?_))
    show Wd mX9_named X 16 [(2, 41), (0, x1)] [(0, r3)] h4 Q
    refine s_iconst 17 rfl dX9_named_16 ⟨by decide, by decide⟩ ?_
    refine s_icmp_ne 20 22 rfl dX9_named_17 (by decide) (fun c10 => ?_) (fun c10 => ?_)
    · replace H := H.1 c10
      refine s_aload_n 23 0 rfl dX9_named_22 rfl rfl ?_
      refine s_callV (mj := mX9_laysWaves) (S := []) 26 [] [(2, 41), (9, 0), (9, 0), (9, 0)] 41 rfl dX9_named_23 okX9_laysWaves w878 w880 w12 rfl (by decide) rfl rfl rfl rfl npX9_laysWaves (Nat.le_of_ble_eq_true rfl) (by decide) (Nat.le_of_ble_eq_true rfl) rfl (Wd.imp H (fun _ h6 H => ?_))
      show Wd mX9_named X 26 [(2, 41), (0, x1)] [] h6 Q
      refine s_aload_n 27 0 rfl dX9_named_26 rfl rfl ?_
      refine s_getf 30 41 19 rfl dX9_named_27 ck9 rfl (by decide) rfl (by decide) w754 rfl (v := (2, 56)) rfl ?_
      refine s_aload_n 31 0 rfl dX9_named_30 rfl rfl ?_
      refine s_iload_n 32 1 rfl dX9_named_31 rfl rfl ?_
      refine s_callV (mj := mX9_sampleOf) (S := [(2, 56)]) 35 [(0, x1)] [(2, 41), (0, x1), (9, 0)] 41 rfl dX9_named_32 okX9_sampleOf w1038 w1040 w40 rfl (by decide) rfl rfl rfl rfl npX9_sampleOf (Nat.le_of_ble_eq_true rfl) (by decide) (Nat.le_of_ble_eq_true rfl) rfl (Wd.imp H (fun r7 h8 H => ?_))
      show Wd mX9_named X 35 [(2, 41), (0, x1)] [(0, r7), (2, 56)] h8 Q
      have c8 := H.1
      replace H := H.2
      have c9 := H.1
      replace H := H.2
      refine s_iald 36 rfl dX9_named_35 ia56 c8 c9 (v9 := h8 56 r7) rfl ?_
      exact s_iret (S := []) dX9_named_36 rfl H
    · replace H := H.2 c10
      refine s_iconst 21 rfl dX9_named_20 ⟨by decide, by decide⟩ ?_
      exact s_iret (S := []) dX9_named_21 rfl H
theorem vX9_would_0 {X : Nat × (Int → Int)} {h : HP} {Q : Int → HP → Prop} {x1 : Int} (H : Wd mX9_isIn X 0 [(0, x1), (0, 0), (0, 500)] [] h (fun r1 h2 => ((¬ r1 = 0 → (Wd mX9_laysWaves X 0 [(2, 41), (9, 0), (9, 0), (9, 0)] [] h2 (fun _ h4 => Wd mX9_countWaves X 0 [(2, 41), (0, x1), (9, 0), (9, 0), (9, 0), (9, 0)] [] h4 (fun r5 h6 => Q r5 h6)))) ∧ (r1 = 0 → (Q (-1) h2))))) : Wd mX9_would X 0 [(2, 41), (0, x1)] [] h Q := by
  refine s_iload_n 1 1 rfl dX9_would_0 rfl rfl ?_
  refine s_iconst 2 rfl dX9_would_1 ⟨by decide, by decide⟩ ?_
  refine s_sipush 5 rfl dX9_would_2 (by decide) ⟨by decide, by decide⟩ ?_
  refine s_callS (mj := mX9_isIn) (S := []) 8 [(0, x1), (0, 0), (0, 500)] [(0, x1), (0, 0), (0, 500)] rfl dX9_would_5 okX9_isIn w834 w835 rfl npX9_isIn (Nat.le_of_ble_eq_true rfl) (by decide) (Nat.le_of_ble_eq_true rfl) rfl (Wd.imp H (fun r1 h2 H => ?_))
  show Wd mX9_would X 8 [(2, 41), (0, x1)] [(0, r1)] h2 Q
  refine s_if_ne 11 13 rfl dX9_would_8 (by decide) (fun c6 => ?_) (fun c6 => ?_)
  · replace H := H.1 c6
    refine s_aload_n 14 0 rfl dX9_would_13 rfl rfl ?_
    refine s_callV (mj := mX9_laysWaves) (S := []) 17 [] [(2, 41), (9, 0), (9, 0), (9, 0)] 41 rfl dX9_would_14 okX9_laysWaves w878 w880 w12 rfl (by decide) rfl rfl rfl rfl npX9_laysWaves (Nat.le_of_ble_eq_true rfl) (by decide) (Nat.le_of_ble_eq_true rfl) rfl (Wd.imp H (fun _ h4 H => ?_))
    show Wd mX9_would X 17 [(2, 41), (0, x1)] [] h4 Q
    refine s_aload_n 18 0 rfl dX9_would_17 rfl rfl ?_
    refine s_iload_n 19 1 rfl dX9_would_18 rfl rfl ?_
    refine s_callV (mj := mX9_countWaves) (S := []) 22 [(0, x1)] [(2, 41), (0, x1), (9, 0), (9, 0), (9, 0), (9, 0)] 41 rfl dX9_would_19 okX9_countWaves w1054 w1056 w41 rfl (by decide) rfl rfl rfl rfl npX9_countWaves (Nat.le_of_ble_eq_true rfl) (by decide) (Nat.le_of_ble_eq_true rfl) rfl (Wd.imp H (fun r5 h6 H => ?_))
    show Wd mX9_would X 22 [(2, 41), (0, x1)] [(0, r5)] h6 Q
    exact s_iret (S := []) dX9_would_22 rfl H
  · replace H := H.2 c6
    refine s_iconst 12 rfl dX9_would_11 ⟨by decide, by decide⟩ ?_
    exact s_iret (S := []) dX9_would_12 rfl H
theorem vX9_quiet_0 {X : Nat × (Int → Int)} {h : HP} {Q : Int → HP → Prop} {x1 : Int} (H : ((0 ≤ x1 → (Wd mX9_laysWaves X 0 [(2, 41), (9, 0), (9, 0), (9, 0)] [] h (fun _ h2 => Wd mX9_quiet X 12 [(2, 41), (0, x1), (0, 0)] [] h2 Q))) ∧ (¬ (0 ≤ x1) → (Q (-1) h)))) : Wd mX9_quiet X 0 [(2, 41), (0, x1), (9, 0)] [] h Q := by
  refine s_iload_n 1 1 rfl dX9_quiet_0 rfl rfl ?_
  refine s_if_ge 4 6 rfl dX9_quiet_1 (by decide) (fun c2 => ?_) (fun c2 => ?_)
  · replace H := H.1 c2
    refine s_aload_n 7 0 rfl dX9_quiet_6 rfl rfl ?_
    refine s_callV (mj := mX9_laysWaves) (S := []) 10 [] [(2, 41), (9, 0), (9, 0), (9, 0)] 41 rfl dX9_quiet_7 okX9_laysWaves w878 w880 w12 rfl (by decide) rfl rfl rfl rfl npX9_laysWaves (Nat.le_of_ble_eq_true rfl) (by decide) (Nat.le_of_ble_eq_true rfl) rfl (Wd.imp H (fun _ h2 H => ?_))
    show Wd mX9_quiet X 10 [(2, 41), (0, x1), (9, 0)] [] h2 Q
    refine s_iconst 11 rfl dX9_quiet_10 ⟨by decide, by decide⟩ ?_
    refine s_istore_n 12 2 rfl dX9_quiet_11 rfl (by decide) (L2 := [(2, 41), (0, x1), (0, 0)]) rfl ?_
    exact H
  · replace H := H.2 c2
    refine s_iconst 5 rfl dX9_quiet_4 ⟨by decide, by decide⟩ ?_
    exact s_iret (S := []) dX9_quiet_5 rfl H
theorem vX9_quiet_12 {X : Nat × (Int → Int)} {h : HP} {Q : Int → HP → Prop} {x1 x2 : Int} (H : ((500 < x2 → (Q (-1) h)) ∧ (¬ (500 < x2) → (Wd mX9_countWaves X 0 [(2, 41), (0, x2), (9, 0), (9, 0), (9, 0), (9, 0)] [] h (fun r1 h2 => ((x1 < r1 → (inI (x2 + 1) ∧ Wd mX9_quiet X 12 [(2, 41), (0, x1), (0, x2 + 1)] [] h2 Q)) ∧ (¬ (x1 < r1) → (Q x2 h2)))))))) : Wd mX9_quiet X 12 [(2, 41), (0, x1), (0, x2)] [] h Q := by
  refine s_iload_n 13 2 rfl dX9_quiet_12 rfl rfl ?_
  refine s_sipush 16 rfl dX9_quiet_13 (by decide) ⟨by decide, by decide⟩ ?_
  refine s_icmp_gt 19 36 rfl dX9_quiet_16 (by decide) (fun c4 => ?_) (fun c4 => ?_)
  · replace H := H.1 c4
    refine s_iconst 37 rfl dX9_quiet_36 ⟨by decide, by decide⟩ ?_
    exact s_iret (S := []) dX9_quiet_37 rfl H
  · replace H := H.2 c4
    refine s_aload_n 20 0 rfl dX9_quiet_19 rfl rfl ?_
    refine s_iload_n 21 2 rfl dX9_quiet_20 rfl rfl ?_
    refine s_callV (mj := mX9_countWaves) (S := []) 24 [(0, x2)] [(2, 41), (0, x2), (9, 0), (9, 0), (9, 0), (9, 0)] 41 rfl dX9_quiet_21 okX9_countWaves w1054 w1056 w41 rfl (by decide) rfl rfl rfl rfl npX9_countWaves (Nat.le_of_ble_eq_true rfl) (by decide) (Nat.le_of_ble_eq_true rfl) rfl (Wd.imp H (fun r1 h2 H => ?_))
    show Wd mX9_quiet X 24 [(2, 41), (0, x1), (0, x2)] [(0, r1)] h2 Q
    refine s_iload_n 25 1 rfl dX9_quiet_24 rfl rfl ?_
    refine s_icmp_gt 28 30 rfl dX9_quiet_25 (by decide) (fun c3 => ?_) (fun c3 => ?_)
    · replace H := H.1 c3
      have c2 := H.1
      replace H := H.2
      refine s_iinc 33 2 rfl dX9_quiet_30 (by decide) (z := x2) rfl (L2 := [(2, 41), (0, x1), (0, x2 + 1)]) rfl c2 ?_
      refine s_goto 12 dX9_quiet_33 (by decide) ?_
      exact H
    · replace H := H.2 c3
      refine s_iload_n 29 2 rfl dX9_quiet_28 rfl rfl ?_
      exact s_iret (S := []) dX9_quiet_29 rfl H
theorem vX9_hasCrossing_0 {X : Nat × (Int → Int)} {h : HP} {Q : Int → HP → Prop} {x1 x2 : Int} (H : 0 ≤ x1 ∧ x1 < 301 ∧ 0 ≤ h 62 x1 ∧ h 62 x1 < 601 ∧ Wd mX9_hasCrossing X 23 [(2, 41), (0, x1), (0, x2), (0, h 62 x1), (0, 0), (0, h 49 (h 62 x1))] [] (xu h 41 29 0) Q) : Wd mX9_hasCrossing X 0 [(2, 41), (0, x1), (0, x2), (9, 0), (9, 0), (9, 0)] [] h Q := by
  refine s_aload_n 1 0 rfl dX9_hasCrossing_0 rfl rfl ?_
  refine s_getf 4 41 25 rfl dX9_hasCrossing_1 ck9 rfl (by decide) rfl (by decide) w760 rfl (v := (2, 62)) rfl ?_
  refine s_iload_n 5 1 rfl dX9_hasCrossing_4 rfl rfl ?_
  have c0 := H.1
  replace H := H.2
  have c1 := H.1
  replace H := H.2
  refine s_iald 6 rfl dX9_hasCrossing_5 ia62 c0 c1 (v9 := h 62 x1) rfl ?_
  refine s_istore_n 7 3 rfl dX9_hasCrossing_6 rfl (by decide) (L2 := [(2, 41), (0, x1), (0, x2), (0, h 62 x1), (9, 0), (9, 0)]) rfl ?_
  refine s_iconst 8 rfl dX9_hasCrossing_7 ⟨by decide, by decide⟩ ?_
  refine s_istore 10 4 rfl dX9_hasCrossing_8 (by decide) (L2 := [(2, 41), (0, x1), (0, x2), (0, h 62 x1), (0, 0), (9, 0)]) rfl ?_
  refine s_aload_n 11 0 rfl dX9_hasCrossing_10 rfl rfl ?_
  refine s_iconst 12 rfl dX9_hasCrossing_11 ⟨by decide, by decide⟩ ?_
  refine s_putZ 15 41 29 rfl dX9_hasCrossing_12 ck9 rfl (by decide) rfl (by decide) w764 rfl rfl rfl (Or.inl rfl) ?_
  refine s_aload_n 16 0 rfl dX9_hasCrossing_15 rfl rfl ?_
  refine s_getf 19 41 9 rfl dX9_hasCrossing_16 ck9 rfl (by decide) rfl (by decide) w744 rfl (v := (2, 49)) rfl ?_
  refine s_iload_n 20 3 rfl dX9_hasCrossing_19 rfl rfl ?_
  have c2 := H.1
  replace H := H.2
  have c3 := H.1
  replace H := H.2
  refine s_iald 21 rfl dX9_hasCrossing_20 ia49 c2 c3 (v9 := h 49 (h 62 x1)) (xu_k (by decide)) ?_
  refine s_istore 23 5 rfl dX9_hasCrossing_21 (by decide) (L2 := [(2, 41), (0, x1), (0, x2), (0, h 62 x1), (0, 0), (0, h 49 (h 62 x1))]) rfl ?_
  exact H
theorem vX9_hasCrossing_23 {X : Nat × (Int → Int)} {h : HP} {Q : Int → HP → Prop} {x1 x2 x3 x4 x5 : Int} (H : ((h 41 5 ≤ x5 → ((x4 = 0 ∨ x4 = 1) ∧ Q x4 h)) ∧ (¬ (h 41 5 ≤ x5) → (0 ≤ x5 ∧ x5 < 600 ∧ ((¬ h 48 x5 = x3 → ((x4 = 0 ∨ x4 = 1) ∧ Q x4 h)) ∧ (h 48 x5 = x3 → (0 ≤ x3 ∧ x3 < 601 ∧ Wd mX9_crosses X 0 [(2, 41), (0, x5), (0, h 52 x3), (0, x2)] [] h (fun r5 h6 => ((r5 = 0 → ((x4 = 0 → (inI (x5 + 1) ∧ Wd mX9_hasCrossing X 23 [(2, 41), (0, x1), (0, x2), (0, x3), (0, 0), (0, x5 + 1)] [] h6 Q)) ∧ (¬ x4 = 0 → (inI (x5 + 1) ∧ Wd mX9_hasCrossing X 23 [(2, 41), (0, x1), (0, x2), (0, x3), (0, 1), (0, x5 + 1)] [] h6 Q)))) ∧ (¬ r5 = 0 → ((h6 56 x5 = x1 → (inI (x5 + 1) ∧ Wd mX9_hasCrossing X 23 [(2, 41), (0, x1), (0, x2), (0, x3), (0, 1), (0, x5 + 1)] [] h6 Q)) ∧ (¬ h6 56 x5 = x1 → ((x4 = 0 → (inI (x5 + 1) ∧ Wd mX9_hasCrossing X 23 [(2, 41), (0, x1), (0, x2), (0, x3), (0, 0), (0, x5 + 1)] [] h6 Q)) ∧ (¬ x4 = 0 → (inI (x5 + 1) ∧ Wd mX9_hasCrossing X 23 [(2, 41), (0, x1), (0, x2), (0, x3), (0, 1), (0, x5 + 1)] [] h6 Q))))))))))))))) : Wd mX9_hasCrossing X 23 [(2, 41), (0, x1), (0, x2), (0, x3), (0, x4), (0, x5)] [] h Q := by
  refine s_iload 25 5 rfl dX9_hasCrossing_23 rfl ?_
  refine s_aload_n 26 0 rfl dX9_hasCrossing_25 rfl rfl ?_
  refine s_getf 29 41 5 rfl dX9_hasCrossing_26 ck9 rfl (by decide) rfl (by decide) w740 rfl (v := (0, h 41 5)) rfl ?_
  refine s_icmp_ge 32 88 rfl dX9_hasCrossing_29 (by decide) (fun c16 => ?_) (fun c16 => ?_)
  · replace H := H.1 c16
    refine s_iload 90 4 rfl dX9_hasCrossing_88 rfl ?_
    exact s_zret (S := []) dX9_hasCrossing_90 rfl H.1 H.2
  · replace H := H.2 c16
    refine s_aload_n 33 0 rfl dX9_hasCrossing_32 rfl rfl ?_
    refine s_getf 36 41 8 rfl dX9_hasCrossing_33 ck9 rfl (by decide) rfl (by decide) w743 rfl (v := (2, 48)) rfl ?_
    refine s_iload 38 5 rfl dX9_hasCrossing_36 rfl ?_
    have c0 := H.1
    replace H := H.2
    have c1 := H.1
    replace H := H.2
    refine s_iald 39 rfl dX9_hasCrossing_38 ia48 c0 c1 (v9 := h 48 x5) rfl ?_
    refine s_iload_n 40 3 rfl dX9_hasCrossing_39 rfl rfl ?_
    refine s_icmp_ne 43 88 rfl dX9_hasCrossing_40 (by decide) (fun c15 => ?_) (fun c15 => ?_)
    · replace H := H.1 c15
      refine s_iload 90 4 rfl dX9_hasCrossing_88 rfl ?_
      exact s_zret (S := []) dX9_hasCrossing_90 rfl H.1 H.2
    · replace H := H.2 c15
      refine s_aload_n 44 0 rfl dX9_hasCrossing_43 rfl rfl ?_
      refine s_iload 46 5 rfl dX9_hasCrossing_44 rfl ?_
      refine s_aload_n 47 0 rfl dX9_hasCrossing_46 rfl rfl ?_
      refine s_getf 50 41 15 rfl dX9_hasCrossing_47 ck9 rfl (by decide) rfl (by decide) w750 rfl (v := (2, 52)) rfl ?_
      refine s_iload_n 51 3 rfl dX9_hasCrossing_50 rfl rfl ?_
      have c2 := H.1
      replace H := H.2
      have c3 := H.1
      replace H := H.2
      refine s_iald 52 rfl dX9_hasCrossing_51 ia52 c2 c3 (v9 := h 52 x3) rfl ?_
      refine s_iload_n 53 2 rfl dX9_hasCrossing_52 rfl rfl ?_
      refine s_callV (mj := mX9_crosses) (S := []) 56 [(0, x5), (0, h 52 x3), (0, x2)] [(2, 41), (0, x5), (0, h 52 x3), (0, x2)] 41 rfl dX9_hasCrossing_53 okX9_crosses w914 w916 w20 rfl (by decide) rfl rfl rfl rfl npX9_crosses (Nat.le_of_ble_eq_true rfl) (by decide) (Nat.le_of_ble_eq_true rfl) rfl (Wd.imp H (fun r5 h6 H => ?_))
      show Wd mX9_hasCrossing X 56 [(2, 41), (0, x1), (0, x2), (0, x3), (0, x4), (0, x5)] [(0, r5)] h6 Q
      refine s_if_eq 59 70 rfl dX9_hasCrossing_56 (by decide) (fun c14 => ?_) (fun c14 => ?_)
      · replace H := H.1 c14
        refine s_iload 72 4 rfl dX9_hasCrossing_70 rfl ?_
        refine s_if_eq 75 79 rfl dX9_hasCrossing_72 (by decide) (fun c8 => ?_) (fun c8 => ?_)
        · replace H := H.1 c8
          refine s_iconst 80 rfl dX9_hasCrossing_79 ⟨by decide, by decide⟩ ?_
          refine s_istore 82 4 rfl dX9_hasCrossing_80 (by decide) (L2 := [(2, 41), (0, x1), (0, x2), (0, x3), (0, 0), (0, x5)]) rfl ?_
          have c6 := H.1
          replace H := H.2
          refine s_iinc 85 5 rfl dX9_hasCrossing_82 (by decide) (z := x5) rfl (L2 := [(2, 41), (0, x1), (0, x2), (0, x3), (0, 0), (0, x5 + 1)]) rfl c6 ?_
          refine s_goto 23 dX9_hasCrossing_85 (by decide) ?_
          exact H
        · replace H := H.2 c8
          refine s_iconst 76 rfl dX9_hasCrossing_75 ⟨by decide, by decide⟩ ?_
          refine s_goto 80 dX9_hasCrossing_76 (by decide) ?_
          refine s_istore 82 4 rfl dX9_hasCrossing_80 (by decide) (L2 := [(2, 41), (0, x1), (0, x2), (0, x3), (0, 1), (0, x5)]) rfl ?_
          have c7 := H.1
          replace H := H.2
          refine s_iinc 85 5 rfl dX9_hasCrossing_82 (by decide) (z := x5) rfl (L2 := [(2, 41), (0, x1), (0, x2), (0, x3), (0, 1), (0, x5 + 1)]) rfl c7 ?_
          refine s_goto 23 dX9_hasCrossing_85 (by decide) ?_
          exact H
      · replace H := H.2 c14
        refine s_aload_n 60 0 rfl dX9_hasCrossing_59 rfl rfl ?_
        refine s_getf 63 41 19 rfl dX9_hasCrossing_60 ck9 rfl (by decide) rfl (by decide) w754 rfl (v := (2, 56)) rfl ?_
        refine s_iload 65 5 rfl dX9_hasCrossing_63 rfl ?_
        refine s_iald 66 rfl dX9_hasCrossing_65 ia56 c0 c1 (v9 := h6 56 x5) rfl ?_
        refine s_iload_n 67 1 rfl dX9_hasCrossing_66 rfl rfl ?_
        refine s_icmp_eq 70 75 rfl dX9_hasCrossing_67 (by decide) (fun c13 => ?_) (fun c13 => ?_)
        · replace H := H.1 c13
          refine s_iconst 76 rfl dX9_hasCrossing_75 ⟨by decide, by decide⟩ ?_
          refine s_goto 80 dX9_hasCrossing_76 (by decide) ?_
          refine s_istore 82 4 rfl dX9_hasCrossing_80 (by decide) (L2 := [(2, 41), (0, x1), (0, x2), (0, x3), (0, 1), (0, x5)]) rfl ?_
          have c9 := H.1
          replace H := H.2
          refine s_iinc 85 5 rfl dX9_hasCrossing_82 (by decide) (z := x5) rfl (L2 := [(2, 41), (0, x1), (0, x2), (0, x3), (0, 1), (0, x5 + 1)]) rfl c9 ?_
          refine s_goto 23 dX9_hasCrossing_85 (by decide) ?_
          exact H
        · replace H := H.2 c13
          refine s_iload 72 4 rfl dX9_hasCrossing_70 rfl ?_
          refine s_if_eq 75 79 rfl dX9_hasCrossing_72 (by decide) (fun c12 => ?_) (fun c12 => ?_)
          · replace H := H.1 c12
            refine s_iconst 80 rfl dX9_hasCrossing_79 ⟨by decide, by decide⟩ ?_
            refine s_istore 82 4 rfl dX9_hasCrossing_80 (by decide) (L2 := [(2, 41), (0, x1), (0, x2), (0, x3), (0, 0), (0, x5)]) rfl ?_
            have c10 := H.1
            replace H := H.2
            refine s_iinc 85 5 rfl dX9_hasCrossing_82 (by decide) (z := x5) rfl (L2 := [(2, 41), (0, x1), (0, x2), (0, x3), (0, 0), (0, x5 + 1)]) rfl c10 ?_
            refine s_goto 23 dX9_hasCrossing_85 (by decide) ?_
            exact H
          · replace H := H.2 c12
            refine s_iconst 76 rfl dX9_hasCrossing_75 ⟨by decide, by decide⟩ ?_
            refine s_goto 80 dX9_hasCrossing_76 (by decide) ?_
            refine s_istore 82 4 rfl dX9_hasCrossing_80 (by decide) (L2 := [(2, 41), (0, x1), (0, x2), (0, x3), (0, 1), (0, x5)]) rfl ?_
            have c11 := H.1
            replace H := H.2
            refine s_iinc 85 5 rfl dX9_hasCrossing_82 (by decide) (z := x5) rfl (L2 := [(2, 41), (0, x1), (0, x2), (0, x3), (0, 1), (0, x5 + 1)]) rfl c11 ?_
            refine s_goto 23 dX9_hasCrossing_85 (by decide) ?_
            exact H
theorem vX9_gone_0 {X : Nat × (Int → Int)} {h : HP} {Q : Int → HP → Prop} {x1 : Int} (H : Wd mX9_laysWaves X 0 [(2, 41), (9, 0), (9, 0), (9, 0)] [] h (fun _ h2 => Wd mX9_isWave X 0 [(2, 41), (0, x1)] [] h2 (fun r3 h4 => ((¬ r3 = 0 → (Wd mX9_gone X 16 [(2, 41), (0, x1), (0, 0)] [] h4 Q)) ∧ (r3 = 0 → (Q (-1) h4)))))) : Wd mX9_gone X 0 [(2, 41), (0, x1), (9, 0)] [] h Q := by
  refine s_aload_n 1 0 rfl dX9_gone_0 rfl rfl ?_
  refine s_callV (mj := mX9_laysWaves) (S := []) 4 [] [(2, 41), (9, 0), (9, 0), (9, 0)] 41 rfl dX9_gone_1 okX9_laysWaves w878 w880 w12 rfl (by decide) rfl rfl rfl rfl npX9_laysWaves (Nat.le_of_ble_eq_true rfl) (by decide) (Nat.le_of_ble_eq_true rfl) rfl (Wd.imp H (fun _ h2 H => ?_))
  show Wd mX9_gone X 4 [(2, 41), (0, x1), (9, 0)] [] h2 Q
  refine s_aload_n 5 0 rfl dX9_gone_4 rfl rfl ?_
  refine s_iload_n 6 1 rfl dX9_gone_5 rfl rfl ?_
  refine s_callV (mj := mX9_isWave) (S := []) 9 [(0, x1)] [(2, 41), (0, x1)] 41 rfl dX9_gone_6 okX9_isWave w994 w996 w36 rfl (by decide) rfl rfl rfl rfl npX9_isWave (Nat.le_of_ble_eq_true rfl) (by decide) (Nat.le_of_ble_eq_true rfl) rfl (Wd.imp H (fun r3 h4 H => ?_))
  show Wd mX9_gone X 9 [(2, 41), (0, x1), (9, 0)] [(0, r3)] h4 Q
  refine s_if_ne 12 14 rfl dX9_gone_9 (by decide) (fun c4 => ?_) (fun c4 => ?_)
  · replace H := H.1 c4
    refine s_iconst 15 rfl dX9_gone_14 ⟨by decide, by decide⟩ ?_
    refine s_istore_n 16 2 rfl dX9_gone_15 rfl (by decide) (L2 := [(2, 41), (0, x1), (0, 0)]) rfl ?_
    exact H
  · replace H := H.2 c4
    refine s_iconst 13 rfl dX9_gone_12 ⟨by decide, by decide⟩ ?_
    exact s_iret (S := []) dX9_gone_13 rfl H
theorem vX9_gone_16 {X : Nat × (Int → Int)} {h : HP} {Q : Int → HP → Prop} {x1 x2 : Int} (H : ((500 < x2 → (Q (-1) h)) ∧ (¬ (500 < x2) → (Wd mX9_hasCrossing X 0 [(2, 41), (0, x1), (0, x2), (9, 0), (9, 0), (9, 0)] [] h (fun r1 h2 => ((¬ r1 = 0 → (inI (x2 + 1) ∧ Wd mX9_gone X 16 [(2, 41), (0, x1), (0, x2 + 1)] [] h2 Q)) ∧ (r1 = 0 → (Q x2 h2)))))))) : Wd mX9_gone X 16 [(2, 41), (0, x1), (0, x2)] [] h Q := by
  refine s_iload_n 17 2 rfl dX9_gone_16 rfl rfl ?_
  refine s_sipush 20 rfl dX9_gone_17 (by decide) ⟨by decide, by decide⟩ ?_
  refine s_icmp_gt 23 40 rfl dX9_gone_20 (by decide) (fun c4 => ?_) (fun c4 => ?_)
  · replace H := H.1 c4
    refine s_iconst 41 rfl dX9_gone_40 ⟨by decide, by decide⟩ ?_
    exact s_iret (S := []) dX9_gone_41 rfl H
  · replace H := H.2 c4
    refine s_aload_n 24 0 rfl dX9_gone_23 rfl rfl ?_
    refine s_iload_n 25 1 rfl dX9_gone_24 rfl rfl ?_
    refine s_iload_n 26 2 rfl dX9_gone_25 rfl rfl ?_
    refine s_callV (mj := mX9_hasCrossing) (S := []) 29 [(0, x1), (0, x2)] [(2, 41), (0, x1), (0, x2), (9, 0), (9, 0), (9, 0)] 41 rfl dX9_gone_26 okX9_hasCrossing w1066 w1068 w42 rfl (by decide) rfl rfl rfl rfl npX9_hasCrossing (Nat.le_of_ble_eq_true rfl) (by decide) (Nat.le_of_ble_eq_true rfl) rfl (Wd.imp H (fun r1 h2 H => ?_))
    show Wd mX9_gone X 29 [(2, 41), (0, x1), (0, x2)] [(0, r1)] h2 Q
    refine s_if_ne 32 34 rfl dX9_gone_29 (by decide) (fun c3 => ?_) (fun c3 => ?_)
    · replace H := H.1 c3
      have c2 := H.1
      replace H := H.2
      refine s_iinc 37 2 rfl dX9_gone_34 (by decide) (z := x2) rfl (L2 := [(2, 41), (0, x1), (0, x2 + 1)]) rfl c2 ?_
      refine s_goto 16 dX9_gone_37 (by decide) ?_
      exact H
    · replace H := H.2 c3
      refine s_iload_n 33 2 rfl dX9_gone_32 rfl rfl ?_
      exact s_iret (S := []) dX9_gone_33 rfl H
