theorem vX0_has_0 {X : Nat × (Int → Int)} {h : HP} {Q : Int → HP → Prop} {x1 : Int} (H : ((x1 < 0 → (Q 0 h)) ∧ (¬ (x1 < 0) → ((h 7 3 ≤ x1 → (Q 0 h)) ∧ (¬ (h 7 3 ≤ x1) → (Q 1 h)))))) : Wd mX0_has X 0 [(2, 7), (0, x1)] [] h Q := by
  refine s_iload_n 1 1 rfl dX0_has_0 rfl rfl ?_
  refine s_if_lt 4 16 rfl dX0_has_1 (by decide) (fun c1 => ?_) (fun c1 => ?_)
  · replace H := H.1 c1
    refine s_iconst 17 rfl dX0_has_16 ⟨by decide, by decide⟩ ?_
    exact s_zret (S := []) dX0_has_17 rfl (Or.inl rfl) H
  · replace H := H.2 c1
    refine s_iload_n 5 1 rfl dX0_has_4 rfl rfl ?_
    refine s_aload_n 6 0 rfl dX0_has_5 rfl rfl ?_
    refine s_getf 9 7 3 rfl dX0_has_6 ck0 rfl (by decide) rfl (by decide) w278 rfl (v := (0, h 7 3)) rfl ?_
    refine s_icmp_ge 12 16 rfl dX0_has_9 (by decide) (fun c0 => ?_) (fun c0 => ?_)
    · replace H := H.1 c0
      refine s_iconst 17 rfl dX0_has_16 ⟨by decide, by decide⟩ ?_
      exact s_zret (S := []) dX0_has_17 rfl (Or.inl rfl) H
    · replace H := H.2 c0
      refine s_iconst 13 rfl dX0_has_12 ⟨by decide, by decide⟩ ?_
      refine s_goto 17 dX0_has_13 (by decide) ?_
      exact s_zret (S := []) dX0_has_17 rfl (Or.inr rfl) H
theorem vX0_close_0 {X : Nat × (Int → Int)} {h : HP} {Q : Int → HP → Prop} {x1 x2 x3 : Int} (H : ((x2 < x3 → (Q 0 h)) ∧ (¬ (x2 < x3) → ((h 7 3 < 300 → (inI (x1 - x2) ∧ 0 ≤ h 7 3 ∧ h 7 3 < 300 ∧ Wd mX0_close X 45 [(2, 7), (0, x1), (9, 0), (9, 0), (0, x1 - x2)] [] (xu (xu h 37 (h 7 3) (x1 - x2)) 38 (h 7 3) x2) Q)) ∧ (¬ (h 7 3 < 300) → (Q 0 h)))))) : Wd mX0_close X 0 [(2, 7), (0, x1), (0, x2), (0, x3), (9, 0)] [] h Q := by
  refine s_iload_n 1 2 rfl dX0_close_0 rfl rfl ?_
  refine s_iload_n 2 3 rfl dX0_close_1 rfl rfl ?_
  refine s_icmp_lt 5 17 rfl dX0_close_2 (by decide) (fun c4 => ?_) (fun c4 => ?_)
  · replace H := H.1 c4
    exact s_vret (S := []) dX0_close_17 rfl H
  · replace H := H.2 c4
    refine s_aload_n 6 0 rfl dX0_close_5 rfl rfl ?_
    refine s_getf 9 7 3 rfl dX0_close_6 ck0 rfl (by decide) rfl (by decide) w278 rfl (v := (0, h 7 3)) rfl ?_
    refine s_aload_n 10 0 rfl dX0_close_9 rfl rfl ?_
    refine s_getf 13 7 1 rfl dX0_close_10 ck0 rfl (by decide) rfl (by decide) w274 rfl (v := (2, 37)) rfl ?_
    refine s_alenI 14 rfl dX0_close_13 ia37 ?_
    refine s_icmp_lt 17 18 rfl dX0_close_14 (by decide) (fun c3 => ?_) (fun c3 => ?_)
    · replace H := H.1 c3
      refine s_aload_n 19 0 rfl dX0_close_18 rfl rfl ?_
      refine s_getf 22 7 1 rfl dX0_close_19 ck0 rfl (by decide) rfl (by decide) w274 rfl (v := (2, 37)) rfl ?_
      refine s_aload_n 23 0 rfl dX0_close_22 rfl rfl ?_
      refine s_getf 26 7 3 rfl dX0_close_23 ck0 rfl (by decide) rfl (by decide) w278 rfl (v := (0, h 7 3)) rfl ?_
      refine s_iload_n 27 1 rfl dX0_close_26 rfl rfl ?_
      refine s_iload_n 28 2 rfl dX0_close_27 rfl rfl ?_
      have c0 := H.1
      replace H := H.2
      refine s_isub 29 rfl dX0_close_28 c0 ?_
      have c1 := H.1
      replace H := H.2
      have c2 := H.1
      replace H := H.2
      refine s_iast 30 rfl dX0_close_29 ia37 c1 c2 ?_
      refine s_aload_n 31 0 rfl dX0_close_30 rfl rfl ?_
      refine s_getf 34 7 2 rfl dX0_close_31 ck0 rfl (by decide) rfl (by decide) w276 rfl (v := (2, 38)) rfl ?_
      refine s_aload_n 35 0 rfl dX0_close_34 rfl rfl ?_
      refine s_getf 38 7 3 rfl dX0_close_35 ck0 rfl (by decide) rfl (by decide) w278 rfl (v := (0, h 7 3)) (by show (0, (xu h 37 (h 7 3) (x1 - x2)) 7 3) = _; rw [(xu_k (by decide))]) ?_
      refine s_iload_n 39 2 rfl dX0_close_38 rfl rfl ?_
      refine s_iast 40 rfl dX0_close_39 ia38 c1 c2 ?_
      refine s_iload_n 41 1 rfl dX0_close_40 rfl rfl ?_
      refine s_iload_n 42 2 rfl dX0_close_41 rfl rfl ?_
      refine s_isub 43 rfl dX0_close_42 c0 ?_
      refine s_istore 45 4 rfl dX0_close_43 (by decide) (L2 := [(2, 7), (0, x1), (0, x2), (0, x3), (0, x1 - x2)]) rfl ?_
      exact s_less [(2, 7), (0, x1), (9, 0), (9, 0), (0, x1 - x2)] ⟨Or.inr rfl, Or.inr rfl, Or.inl rfl, Or.inl rfl, Or.inr rfl, trivial⟩ H
    · replace H := H.2 c3
      exact s_vret (S := []) dX0_close_17 rfl H
theorem vX0_close_45 {X : Nat × (Int → Int)} {h : HP} {Q : Int → HP → Prop} {x1 x4 : Int} (H : ((x1 ≤ x4 → (inI (h 7 3 + 1) ∧ Q 0 (xu h 7 3 (h 7 3 + 1)))) ∧ (¬ (x1 ≤ x4) → (0 ≤ x4 ∧ x4 < 300 ∧ inI (x4 + 1) ∧ Wd mX0_close X 45 [(2, 7), (0, x1), (9, 0), (9, 0), (0, x4 + 1)] [] (xu h 36 x4 (h 7 3)) Q)))) : Wd mX0_close X 45 [(2, 7), (0, x1), (9, 0), (9, 0), (0, x4)] [] h Q := by
  refine s_iload 47 4 rfl dX0_close_45 rfl ?_
  refine s_iload_n 48 1 rfl dX0_close_47 rfl rfl ?_
  refine s_icmp_ge 51 68 rfl dX0_close_48 (by decide) (fun c4 => ?_) (fun c4 => ?_)
  · replace H := H.1 c4
    refine s_aload_n 69 0 rfl dX0_close_68 rfl rfl ?_
    refine s_dup 70 rfl dX0_close_69 (by decide : ¬ (2 : Nat) = 1) ?_
    refine s_getf 73 7 3 rfl dX0_close_70 ck0 rfl (by decide) rfl (by decide) w278 rfl (v := (0, h 7 3)) rfl ?_
    refine s_iconst 74 rfl dX0_close_73 ⟨by decide, by decide⟩ ?_
    have c0 := H.1
    replace H := H.2
    refine s_iadd 75 rfl dX0_close_74 c0 ?_
    refine s_putI 78 7 3 rfl dX0_close_75 ck0 rfl (by decide) rfl (by decide) w278 rfl rfl rfl ?_
    exact s_vret (S := []) dX0_close_78 rfl H
  · replace H := H.2 c4
    refine s_aload_n 52 0 rfl dX0_close_51 rfl rfl ?_
    refine s_getf 55 7 0 rfl dX0_close_52 ck0 rfl (by decide) rfl (by decide) w272 rfl (v := (2, 36)) rfl ?_
    refine s_iload 57 4 rfl dX0_close_55 rfl ?_
    refine s_aload_n 58 0 rfl dX0_close_57 rfl rfl ?_
    refine s_getf 61 7 3 rfl dX0_close_58 ck0 rfl (by decide) rfl (by decide) w278 rfl (v := (0, h 7 3)) rfl ?_
    have c1 := H.1
    replace H := H.2
    have c2 := H.1
    replace H := H.2
    refine s_iast 62 rfl dX0_close_61 ia36 c1 c2 ?_
    have c3 := H.1
    replace H := H.2
    refine s_iinc 65 4 rfl dX0_close_62 (by decide) (z := x4) rfl (L2 := [(2, 7), (0, x1), (9, 0), (9, 0), (0, x4 + 1)]) rfl c3 ?_
    refine s_goto 45 dX0_close_65 (by decide) ?_
    exact H
theorem vX2_isHigh_0 {X : Nat × (Int → Int)} {h : HP} {Q : Int → HP → Prop} {x2 : Int} (H : 0 ≤ x2 ∧ x2 < 300 ∧ ((h 1 3 < 1 ∨ 3 < h 1 3 → ((h 27 x2 ≤ h 1 4 → (Q 0 h)) ∧ (¬ (h 27 x2 ≤ h 1 4) → (Q 1 h)))) ∧ (h 1 3 = 1 → (inJ (h 27 x2 * h 5 10) ∧ ((h 27 x2 * h 5 10 ≤ h 6 3 → (Q 0 h)) ∧ (¬ (h 27 x2 * h 5 10 ≤ h 6 3) → (Q 1 h))))) ∧ (h 1 3 = 2 → (inJ (h 27 x2 * h 6 5) ∧ ((h 27 x2 * h 6 5 ≤ h 6 4 → (Q 0 h)) ∧ (¬ (h 27 x2 * h 6 5 ≤ h 6 4) → (Q 1 h))))) ∧ (h 1 3 = 3 → ((h 27 x2 ≤ h 6 6 → (Q 0 h)) ∧ (¬ (h 27 x2 ≤ h 6 6) → (Q 1 h)))))) : Wd mX2_isHigh X 0 [(2, 6), (2, 5), (0, x2), (2, 1), (9, 0), (9, 0)] [] h Q := by
  refine s_aload_n 1 1 rfl dX2_isHigh_0 rfl rfl ?_
  refine s_getf 4 5 3 rfl dX2_isHigh_1 ck7 rfl (by decide) rfl (by decide) w193 rfl (v := (2, 27)) rfl ?_
  refine s_iload_n 5 2 rfl dX2_isHigh_4 rfl rfl ?_
  have c0 := H.1
  replace H := H.2
  have c1 := H.1
  replace H := H.2
  refine s_iald 6 rfl dX2_isHigh_5 ia27 c0 c1 (v9 := h 27 x2) rfl ?_
  refine s_i2l 7 rfl dX2_isHigh_6 ?_
  refine s_lstore 9 4 rfl dX2_isHigh_7 (by decide) (L2 := [(2, 6), (2, 5), (0, x2), (2, 1), (1, h 27 x2), (9, 0)]) rfl ?_
  refine s_aload_n 10 3 rfl dX2_isHigh_9 rfl rfl ?_
  refine s_getf 13 1 3 rfl dX2_isHigh_10 ck4 rfl (by decide) rfl (by decide) w75 rfl (v := (0, h 1 3)) rfl ?_
  rcases (by omega : (h 1 3 < 1 ∨ 3 < h 1 3) ∨ h 1 3 = 1 ∨ h 1 3 = 2 ∨ h 1 3 = 3) with c3 | c3 | c3 | c3
  · refine s_tsd 101 dX2_isHigh_13 c3 (by decide) ?_
    replace H := H.1 c3
    refine s_lload 103 4 rfl dX2_isHigh_101 rfl ?_
    refine s_aload_n 104 3 rfl dX2_isHigh_103 rfl rfl ?_
    refine s_getf 107 1 4 rfl dX2_isHigh_104 ck4 rfl (by decide) rfl (by decide) w78 rfl (v := (0, h 1 4)) rfl ?_
    refine s_i2l 108 rfl dX2_isHigh_107 ?_
    refine s_lcmp 109 rfl dX2_isHigh_108 ?_
    refine s_if_le 112 116 rfl dX2_isHigh_109 (by decide) (fun c2 => ?_) (fun c2 => ?_)
    · replace H := H.1 (lcz_le.mp c2)
      refine s_iconst 117 rfl dX2_isHigh_116 ⟨by decide, by decide⟩ ?_
      exact s_zret (S := []) dX2_isHigh_117 rfl (Or.inl rfl) H
    · replace H := H.2 (fun y => c2 (lcz_le.mpr y))
      refine s_iconst 113 rfl dX2_isHigh_112 ⟨by decide, by decide⟩ ?_
      refine s_goto 117 dX2_isHigh_113 (by decide) ?_
      exact s_zret (S := []) dX2_isHigh_117 rfl (Or.inr rfl) H
  · refine s_tsw 40 dX2_isHigh_13 (by omega) (by omega) (by rw [c3]; rfl) (by decide) ?_
    replace H := H.2.1 c3
    refine s_lload 42 4 rfl dX2_isHigh_40 rfl ?_
    refine s_aload_n 43 1 rfl dX2_isHigh_42 rfl rfl ?_
    refine s_getf 46 5 10 rfl dX2_isHigh_43 ck7 rfl (by decide) rfl (by decide) w209 rfl (v := (0, h 5 10)) rfl ?_
    refine s_i2l 47 rfl dX2_isHigh_46 ?_
    have c4 := H.1
    replace H := H.2
    refine s_lmul 48 rfl dX2_isHigh_47 c4 ?_
    refine s_aload_n 49 0 rfl dX2_isHigh_48 rfl rfl ?_
    refine s_getf 52 6 3 rfl dX2_isHigh_49 ck2 rfl (by decide) rfl (by decide) w247 rfl (v := (1, h 6 3)) rfl ?_
    refine s_lcmp 53 rfl dX2_isHigh_52 ?_
    refine s_if_le 56 60 rfl dX2_isHigh_53 (by decide) (fun c5 => ?_) (fun c5 => ?_)
    · replace H := H.1 (lcz_le.mp c5)
      refine s_iconst 61 rfl dX2_isHigh_60 ⟨by decide, by decide⟩ ?_
      exact s_zret (S := []) dX2_isHigh_61 rfl (Or.inl rfl) H
    · replace H := H.2 (fun y => c5 (lcz_le.mpr y))
      refine s_iconst 57 rfl dX2_isHigh_56 ⟨by decide, by decide⟩ ?_
      refine s_goto 61 dX2_isHigh_57 (by decide) ?_
      exact s_zret (S := []) dX2_isHigh_61 rfl (Or.inr rfl) H
  · refine s_tsw 62 dX2_isHigh_13 (by omega) (by omega) (by rw [c3]; rfl) (by decide) ?_
    replace H := H.2.2.1 c3
    refine s_lload 64 4 rfl dX2_isHigh_62 rfl ?_
    refine s_aload_n 65 0 rfl dX2_isHigh_64 rfl rfl ?_
    refine s_getf 68 6 5 rfl dX2_isHigh_65 ck2 rfl (by decide) rfl (by decide) w249 rfl (v := (0, h 6 5)) rfl ?_
    refine s_i2l 69 rfl dX2_isHigh_68 ?_
    have c6 := H.1
    replace H := H.2
    refine s_lmul 70 rfl dX2_isHigh_69 c6 ?_
    refine s_aload_n 71 0 rfl dX2_isHigh_70 rfl rfl ?_
    refine s_getf 74 6 4 rfl dX2_isHigh_71 ck2 rfl (by decide) rfl (by decide) w248 rfl (v := (1, h 6 4)) rfl ?_
    refine s_lcmp 75 rfl dX2_isHigh_74 ?_
    refine s_if_le 78 82 rfl dX2_isHigh_75 (by decide) (fun c7 => ?_) (fun c7 => ?_)
    · replace H := H.1 (lcz_le.mp c7)
      refine s_iconst 83 rfl dX2_isHigh_82 ⟨by decide, by decide⟩ ?_
      exact s_zret (S := []) dX2_isHigh_83 rfl (Or.inl rfl) H
    · replace H := H.2 (fun y => c7 (lcz_le.mpr y))
      refine s_iconst 79 rfl dX2_isHigh_78 ⟨by decide, by decide⟩ ?_
      refine s_goto 83 dX2_isHigh_79 (by decide) ?_
      exact s_zret (S := []) dX2_isHigh_83 rfl (Or.inr rfl) H
  · refine s_tsw 84 dX2_isHigh_13 (by omega) (by omega) (by rw [c3]; rfl) (by decide) ?_
    replace H := H.2.2.2 c3
    refine s_lload 86 4 rfl dX2_isHigh_84 rfl ?_
    refine s_aload_n 87 0 rfl dX2_isHigh_86 rfl rfl ?_
    refine s_getf 90 6 6 rfl dX2_isHigh_87 ck2 rfl (by decide) rfl (by decide) w250 rfl (v := (0, h 6 6)) rfl ?_
    refine s_i2l 91 rfl dX2_isHigh_90 ?_
    refine s_lcmp 92 rfl dX2_isHigh_91 ?_
    refine s_if_le 95 99 rfl dX2_isHigh_92 (by decide) (fun c8 => ?_) (fun c8 => ?_)
    · replace H := H.1 (lcz_le.mp c8)
      refine s_iconst 100 rfl dX2_isHigh_99 ⟨by decide, by decide⟩ ?_
      exact s_zret (S := []) dX2_isHigh_100 rfl (Or.inl rfl) H
    · replace H := H.2 (fun y => c8 (lcz_le.mpr y))
      refine s_iconst 96 rfl dX2_isHigh_95 ⟨by decide, by decide⟩ ?_
      refine s_goto 100 dX2_isHigh_96 (by decide) ?_
      exact s_zret (S := []) dX2_isHigh_100 rfl (Or.inr rfl) H
theorem vX4_least_0 {X : Nat × (Int → Int)} {h : HP} {Q : Int → HP → Prop} (H : Q (h 9 3) h) : Wd mX4_least X 0 [(2, 1)] [] h Q := by
  refine s_aload_n 1 0 rfl dX4_least_0 rfl rfl ?_
  refine s_getf 4 1 0 rfl dX4_least_1 ck4 rfl (by decide) rfl (by decide) w69 rfl (v := (2, 9)) rfl ?_
  refine s_iconst 5 rfl dX4_least_4 ⟨by decide, by decide⟩ ?_
  refine s_iald 6 rfl dX4_least_5 ia9 (by decide) (by decide) (v9 := h 9 3) rfl ?_
  exact s_iret (S := []) dX4_least_6 rfl H
theorem vX0_find_0 {X : Nat × (Int → Int)} {h : HP} {Q : Int → HP → Prop} (H : Wd mX0_find X 11 [(2, 7), (2, 5), (2, 6), (2, 1), (0, 0), (0, 0), (9, 0), (9, 0)] [] (xu h 7 3 0) Q) : Wd mX0_find X 0 [(2, 7), (2, 5), (2, 6), (2, 1), (9, 0), (9, 0), (9, 0), (9, 0)] [] h Q := by
  refine s_aload_n 1 0 rfl dX0_find_0 rfl rfl ?_
  refine s_iconst 2 rfl dX0_find_1 ⟨by decide, by decide⟩ ?_
  refine s_putI 5 7 3 rfl dX0_find_2 ck0 rfl (by decide) rfl (by decide) w278 rfl rfl rfl ?_
  refine s_iconst 6 rfl dX0_find_5 ⟨by decide, by decide⟩ ?_
  refine s_istore 8 4 rfl dX0_find_6 (by decide) (L2 := [(2, 7), (2, 5), (2, 6), (2, 1), (0, 0), (9, 0), (9, 0), (9, 0)]) rfl ?_
  refine s_iconst 9 rfl dX0_find_8 ⟨by decide, by decide⟩ ?_
  refine s_istore 11 5 rfl dX0_find_9 (by decide) (L2 := [(2, 7), (2, 5), (2, 6), (2, 1), (0, 0), (0, 0), (9, 0), (9, 0)]) rfl ?_
  exact H
theorem vX0_find_11 {X : Nat × (Int → Int)} {h : HP} {Q : Int → HP → Prop} {x4 x5 : Int} (H : ((h 5 10 ≤ x5 → (Wd mX4_least X 0 [(2, 1)] [] h (fun r1 h2 => Wd mX0_close X 0 [(2, 7), (0, h 5 10), (0, x4), (0, r1), (9, 0)] [] h2 (fun _ h4 => Q 0 h4)))) ∧ (¬ (h 5 10 ≤ x5) → (0 ≤ x5 ∧ x5 < 300 ∧ ((x5 ≤ 0 → (Wd mX2_isHigh X 0 [(2, 6), (2, 5), (0, x5), (2, 1), (9, 0), (9, 0)] [] (xu h 36 x5 (-1)) (fun r7 h8 => ((¬ r7 = 0 → ((r7 = 0 → (inI (x5 + 1) ∧ Wd mX0_find X 11 [(2, 7), (2, 5), (2, 6), (2, 1), (0, x4), (0, x5 + 1), (9, 0), (9, 0)] [] h8 Q)) ∧ (¬ r7 = 0 → (inI (x4 + 1) ∧ inI (x5 + 1) ∧ Wd mX0_find X 11 [(2, 7), (2, 5), (2, 6), (2, 1), (0, x4 + 1), (0, x5 + 1), (9, 0), (9, 0)] [] h8 Q)))) ∧ (r7 = 0 → (Wd mX4_least X 0 [(2, 1)] [] h8 (fun r14 h15 => Wd mX0_close X 0 [(2, 7), (0, x5), (0, x4), (0, r14), (9, 0)] [] h15 (fun _ h17 => ((r7 = 0 → (inI (x5 + 1) ∧ Wd mX0_find X 11 [(2, 7), (2, 5), (2, 6), (2, 1), (0, 0), (0, x5 + 1), (9, 0), (9, 0)] [] h17 Q)) ∧ (¬ r7 = 0 → (inI (0 + 1) ∧ inI (x5 + 1) ∧ Wd mX0_find X 11 [(2, 7), (2, 5), (2, 6), (2, 1), (0, 0 + 1), (0, x5 + 1), (9, 0), (9, 0)] [] h17 Q))))))))))) ∧ (¬ (x5 ≤ 0) → (inI (x5 - 1) ∧ 0 ≤ x5 - 1 ∧ x5 - 1 < 300 ∧ ((h 30 x5 = h 30 (x5 - 1) → (Wd mX2_isHigh X 0 [(2, 6), (2, 5), (0, x5), (2, 1), (9, 0), (9, 0)] [] (xu h 36 x5 (-1)) (fun r26 h27 => ((¬ r26 = 0 → ((r26 = 0 → (inI (x5 + 1) ∧ Wd mX0_find X 11 [(2, 7), (2, 5), (2, 6), (2, 1), (0, x4), (0, x5 + 1), (9, 0), (9, 0)] [] h27 Q)) ∧ (¬ r26 = 0 → (inI (x4 + 1) ∧ inI (x5 + 1) ∧ Wd mX0_find X 11 [(2, 7), (2, 5), (2, 6), (2, 1), (0, x4 + 1), (0, x5 + 1), (9, 0), (9, 0)] [] h27 Q)))) ∧ (r26 = 0 → (Wd mX4_least X 0 [(2, 1)] [] h27 (fun r33 h34 => Wd mX0_close X 0 [(2, 7), (0, x5), (0, x4), (0, r33), (9, 0)] [] h34 (fun _ h36 => ((r26 = 0 → (inI (x5 + 1) ∧ Wd mX0_find X 11 [(2, 7), (2, 5), (2, 6), (2, 1), (0, 0), (0, x5 + 1), (9, 0), (9, 0)] [] h36 Q)) ∧ (¬ r26 = 0 → (inI (0 + 1) ∧ inI (x5 + 1) ∧ Wd mX0_find X 11 [(2, 7), (2, 5), (2, 6), (2, 1), (0, 0 + 1), (0, x5 + 1), (9, 0), (9, 0)] [] h36 Q))))))))))) ∧ (¬ h 30 x5 = h 30 (x5 - 1) → (Wd mX2_isHigh X 0 [(2, 6), (2, 5), (0, x5), (2, 1), (9, 0), (9, 0)] [] (xu h 36 x5 (-1)) (fun r42 h43 => Wd mX4_least X 0 [(2, 1)] [] h43 (fun r45 h46 => Wd mX0_close X 0 [(2, 7), (0, x5), (0, x4), (0, r45), (9, 0)] [] h46 (fun _ h48 => ((r42 = 0 → (inI (x5 + 1) ∧ Wd mX0_find X 11 [(2, 7), (2, 5), (2, 6), (2, 1), (0, 0), (0, x5 + 1), (9, 0), (9, 0)] [] h48 Q)) ∧ (¬ r42 = 0 → (inI (0 + 1) ∧ inI (x5 + 1) ∧ Wd mX0_find X 11 [(2, 7), (2, 5), (2, 6), (2, 1), (0, 0 + 1), (0, x5 + 1), (9, 0), (9, 0)] [] h48 Q)))))))))))))))) : Wd mX0_find X 11 [(2, 7), (2, 5), (2, 6), (2, 1), (0, x4), (0, x5), (9, 0), (9, 0)] [] h Q := by
  refine s_iload 13 5 rfl dX0_find_11 rfl ?_
  refine s_aload_n 14 1 rfl dX0_find_13 rfl rfl ?_
  refine s_getf 17 5 10 rfl dX0_find_14 ck7 rfl (by decide) rfl (by decide) w210 rfl (v := (0, h 5 10)) rfl ?_
  refine s_icmp_ge 20 108 rfl dX0_find_17 (by decide) (fun c54 => ?_) (fun c54 => ?_)
  · replace H := H.1 c54
    refine s_aload_n 109 0 rfl dX0_find_108 rfl rfl ?_
    refine s_aload_n 110 1 rfl dX0_find_109 rfl rfl ?_
    refine s_getf 113 5 10 rfl dX0_find_110 ck7 rfl (by decide) rfl (by decide) w210 rfl (v := (0, h 5 10)) rfl ?_
    refine s_iload 115 4 rfl dX0_find_113 rfl ?_
    refine s_aload_n 116 3 rfl dX0_find_115 rfl rfl ?_
    refine s_callV (mj := mX4_least) (S := [(0, x4), (0, h 5 10), (2, 7)]) 119 [] [(2, 1)] 1 rfl dX0_find_116 okX4_least w576 w577 w578 rfl (by decide) rfl rfl rfl rfl npX4_least (Nat.le_of_ble_eq_true rfl) (by decide) (Nat.le_of_ble_eq_true rfl) rfl (Wd.imp H (fun r1 h2 H => ?_))
    show Wd mX0_find X 119 [(2, 7), (2, 5), (2, 6), (2, 1), (0, x4), (0, x5), (9, 0), (9, 0)] [(0, r1), (0, x4), (0, h 5 10), (2, 7)] h2 Q
    refine s_callV (mj := mX0_close) (S := []) 122 [(0, h 5 10), (0, x4), (0, r1)] [(2, 7), (0, h 5 10), (0, x4), (0, r1), (9, 0)] 7 rfl dX0_find_119 okX0_close w580 w582 w9 rfl (by decide) rfl rfl rfl rfl npX0_close (Nat.le_of_ble_eq_true rfl) (by decide) (Nat.le_of_ble_eq_true rfl) rfl (Wd.imp H (fun _ h4 H => ?_))
    show Wd mX0_find X 122 [(2, 7), (2, 5), (2, 6), (2, 1), (0, x4), (0, x5), (9, 0), (9, 0)] [] h4 Q
    exact s_vret (S := []) dX0_find_122 rfl H
  · replace H := H.2 c54
    refine s_aload_n 21 0 rfl dX0_find_20 rfl rfl ?_
    refine s_getf 24 7 0 rfl dX0_find_21 ck0 rfl (by decide) rfl (by decide) w272 rfl (v := (2, 36)) rfl ?_
    refine s_iload 26 5 rfl dX0_find_24 rfl ?_
    refine s_iconst 27 rfl dX0_find_26 ⟨by decide, by decide⟩ ?_
    have c4 := H.1
    replace H := H.2
    have c5 := H.1
    replace H := H.2
    refine s_iast 28 rfl dX0_find_27 ia36 c4 c5 ?_
    refine s_iload 30 5 rfl dX0_find_28 rfl ?_
    refine s_if_le 33 56 rfl dX0_find_30 (by decide) (fun c53 => ?_) (fun c53 => ?_)
    · replace H := H.1 c53
      refine s_iconst 57 rfl dX0_find_56 ⟨by decide, by decide⟩ ?_
      refine s_istore 59 6 rfl dX0_find_57 (by decide) (L2 := [(2, 7), (2, 5), (2, 6), (2, 1), (0, x4), (0, x5), (0, 0), (9, 0)]) rfl ?_
      refine s_aload_n 60 2 rfl dX0_find_59 rfl rfl ?_
      refine s_aload_n 61 1 rfl dX0_find_60 rfl rfl ?_
      refine s_iload 63 5 rfl dX0_find_61 rfl ?_
      refine s_aload_n 64 3 rfl dX0_find_63 rfl rfl ?_
      refine s_callV (mj := mX2_isHigh) (S := []) 67 [(2, 5), (0, x5), (2, 1)] [(2, 6), (2, 5), (0, x5), (2, 1), (9, 0), (9, 0)] 6 rfl dX0_find_64 okX2_isHigh w572 w573 w574 rfl (by decide) rfl rfl rfl rfl npX2_isHigh (Nat.le_of_ble_eq_true rfl) (by decide) (Nat.le_of_ble_eq_true rfl) rfl (Wd.imp H (fun r7 h8 H => ?_))
      show Wd mX0_find X 67 [(2, 7), (2, 5), (2, 6), (2, 1), (0, x4), (0, x5), (0, 0), (9, 0)] [(0, r7)] h8 Q
      refine s_istore 69 7 rfl dX0_find_67 (by decide) (L2 := [(2, 7), (2, 5), (2, 6), (2, 1), (0, x4), (0, x5), (0, 0), (0, r7)]) rfl ?_
      refine s_iload 71 6 rfl dX0_find_69 rfl ?_
      refine s_if_ne 74 79 rfl dX0_find_71 (by decide) (fun c8 => ?_) (fun c8 => ?_)
      · exact absurd c8 (by decide)
      · refine s_iload 76 7 rfl dX0_find_74 rfl ?_
        refine s_if_ne 79 94 rfl dX0_find_76 (by decide) (fun c21 => ?_) (fun c21 => ?_)
        · replace H := H.1 c21
          refine s_iload 96 7 rfl dX0_find_94 rfl ?_
          refine s_if_eq 99 102 rfl dX0_find_96 (by decide) (fun c12 => ?_) (fun c12 => ?_)
          · replace H := H.1 c12
            have c9 := H.1
            replace H := H.2
            refine s_iinc 105 5 rfl dX0_find_102 (by decide) (z := x5) rfl (L2 := [(2, 7), (2, 5), (2, 6), (2, 1), (0, x4), (0, x5 + 1), (0, 0), (0, r7)]) rfl c9 ?_
            refine s_goto 11 dX0_find_105 (by decide) ?_
            exact s_less [(2, 7), (2, 5), (2, 6), (2, 1), (0, x4), (0, x5 + 1), (9, 0), (9, 0)] ⟨Or.inr rfl, Or.inr rfl, Or.inr rfl, Or.inr rfl, Or.inr rfl, Or.inr rfl, Or.inl rfl, Or.inl rfl, trivial⟩ H
          · replace H := H.2 c12
            have c10 := H.1
            replace H := H.2
            refine s_iinc 102 4 rfl dX0_find_99 (by decide) (z := x4) rfl (L2 := [(2, 7), (2, 5), (2, 6), (2, 1), (0, x4 + 1), (0, x5), (0, 0), (0, r7)]) rfl c10 ?_
            have c11 := H.1
            replace H := H.2
            refine s_iinc 105 5 rfl dX0_find_102 (by decide) (z := x5) rfl (L2 := [(2, 7), (2, 5), (2, 6), (2, 1), (0, x4 + 1), (0, x5 + 1), (0, 0), (0, r7)]) rfl c11 ?_
            refine s_goto 11 dX0_find_105 (by decide) ?_
            exact s_less [(2, 7), (2, 5), (2, 6), (2, 1), (0, x4 + 1), (0, x5 + 1), (9, 0), (9, 0)] ⟨Or.inr rfl, Or.inr rfl, Or.inr rfl, Or.inr rfl, Or.inr rfl, Or.inr rfl, Or.inl rfl, Or.inl rfl, trivial⟩ H
        · replace H := H.2 c21
          refine s_aload_n 80 0 rfl dX0_find_79 rfl rfl ?_
          refine s_iload 82 5 rfl dX0_find_80 rfl ?_
          refine s_iload 84 4 rfl dX0_find_82 rfl ?_
          refine s_aload_n 85 3 rfl dX0_find_84 rfl rfl ?_
          refine s_callV (mj := mX4_least) (S := [(0, x4), (0, x5), (2, 7)]) 88 [] [(2, 1)] 1 rfl dX0_find_85 okX4_least w576 w577 w578 rfl (by decide) rfl rfl rfl rfl npX4_least (Nat.le_of_ble_eq_true rfl) (by decide) (Nat.le_of_ble_eq_true rfl) rfl (Wd.imp H (fun r14 h15 H => ?_))
          show Wd mX0_find X 88 [(2, 7), (2, 5), (2, 6), (2, 1), (0, x4), (0, x5), (0, 0), (0, r7)] [(0, r14), (0, x4), (0, x5), (2, 7)] h15 Q
          refine s_callV (mj := mX0_close) (S := []) 91 [(0, x5), (0, x4), (0, r14)] [(2, 7), (0, x5), (0, x4), (0, r14), (9, 0)] 7 rfl dX0_find_88 okX0_close w580 w582 w9 rfl (by decide) rfl rfl rfl rfl npX0_close (Nat.le_of_ble_eq_true rfl) (by decide) (Nat.le_of_ble_eq_true rfl) rfl (Wd.imp H (fun _ h17 H => ?_))
          show Wd mX0_find X 91 [(2, 7), (2, 5), (2, 6), (2, 1), (0, x4), (0, x5), (0, 0), (0, r7)] [] h17 Q
          refine s_iconst 92 rfl dX0_find_91 ⟨by decide, by decide⟩ ?_
          refine s_istore 94 4 rfl dX0_find_92 (by decide) (L2 := [(2, 7), (2, 5), (2, 6), (2, 1), (0, 0), (0, x5), (0, 0), (0, r7)]) rfl ?_
          refine s_iload 96 7 rfl dX0_find_94 rfl ?_
          refine s_if_eq 99 102 rfl dX0_find_96 (by decide) (fun c20 => ?_) (fun c20 => ?_)
          · replace H := H.1 c20
            have c17 := H.1
            replace H := H.2
            refine s_iinc 105 5 rfl dX0_find_102 (by decide) (z := x5) rfl (L2 := [(2, 7), (2, 5), (2, 6), (2, 1), (0, 0), (0, x5 + 1), (0, 0), (0, r7)]) rfl c17 ?_
            refine s_goto 11 dX0_find_105 (by decide) ?_
            exact s_less [(2, 7), (2, 5), (2, 6), (2, 1), (0, 0), (0, x5 + 1), (9, 0), (9, 0)] ⟨Or.inr rfl, Or.inr rfl, Or.inr rfl, Or.inr rfl, Or.inr rfl, Or.inr rfl, Or.inl rfl, Or.inl rfl, trivial⟩ H
          · replace H := H.2 c20
            have c18 := H.1
            replace H := H.2
            refine s_iinc 102 4 rfl dX0_find_99 (by decide) (z := 0) rfl (L2 := [(2, 7), (2, 5), (2, 6), (2, 1), (0, 0 + 1), (0, x5), (0, 0), (0, r7)]) rfl c18 ?_
            have c19 := H.1
            replace H := H.2
            refine s_iinc 105 5 rfl dX0_find_102 (by decide) (z := x5) rfl (L2 := [(2, 7), (2, 5), (2, 6), (2, 1), (0, 0 + 1), (0, x5 + 1), (0, 0), (0, r7)]) rfl c19 ?_
            refine s_goto 11 dX0_find_105 (by decide) ?_
            exact s_less [(2, 7), (2, 5), (2, 6), (2, 1), (0, 0 + 1), (0, x5 + 1), (9, 0), (9, 0)] ⟨Or.inr rfl, Or.inr rfl, Or.inr rfl, Or.inr rfl, Or.inr rfl, Or.inr rfl, Or.inl rfl, Or.inl rfl, trivial⟩ H
    · replace H := H.2 c53
      refine s_aload_n 34 1 rfl dX0_find_33 rfl rfl ?_
      refine s_getf 37 5 6 rfl dX0_find_34 ck7 rfl (by decide) rfl (by decide) w200 rfl (v := (2, 30)) rfl ?_
      refine s_iload 39 5 rfl dX0_find_37 rfl ?_
      refine s_iald 40 rfl dX0_find_39 ia30 c4 c5 (v9 := h 30 x5) (xu_k (by decide)) ?_
      refine s_aload_n 41 1 rfl dX0_find_40 rfl rfl ?_
      refine s_getf 44 5 6 rfl dX0_find_41 ck7 rfl (by decide) rfl (by decide) w200 rfl (v := (2, 30)) rfl ?_
      refine s_iload 46 5 rfl dX0_find_44 rfl ?_
      refine s_iconst 47 rfl dX0_find_46 ⟨by decide, by decide⟩ ?_
      have c22 := H.1
      replace H := H.2
      refine s_isub 48 rfl dX0_find_47 c22 ?_
      have c23 := H.1
      replace H := H.2
      have c24 := H.1
      replace H := H.2
      refine s_iald 49 rfl dX0_find_48 ia30 c23 c24 (v9 := h 30 (x5 - 1)) (xu_k (by decide)) ?_
      refine s_icmp_eq 52 56 rfl dX0_find_49 (by decide) (fun c52 => ?_) (fun c52 => ?_)
      · replace H := H.1 c52
        refine s_iconst 57 rfl dX0_find_56 ⟨by decide, by decide⟩ ?_
        refine s_istore 59 6 rfl dX0_find_57 (by decide) (L2 := [(2, 7), (2, 5), (2, 6), (2, 1), (0, x4), (0, x5), (0, 0), (9, 0)]) rfl ?_
        refine s_aload_n 60 2 rfl dX0_find_59 rfl rfl ?_
        refine s_aload_n 61 1 rfl dX0_find_60 rfl rfl ?_
        refine s_iload 63 5 rfl dX0_find_61 rfl ?_
        refine s_aload_n 64 3 rfl dX0_find_63 rfl rfl ?_
        refine s_callV (mj := mX2_isHigh) (S := []) 67 [(2, 5), (0, x5), (2, 1)] [(2, 6), (2, 5), (0, x5), (2, 1), (9, 0), (9, 0)] 6 rfl dX0_find_64 okX2_isHigh w572 w573 w574 rfl (by decide) rfl rfl rfl rfl npX2_isHigh (Nat.le_of_ble_eq_true rfl) (by decide) (Nat.le_of_ble_eq_true rfl) rfl (Wd.imp H (fun r26 h27 H => ?_))
        show Wd mX0_find X 67 [(2, 7), (2, 5), (2, 6), (2, 1), (0, x4), (0, x5), (0, 0), (9, 0)] [(0, r26)] h27 Q
        refine s_istore 69 7 rfl dX0_find_67 (by decide) (L2 := [(2, 7), (2, 5), (2, 6), (2, 1), (0, x4), (0, x5), (0, 0), (0, r26)]) rfl ?_
        refine s_iload 71 6 rfl dX0_find_69 rfl ?_
        refine s_if_ne 74 79 rfl dX0_find_71 (by decide) (fun c27 => ?_) (fun c27 => ?_)
        · exact absurd c27 (by decide)
        · refine s_iload 76 7 rfl dX0_find_74 rfl ?_
          refine s_if_ne 79 94 rfl dX0_find_76 (by decide) (fun c40 => ?_) (fun c40 => ?_)
          · replace H := H.1 c40
            refine s_iload 96 7 rfl dX0_find_94 rfl ?_
            refine s_if_eq 99 102 rfl dX0_find_96 (by decide) (fun c31 => ?_) (fun c31 => ?_)
            · replace H := H.1 c31
              have c28 := H.1
              replace H := H.2
              refine s_iinc 105 5 rfl dX0_find_102 (by decide) (z := x5) rfl (L2 := [(2, 7), (2, 5), (2, 6), (2, 1), (0, x4), (0, x5 + 1), (0, 0), (0, r26)]) rfl c28 ?_
              refine s_goto 11 dX0_find_105 (by decide) ?_
              exact s_less [(2, 7), (2, 5), (2, 6), (2, 1), (0, x4), (0, x5 + 1), (9, 0), (9, 0)] ⟨Or.inr rfl, Or.inr rfl, Or.inr rfl, Or.inr rfl, Or.inr rfl, Or.inr rfl, Or.inl rfl, Or.inl rfl, trivial⟩ H
            · replace H := H.2 c31
              have c29 := H.1
              replace H := H.2
              refine s_iinc 102 4 rfl dX0_find_99 (by decide) (z := x4) rfl (L2 := [(2, 7), (2, 5), (2, 6), (2, 1), (0, x4 + 1), (0, x5), (0, 0), (0, r26)]) rfl c29 ?_
              have c30 := H.1
              replace H := H.2
              refine s_iinc 105 5 rfl dX0_find_102 (by decide) (z := x5) rfl (L2 := [(2, 7), (2, 5), (2, 6), (2, 1), (0, x4 + 1), (0, x5 + 1), (0, 0), (0, r26)]) rfl c30 ?_
              refine s_goto 11 dX0_find_105 (by decide) ?_
              exact s_less [(2, 7), (2, 5), (2, 6), (2, 1), (0, x4 + 1), (0, x5 + 1), (9, 0), (9, 0)] ⟨Or.inr rfl, Or.inr rfl, Or.inr rfl, Or.inr rfl, Or.inr rfl, Or.inr rfl, Or.inl rfl, Or.inl rfl, trivial⟩ H
          · replace H := H.2 c40
            refine s_aload_n 80 0 rfl dX0_find_79 rfl rfl ?_
            refine s_iload 82 5 rfl dX0_find_80 rfl ?_
            refine s_iload 84 4 rfl dX0_find_82 rfl ?_
            refine s_aload_n 85 3 rfl dX0_find_84 rfl rfl ?_
            refine s_callV (mj := mX4_least) (S := [(0, x4), (0, x5), (2, 7)]) 88 [] [(2, 1)] 1 rfl dX0_find_85 okX4_least w576 w577 w578 rfl (by decide) rfl rfl rfl rfl npX4_least (Nat.le_of_ble_eq_true rfl) (by decide) (Nat.le_of_ble_eq_true rfl) rfl (Wd.imp H (fun r33 h34 H => ?_))
            show Wd mX0_find X 88 [(2, 7), (2, 5), (2, 6), (2, 1), (0, x4), (0, x5), (0, 0), (0, r26)] [(0, r33), (0, x4), (0, x5), (2, 7)] h34 Q
            refine s_callV (mj := mX0_close) (S := []) 91 [(0, x5), (0, x4), (0, r33)] [(2, 7), (0, x5), (0, x4), (0, r33), (9, 0)] 7 rfl dX0_find_88 okX0_close w580 w582 w9 rfl (by decide) rfl rfl rfl rfl npX0_close (Nat.le_of_ble_eq_true rfl) (by decide) (Nat.le_of_ble_eq_true rfl) rfl (Wd.imp H (fun _ h36 H => ?_))
            show Wd mX0_find X 91 [(2, 7), (2, 5), (2, 6), (2, 1), (0, x4), (0, x5), (0, 0), (0, r26)] [] h36 Q
            refine s_iconst 92 rfl dX0_find_91 ⟨by decide, by decide⟩ ?_
            refine s_istore 94 4 rfl dX0_find_92 (by decide) (L2 := [(2, 7), (2, 5), (2, 6), (2, 1), (0, 0), (0, x5), (0, 0), (0, r26)]) rfl ?_
            refine s_iload 96 7 rfl dX0_find_94 rfl ?_
            refine s_if_eq 99 102 rfl dX0_find_96 (by decide) (fun c39 => ?_) (fun c39 => ?_)
            · replace H := H.1 c39
              have c36 := H.1
              replace H := H.2
              refine s_iinc 105 5 rfl dX0_find_102 (by decide) (z := x5) rfl (L2 := [(2, 7), (2, 5), (2, 6), (2, 1), (0, 0), (0, x5 + 1), (0, 0), (0, r26)]) rfl c36 ?_
              refine s_goto 11 dX0_find_105 (by decide) ?_
              exact s_less [(2, 7), (2, 5), (2, 6), (2, 1), (0, 0), (0, x5 + 1), (9, 0), (9, 0)] ⟨Or.inr rfl, Or.inr rfl, Or.inr rfl, Or.inr rfl, Or.inr rfl, Or.inr rfl, Or.inl rfl, Or.inl rfl, trivial⟩ H
            · replace H := H.2 c39
              have c37 := H.1
              replace H := H.2
              refine s_iinc 102 4 rfl dX0_find_99 (by decide) (z := 0) rfl (L2 := [(2, 7), (2, 5), (2, 6), (2, 1), (0, 0 + 1), (0, x5), (0, 0), (0, r26)]) rfl c37 ?_
              have c38 := H.1
              replace H := H.2
              refine s_iinc 105 5 rfl dX0_find_102 (by decide) (z := x5) rfl (L2 := [(2, 7), (2, 5), (2, 6), (2, 1), (0, 0 + 1), (0, x5 + 1), (0, 0), (0, r26)]) rfl c38 ?_
              refine s_goto 11 dX0_find_105 (by decide) ?_
              exact s_less [(2, 7), (2, 5), (2, 6), (2, 1), (0, 0 + 1), (0, x5 + 1), (9, 0), (9, 0)] ⟨Or.inr rfl, Or.inr rfl, Or.inr rfl, Or.inr rfl, Or.inr rfl, Or.inr rfl, Or.inl rfl, Or.inl rfl, trivial⟩ H
      · replace H := H.2 c52
        refine s_iconst 53 rfl dX0_find_52 ⟨by decide, by decide⟩ ?_
        refine s_goto 57 dX0_find_53 (by decide) ?_
        refine s_istore 59 6 rfl dX0_find_57 (by decide) (L2 := [(2, 7), (2, 5), (2, 6), (2, 1), (0, x4), (0, x5), (0, 1), (9, 0)]) rfl ?_
        refine s_aload_n 60 2 rfl dX0_find_59 rfl rfl ?_
        refine s_aload_n 61 1 rfl dX0_find_60 rfl rfl ?_
        refine s_iload 63 5 rfl dX0_find_61 rfl ?_
        refine s_aload_n 64 3 rfl dX0_find_63 rfl rfl ?_
        refine s_callV (mj := mX2_isHigh) (S := []) 67 [(2, 5), (0, x5), (2, 1)] [(2, 6), (2, 5), (0, x5), (2, 1), (9, 0), (9, 0)] 6 rfl dX0_find_64 okX2_isHigh w572 w573 w574 rfl (by decide) rfl rfl rfl rfl npX2_isHigh (Nat.le_of_ble_eq_true rfl) (by decide) (Nat.le_of_ble_eq_true rfl) rfl (Wd.imp H (fun r42 h43 H => ?_))
        show Wd mX0_find X 67 [(2, 7), (2, 5), (2, 6), (2, 1), (0, x4), (0, x5), (0, 1), (9, 0)] [(0, r42)] h43 Q
        refine s_istore 69 7 rfl dX0_find_67 (by decide) (L2 := [(2, 7), (2, 5), (2, 6), (2, 1), (0, x4), (0, x5), (0, 1), (0, r42)]) rfl ?_
        refine s_iload 71 6 rfl dX0_find_69 rfl ?_
        refine s_if_ne 74 79 rfl dX0_find_71 (by decide) (fun c43 => ?_) (fun c43 => ?_)
        · refine s_aload_n 80 0 rfl dX0_find_79 rfl rfl ?_
          refine s_iload 82 5 rfl dX0_find_80 rfl ?_
          refine s_iload 84 4 rfl dX0_find_82 rfl ?_
          refine s_aload_n 85 3 rfl dX0_find_84 rfl rfl ?_
          refine s_callV (mj := mX4_least) (S := [(0, x4), (0, x5), (2, 7)]) 88 [] [(2, 1)] 1 rfl dX0_find_85 okX4_least w576 w577 w578 rfl (by decide) rfl rfl rfl rfl npX4_least (Nat.le_of_ble_eq_true rfl) (by decide) (Nat.le_of_ble_eq_true rfl) rfl (Wd.imp H (fun r45 h46 H => ?_))
          show Wd mX0_find X 88 [(2, 7), (2, 5), (2, 6), (2, 1), (0, x4), (0, x5), (0, 1), (0, r42)] [(0, r45), (0, x4), (0, x5), (2, 7)] h46 Q
          refine s_callV (mj := mX0_close) (S := []) 91 [(0, x5), (0, x4), (0, r45)] [(2, 7), (0, x5), (0, x4), (0, r45), (9, 0)] 7 rfl dX0_find_88 okX0_close w580 w582 w9 rfl (by decide) rfl rfl rfl rfl npX0_close (Nat.le_of_ble_eq_true rfl) (by decide) (Nat.le_of_ble_eq_true rfl) rfl (Wd.imp H (fun _ h48 H => ?_))
          show Wd mX0_find X 91 [(2, 7), (2, 5), (2, 6), (2, 1), (0, x4), (0, x5), (0, 1), (0, r42)] [] h48 Q
          refine s_iconst 92 rfl dX0_find_91 ⟨by decide, by decide⟩ ?_
          refine s_istore 94 4 rfl dX0_find_92 (by decide) (L2 := [(2, 7), (2, 5), (2, 6), (2, 1), (0, 0), (0, x5), (0, 1), (0, r42)]) rfl ?_
          refine s_iload 96 7 rfl dX0_find_94 rfl ?_
          refine s_if_eq 99 102 rfl dX0_find_96 (by decide) (fun c51 => ?_) (fun c51 => ?_)
          · replace H := H.1 c51
            have c48 := H.1
            replace H := H.2
            refine s_iinc 105 5 rfl dX0_find_102 (by decide) (z := x5) rfl (L2 := [(2, 7), (2, 5), (2, 6), (2, 1), (0, 0), (0, x5 + 1), (0, 1), (0, r42)]) rfl c48 ?_
            refine s_goto 11 dX0_find_105 (by decide) ?_
            exact s_less [(2, 7), (2, 5), (2, 6), (2, 1), (0, 0), (0, x5 + 1), (9, 0), (9, 0)] ⟨Or.inr rfl, Or.inr rfl, Or.inr rfl, Or.inr rfl, Or.inr rfl, Or.inr rfl, Or.inl rfl, Or.inl rfl, trivial⟩ H
          · replace H := H.2 c51
            have c49 := H.1
            replace H := H.2
            refine s_iinc 102 4 rfl dX0_find_99 (by decide) (z := 0) rfl (L2 := [(2, 7), (2, 5), (2, 6), (2, 1), (0, 0 + 1), (0, x5), (0, 1), (0, r42)]) rfl c49 ?_
            have c50 := H.1
            replace H := H.2
            refine s_iinc 105 5 rfl dX0_find_102 (by decide) (z := x5) rfl (L2 := [(2, 7), (2, 5), (2, 6), (2, 1), (0, 0 + 1), (0, x5 + 1), (0, 1), (0, r42)]) rfl c50 ?_
            refine s_goto 11 dX0_find_105 (by decide) ?_
            exact s_less [(2, 7), (2, 5), (2, 6), (2, 1), (0, 0 + 1), (0, x5 + 1), (9, 0), (9, 0)] ⟨Or.inr rfl, Or.inr rfl, Or.inr rfl, Or.inr rfl, Or.inr rfl, Or.inr rfl, Or.inl rfl, Or.inl rfl, trivial⟩ H
        · exact absurd c43 (by decide)
theorem vX1_canBe_0 {X : Nat × (Int → Int)} {h : HP} {Q : Int → HP → Prop} {x0 x1 : Int} (H : ((x0 < 0 → (Q 0 h)) ∧ (¬ (x0 < 0) → ((5 ≤ x0 → (Q 0 h)) ∧ (¬ (5 ≤ x0) → (0 ≤ x0 ∧ x0 < 5 ∧ ((x1 < sx 2 x0 → (Q 0 h)) ∧ (¬ (x1 < sx 2 x0) → ((sx 3 x0 < x1 → (Q 0 h)) ∧ (¬ (sx 3 x0 < x1) → (Q 1 h))))))))))) : Wd mX1_canBe X 0 [(0, x0), (0, x1)] [] h Q := by
  refine s_iload_n 1 0 rfl dX1_canBe_0 rfl rfl ?_
  refine s_if_lt 4 34 rfl dX1_canBe_1 (by decide) (fun c5 => ?_) (fun c5 => ?_)
  · replace H := H.1 c5
    refine s_iconst 35 rfl dX1_canBe_34 ⟨by decide, by decide⟩ ?_
    exact s_zret (S := []) dX1_canBe_35 rfl (Or.inl rfl) H
  · replace H := H.2 c5
    refine s_iload_n 5 0 rfl dX1_canBe_4 rfl rfl ?_
    refine s_gets 8 1002 "BuoyReader$LensRow" "LEAST_N" rfl dX1_canBe_5 (Or.inr (Or.inr (Or.inl ⟨rfl, rfl, rfl⟩))) w401 ?_
    refine s_xlen 9 rfl dX1_canBe_8 (Or.inr (Or.inr (Or.inl rfl))) (len := 5) (f := sx 2) rfl ?_
    refine s_icmp_ge 12 34 rfl dX1_canBe_9 (by decide) (fun c4 => ?_) (fun c4 => ?_)
    · replace H := H.1 c4
      refine s_iconst 35 rfl dX1_canBe_34 ⟨by decide, by decide⟩ ?_
      exact s_zret (S := []) dX1_canBe_35 rfl (Or.inl rfl) H
    · replace H := H.2 c4
      refine s_iload_n 13 1 rfl dX1_canBe_12 rfl rfl ?_
      refine s_gets 16 1002 "BuoyReader$LensRow" "LEAST_N" rfl dX1_canBe_13 (Or.inr (Or.inr (Or.inl ⟨rfl, rfl, rfl⟩))) w401 ?_
      refine s_iload_n 17 0 rfl dX1_canBe_16 rfl rfl ?_
      have c0 := H.1
      replace H := H.2
      have c1 := H.1
      replace H := H.2
      refine s_xald 18 rfl dX1_canBe_17 (Or.inr (Or.inr (Or.inl rfl))) (len := 5) (f := sx 2) rfl c0 c1 ?_
      refine s_icmp_lt 21 34 rfl dX1_canBe_18 (by decide) (fun c3 => ?_) (fun c3 => ?_)
      · replace H := H.1 c3
        refine s_iconst 35 rfl dX1_canBe_34 ⟨by decide, by decide⟩ ?_
        exact s_zret (S := []) dX1_canBe_35 rfl (Or.inl rfl) H
      · replace H := H.2 c3
        refine s_iload_n 22 1 rfl dX1_canBe_21 rfl rfl ?_
        refine s_gets 25 1003 "BuoyReader$LensRow" "GREATEST_N" rfl dX1_canBe_22 (Or.inr (Or.inr (Or.inr ⟨rfl, rfl, rfl⟩))) w403 ?_
        refine s_iload_n 26 0 rfl dX1_canBe_25 rfl rfl ?_
        refine s_xald 27 rfl dX1_canBe_26 (Or.inr (Or.inr (Or.inr (Or.inl rfl)))) (len := 5) (f := sx 3) rfl c0 c1 ?_
        refine s_icmp_gt 30 34 rfl dX1_canBe_27 (by decide) (fun c2 => ?_) (fun c2 => ?_)
        · replace H := H.1 c2
          refine s_iconst 35 rfl dX1_canBe_34 ⟨by decide, by decide⟩ ?_
          exact s_zret (S := []) dX1_canBe_35 rfl (Or.inl rfl) H
        · replace H := H.2 c2
          refine s_iconst 31 rfl dX1_canBe_30 ⟨by decide, by decide⟩ ?_
          refine s_goto 35 dX1_canBe_31 (by decide) ?_
          exact s_zret (S := []) dX1_canBe_35 rfl (Or.inr rfl) H
theorem vX1_lay_0 {X : Nat × (Int → Int)} {h : HP} {Q : Int → HP → Prop} {x1 x2 : Int} (H : ((h 2 2 < 4 → (0 ≤ h 2 2 ∧ h 2 2 < 4 ∧ inI (h 2 2 + 1) ∧ Q 0 (xu (xu (xu h 10 (h 2 2) x1) 11 (h 2 2) x2) 2 2 (h 2 2 + 1)))) ∧ (¬ (h 2 2 < 4) → (Q 0 h)))) : Wd mX1_lay X 0 [(2, 2), (0, x1), (0, x2)] [] h Q := by
  refine s_aload_n 1 0 rfl dX1_lay_0 rfl rfl ?_
  refine s_getf 4 2 2 rfl dX1_lay_1 ck1 rfl (by decide) rfl (by decide) w100 rfl (v := (0, h 2 2)) rfl ?_
  refine s_aload_n 5 0 rfl dX1_lay_4 rfl rfl ?_
  refine s_getf 8 2 0 rfl dX1_lay_5 ck1 rfl (by decide) rfl (by decide) w98 rfl (v := (2, 10)) rfl ?_
  refine s_alenI 9 rfl dX1_lay_8 ia10 ?_
  refine s_icmp_lt 12 13 rfl dX1_lay_9 (by decide) (fun c3 => ?_) (fun c3 => ?_)
  · replace H := H.1 c3
    refine s_aload_n 14 0 rfl dX1_lay_13 rfl rfl ?_
    refine s_getf 17 2 0 rfl dX1_lay_14 ck1 rfl (by decide) rfl (by decide) w98 rfl (v := (2, 10)) rfl ?_
    refine s_aload_n 18 0 rfl dX1_lay_17 rfl rfl ?_
    refine s_getf 21 2 2 rfl dX1_lay_18 ck1 rfl (by decide) rfl (by decide) w100 rfl (v := (0, h 2 2)) rfl ?_
    refine s_iload_n 22 1 rfl dX1_lay_21 rfl rfl ?_
    have c0 := H.1
    replace H := H.2
    have c1 := H.1
    replace H := H.2
    refine s_iast 23 rfl dX1_lay_22 ia10 c0 c1 ?_
    refine s_aload_n 24 0 rfl dX1_lay_23 rfl rfl ?_
    refine s_getf 27 2 1 rfl dX1_lay_24 ck1 rfl (by decide) rfl (by decide) w99 rfl (v := (2, 11)) rfl ?_
    refine s_aload_n 28 0 rfl dX1_lay_27 rfl rfl ?_
    refine s_getf 31 2 2 rfl dX1_lay_28 ck1 rfl (by decide) rfl (by decide) w100 rfl (v := (0, h 2 2)) (by show (0, (xu h 10 (h 2 2) x1) 2 2) = _; rw [(xu_k (by decide))]) ?_
    refine s_iload_n 32 2 rfl dX1_lay_31 rfl rfl ?_
    refine s_iast 33 rfl dX1_lay_32 ia11 c0 c1 ?_
    refine s_aload_n 34 0 rfl dX1_lay_33 rfl rfl ?_
    refine s_dup 35 rfl dX1_lay_34 (by decide : ¬ (2 : Nat) = 1) ?_
    refine s_getf 38 2 2 rfl dX1_lay_35 ck1 rfl (by decide) rfl (by decide) w100 rfl (v := (0, h 2 2)) (by show (0, (xu (xu h 10 (h 2 2) x1) 11 (h 2 2) x2) 2 2) = _; rw [((xu_k (by decide)).trans (xu_k (by decide)))]) ?_
    refine s_iconst 39 rfl dX1_lay_38 ⟨by decide, by decide⟩ ?_
    have c2 := H.1
    replace H := H.2
    refine s_iadd 40 rfl dX1_lay_39 c2 ?_
    refine s_putI 43 2 2 rfl dX1_lay_40 ck1 rfl (by decide) rfl (by decide) w100 rfl rfl rfl ?_
    exact s_vret (S := []) dX1_lay_43 rfl H
  · replace H := H.2 c3
    exact s_vret (S := []) dX1_lay_12 rfl H
theorem vX1_takeOff_0 {X : Nat × (Int → Int)} {h : HP} {Q : Int → HP → Prop} (H : ((h 2 2 ≤ 0 → (Q 0 h)) ∧ (¬ (h 2 2 ≤ 0) → (inI (h 2 2 - 1) ∧ Q 0 (xu h 2 2 (h 2 2 - 1)))))) : Wd mX1_takeOff X 0 [(2, 2)] [] h Q := by
  refine s_aload_n 1 0 rfl dX1_takeOff_0 rfl rfl ?_
  refine s_getf 4 2 2 rfl dX1_takeOff_1 ck1 rfl (by decide) rfl (by decide) w100 rfl (v := (0, h 2 2)) rfl ?_
  refine s_if_le 7 17 rfl dX1_takeOff_4 (by decide) (fun c1 => ?_) (fun c1 => ?_)
  · replace H := H.1 c1
    exact s_vret (S := []) dX1_takeOff_17 rfl H
  · replace H := H.2 c1
    refine s_aload_n 8 0 rfl dX1_takeOff_7 rfl rfl ?_
    refine s_dup 9 rfl dX1_takeOff_8 (by decide : ¬ (2 : Nat) = 1) ?_
    refine s_getf 12 2 2 rfl dX1_takeOff_9 ck1 rfl (by decide) rfl (by decide) w100 rfl (v := (0, h 2 2)) rfl ?_
    refine s_iconst 13 rfl dX1_takeOff_12 ⟨by decide, by decide⟩ ?_
    have c0 := H.1
    replace H := H.2
    refine s_isub 14 rfl dX1_takeOff_13 c0 ?_
    refine s_putI 17 2 2 rfl dX1_takeOff_14 ck1 rfl (by decide) rfl (by decide) w100 rfl rfl rfl ?_
    exact s_vret (S := []) dX1_takeOff_17 rfl H
theorem vJ9_floorDiv_7cf53_0 {X : Nat × (Int → Int)} {h : HP} {Q : Int → HP → Prop} {x0 x1 : Int} (H : ¬ x1 = 0 ∧ inI (Int.tdiv x0 x1) ∧ ((0 ≤ ((Int32.ofInt x0 ^^^ Int32.ofInt x1).toInt) → (Q (Int.tdiv x0 x1) h)) ∧ (¬ (0 ≤ ((Int32.ofInt x0 ^^^ Int32.ofInt x1).toInt)) → (inI (Int.tdiv x0 x1 * x1) ∧ ((Int.tdiv x0 x1 * x1 = x0 → (Q (Int.tdiv x0 x1) h)) ∧ (¬ Int.tdiv x0 x1 * x1 = x0 → (inI (Int.tdiv x0 x1 - 1) ∧ Q (Int.tdiv x0 x1 - 1) h))))))) : Wd mJ9_floorDiv_7cf53 X 0 [(0, x0), (0, x1), (9, 0)] [] h Q := by
  refine s_iload_n 1 0 rfl dJ9_floorDiv_7cf53_0 rfl rfl ?_
  refine s_iload_n 2 1 rfl dJ9_floorDiv_7cf53_1 rfl rfl ?_
  have c0 := H.1
  replace H := H.2
  have c1 := H.1
  replace H := H.2
  refine s_idiv 3 rfl dJ9_floorDiv_7cf53_2 c0 c1 ?_
  refine s_istore_n 4 2 rfl dJ9_floorDiv_7cf53_3 rfl (by decide) (L2 := [(0, x0), (0, x1), (0, Int.tdiv x0 x1)]) rfl ?_
  refine s_iload_n 5 0 rfl dJ9_floorDiv_7cf53_4 rfl rfl ?_
  refine s_iload_n 6 1 rfl dJ9_floorDiv_7cf53_5 rfl rfl ?_
  refine s_ixor 7 rfl dJ9_floorDiv_7cf53_6 ?_
  refine s_if_ge 10 21 rfl dJ9_floorDiv_7cf53_7 (by decide) (fun c5 => ?_) (fun c5 => ?_)
  · replace H := H.1 c5
    refine s_iload_n 22 2 rfl dJ9_floorDiv_7cf53_21 rfl rfl ?_
    exact s_iret (S := []) dJ9_floorDiv_7cf53_22 rfl H
  · replace H := H.2 c5
    refine s_iload_n 11 2 rfl dJ9_floorDiv_7cf53_10 rfl rfl ?_
    refine s_iload_n 12 1 rfl dJ9_floorDiv_7cf53_11 rfl rfl ?_
    have c2 := H.1
    replace H := H.2
    refine s_imul 13 rfl dJ9_floorDiv_7cf53_12 c2 ?_
    refine s_iload_n 14 0 rfl dJ9_floorDiv_7cf53_13 rfl rfl ?_
    refine s_icmp_eq 17 21 rfl dJ9_floorDiv_7cf53_14 (by decide) (fun c4 => ?_) (fun c4 => ?_)
    · replace H := H.1 c4
      refine s_iload_n 22 2 rfl dJ9_floorDiv_7cf53_21 rfl rfl ?_
      exact s_iret (S := []) dJ9_floorDiv_7cf53_22 rfl H
    · replace H := H.2 c4
      refine s_iload_n 18 2 rfl dJ9_floorDiv_7cf53_17 rfl rfl ?_
      refine s_iconst 19 rfl dJ9_floorDiv_7cf53_18 ⟨by decide, by decide⟩ ?_
      have c3 := H.1
      replace H := H.2
      refine s_isub 20 rfl dJ9_floorDiv_7cf53_19 c3 ?_
      exact s_iret (S := []) dJ9_floorDiv_7cf53_20 rfl H
theorem vJ9_max_7cf53_0 {X : Nat × (Int → Int)} {h : HP} {Q : Int → HP → Prop} {x0 x1 : Int} (H : ((x0 < x1 → (Q x1 h)) ∧ (¬ (x0 < x1) → (Q x0 h)))) : Wd mJ9_max_7cf53 X 0 [(0, x0), (0, x1)] [] h Q := by
  refine s_iload_n 1 0 rfl dJ9_max_7cf53_0 rfl rfl ?_
  refine s_iload_n 2 1 rfl dJ9_max_7cf53_1 rfl rfl ?_
  refine s_icmp_lt 5 9 rfl dJ9_max_7cf53_2 (by decide) (fun c0 => ?_) (fun c0 => ?_)
  · replace H := H.1 c0
    refine s_iload_n 10 1 rfl dJ9_max_7cf53_9 rfl rfl ?_
    exact s_iret (S := []) dJ9_max_7cf53_10 rfl H
  · replace H := H.2 c0
    refine s_iload_n 6 0 rfl dJ9_max_7cf53_5 rfl rfl ?_
    refine s_goto 10 dJ9_max_7cf53_6 (by decide) ?_
    exact s_iret (S := []) dJ9_max_7cf53_10 rfl H
theorem vJ9_min_7cf53_0 {X : Nat × (Int → Int)} {h : HP} {Q : Int → HP → Prop} {x0 x1 : Int} (H : ((x1 < x0 → (Q x1 h)) ∧ (¬ (x1 < x0) → (Q x0 h)))) : Wd mJ9_min_7cf53 X 0 [(0, x0), (0, x1)] [] h Q := by
  refine s_iload_n 1 0 rfl dJ9_min_7cf53_0 rfl rfl ?_
  refine s_iload_n 2 1 rfl dJ9_min_7cf53_1 rfl rfl ?_
  refine s_icmp_gt 5 9 rfl dJ9_min_7cf53_2 (by decide) (fun c0 => ?_) (fun c0 => ?_)
  · replace H := H.1 c0
    refine s_iload_n 10 1 rfl dJ9_min_7cf53_9 rfl rfl ?_
    exact s_iret (S := []) dJ9_min_7cf53_10 rfl H
  · replace H := H.2 c0
    refine s_iload_n 6 0 rfl dJ9_min_7cf53_5 rfl rfl ?_
    refine s_goto 10 dJ9_min_7cf53_6 (by decide) ?_
    exact s_iret (S := []) dJ9_min_7cf53_10 rfl H
theorem vJ9_floorDiv_f86c9_0 {X : Nat × (Int → Int)} {h : HP} {Q : Int → HP → Prop} {x0 x2 : Int} (H : ¬ x2 = 0 ∧ inJ (Int.tdiv x0 x2) ∧ ((0 ≤ ((Int64.ofInt x0 ^^^ Int64.ofInt x2).toInt) → (Q (Int.tdiv x0 x2) h)) ∧ (¬ (0 ≤ ((Int64.ofInt x0 ^^^ Int64.ofInt x2).toInt)) → (inJ (Int.tdiv x0 x2 * x2) ∧ ((Int.tdiv x0 x2 * x2 = x0 → (Q (Int.tdiv x0 x2) h)) ∧ (¬ Int.tdiv x0 x2 * x2 = x0 → (inJ (Int.tdiv x0 x2 - 1) ∧ Q (Int.tdiv x0 x2 - 1) h))))))) : Wd mJ9_floorDiv_f86c9 X 0 [(1, x0), (9, 0), (1, x2), (9, 0), (9, 0), (9, 0)] [] h Q := by
  refine s_lload_n 1 0 rfl dJ9_floorDiv_f86c9_0 rfl rfl ?_
  refine s_lload_n 2 2 rfl dJ9_floorDiv_f86c9_1 rfl rfl ?_
  have c0 := H.1
  replace H := H.2
  have c1 := H.1
  replace H := H.2
  refine s_ldiv 3 rfl dJ9_floorDiv_f86c9_2 c0 c1 ?_
  refine s_lstore 5 4 rfl dJ9_floorDiv_f86c9_3 (by decide) (L2 := [(1, x0), (9, 0), (1, x2), (9, 0), (1, Int.tdiv x0 x2), (9, 0)]) rfl ?_
  refine s_lload_n 6 0 rfl dJ9_floorDiv_f86c9_5 rfl rfl ?_
  refine s_lload_n 7 2 rfl dJ9_floorDiv_f86c9_6 rfl rfl ?_
  refine s_lxor 8 rfl dJ9_floorDiv_f86c9_7 ?_
  refine s_lconst 9 0 rfl dJ9_floorDiv_f86c9_8 (by decide) ⟨by decide, by decide⟩ ?_
  refine s_lcmp 10 rfl dJ9_floorDiv_f86c9_9 ?_
  refine s_if_ge 13 27 rfl dJ9_floorDiv_f86c9_10 (by decide) (fun c5 => ?_) (fun c5 => ?_)
  · replace H := H.1 (lcz_ge.mp c5)
    refine s_lload 29 4 rfl dJ9_floorDiv_f86c9_27 rfl ?_
    exact s_lret (S := []) dJ9_floorDiv_f86c9_29 rfl H
  · replace H := H.2 (fun y => c5 (lcz_ge.mpr y))
    refine s_lload 15 4 rfl dJ9_floorDiv_f86c9_13 rfl ?_
    refine s_lload_n 16 2 rfl dJ9_floorDiv_f86c9_15 rfl rfl ?_
    have c2 := H.1
    replace H := H.2
    refine s_lmul 17 rfl dJ9_floorDiv_f86c9_16 c2 ?_
    refine s_lload_n 18 0 rfl dJ9_floorDiv_f86c9_17 rfl rfl ?_
    refine s_lcmp 19 rfl dJ9_floorDiv_f86c9_18 ?_
    refine s_if_eq 22 27 rfl dJ9_floorDiv_f86c9_19 (by decide) (fun c4 => ?_) (fun c4 => ?_)
    · replace H := H.1 (lcz_eq.mp c4)
      refine s_lload 29 4 rfl dJ9_floorDiv_f86c9_27 rfl ?_
      exact s_lret (S := []) dJ9_floorDiv_f86c9_29 rfl H
    · replace H := H.2 (fun y => c4 (lcz_eq.mpr y))
      refine s_lload 24 4 rfl dJ9_floorDiv_f86c9_22 rfl ?_
      refine s_lconst 25 1 rfl dJ9_floorDiv_f86c9_24 (by decide) ⟨by decide, by decide⟩ ?_
      have c3 := H.1
      replace H := H.2
      refine s_lsub 26 rfl dJ9_floorDiv_f86c9_25 c3 ?_
      exact s_lret (S := []) dJ9_floorDiv_f86c9_26 rfl H
theorem vX1_showMean_0 {X : Nat × (Int → Int)} {h : HP} {Q : Int → HP → Prop} {x0 x1 x2 x3 x4 : Int} (H : Wd mX1_showMean X 12 [(2, x0), (2, x1), (9, 0), (0, x3), (0, x4), (1, 0), (9, 0), (0, x2), (0, x2), (0, x2)] [] h Q) : Wd mX1_showMean X 0 [(2, x0), (2, x1), (0, x2), (0, x3), (0, x4), (9, 0), (9, 0), (9, 0), (9, 0), (9, 0)] [] h Q := by
  refine s_lconst 1 0 rfl dX1_showMean_0 (by decide) ⟨by decide, by decide⟩ ?_
  refine s_lstore 3 5 rfl dX1_showMean_1 (by decide) (L2 := [(2, x0), (2, x1), (0, x2), (0, x3), (0, x4), (1, 0), (9, 0), (9, 0), (9, 0), (9, 0)]) rfl ?_
  refine s_iload_n 4 2 rfl dX1_showMean_3 rfl rfl ?_
  refine s_istore 6 7 rfl dX1_showMean_4 (by decide) (L2 := [(2, x0), (2, x1), (0, x2), (0, x3), (0, x4), (1, 0), (9, 0), (0, x2), (9, 0), (9, 0)]) rfl ?_
  refine s_iload_n 7 2 rfl dX1_showMean_6 rfl rfl ?_
  refine s_istore 9 8 rfl dX1_showMean_7 (by decide) (L2 := [(2, x0), (2, x1), (0, x2), (0, x3), (0, x4), (1, 0), (9, 0), (0, x2), (0, x2), (9, 0)]) rfl ?_
  refine s_iload_n 10 2 rfl dX1_showMean_9 rfl rfl ?_
  refine s_istore 12 9 rfl dX1_showMean_10 (by decide) (L2 := [(2, x0), (2, x1), (0, x2), (0, x3), (0, x4), (1, 0), (9, 0), (0, x2), (0, x2), (0, x2)]) rfl ?_
  exact s_less [(2, x0), (2, x1), (9, 0), (0, x3), (0, x4), (1, 0), (9, 0), (0, x2), (0, x2), (0, x2)] ⟨Or.inr rfl, Or.inr rfl, Or.inl rfl, Or.inr rfl, Or.inr rfl, Or.inr rfl, Or.inl rfl, Or.inr rfl, Or.inr rfl, Or.inr rfl, trivial⟩ H
theorem vX1_showMean_12 {X : Nat × (Int → Int)} {h : HP} {Q : Int → HP → Prop} {x0 x1 x3 x4 x5 x7 x8 x9 : Int} (H : ((x3 ≤ x9 → (Q 0 h)) ∧ (¬ (x3 ≤ x9) → (Wd mX1_showMean X 18 [(2, x0), (2, x1), (9, 0), (0, x3), (0, x4), (1, x5), (9, 0), (0, x7), (0, x8), (0, x9)] [] h Q)))) : Wd mX1_showMean X 12 [(2, x0), (2, x1), (9, 0), (0, x3), (0, x4), (1, x5), (9, 0), (0, x7), (0, x8), (0, x9)] [] h Q := by
  refine s_iload 14 9 rfl dX1_showMean_12 rfl ?_
  refine s_iload_n 15 3 rfl dX1_showMean_14 rfl rfl ?_
  refine s_icmp_ge 18 96 rfl dX1_showMean_15 (by decide) (fun c0 => ?_) (fun c0 => ?_)
  · replace H := H.1 c0
    exact s_vret (S := []) dX1_showMean_96 rfl H
  · replace H := H.2 c0
    exact H
theorem vX1_showMean_18 {X : Nat × (Int → Int)} {h : HP} {Q : Int → HP → Prop} {x0 x1 x3 x4 x5 x7 x8 x9 : Int} (H : ((x3 ≤ x8 → (Wd mX1_showMean X 50 [(2, x0), (2, x1), (9, 0), (0, x3), (0, x4), (1, x5), (9, 0), (0, x7), (0, x8), (0, x9)] [] h Q)) ∧ (¬ (x3 ≤ x8) → (inI (x9 + x4) ∧ (((x9 + x4) < x8 → (Wd mX1_showMean X 50 [(2, x0), (2, x1), (9, 0), (0, x3), (0, x4), (1, x5), (9, 0), (0, x7), (0, x8), (0, x9)] [] h Q)) ∧ (¬ ((x9 + x4) < x8) → (IA x0 600 ∧ 0 ≤ x8 ∧ x8 < 600 ∧ inJ (x5 + h x0 x8) ∧ inI (x8 + 1) ∧ Wd mX1_showMean X 18 [(2, x0), (2, x1), (9, 0), (0, x3), (0, x4), (1, x5 + h x0 x8), (9, 0), (0, x7), (0, x8 + 1), (0, x9)] [] h Q))))))) : Wd mX1_showMean X 18 [(2, x0), (2, x1), (9, 0), (0, x3), (0, x4), (1, x5), (9, 0), (0, x7), (0, x8), (0, x9)] [] h Q := by
  refine s_iload 20 8 rfl dX1_showMean_18 rfl ?_
  refine s_iload_n 21 3 rfl dX1_showMean_20 rfl rfl ?_
  refine s_icmp_ge 24 50 rfl dX1_showMean_21 (by decide) (fun c7 => ?_) (fun c7 => ?_)
  · replace H := H.1 c7
    exact H
  · replace H := H.2 c7
    refine s_iload 26 8 rfl dX1_showMean_24 rfl ?_
    refine s_iload 28 9 rfl dX1_showMean_26 rfl ?_
    refine s_iload 30 4 rfl dX1_showMean_28 rfl ?_
    have c0 := H.1
    replace H := H.2
    refine s_iadd 31 rfl dX1_showMean_30 c0 ?_
    refine s_icmp_gt 34 50 rfl dX1_showMean_31 (by decide) (fun c6 => ?_) (fun c6 => ?_)
    · replace H := H.1 c6
      exact H
    · replace H := H.2 c6
      refine s_lload 36 5 rfl dX1_showMean_34 rfl ?_
      refine s_aload_n 37 0 rfl dX1_showMean_36 rfl rfl ?_
      refine s_iload 39 8 rfl dX1_showMean_37 rfl ?_
      have c1 := H.1
      replace H := H.2
      have c2 := H.1
      replace H := H.2
      have c3 := H.1
      replace H := H.2
      refine s_iald 40 rfl dX1_showMean_39 c1 c2 c3 (v9 := h x0 x8) rfl ?_
      refine s_i2l 41 rfl dX1_showMean_40 ?_
      have c4 := H.1
      replace H := H.2
      refine s_ladd 42 rfl dX1_showMean_41 c4 ?_
      refine s_lstore 44 5 rfl dX1_showMean_42 (by decide) (L2 := [(2, x0), (2, x1), (9, 0), (0, x3), (0, x4), (1, x5 + h x0 x8), (9, 0), (0, x7), (0, x8), (0, x9)]) rfl ?_
      have c5 := H.1
      replace H := H.2
      refine s_iinc 47 8 rfl dX1_showMean_44 (by decide) (z := x8) rfl (L2 := [(2, x0), (2, x1), (9, 0), (0, x3), (0, x4), (1, x5 + h x0 x8), (9, 0), (0, x7), (0, x8 + 1), (0, x9)]) rfl c5 ?_
      refine s_goto 18 dX1_showMean_47 (by decide) ?_
      exact H
theorem vX1_showMean_50 {X : Nat × (Int → Int)} {h : HP} {Q : Int → HP → Prop} {x0 x1 x3 x4 x5 x7 x8 x9 : Int} (H : inI (x9 - x4) ∧ (((x9 - x4) ≤ x7 → (inI (x8 - x7) ∧ Wd mX8_meanDown X 0 [(1, x5), (9, 0), (0, x8 - x7)] [] h (fun r3 h4 => IA x1 600 ∧ 0 ≤ x9 ∧ x9 < 600 ∧ inI (x9 + 1) ∧ Wd mX1_showMean X 12 [(2, x0), (2, x1), (9, 0), (0, x3), (0, x4), (1, x5), (9, 0), (0, x7), (0, x8), (0, x9 + 1)] [] (xu h4 x1 x9 r3) Q))) ∧ (¬ ((x9 - x4) ≤ x7) → (IA x0 600 ∧ 0 ≤ x7 ∧ x7 < 600 ∧ inJ (x5 - h x0 x7) ∧ inI (x7 + 1) ∧ Wd mX1_showMean X 50 [(2, x0), (2, x1), (9, 0), (0, x3), (0, x4), (1, x5 - h x0 x7), (9, 0), (0, x7 + 1), (0, x8), (0, x9)] [] h Q)))) : Wd mX1_showMean X 50 [(2, x0), (2, x1), (9, 0), (0, x3), (0, x4), (1, x5), (9, 0), (0, x7), (0, x8), (0, x9)] [] h Q := by
  refine s_iload 52 7 rfl dX1_showMean_50 rfl ?_
  refine s_iload 54 9 rfl dX1_showMean_52 rfl ?_
  refine s_iload 56 4 rfl dX1_showMean_54 rfl ?_
  have c0 := H.1
  replace H := H.2
  refine s_isub 57 rfl dX1_showMean_56 c0 ?_
  refine s_icmp_ge 60 76 rfl dX1_showMean_57 (by decide) (fun c13 => ?_) (fun c13 => ?_)
  · replace H := H.1 c13
    refine s_aload_n 77 1 rfl dX1_showMean_76 rfl rfl ?_
    refine s_iload 79 9 rfl dX1_showMean_77 rfl ?_
    refine s_lload 81 5 rfl dX1_showMean_79 rfl ?_
    refine s_iload 83 8 rfl dX1_showMean_81 rfl ?_
    refine s_iload 85 7 rfl dX1_showMean_83 rfl ?_
    have c1 := H.1
    replace H := H.2
    refine s_isub 86 rfl dX1_showMean_85 c1 ?_
    refine s_callN (mj := mX8_meanDown) (S := [(0, x9), (2, x1)]) 89 [(1, x5), (0, x8 - x7)] [(1, x5), (9, 0), (0, x8 - x7)] rfl dX1_showMean_86 okX8_meanDown ⟨Or.inl ⟨rfl, rfl⟩, rfl⟩ w442 rfl npX8_meanDown (Nat.le_of_ble_eq_true rfl) (by decide) (Nat.le_of_ble_eq_true rfl) rfl (Wd.imp H (fun r3 h4 H => ?_))
    show Wd mX1_showMean X 89 [(2, x0), (2, x1), (9, 0), (0, x3), (0, x4), (1, x5), (9, 0), (0, x7), (0, x8), (0, x9)] [(0, r3), (0, x9), (2, x1)] h4 Q
    have c4 := H.1
    replace H := H.2
    have c5 := H.1
    replace H := H.2
    have c6 := H.1
    replace H := H.2
    refine s_iast 90 rfl dX1_showMean_89 c4 c5 c6 ?_
    have c7 := H.1
    replace H := H.2
    refine s_iinc 93 9 rfl dX1_showMean_90 (by decide) (z := x9) rfl (L2 := [(2, x0), (2, x1), (9, 0), (0, x3), (0, x4), (1, x5), (9, 0), (0, x7), (0, x8), (0, x9 + 1)]) rfl c7 ?_
    refine s_goto 12 dX1_showMean_93 (by decide) ?_
    exact H
  · replace H := H.2 c13
    refine s_lload 62 5 rfl dX1_showMean_60 rfl ?_
    refine s_aload_n 63 0 rfl dX1_showMean_62 rfl rfl ?_
    refine s_iload 65 7 rfl dX1_showMean_63 rfl ?_
    have c8 := H.1
    replace H := H.2
    have c9 := H.1
    replace H := H.2
    have c10 := H.1
    replace H := H.2
    refine s_iald 66 rfl dX1_showMean_65 c8 c9 c10 (v9 := h x0 x7) rfl ?_
    refine s_i2l 67 rfl dX1_showMean_66 ?_
    have c11 := H.1
    replace H := H.2
    refine s_lsub 68 rfl dX1_showMean_67 c11 ?_
    refine s_lstore 70 5 rfl dX1_showMean_68 (by decide) (L2 := [(2, x0), (2, x1), (9, 0), (0, x3), (0, x4), (1, x5 - h x0 x7), (9, 0), (0, x7), (0, x8), (0, x9)]) rfl ?_
    have c12 := H.1
    replace H := H.2
    refine s_iinc 73 7 rfl dX1_showMean_70 (by decide) (z := x7) rfl (L2 := [(2, x0), (2, x1), (9, 0), (0, x3), (0, x4), (1, x5 - h x0 x7), (9, 0), (0, x7 + 1), (0, x8), (0, x9)]) rfl c12 ?_
    refine s_goto 50 dX1_showMean_73 (by decide) ?_
    exact H
theorem vX1_show_0 {X : Nat × (Int → Int)} {h : HP} {Q : Int → HP → Prop} {x1 x2 x3 x4 x5 : Int} (H : ((x1 < 0 → (Q 0 h)) ∧ (¬ (x1 < 0) → ((x1 < h 2 2 → (0 ≤ x1 ∧ x1 < 4 ∧ ((¬ h 10 x1 = 0 → (Wd mX1_show X 46 [(2, 2), (0, x1), (2, x2), (2, x3), (0, x4), (0, x5), (0, h 11 x1), (0, x4)] [] h Q)) ∧ (h 10 x1 = 0 → (Wd mX1_showMean X 0 [(2, x2), (2, x3), (0, x4), (0, x5), (0, h 11 x1), (9, 0), (9, 0), (9, 0), (9, 0), (9, 0)] [] h (fun _ h4 => Q 0 h4)))))) ∧ (¬ (x1 < h 2 2) → (Q 0 h)))))) : Wd mX1_show X 0 [(2, 2), (0, x1), (2, x2), (2, x3), (0, x4), (0, x5), (9, 0), (9, 0)] [] h Q := by
  refine s_iload_n 1 1 rfl dX1_show_0 rfl rfl ?_
  refine s_if_lt 4 12 rfl dX1_show_1 (by decide) (fun c6 => ?_) (fun c6 => ?_)
  · replace H := H.1 c6
    exact s_vret (S := []) dX1_show_12 rfl H
  · replace H := H.2 c6
    refine s_iload_n 5 1 rfl dX1_show_4 rfl rfl ?_
    refine s_aload_n 6 0 rfl dX1_show_5 rfl rfl ?_
    refine s_getf 9 2 2 rfl dX1_show_6 ck1 rfl (by decide) rfl (by decide) w100 rfl (v := (0, h 2 2)) rfl ?_
    refine s_icmp_lt 12 13 rfl dX1_show_9 (by decide) (fun c5 => ?_) (fun c5 => ?_)
    · replace H := H.1 c5
      refine s_aload_n 14 0 rfl dX1_show_13 rfl rfl ?_
      refine s_getf 17 2 1 rfl dX1_show_14 ck1 rfl (by decide) rfl (by decide) w99 rfl (v := (2, 11)) rfl ?_
      refine s_iload_n 18 1 rfl dX1_show_17 rfl rfl ?_
      have c0 := H.1
      replace H := H.2
      have c1 := H.1
      replace H := H.2
      refine s_iald 19 rfl dX1_show_18 ia11 c0 c1 (v9 := h 11 x1) rfl ?_
      refine s_istore 21 6 rfl dX1_show_19 (by decide) (L2 := [(2, 2), (0, x1), (2, x2), (2, x3), (0, x4), (0, x5), (0, h 11 x1), (9, 0)]) rfl ?_
      refine s_aload_n 22 0 rfl dX1_show_21 rfl rfl ?_
      refine s_getf 25 2 0 rfl dX1_show_22 ck1 rfl (by decide) rfl (by decide) w98 rfl (v := (2, 10)) rfl ?_
      refine s_iload_n 26 1 rfl dX1_show_25 rfl rfl ?_
      refine s_iald 27 rfl dX1_show_26 ia10 c0 c1 (v9 := h 10 x1) rfl ?_
      refine s_if_ne 30 42 rfl dX1_show_27 (by decide) (fun c4 => ?_) (fun c4 => ?_)
      · replace H := H.1 c4
        refine s_iload 44 4 rfl dX1_show_42 rfl ?_
        refine s_istore 46 7 rfl dX1_show_44 (by decide) (L2 := [(2, 2), (0, x1), (2, x2), (2, x3), (0, x4), (0, x5), (0, h 11 x1), (0, x4)]) rfl ?_
        exact H
      · replace H := H.2 c4
        refine s_aload_n 31 2 rfl dX1_show_30 rfl rfl ?_
        refine s_aload_n 32 3 rfl dX1_show_31 rfl rfl ?_
        refine s_iload 34 4 rfl dX1_show_32 rfl ?_
        refine s_iload 36 5 rfl dX1_show_34 rfl ?_
        refine s_iload 38 6 rfl dX1_show_36 rfl ?_
        refine s_callS (mj := mX1_showMean) (S := []) 41 [(2, x2), (2, x3), (0, x4), (0, x5), (0, h 11 x1)] [(2, x2), (2, x3), (0, x4), (0, x5), (0, h 11 x1), (9, 0), (9, 0), (9, 0), (9, 0), (9, 0)] rfl dX1_show_38 okX1_showMean w463 w464 rfl npX1_showMean (Nat.le_of_ble_eq_true rfl) (by decide) (Nat.le_of_ble_eq_true rfl) rfl (Wd.imp H (fun _ h4 H => ?_))
        show Wd mX1_show X 41 [(2, 2), (0, x1), (2, x2), (2, x3), (0, x4), (0, x5), (0, h 11 x1), (9, 0)] [] h4 Q
        exact s_vret (S := []) dX1_show_41 rfl H
    · replace H := H.2 c5
      exact s_vret (S := []) dX1_show_12 rfl H
theorem vX1_show_46 {X : Nat × (Int → Int)} {h : HP} {Q : Int → HP → Prop} {x1 x2 x3 x4 x5 x6 x7 : Int} (H : ((x5 ≤ x7 → (Q 0 h)) ∧ (¬ (x5 ≤ x7) → (0 ≤ x1 ∧ x1 < 4 ∧ ((h 10 x1 < 1 ∨ 4 < h 10 x1 → (IA x2 600 ∧ 0 ≤ x7 ∧ x7 < 600 ∧ IA x3 600 ∧ inI (x7 + 1) ∧ Wd mX1_show X 46 [(2, 2), (0, x1), (2, x2), (2, x3), (0, x4), (0, x5), (0, x6), (0, x7 + 1)] [] (xu h x3 x7 (h x2 x7)) Q)) ∧ (h 10 x1 = 1 → (inI (-x6) ∧ IA x2 600 ∧ 0 ≤ x7 ∧ x7 < 600 ∧ Wd mJ9_min_7cf53 X 0 [(0, x6), (0, h x2 x7)] [] h (fun r13 h14 => Wd mJ9_max_7cf53 X 0 [(0, (-x6)), (0, r13)] [] h14 (fun r15 h16 => IA x3 600 ∧ inI (x7 + 1) ∧ Wd mX1_show X 46 [(2, 2), (0, x1), (2, x2), (2, x3), (0, x4), (0, x5), (0, x6), (0, x7 + 1)] [] (xu h16 x3 x7 r15) Q)))) ∧ (h 10 x1 = 2 → (IA x2 600 ∧ 0 ≤ x7 ∧ x7 < 600 ∧ inI (-(h x2 x7)) ∧ IA x3 600 ∧ inI (x7 + 1) ∧ Wd mX1_show X 46 [(2, 2), (0, x1), (2, x2), (2, x3), (0, x4), (0, x5), (0, x6), (0, x7 + 1)] [] (xu h x3 x7 (-(h x2 x7))) Q)) ∧ (h 10 x1 = 3 → (IA x2 600 ∧ 0 ≤ x7 ∧ x7 < 600 ∧ inI (h x2 x7 * x6) ∧ Wd mJ9_floorDiv_7cf53 X 0 [(0, h x2 x7 * x6), (0, 10), (9, 0)] [] h (fun r29 h30 => IA x3 600 ∧ inI (x7 + 1) ∧ Wd mX1_show X 46 [(2, 2), (0, x1), (2, x2), (2, x3), (0, x4), (0, x5), (0, x6), (0, x7 + 1)] [] (xu h30 x3 x7 r29) Q))) ∧ (h 10 x1 = 4 → (inI (x7 - x4) ∧ ((x6 ≤ (x7 - x4) → (IA x2 600 ∧ 0 ≤ x7 ∧ x7 < 600 ∧ inI (x7 - x6) ∧ 0 ≤ x7 - x6 ∧ x7 - x6 < 600 ∧ inI (h x2 x7 - h x2 (x7 - x6)) ∧ IA x3 600 ∧ inI (x7 + 1) ∧ Wd mX1_show X 46 [(2, 2), (0, x1), (2, x2), (2, x3), (0, x4), (0, x5), (0, x6), (0, x7 + 1)] [] (xu h x3 x7 (h x2 x7 - h x2 (x7 - x6))) Q)) ∧ (¬ (x6 ≤ (x7 - x4)) → (IA x3 600 ∧ 0 ≤ x7 ∧ x7 < 600 ∧ inI (x7 + 1) ∧ Wd mX1_show X 46 [(2, 2), (0, x1), (2, x2), (2, x3), (0, x4), (0, x5), (0, x6), (0, x7 + 1)] [] (xu h x3 x7 0) Q)))))))))) : Wd mX1_show X 46 [(2, 2), (0, x1), (2, x2), (2, x3), (0, x4), (0, x5), (0, x6), (0, x7)] [] h Q := by
  refine s_iload 48 7 rfl dX1_show_46 rfl ?_
  refine s_iload 50 5 rfl dX1_show_48 rfl ?_
  refine s_icmp_ge 53 188 rfl dX1_show_50 (by decide) (fun c47 => ?_) (fun c47 => ?_)
  · replace H := H.1 c47
    exact s_vret (S := []) dX1_show_188 rfl H
  · replace H := H.2 c47
    refine s_aload_n 54 0 rfl dX1_show_53 rfl rfl ?_
    refine s_getf 57 2 0 rfl dX1_show_54 ck1 rfl (by decide) rfl (by decide) w98 rfl (v := (2, 10)) rfl ?_
    refine s_iload_n 58 1 rfl dX1_show_57 rfl rfl ?_
    have c0 := H.1
    replace H := H.2
    have c1 := H.1
    replace H := H.2
    refine s_iald 59 rfl dX1_show_58 ia10 c0 c1 (v9 := h 10 x1) rfl ?_
    rcases (by omega : (h 10 x1 < 1 ∨ 4 < h 10 x1) ∨ h 10 x1 = 1 ∨ h 10 x1 = 2 ∨ h 10 x1 = 3 ∨ h 10 x1 = 4) with c7 | c7 | c7 | c7 | c7
    · refine s_tsd 174 dX1_show_59 c7 (by decide) ?_
      replace H := H.1 c7
      refine s_aload_n 175 3 rfl dX1_show_174 rfl rfl ?_
      refine s_iload 177 7 rfl dX1_show_175 rfl ?_
      refine s_aload_n 178 2 rfl dX1_show_177 rfl rfl ?_
      refine s_iload 180 7 rfl dX1_show_178 rfl ?_
      have c2 := H.1
      replace H := H.2
      have c3 := H.1
      replace H := H.2
      have c4 := H.1
      replace H := H.2
      refine s_iald 181 rfl dX1_show_180 c2 c3 c4 (v9 := h x2 x7) rfl ?_
      have c5 := H.1
      replace H := H.2
      refine s_iast 182 rfl dX1_show_181 c5 c3 c4 ?_
      have c6 := H.1
      replace H := H.2
      refine s_iinc 185 7 rfl dX1_show_182 (by decide) (z := x7) rfl (L2 := [(2, 2), (0, x1), (2, x2), (2, x3), (0, x4), (0, x5), (0, x6), (0, x7 + 1)]) rfl c6 ?_
      refine s_goto 46 dX1_show_185 (by decide) ?_
      exact H
    · refine s_tsw 88 dX1_show_59 (by omega) (by omega) (by rw [c7]; rfl) (by decide) ?_
      replace H := H.2.1 c7
      refine s_aload_n 89 3 rfl dX1_show_88 rfl rfl ?_
      refine s_iload 91 7 rfl dX1_show_89 rfl ?_
      refine s_iload 93 6 rfl dX1_show_91 rfl ?_
      have c8 := H.1
      replace H := H.2
      refine s_ineg 94 rfl dX1_show_93 c8 ?_
      refine s_iload 96 6 rfl dX1_show_94 rfl ?_
      refine s_aload_n 97 2 rfl dX1_show_96 rfl rfl ?_
      refine s_iload 99 7 rfl dX1_show_97 rfl ?_
      have c9 := H.1
      replace H := H.2
      have c10 := H.1
      replace H := H.2
      have c11 := H.1
      replace H := H.2
      refine s_iald 100 rfl dX1_show_99 c9 c10 c11 (v9 := h x2 x7) rfl ?_
      refine s_callS (mj := mJ9_min_7cf53) (S := [(0, (-x6)), (0, x7), (2, x3)]) 103 [(0, x6), (0, h x2 x7)] [(0, x6), (0, h x2 x7)] rfl dX1_show_100 okJ9_min_7cf53 w467 w468 rfl npJ9_min_7cf53 (Nat.le_of_ble_eq_true rfl) (by decide) (Nat.le_of_ble_eq_true rfl) rfl (Wd.imp H (fun r13 h14 H => ?_))
      show Wd mX1_show X 103 [(2, 2), (0, x1), (2, x2), (2, x3), (0, x4), (0, x5), (0, x6), (0, x7)] [(0, r13), (0, (-x6)), (0, x7), (2, x3)] h14 Q
      refine s_callS (mj := mJ9_max_7cf53) (S := [(0, x7), (2, x3)]) 106 [(0, (-x6)), (0, r13)] [(0, (-x6)), (0, r13)] rfl dX1_show_103 okJ9_max_7cf53 w470 w471 rfl npJ9_max_7cf53 (Nat.le_of_ble_eq_true rfl) (by decide) (Nat.le_of_ble_eq_true rfl) rfl (Wd.imp H (fun r15 h16 H => ?_))
      show Wd mX1_show X 106 [(2, 2), (0, x1), (2, x2), (2, x3), (0, x4), (0, x5), (0, x6), (0, x7)] [(0, r15), (0, x7), (2, x3)] h16 Q
      have c16 := H.1
      replace H := H.2
      refine s_iast 107 rfl dX1_show_106 c16 c10 c11 ?_
      refine s_goto 182 dX1_show_107 (by decide) ?_
      have c17 := H.1
      replace H := H.2
      refine s_iinc 185 7 rfl dX1_show_182 (by decide) (z := x7) rfl (L2 := [(2, 2), (0, x1), (2, x2), (2, x3), (0, x4), (0, x5), (0, x6), (0, x7 + 1)]) rfl c17 ?_
      refine s_goto 46 dX1_show_185 (by decide) ?_
      exact H
    · refine s_tsw 110 dX1_show_59 (by omega) (by omega) (by rw [c7]; rfl) (by decide) ?_
      replace H := H.2.2.1 c7
      refine s_aload_n 111 3 rfl dX1_show_110 rfl rfl ?_
      refine s_iload 113 7 rfl dX1_show_111 rfl ?_
      refine s_aload_n 114 2 rfl dX1_show_113 rfl rfl ?_
      refine s_iload 116 7 rfl dX1_show_114 rfl ?_
      have c18 := H.1
      replace H := H.2
      have c19 := H.1
      replace H := H.2
      have c20 := H.1
      replace H := H.2
      refine s_iald 117 rfl dX1_show_116 c18 c19 c20 (v9 := h x2 x7) rfl ?_
      have c21 := H.1
      replace H := H.2
      refine s_ineg 118 rfl dX1_show_117 c21 ?_
      have c22 := H.1
      replace H := H.2
      refine s_iast 119 rfl dX1_show_118 c22 c19 c20 ?_
      refine s_goto 182 dX1_show_119 (by decide) ?_
      have c23 := H.1
      replace H := H.2
      refine s_iinc 185 7 rfl dX1_show_182 (by decide) (z := x7) rfl (L2 := [(2, 2), (0, x1), (2, x2), (2, x3), (0, x4), (0, x5), (0, x6), (0, x7 + 1)]) rfl c23 ?_
      refine s_goto 46 dX1_show_185 (by decide) ?_
      exact H
    · refine s_tsw 122 dX1_show_59 (by omega) (by omega) (by rw [c7]; rfl) (by decide) ?_
      replace H := H.2.2.2.1 c7
      refine s_aload_n 123 3 rfl dX1_show_122 rfl rfl ?_
      refine s_iload 125 7 rfl dX1_show_123 rfl ?_
      refine s_aload_n 126 2 rfl dX1_show_125 rfl rfl ?_
      refine s_iload 128 7 rfl dX1_show_126 rfl ?_
      have c24 := H.1
      replace H := H.2
      have c25 := H.1
      replace H := H.2
      have c26 := H.1
      replace H := H.2
      refine s_iald 129 rfl dX1_show_128 c24 c25 c26 (v9 := h x2 x7) rfl ?_
      refine s_iload 131 6 rfl dX1_show_129 rfl ?_
      have c27 := H.1
      replace H := H.2
      refine s_imul 132 rfl dX1_show_131 c27 ?_
      refine s_bipush 134 rfl dX1_show_132 (by decide) ⟨by decide, by decide⟩ ?_
      refine s_callS (mj := mJ9_floorDiv_7cf53) (S := [(0, x7), (2, x3)]) 137 [(0, h x2 x7 * x6), (0, 10)] [(0, h x2 x7 * x6), (0, 10), (9, 0)] rfl dX1_show_134 okJ9_floorDiv_7cf53 w473 w474 rfl npJ9_floorDiv_7cf53 (Nat.le_of_ble_eq_true rfl) (by decide) (Nat.le_of_ble_eq_true rfl) rfl (Wd.imp H (fun r29 h30 H => ?_))
      show Wd mX1_show X 137 [(2, 2), (0, x1), (2, x2), (2, x3), (0, x4), (0, x5), (0, x6), (0, x7)] [(0, r29), (0, x7), (2, x3)] h30 Q
      have c30 := H.1
      replace H := H.2
      refine s_iast 138 rfl dX1_show_137 c30 c25 c26 ?_
      refine s_goto 182 dX1_show_138 (by decide) ?_
      have c31 := H.1
      replace H := H.2
      refine s_iinc 185 7 rfl dX1_show_182 (by decide) (z := x7) rfl (L2 := [(2, 2), (0, x1), (2, x2), (2, x3), (0, x4), (0, x5), (0, x6), (0, x7 + 1)]) rfl c31 ?_
      refine s_goto 46 dX1_show_185 (by decide) ?_
      exact H
    · refine s_tsw 141 dX1_show_59 (by omega) (by omega) (by rw [c7]; rfl) (by decide) ?_
      replace H := H.2.2.2.2 c7
      refine s_aload_n 142 3 rfl dX1_show_141 rfl rfl ?_
      refine s_iload 144 7 rfl dX1_show_142 rfl ?_
      refine s_iload 146 7 rfl dX1_show_144 rfl ?_
      refine s_iload 148 4 rfl dX1_show_146 rfl ?_
      have c32 := H.1
      replace H := H.2
      refine s_isub 149 rfl dX1_show_148 c32 ?_
      refine s_iload 151 6 rfl dX1_show_149 rfl ?_
      refine s_icmp_ge 154 158 rfl dX1_show_151 (by decide) (fun c46 => ?_) (fun c46 => ?_)
      · replace H := H.1 c46
        refine s_aload_n 159 2 rfl dX1_show_158 rfl rfl ?_
        refine s_iload 161 7 rfl dX1_show_159 rfl ?_
        have c33 := H.1
        replace H := H.2
        have c34 := H.1
        replace H := H.2
        have c35 := H.1
        replace H := H.2
        refine s_iald 162 rfl dX1_show_161 c33 c34 c35 (v9 := h x2 x7) rfl ?_
        refine s_aload_n 163 2 rfl dX1_show_162 rfl rfl ?_
        refine s_iload 165 7 rfl dX1_show_163 rfl ?_
        refine s_iload 167 6 rfl dX1_show_165 rfl ?_
        have c36 := H.1
        replace H := H.2
        refine s_isub 168 rfl dX1_show_167 c36 ?_
        have c37 := H.1
        replace H := H.2
        have c38 := H.1
        replace H := H.2
        refine s_iald 169 rfl dX1_show_168 c33 c37 c38 (v9 := h x2 (x7 - x6)) rfl ?_
        have c39 := H.1
        replace H := H.2
        refine s_isub 170 rfl dX1_show_169 c39 ?_
        have c40 := H.1
        replace H := H.2
        refine s_iast 171 rfl dX1_show_170 c40 c34 c35 ?_
        refine s_goto 182 dX1_show_171 (by decide) ?_
        have c41 := H.1
        replace H := H.2
        refine s_iinc 185 7 rfl dX1_show_182 (by decide) (z := x7) rfl (L2 := [(2, 2), (0, x1), (2, x2), (2, x3), (0, x4), (0, x5), (0, x6), (0, x7 + 1)]) rfl c41 ?_
        refine s_goto 46 dX1_show_185 (by decide) ?_
        exact H
      · replace H := H.2 c46
        refine s_iconst 155 rfl dX1_show_154 ⟨by decide, by decide⟩ ?_
        refine s_goto 170 dX1_show_155 (by decide) ?_
        have c42 := H.1
        replace H := H.2
        have c43 := H.1
        replace H := H.2
        have c44 := H.1
        replace H := H.2
        refine s_iast 171 rfl dX1_show_170 c42 c43 c44 ?_
        refine s_goto 182 dX1_show_171 (by decide) ?_
        have c45 := H.1
        replace H := H.2
        refine s_iinc 185 7 rfl dX1_show_182 (by decide) (z := x7) rfl (L2 := [(2, 2), (0, x1), (2, x2), (2, x3), (0, x4), (0, x5), (0, x6), (0, x7 + 1)]) rfl c45 ?_
        refine s_goto 46 dX1_show_185 (by decide) ?_
        exact H
theorem vX2_partOf_0 {X : Nat × (Int → Int)} {h : HP} {Q : Int → HP → Prop} {x0 x1 : Int} (H : ((x0 < 1 → (Q 0 h)) ∧ (¬ (x0 < 1) → ((1 ≤ x1 → (¬ x1 = 0 ∧ inI (Int.tdiv x0 x1) ∧ Wd mJ9_max_7cf53 X 0 [(0, 1), (0, Int.tdiv x0 x1)] [] h (fun r3 h4 => Q r3 h4))) ∧ (¬ (1 ≤ x1) → (Q 0 h)))))) : Wd mX2_partOf X 0 [(0, x0), (0, x1)] [] h Q := by
  refine s_iload_n 1 0 rfl dX2_partOf_0 rfl rfl ?_
  refine s_iconst 2 rfl dX2_partOf_1 ⟨by decide, by decide⟩ ?_
  refine s_icmp_lt 5 10 rfl dX2_partOf_2 (by decide) (fun c5 => ?_) (fun c5 => ?_)
  · replace H := H.1 c5
    refine s_iconst 11 rfl dX2_partOf_10 ⟨by decide, by decide⟩ ?_
    refine s_goto 21 dX2_partOf_11 (by decide) ?_
    exact s_iret (S := []) dX2_partOf_21 rfl H
  · replace H := H.2 c5
    refine s_iload_n 6 1 rfl dX2_partOf_5 rfl rfl ?_
    refine s_iconst 7 rfl dX2_partOf_6 ⟨by decide, by decide⟩ ?_
    refine s_icmp_ge 10 14 rfl dX2_partOf_7 (by decide) (fun c4 => ?_) (fun c4 => ?_)
    · replace H := H.1 c4
      refine s_iconst 15 rfl dX2_partOf_14 ⟨by decide, by decide⟩ ?_
      refine s_iload_n 16 0 rfl dX2_partOf_15 rfl rfl ?_
      refine s_iload_n 17 1 rfl dX2_partOf_16 rfl rfl ?_
      have c0 := H.1
      replace H := H.2
      have c1 := H.1
      replace H := H.2
      refine s_idiv 18 rfl dX2_partOf_17 c0 c1 ?_
      refine s_callS (mj := mJ9_max_7cf53) (S := []) 21 [(0, 1), (0, Int.tdiv x0 x1)] [(0, 1), (0, Int.tdiv x0 x1)] rfl dX2_partOf_18 okJ9_max_7cf53 w558 w471 rfl npJ9_max_7cf53 (Nat.le_of_ble_eq_true rfl) (by decide) (Nat.le_of_ble_eq_true rfl) rfl (Wd.imp H (fun r3 h4 H => ?_))
      show Wd mX2_partOf X 21 [(0, x0), (0, x1)] [(0, r3)] h4 Q
      exact s_iret (S := []) dX2_partOf_21 rfl H
    · replace H := H.2 c4
      refine s_iconst 11 rfl dX2_partOf_10 ⟨by decide, by decide⟩ ?_
      refine s_goto 21 dX2_partOf_11 (by decide) ?_
      exact s_iret (S := []) dX2_partOf_21 rfl H
theorem vJ9_floorMod_f86c9_0 {X : Nat × (Int → Int)} {h : HP} {Q : Int → HP → Prop} {x0 x2 : Int} (H : ¬ x2 = 0 ∧ ((0 ≤ ((Int64.ofInt x0 ^^^ Int64.ofInt x2).toInt) → (Q (Int.tmod x0 x2) h)) ∧ (¬ (0 ≤ ((Int64.ofInt x0 ^^^ Int64.ofInt x2).toInt)) → ((Int.tmod x0 x2 = 0 → (Q (Int.tmod x0 x2) h)) ∧ (¬ Int.tmod x0 x2 = 0 → (inJ (Int.tmod x0 x2 + x2) ∧ Q (Int.tmod x0 x2 + x2) h)))))) : Wd mJ9_floorMod_f86c9 X 0 [(1, x0), (9, 0), (1, x2), (9, 0), (9, 0), (9, 0)] [] h Q := by
  refine s_lload_n 1 0 rfl dJ9_floorMod_f86c9_0 rfl rfl ?_
  refine s_lload_n 2 2 rfl dJ9_floorMod_f86c9_1 rfl rfl ?_
  have c0 := H.1
  replace H := H.2
  refine s_lrem 3 rfl dJ9_floorMod_f86c9_2 c0 ?_
  refine s_lstore 5 4 rfl dJ9_floorMod_f86c9_3 (by decide) (L2 := [(1, x0), (9, 0), (1, x2), (9, 0), (1, Int.tmod x0 x2), (9, 0)]) rfl ?_
  refine s_lload_n 6 0 rfl dJ9_floorMod_f86c9_5 rfl rfl ?_
  refine s_lload_n 7 2 rfl dJ9_floorMod_f86c9_6 rfl rfl ?_
  refine s_lxor 8 rfl dJ9_floorMod_f86c9_7 ?_
  refine s_lconst 9 0 rfl dJ9_floorMod_f86c9_8 (by decide) ⟨by decide, by decide⟩ ?_
  refine s_lcmp 10 rfl dJ9_floorMod_f86c9_9 ?_
  refine s_if_ge 13 25 rfl dJ9_floorMod_f86c9_10 (by decide) (fun c3 => ?_) (fun c3 => ?_)
  · replace H := H.1 (lcz_ge.mp c3)
    refine s_lload 27 4 rfl dJ9_floorMod_f86c9_25 rfl ?_
    exact s_lret (S := []) dJ9_floorMod_f86c9_27 rfl H
  · replace H := H.2 (fun y => c3 (lcz_ge.mpr y))
    refine s_lload 15 4 rfl dJ9_floorMod_f86c9_13 rfl ?_
    refine s_lconst 16 0 rfl dJ9_floorMod_f86c9_15 (by decide) ⟨by decide, by decide⟩ ?_
    refine s_lcmp 17 rfl dJ9_floorMod_f86c9_16 ?_
    refine s_if_eq 20 25 rfl dJ9_floorMod_f86c9_17 (by decide) (fun c2 => ?_) (fun c2 => ?_)
    · replace H := H.1 (lcz_eq.mp c2)
      refine s_lload 27 4 rfl dJ9_floorMod_f86c9_25 rfl ?_
      exact s_lret (S := []) dJ9_floorMod_f86c9_27 rfl H
    · replace H := H.2 (fun y => c2 (lcz_eq.mpr y))
      refine s_lload 22 4 rfl dJ9_floorMod_f86c9_20 rfl ?_
      refine s_lload_n 23 2 rfl dJ9_floorMod_f86c9_22 rfl rfl ?_
      have c1 := H.1
      replace H := H.2
      refine s_ladd 24 rfl dJ9_floorMod_f86c9_23 c1 ?_
      exact s_lret (S := []) dJ9_floorMod_f86c9_24 rfl H
theorem vX5_add_0 {X : Nat × (Int → Int)} {h : HP} {Q : Int → HP → Prop} {x1 : Int} (H : JA (h 8 0) 600 ∧ ((h 8 2 < 600 → (0 ≤ h 8 2 ∧ h 8 2 < 600 ∧ inI ((xu h (h 8 0) (h 8 2) x1) 8 2 + 1) ∧ Q 0 (xu (xu h (h 8 0) (h 8 2) x1) 8 2 ((xu h (h 8 0) (h 8 2) x1) 8 2 + 1)))) ∧ (¬ (h 8 2 < 600) → (Q 0 h)))) : Wd mX5_add X 0 [(2, 8), (1, x1), (9, 0)] [] h Q := by
  refine s_aload_n 1 0 rfl dX5_add_0 rfl rfl ?_
  refine s_getf 4 8 2 rfl dX5_add_1 ck5 rfl (by decide) rfl (by decide) w297 rfl (v := (0, h 8 2)) rfl ?_
  refine s_aload_n 5 0 rfl dX5_add_4 rfl rfl ?_
  refine s_getf 8 8 0 rfl dX5_add_5 ck5 rfl (by decide) rfl (by decide) w295 rfl (v := (2, h 8 0)) rfl ?_
  have c0 := H.1
  replace H := H.2
  refine s_alenJ 9 rfl dX5_add_8 c0 ?_
  refine s_icmp_lt 12 13 rfl dX5_add_9 (by decide) (fun c4 => ?_) (fun c4 => ?_)
  · replace H := H.1 c4
    refine s_aload_n 14 0 rfl dX5_add_13 rfl rfl ?_
    refine s_getf 17 8 0 rfl dX5_add_14 ck5 rfl (by decide) rfl (by decide) w295 rfl (v := (2, h 8 0)) rfl ?_
    refine s_aload_n 18 0 rfl dX5_add_17 rfl rfl ?_
    refine s_getf 21 8 2 rfl dX5_add_18 ck5 rfl (by decide) rfl (by decide) w297 rfl (v := (0, h 8 2)) rfl ?_
    refine s_lload_n 22 1 rfl dX5_add_21 rfl rfl ?_
    have c1 := H.1
    replace H := H.2
    have c2 := H.1
    replace H := H.2
    refine s_last 23 rfl dX5_add_22 c0 c1 c2 ?_
    refine s_aload_n 24 0 rfl dX5_add_23 rfl rfl ?_
    refine s_dup 25 rfl dX5_add_24 (by decide : ¬ (2 : Nat) = 1) ?_
    refine s_getf 28 8 2 rfl dX5_add_25 ck5 rfl (by decide) rfl (by decide) w297 rfl (v := (0, (xu h (h 8 0) (h 8 2) x1) 8 2)) rfl ?_
    refine s_iconst 29 rfl dX5_add_28 ⟨by decide, by decide⟩ ?_
    have c3 := H.1
    replace H := H.2
    refine s_iadd 30 rfl dX5_add_29 c3 ?_
    refine s_putI 33 8 2 rfl dX5_add_30 ck5 rfl (by decide) rfl (by decide) w297 rfl rfl rfl ?_
    exact s_vret (S := []) dX5_add_33 rfl H
  · replace H := H.2 c4
    exact s_vret (S := []) dX5_add_12 rfl H
theorem vX5_clear_0 {X : Nat × (Int → Int)} {h : HP} {Q : Int → HP → Prop} (H : Q 0 (xu h 8 2 0)) : Wd mX5_clear X 0 [(2, 8)] [] h Q := by
  refine s_aload_n 1 0 rfl dX5_clear_0 rfl rfl ?_
  refine s_iconst 2 rfl dX5_clear_1 ⟨by decide, by decide⟩ ?_
  refine s_putI 5 8 2 rfl dX5_clear_2 ck5 rfl (by decide) rfl (by decide) w297 rfl rfl rfl ?_
  exact s_vret (S := []) dX5_clear_5 rfl H
theorem vX5_keyAt_0 {X : Nat × (Int → Int)} {h : HP} {Q : Int → HP → Prop} {x1 : Int} (H : ((x1 < 0 → (Q 0 h)) ∧ (¬ (x1 < 0) → ((h 8 2 ≤ x1 → (Q 0 h)) ∧ (¬ (h 8 2 ≤ x1) → (JA (h 8 0) 600 ∧ 0 ≤ x1 ∧ x1 < 600 ∧ Q (h (h 8 0) x1) h)))))) : Wd mX5_keyAt X 0 [(2, 8), (0, x1)] [] h Q := by
  refine s_iload_n 1 1 rfl dX5_keyAt_0 rfl rfl ?_
  refine s_if_lt 4 21 rfl dX5_keyAt_1 (by decide) (fun c4 => ?_) (fun c4 => ?_)
  · replace H := H.1 c4
    refine s_lconst 22 0 rfl dX5_keyAt_21 (by decide) ⟨by decide, by decide⟩ ?_
    exact s_lret (S := []) dX5_keyAt_22 rfl H
  · replace H := H.2 c4
    refine s_iload_n 5 1 rfl dX5_keyAt_4 rfl rfl ?_
    refine s_aload_n 6 0 rfl dX5_keyAt_5 rfl rfl ?_
    refine s_getf 9 8 2 rfl dX5_keyAt_6 ck5 rfl (by decide) rfl (by decide) w297 rfl (v := (0, h 8 2)) rfl ?_
    refine s_icmp_ge 12 21 rfl dX5_keyAt_9 (by decide) (fun c3 => ?_) (fun c3 => ?_)
    · replace H := H.1 c3
      refine s_lconst 22 0 rfl dX5_keyAt_21 (by decide) ⟨by decide, by decide⟩ ?_
      exact s_lret (S := []) dX5_keyAt_22 rfl H
    · replace H := H.2 c3
      refine s_aload_n 13 0 rfl dX5_keyAt_12 rfl rfl ?_
      refine s_getf 16 8 0 rfl dX5_keyAt_13 ck5 rfl (by decide) rfl (by decide) w295 rfl (v := (2, h 8 0)) rfl ?_
      refine s_iload_n 17 1 rfl dX5_keyAt_16 rfl rfl ?_
      have c0 := H.1
      replace H := H.2
      have c1 := H.1
      replace H := H.2
      have c2 := H.1
      replace H := H.2
      refine s_lald 18 rfl dX5_keyAt_17 c0 c1 c2 (v9 := h (h 8 0) x1) rfl ?_
      refine s_goto 22 dX5_keyAt_18 (by decide) ?_
      exact s_lret (S := []) dX5_keyAt_22 rfl H
theorem vX5_merge_0 {X : Nat × (Int → Int)} {h : HP} {Q : Int → HP → Prop} {x1 x2 x3 : Int} (H : Wd mX5_merge X 9 [(2, 8), (9, 0), (0, x2), (0, x3), (0, x1), (0, x2), (0, x1), (9, 0)] [] h Q) : Wd mX5_merge X 0 [(2, 8), (0, x1), (0, x2), (0, x3), (9, 0), (9, 0), (9, 0), (9, 0)] [] h Q := by
  refine s_iload_n 1 1 rfl dX5_merge_0 rfl rfl ?_
  refine s_istore 3 4 rfl dX5_merge_1 (by decide) (L2 := [(2, 8), (0, x1), (0, x2), (0, x3), (0, x1), (9, 0), (9, 0), (9, 0)]) rfl ?_
  refine s_iload_n 4 2 rfl dX5_merge_3 rfl rfl ?_
  refine s_istore 6 5 rfl dX5_merge_4 (by decide) (L2 := [(2, 8), (0, x1), (0, x2), (0, x3), (0, x1), (0, x2), (9, 0), (9, 0)]) rfl ?_
  refine s_iload_n 7 1 rfl dX5_merge_6 rfl rfl ?_
  refine s_istore 9 6 rfl dX5_merge_7 (by decide) (L2 := [(2, 8), (0, x1), (0, x2), (0, x3), (0, x1), (0, x2), (0, x1), (9, 0)]) rfl ?_
  exact s_less [(2, 8), (9, 0), (0, x2), (0, x3), (0, x1), (0, x2), (0, x1), (9, 0)] ⟨Or.inr rfl, Or.inl rfl, Or.inr rfl, Or.inr rfl, Or.inr rfl, Or.inr rfl, Or.inr rfl, Or.inl rfl, trivial⟩ H
theorem vX5_merge_9 {X : Nat × (Int → Int)} {h : HP} {Q : Int → HP → Prop} {x2 x3 x4 x5 x6 : Int} (H : ((x3 ≤ x6 → (Q 0 h)) ∧ (¬ (x3 ≤ x6) → ((x3 ≤ x5 → (JA (h 8 0) 600 ∧ 0 ≤ x4 ∧ x4 < 600 ∧ JA (h 8 1) 600 ∧ 0 ≤ x6 ∧ x6 < 600 ∧ inI (x4 + 1) ∧ inI (x6 + 1) ∧ Wd mX5_merge X 9 [(2, 8), (9, 0), (0, x2), (0, x3), (0, x4 + 1), (0, x5), (0, x6 + 1), (9, 0)] [] (xu h (h 8 1) x6 (h (h 8 0) x4)) Q)) ∧ (¬ (x3 ≤ x5) → ((x2 ≤ x4 → (JA (h 8 0) 600 ∧ 0 ≤ x5 ∧ x5 < 600 ∧ JA (h 8 1) 600 ∧ 0 ≤ x6 ∧ x6 < 600 ∧ inI (x5 + 1) ∧ inI (x6 + 1) ∧ Wd mX5_merge X 9 [(2, 8), (9, 0), (0, x2), (0, x3), (0, x4), (0, x5 + 1), (0, x6 + 1), (9, 0)] [] (xu h (h 8 1) x6 (h (h 8 0) x5)) Q)) ∧ (¬ (x2 ≤ x4) → (JA (h 8 0) 600 ∧ 0 ≤ x4 ∧ x4 < 600 ∧ 0 ≤ x5 ∧ x5 < 600 ∧ ((h (h 8 0) x5 < h (h 8 0) x4 → (JA (h 8 1) 600 ∧ 0 ≤ x6 ∧ x6 < 600 ∧ inI (x5 + 1) ∧ inI (x6 + 1) ∧ Wd mX5_merge X 9 [(2, 8), (9, 0), (0, x2), (0, x3), (0, x4), (0, x5 + 1), (0, x6 + 1), (9, 0)] [] (xu h (h 8 1) x6 (h (h 8 0) x5)) Q)) ∧ (¬ (h (h 8 0) x5 < h (h 8 0) x4) → (JA (h 8 1) 600 ∧ 0 ≤ x6 ∧ x6 < 600 ∧ inI (x4 + 1) ∧ inI (x6 + 1) ∧ Wd mX5_merge X 9 [(2, 8), (9, 0), (0, x2), (0, x3), (0, x4 + 1), (0, x5), (0, x6 + 1), (9, 0)] [] (xu h (h 8 1) x6 (h (h 8 0) x4)) Q))))))))))) : Wd mX5_merge X 9 [(2, 8), (9, 0), (0, x2), (0, x3), (0, x4), (0, x5), (0, x6), (9, 0)] [] h Q := by
  refine s_iload 11 6 rfl dX5_merge_9 rfl ?_
  refine s_iload_n 12 3 rfl dX5_merge_11 rfl rfl ?_
  refine s_icmp_ge 15 100 rfl dX5_merge_12 (by decide) (fun c38 => ?_) (fun c38 => ?_)
  · replace H := H.1 c38
    exact s_vret (S := []) dX5_merge_100 rfl H
  · replace H := H.2 c38
    refine s_iload 17 5 rfl dX5_merge_15 rfl ?_
    refine s_iload_n 18 3 rfl dX5_merge_17 rfl rfl ?_
    refine s_icmp_ge 21 45 rfl dX5_merge_18 (by decide) (fun c37 => ?_) (fun c37 => ?_)
    · replace H := H.1 c37
      refine s_iconst 46 rfl dX5_merge_45 ⟨by decide, by decide⟩ ?_
      refine s_goto 50 dX5_merge_46 (by decide) ?_
      refine s_istore 52 7 rfl dX5_merge_50 (by decide) (L2 := [(2, 8), (9, 0), (0, x2), (0, x3), (0, x4), (0, x5), (0, x6), (0, 1)]) rfl ?_
      refine s_iload 54 7 rfl dX5_merge_52 rfl ?_
      refine s_if_eq 57 77 rfl dX5_merge_54 (by decide) (fun c0 => ?_) (fun c0 => ?_)
      · exact absurd c0 (by decide)
      · refine s_aload_n 58 0 rfl dX5_merge_57 rfl rfl ?_
        refine s_getf 61 8 1 rfl dX5_merge_58 ck5 rfl (by decide) rfl (by decide) w296 rfl (v := (2, h 8 1)) rfl ?_
        refine s_iload 63 6 rfl dX5_merge_61 rfl ?_
        refine s_aload_n 64 0 rfl dX5_merge_63 rfl rfl ?_
        refine s_getf 67 8 0 rfl dX5_merge_64 ck5 rfl (by decide) rfl (by decide) w295 rfl (v := (2, h 8 0)) rfl ?_
        refine s_iload 69 4 rfl dX5_merge_67 rfl ?_
        have c1 := H.1
        replace H := H.2
        have c2 := H.1
        replace H := H.2
        have c3 := H.1
        replace H := H.2
        refine s_lald 70 rfl dX5_merge_69 c1 c2 c3 (v9 := h (h 8 0) x4) rfl ?_
        have c4 := H.1
        replace H := H.2
        have c5 := H.1
        replace H := H.2
        have c6 := H.1
        replace H := H.2
        refine s_last 71 rfl dX5_merge_70 c4 c5 c6 ?_
        have c7 := H.1
        replace H := H.2
        refine s_iinc 74 4 rfl dX5_merge_71 (by decide) (z := x4) rfl (L2 := [(2, 8), (9, 0), (0, x2), (0, x3), (0, x4 + 1), (0, x5), (0, x6), (0, 1)]) rfl c7 ?_
        refine s_goto 94 dX5_merge_74 (by decide) ?_
        have c8 := H.1
        replace H := H.2
        refine s_iinc 97 6 rfl dX5_merge_94 (by decide) (z := x6) rfl (L2 := [(2, 8), (9, 0), (0, x2), (0, x3), (0, x4 + 1), (0, x5), (0, x6 + 1), (0, 1)]) rfl c8 ?_
        refine s_goto 9 dX5_merge_97 (by decide) ?_
        exact s_less [(2, 8), (9, 0), (0, x2), (0, x3), (0, x4 + 1), (0, x5), (0, x6 + 1), (9, 0)] ⟨Or.inr rfl, Or.inl rfl, Or.inr rfl, Or.inr rfl, Or.inr rfl, Or.inr rfl, Or.inr rfl, Or.inl rfl, trivial⟩ H
    · replace H := H.2 c37
      refine s_iload 23 4 rfl dX5_merge_21 rfl ?_
      refine s_iload_n 24 2 rfl dX5_merge_23 rfl rfl ?_
      refine s_icmp_ge 27 49 rfl dX5_merge_24 (by decide) (fun c36 => ?_) (fun c36 => ?_)
      · replace H := H.1 c36
        refine s_iconst 50 rfl dX5_merge_49 ⟨by decide, by decide⟩ ?_
        refine s_istore 52 7 rfl dX5_merge_50 (by decide) (L2 := [(2, 8), (9, 0), (0, x2), (0, x3), (0, x4), (0, x5), (0, x6), (0, 0)]) rfl ?_
        refine s_iload 54 7 rfl dX5_merge_52 rfl ?_
        refine s_if_eq 57 77 rfl dX5_merge_54 (by decide) (fun c9 => ?_) (fun c9 => ?_)
        · refine s_aload_n 78 0 rfl dX5_merge_77 rfl rfl ?_
          refine s_getf 81 8 1 rfl dX5_merge_78 ck5 rfl (by decide) rfl (by decide) w296 rfl (v := (2, h 8 1)) rfl ?_
          refine s_iload 83 6 rfl dX5_merge_81 rfl ?_
          refine s_aload_n 84 0 rfl dX5_merge_83 rfl rfl ?_
          refine s_getf 87 8 0 rfl dX5_merge_84 ck5 rfl (by decide) rfl (by decide) w295 rfl (v := (2, h 8 0)) rfl ?_
          refine s_iload 89 5 rfl dX5_merge_87 rfl ?_
          have c10 := H.1
          replace H := H.2
          have c11 := H.1
          replace H := H.2
          have c12 := H.1
          replace H := H.2
          refine s_lald 90 rfl dX5_merge_89 c10 c11 c12 (v9 := h (h 8 0) x5) rfl ?_
          have c13 := H.1
          replace H := H.2
          have c14 := H.1
          replace H := H.2
          have c15 := H.1
          replace H := H.2
          refine s_last 91 rfl dX5_merge_90 c13 c14 c15 ?_
          have c16 := H.1
          replace H := H.2
          refine s_iinc 94 5 rfl dX5_merge_91 (by decide) (z := x5) rfl (L2 := [(2, 8), (9, 0), (0, x2), (0, x3), (0, x4), (0, x5 + 1), (0, x6), (0, 0)]) rfl c16 ?_
          have c17 := H.1
          replace H := H.2
          refine s_iinc 97 6 rfl dX5_merge_94 (by decide) (z := x6) rfl (L2 := [(2, 8), (9, 0), (0, x2), (0, x3), (0, x4), (0, x5 + 1), (0, x6 + 1), (0, 0)]) rfl c17 ?_
          refine s_goto 9 dX5_merge_97 (by decide) ?_
          exact s_less [(2, 8), (9, 0), (0, x2), (0, x3), (0, x4), (0, x5 + 1), (0, x6 + 1), (9, 0)] ⟨Or.inr rfl, Or.inl rfl, Or.inr rfl, Or.inr rfl, Or.inr rfl, Or.inr rfl, Or.inr rfl, Or.inl rfl, trivial⟩ H
        · exact absurd (by decide) c9
      · replace H := H.2 c36
        refine s_aload_n 28 0 rfl dX5_merge_27 rfl rfl ?_
        refine s_getf 31 8 0 rfl dX5_merge_28 ck5 rfl (by decide) rfl (by decide) w295 rfl (v := (2, h 8 0)) rfl ?_
        refine s_iload 33 4 rfl dX5_merge_31 rfl ?_
        have c18 := H.1
        replace H := H.2
        have c19 := H.1
        replace H := H.2
        have c20 := H.1
        replace H := H.2
        refine s_lald 34 rfl dX5_merge_33 c18 c19 c20 (v9 := h (h 8 0) x4) rfl ?_
        refine s_aload_n 35 0 rfl dX5_merge_34 rfl rfl ?_
        refine s_getf 38 8 0 rfl dX5_merge_35 ck5 rfl (by decide) rfl (by decide) w295 rfl (v := (2, h 8 0)) rfl ?_
        refine s_iload 40 5 rfl dX5_merge_38 rfl ?_
        have c21 := H.1
        replace H := H.2
        have c22 := H.1
        replace H := H.2
        refine s_lald 41 rfl dX5_merge_40 c18 c21 c22 (v9 := h (h 8 0) x5) rfl ?_
        refine s_lcmp 42 rfl dX5_merge_41 ?_
        refine s_if_gt 45 49 rfl dX5_merge_42 (by decide) (fun c35 => ?_) (fun c35 => ?_)
        · replace H := H.1 (lcz_gt.mp c35)
          refine s_iconst 50 rfl dX5_merge_49 ⟨by decide, by decide⟩ ?_
          refine s_istore 52 7 rfl dX5_merge_50 (by decide) (L2 := [(2, 8), (9, 0), (0, x2), (0, x3), (0, x4), (0, x5), (0, x6), (0, 0)]) rfl ?_
          refine s_iload 54 7 rfl dX5_merge_52 rfl ?_
          refine s_if_eq 57 77 rfl dX5_merge_54 (by decide) (fun c23 => ?_) (fun c23 => ?_)
          · refine s_aload_n 78 0 rfl dX5_merge_77 rfl rfl ?_
            refine s_getf 81 8 1 rfl dX5_merge_78 ck5 rfl (by decide) rfl (by decide) w296 rfl (v := (2, h 8 1)) rfl ?_
            refine s_iload 83 6 rfl dX5_merge_81 rfl ?_
            refine s_aload_n 84 0 rfl dX5_merge_83 rfl rfl ?_
            refine s_getf 87 8 0 rfl dX5_merge_84 ck5 rfl (by decide) rfl (by decide) w295 rfl (v := (2, h 8 0)) rfl ?_
            refine s_iload 89 5 rfl dX5_merge_87 rfl ?_
            refine s_lald 90 rfl dX5_merge_89 c18 c21 c22 (v9 := h (h 8 0) x5) rfl ?_
            have c24 := H.1
            replace H := H.2
            have c25 := H.1
            replace H := H.2
            have c26 := H.1
            replace H := H.2
            refine s_last 91 rfl dX5_merge_90 c24 c25 c26 ?_
            have c27 := H.1
            replace H := H.2
            refine s_iinc 94 5 rfl dX5_merge_91 (by decide) (z := x5) rfl (L2 := [(2, 8), (9, 0), (0, x2), (0, x3), (0, x4), (0, x5 + 1), (0, x6), (0, 0)]) rfl c27 ?_
            have c28 := H.1
            replace H := H.2
            refine s_iinc 97 6 rfl dX5_merge_94 (by decide) (z := x6) rfl (L2 := [(2, 8), (9, 0), (0, x2), (0, x3), (0, x4), (0, x5 + 1), (0, x6 + 1), (0, 0)]) rfl c28 ?_
            refine s_goto 9 dX5_merge_97 (by decide) ?_
            exact s_less [(2, 8), (9, 0), (0, x2), (0, x3), (0, x4), (0, x5 + 1), (0, x6 + 1), (9, 0)] ⟨Or.inr rfl, Or.inl rfl, Or.inr rfl, Or.inr rfl, Or.inr rfl, Or.inr rfl, Or.inr rfl, Or.inl rfl, trivial⟩ H
          · exact absurd (by decide) c23
        · replace H := H.2 (fun y => c35 (lcz_gt.mpr y))
          refine s_iconst 46 rfl dX5_merge_45 ⟨by decide, by decide⟩ ?_
          refine s_goto 50 dX5_merge_46 (by decide) ?_
          refine s_istore 52 7 rfl dX5_merge_50 (by decide) (L2 := [(2, 8), (9, 0), (0, x2), (0, x3), (0, x4), (0, x5), (0, x6), (0, 1)]) rfl ?_
          refine s_iload 54 7 rfl dX5_merge_52 rfl ?_
          refine s_if_eq 57 77 rfl dX5_merge_54 (by decide) (fun c29 => ?_) (fun c29 => ?_)
          · exact absurd c29 (by decide)
          · refine s_aload_n 58 0 rfl dX5_merge_57 rfl rfl ?_
            refine s_getf 61 8 1 rfl dX5_merge_58 ck5 rfl (by decide) rfl (by decide) w296 rfl (v := (2, h 8 1)) rfl ?_
            refine s_iload 63 6 rfl dX5_merge_61 rfl ?_
            refine s_aload_n 64 0 rfl dX5_merge_63 rfl rfl ?_
            refine s_getf 67 8 0 rfl dX5_merge_64 ck5 rfl (by decide) rfl (by decide) w295 rfl (v := (2, h 8 0)) rfl ?_
            refine s_iload 69 4 rfl dX5_merge_67 rfl ?_
            refine s_lald 70 rfl dX5_merge_69 c18 c19 c20 (v9 := h (h 8 0) x4) rfl ?_
            have c30 := H.1
            replace H := H.2
            have c31 := H.1
            replace H := H.2
            have c32 := H.1
            replace H := H.2
            refine s_last 71 rfl dX5_merge_70 c30 c31 c32 ?_
            have c33 := H.1
            replace H := H.2
            refine s_iinc 74 4 rfl dX5_merge_71 (by decide) (z := x4) rfl (L2 := [(2, 8), (9, 0), (0, x2), (0, x3), (0, x4 + 1), (0, x5), (0, x6), (0, 1)]) rfl c33 ?_
            refine s_goto 94 dX5_merge_74 (by decide) ?_
            have c34 := H.1
            replace H := H.2
            refine s_iinc 97 6 rfl dX5_merge_94 (by decide) (z := x6) rfl (L2 := [(2, 8), (9, 0), (0, x2), (0, x3), (0, x4 + 1), (0, x5), (0, x6 + 1), (0, 1)]) rfl c34 ?_
            refine s_goto 9 dX5_merge_97 (by decide) ?_
            exact s_less [(2, 8), (9, 0), (0, x2), (0, x3), (0, x4 + 1), (0, x5), (0, x6 + 1), (9, 0)] ⟨Or.inr rfl, Or.inl rfl, Or.inr rfl, Or.inr rfl, Or.inr rfl, Or.inr rfl, Or.inr rfl, Or.inl rfl, trivial⟩ H
theorem vX5_sort_0 {X : Nat × (Int → Int)} {h : HP} {Q : Int → HP → Prop} (H : Wd mX5_sort X 2 [(2, 8), (0, 1), (9, 0)] [] h Q) : Wd mX5_sort X 0 [(2, 8), (9, 0), (9, 0)] [] h Q := by
  refine s_iconst 1 rfl dX5_sort_0 ⟨by decide, by decide⟩ ?_
  refine s_istore_n 2 1 rfl dX5_sort_1 rfl (by decide) (L2 := [(2, 8), (0, 1), (9, 0)]) rfl ?_
  exact H
theorem vX5_sort_2 {X : Nat × (Int → Int)} {h : HP} {Q : Int → HP → Prop} {x1 : Int} (H : ((h 8 2 ≤ x1 → (Q 0 h)) ∧ (¬ (h 8 2 ≤ x1) → (Wd mX5_sort X 12 [(2, 8), (0, x1), (0, 0)] [] h Q)))) : Wd mX5_sort X 2 [(2, 8), (0, x1), (9, 0)] [] h Q := by
  refine s_iload_n 3 1 rfl dX5_sort_2 rfl rfl ?_
  refine s_aload_n 4 0 rfl dX5_sort_3 rfl rfl ?_
  refine s_getf 7 8 2 rfl dX5_sort_4 ck5 rfl (by decide) rfl (by decide) w297 rfl (v := (0, h 8 2)) rfl ?_
  refine s_icmp_ge 10 81 rfl dX5_sort_7 (by decide) (fun c0 => ?_) (fun c0 => ?_)
  · replace H := H.1 c0
    exact s_vret (S := []) dX5_sort_81 rfl H
  · replace H := H.2 c0
    refine s_iconst 11 rfl dX5_sort_10 ⟨by decide, by decide⟩ ?_
    refine s_istore_n 12 2 rfl dX5_sort_11 rfl (by decide) (L2 := [(2, 8), (0, x1), (0, 0)]) rfl ?_
    exact H
theorem vX5_sort_12 {X : Nat × (Int → Int)} {h : HP} {Q : Int → HP → Prop} {x1 x2 : Int} (H : ((h 8 2 ≤ x2 → (inI (h 8 0) ∧ inI (h 8 1) ∧ inI (x1 * 2) ∧ Wd mX5_sort X 2 [(2, 8), (0, x1 * 2), (9, 0)] [] (xu (xu h 8 1 (h 8 0)) 8 0 (h 8 1)) Q)) ∧ (¬ (h 8 2 ≤ x2) → (inI (x2 + x1) ∧ Wd mJ9_min_7cf53 X 0 [(0, x2 + x1), (0, h 8 2)] [] h (fun r5 h6 => inI (2 * x1) ∧ inI (x2 + 2 * x1) ∧ Wd mJ9_min_7cf53 X 0 [(0, x2 + 2 * x1), (0, h6 8 2)] [] h6 (fun r9 h10 => Wd mX5_merge X 0 [(2, 8), (0, x2), (0, r5), (0, r9), (9, 0), (9, 0), (9, 0), (9, 0)] [] h10 (fun _ h12 => Wd mX5_sort X 12 [(2, 8), (0, x1), (0, x2 + 2 * x1)] [] h12 Q))))))) : Wd mX5_sort X 12 [(2, 8), (0, x1), (0, x2)] [] h Q := by
  refine s_iload_n 13 2 rfl dX5_sort_12 rfl rfl ?_
  refine s_aload_n 14 0 rfl dX5_sort_13 rfl rfl ?_
  refine s_getf 17 8 2 rfl dX5_sort_14 ck5 rfl (by decide) rfl (by decide) w297 rfl (v := (0, h 8 2)) rfl ?_
  refine s_icmp_ge 20 56 rfl dX5_sort_17 (by decide) (fun c12 => ?_) (fun c12 => ?_)
  · replace H := H.1 c12
    refine s_aload_n 57 0 rfl dX5_sort_56 rfl rfl ?_
    refine s_getf 60 8 1 rfl dX5_sort_57 ck5 rfl (by decide) rfl (by decide) w296 rfl (v := (2, h 8 1)) rfl ?_
    refine s_astore_n 61 2 rfl dX5_sort_60 rfl (by decide) (L2 := [(2, 8), (0, x1), (2, h 8 1)]) rfl ?_
    refine s_aload_n 62 0 rfl dX5_sort_61 rfl rfl ?_
    refine s_aload_n 63 0 rfl dX5_sort_62 rfl rfl ?_
    refine s_getf 66 8 0 rfl dX5_sort_63 ck5 rfl (by decide) rfl (by decide) w295 rfl (v := (2, h 8 0)) rfl ?_
    have c0 := H.1
    replace H := H.2
    refine s_putR 69 8 1 rfl dX5_sort_66 ck5 rfl (by decide) rfl (by decide) w296 rfl rfl rfl c0 ?_
    refine s_aload_n 70 0 rfl dX5_sort_69 rfl rfl ?_
    refine s_aload_n 71 2 rfl dX5_sort_70 rfl rfl ?_
    have c1 := H.1
    replace H := H.2
    refine s_putR 74 8 0 rfl dX5_sort_71 ck5 rfl (by decide) rfl (by decide) w295 rfl rfl rfl c1 ?_
    refine s_iload_n 75 1 rfl dX5_sort_74 rfl rfl ?_
    refine s_iconst 76 rfl dX5_sort_75 ⟨by decide, by decide⟩ ?_
    have c2 := H.1
    replace H := H.2
    refine s_imul 77 rfl dX5_sort_76 c2 ?_
    refine s_istore_n 78 1 rfl dX5_sort_77 rfl (by decide) (L2 := [(2, 8), (0, x1 * 2), (2, h 8 1)]) rfl ?_
    refine s_goto 2 dX5_sort_78 (by decide) ?_
    exact s_less [(2, 8), (0, x1 * 2), (9, 0)] ⟨Or.inr rfl, Or.inr rfl, Or.inl rfl, trivial⟩ H
  · replace H := H.2 c12
    refine s_aload_n 21 0 rfl dX5_sort_20 rfl rfl ?_
    refine s_iload_n 22 2 rfl dX5_sort_21 rfl rfl ?_
    refine s_iload_n 23 2 rfl dX5_sort_22 rfl rfl ?_
    refine s_iload_n 24 1 rfl dX5_sort_23 rfl rfl ?_
    have c3 := H.1
    replace H := H.2
    refine s_iadd 25 rfl dX5_sort_24 c3 ?_
    refine s_aload_n 26 0 rfl dX5_sort_25 rfl rfl ?_
    refine s_getf 29 8 2 rfl dX5_sort_26 ck5 rfl (by decide) rfl (by decide) w297 rfl (v := (0, h 8 2)) rfl ?_
    refine s_callS (mj := mJ9_min_7cf53) (S := [(0, x2), (2, 8)]) 32 [(0, x2 + x1), (0, h 8 2)] [(0, x2 + x1), (0, h 8 2)] rfl dX5_sort_29 okJ9_min_7cf53 w500 w468 rfl npJ9_min_7cf53 (Nat.le_of_ble_eq_true rfl) (by decide) (Nat.le_of_ble_eq_true rfl) rfl (Wd.imp H (fun r5 h6 H => ?_))
    show Wd mX5_sort X 32 [(2, 8), (0, x1), (0, x2)] [(0, r5), (0, x2), (2, 8)] h6 Q
    refine s_iload_n 33 2 rfl dX5_sort_32 rfl rfl ?_
    refine s_iconst 34 rfl dX5_sort_33 ⟨by decide, by decide⟩ ?_
    refine s_iload_n 35 1 rfl dX5_sort_34 rfl rfl ?_
    have c6 := H.1
    replace H := H.2
    refine s_imul 36 rfl dX5_sort_35 c6 ?_
    have c7 := H.1
    replace H := H.2
    refine s_iadd 37 rfl dX5_sort_36 c7 ?_
    refine s_aload_n 38 0 rfl dX5_sort_37 rfl rfl ?_
    refine s_getf 41 8 2 rfl dX5_sort_38 ck5 rfl (by decide) rfl (by decide) w297 rfl (v := (0, h6 8 2)) rfl ?_
    refine s_callS (mj := mJ9_min_7cf53) (S := [(0, r5), (0, x2), (2, 8)]) 44 [(0, x2 + 2 * x1), (0, h6 8 2)] [(0, x2 + 2 * x1), (0, h6 8 2)] rfl dX5_sort_41 okJ9_min_7cf53 w500 w468 rfl npJ9_min_7cf53 (Nat.le_of_ble_eq_true rfl) (by decide) (Nat.le_of_ble_eq_true rfl) rfl (Wd.imp H (fun r9 h10 H => ?_))
    show Wd mX5_sort X 44 [(2, 8), (0, x1), (0, x2)] [(0, r9), (0, r5), (0, x2), (2, 8)] h10 Q
    refine s_callV (mj := mX5_merge) (S := []) 47 [(0, x2), (0, r5), (0, r9)] [(2, 8), (0, x2), (0, r5), (0, r9), (9, 0), (9, 0), (9, 0), (9, 0)] 8 rfl dX5_sort_44 okX5_merge w501 w503 w6 rfl (by decide) rfl rfl rfl rfl npX5_merge (Nat.le_of_ble_eq_true rfl) (by decide) (Nat.le_of_ble_eq_true rfl) rfl (Wd.imp H (fun _ h12 H => ?_))
    show Wd mX5_sort X 47 [(2, 8), (0, x1), (0, x2)] [] h12 Q
    refine s_iload_n 48 2 rfl dX5_sort_47 rfl rfl ?_
    refine s_iconst 49 rfl dX5_sort_48 ⟨by decide, by decide⟩ ?_
    refine s_iload_n 50 1 rfl dX5_sort_49 rfl rfl ?_
    refine s_imul 51 rfl dX5_sort_50 c6 ?_
    refine s_iadd 52 rfl dX5_sort_51 c7 ?_
    refine s_istore_n 53 2 rfl dX5_sort_52 rfl (by decide) (L2 := [(2, 8), (0, x1), (0, x2 + 2 * x1)]) rfl ?_
    refine s_goto 12 dX5_sort_53 (by decide) ?_
    exact H
theorem vX2_rank_0 {X : Nat × (Int → Int)} {h : HP} {Q : Int → HP → Prop} (H : Wd mX5_clear X 0 [(2, 8)] [] h (fun _ h2 => Wd mX2_rank X 6 [(2, 6), (2, 5), (2, 8), (0, 0), (9, 0)] [] h2 Q)) : Wd mX2_rank X 0 [(2, 6), (2, 5), (2, 8), (9, 0), (9, 0)] [] h Q := by
  refine s_aload_n 1 2 rfl dX2_rank_0 rfl rfl ?_
  refine s_callV (mj := mX5_clear) (S := []) 4 [] [(2, 8)] 8 rfl dX2_rank_1 okX5_clear w543 w489 w490 rfl (by decide) rfl rfl rfl rfl npX5_clear (Nat.le_of_ble_eq_true rfl) (by decide) (Nat.le_of_ble_eq_true rfl) rfl (Wd.imp H (fun _ h2 H => ?_))
  show Wd mX2_rank X 4 [(2, 6), (2, 5), (2, 8), (9, 0), (9, 0)] [] h2 Q
  refine s_iconst 5 rfl dX2_rank_4 ⟨by decide, by decide⟩ ?_
  refine s_istore_n 6 3 rfl dX2_rank_5 rfl (by decide) (L2 := [(2, 6), (2, 5), (2, 8), (0, 0), (9, 0)]) rfl ?_
  exact H
theorem vX2_rank_6 {X : Nat × (Int → Int)} {h : HP} {Q : Int → HP → Prop} {x3 : Int} (H : ((h 5 10 ≤ x3 → (Wd mX5_sort X 0 [(2, 8), (9, 0), (9, 0)] [] h (fun _ h2 => Wd mX2_rank X 45 [(2, 6), (2, 5), (2, 8), (0, 0), (9, 0)] [] h2 Q))) ∧ (¬ (h 5 10 ≤ x3) → (0 ≤ x3 ∧ x3 < 300 ∧ inI (-(h 27 x3)) ∧ inJ ((-(h 27 x3)) * 300) ∧ inJ ((-(h 27 x3)) * 300 + x3) ∧ Wd mX5_add X 0 [(2, 8), (1, (-(h 27 x3)) * 300 + x3), (9, 0)] [] h (fun _ h9 => inI (x3 + 1) ∧ Wd mX2_rank X 6 [(2, 6), (2, 5), (2, 8), (0, x3 + 1), (9, 0)] [] h9 Q))))) : Wd mX2_rank X 6 [(2, 6), (2, 5), (2, 8), (0, x3), (9, 0)] [] h Q := by
  refine s_iload_n 7 3 rfl dX2_rank_6 rfl rfl ?_
  refine s_aload_n 8 1 rfl dX2_rank_7 rfl rfl ?_
  refine s_getf 11 5 10 rfl dX2_rank_8 ck7 rfl (by decide) rfl (by decide) w209 rfl (v := (0, h 5 10)) rfl ?_
  refine s_icmp_ge 14 39 rfl dX2_rank_11 (by decide) (fun c10 => ?_) (fun c10 => ?_)
  · replace H := H.1 c10
    refine s_aload_n 40 2 rfl dX2_rank_39 rfl rfl ?_
    refine s_callV (mj := mX5_sort) (S := []) 43 [] [(2, 8), (9, 0), (9, 0)] 8 rfl dX2_rank_40 okX5_sort w546 w497 w498 rfl (by decide) rfl rfl rfl rfl npX5_sort (Nat.le_of_ble_eq_true rfl) (by decide) (Nat.le_of_ble_eq_true rfl) rfl (Wd.imp H (fun _ h2 H => ?_))
    show Wd mX2_rank X 43 [(2, 6), (2, 5), (2, 8), (0, x3), (9, 0)] [] h2 Q
    refine s_iconst 44 rfl dX2_rank_43 ⟨by decide, by decide⟩ ?_
    refine s_istore_n 45 3 rfl dX2_rank_44 rfl (by decide) (L2 := [(2, 6), (2, 5), (2, 8), (0, 0), (9, 0)]) rfl ?_
    exact H
  · replace H := H.2 c10
    refine s_aload_n 15 2 rfl dX2_rank_14 rfl rfl ?_
    refine s_aload_n 16 1 rfl dX2_rank_15 rfl rfl ?_
    refine s_getf 19 5 3 rfl dX2_rank_16 ck7 rfl (by decide) rfl (by decide) w193 rfl (v := (2, 27)) rfl ?_
    refine s_iload_n 20 3 rfl dX2_rank_19 rfl rfl ?_
    have c2 := H.1
    replace H := H.2
    have c3 := H.1
    replace H := H.2
    refine s_iald 21 rfl dX2_rank_20 ia27 c2 c3 (v9 := h 27 x3) rfl ?_
    have c4 := H.1
    replace H := H.2
    refine s_ineg 22 rfl dX2_rank_21 c4 ?_
    refine s_i2l 23 rfl dX2_rank_22 ?_
    refine s_ldc2 26 300 rfl dX2_rank_23 w544 ⟨by decide, by decide⟩ ?_
    have c5 := H.1
    replace H := H.2
    refine s_lmul 27 rfl dX2_rank_26 c5 ?_
    refine s_iload_n 28 3 rfl dX2_rank_27 rfl rfl ?_
    refine s_i2l 29 rfl dX2_rank_28 ?_
    have c6 := H.1
    replace H := H.2
    refine s_ladd 30 rfl dX2_rank_29 c6 ?_
    refine s_callV (mj := mX5_add) (S := []) 33 [(1, (-(h 27 x3)) * 300 + x3)] [(2, 8), (1, (-(h 27 x3)) * 300 + x3), (9, 0)] 8 rfl dX2_rank_30 okX5_add w545 w493 w494 rfl (by decide) rfl rfl rfl rfl npX5_add (Nat.le_of_ble_eq_true rfl) (by decide) (Nat.le_of_ble_eq_true rfl) rfl (Wd.imp H (fun _ h9 H => ?_))
    show Wd mX2_rank X 33 [(2, 6), (2, 5), (2, 8), (0, x3), (9, 0)] [] h9 Q
    have c9 := H.1
    replace H := H.2
    refine s_iinc 36 3 rfl dX2_rank_33 (by decide) (z := x3) rfl (L2 := [(2, 6), (2, 5), (2, 8), (0, x3 + 1), (9, 0)]) rfl c9 ?_
    refine s_goto 6 dX2_rank_36 (by decide) ?_
    exact H
theorem vX2_rank_45 {X : Nat × (Int → Int)} {h : HP} {Q : Int → HP → Prop} {x3 : Int} (H : ((h 5 10 ≤ x3 → (Q 0 h)) ∧ (¬ (h 5 10 ≤ x3) → (Wd mX5_keyAt X 0 [(2, 8), (0, x3)] [] h (fun r1 h2 => Wd mJ9_floorMod_f86c9 X 0 [(1, r1), (9, 0), (1, 300), (9, 0), (9, 0), (9, 0)] [] h2 (fun r3 h4 => inI r3 ∧ 0 ≤ x3 ∧ x3 < 300 ∧ 0 ≤ r3 ∧ r3 < 300 ∧ inI (x3 + 1) ∧ Wd mX2_rank X 45 [(2, 6), (2, 5), (2, 8), (0, x3 + 1), (9, 0)] [] (xu (xu h4 34 x3 r3) 35 r3 x3) Q)))))) : Wd mX2_rank X 45 [(2, 6), (2, 5), (2, 8), (0, x3), (9, 0)] [] h Q := by
  refine s_iload_n 46 3 rfl dX2_rank_45 rfl rfl ?_
  refine s_aload_n 47 1 rfl dX2_rank_46 rfl rfl ?_
  refine s_getf 50 5 10 rfl dX2_rank_47 ck7 rfl (by decide) rfl (by decide) w209 rfl (v := (0, h 5 10)) rfl ?_
  refine s_icmp_ge 53 89 rfl dX2_rank_50 (by decide) (fun c10 => ?_) (fun c10 => ?_)
  · replace H := H.1 c10
    exact s_vret (S := []) dX2_rank_89 rfl H
  · replace H := H.2 c10
    refine s_aload_n 54 2 rfl dX2_rank_53 rfl rfl ?_
    refine s_iload_n 55 3 rfl dX2_rank_54 rfl rfl ?_
    refine s_callV (mj := mX5_keyAt) (S := []) 58 [(0, x3)] [(2, 8), (0, x3)] 8 rfl dX2_rank_55 okX5_keyAt w547 w506 w507 rfl (by decide) rfl rfl rfl rfl npX5_keyAt (Nat.le_of_ble_eq_true rfl) (by decide) (Nat.le_of_ble_eq_true rfl) rfl (Wd.imp H (fun r1 h2 H => ?_))
    show Wd mX2_rank X 58 [(2, 6), (2, 5), (2, 8), (0, x3), (9, 0)] [(1, r1)] h2 Q
    refine s_ldc2 61 300 rfl dX2_rank_58 w544 ⟨by decide, by decide⟩ ?_
    refine s_callS (mj := mJ9_floorMod_f86c9) (S := []) 64 [(1, r1), (1, 300)] [(1, r1), (9, 0), (1, 300), (9, 0), (9, 0), (9, 0)] rfl dX2_rank_61 okJ9_floorMod_f86c9 w548 w549 rfl npJ9_floorMod_f86c9 (Nat.le_of_ble_eq_true rfl) (by decide) (Nat.le_of_ble_eq_true rfl) rfl (Wd.imp H (fun r3 h4 H => ?_))
    show Wd mX2_rank X 64 [(2, 6), (2, 5), (2, 8), (0, x3), (9, 0)] [(1, r3)] h4 Q
    have c4 := H.1
    replace H := H.2
    refine s_l2i 65 rfl dX2_rank_64 c4 ?_
    refine s_istore 67 4 rfl dX2_rank_65 (by decide) (L2 := [(2, 6), (2, 5), (2, 8), (0, x3), (0, r3)]) rfl ?_
    refine s_aload_n 68 0 rfl dX2_rank_67 rfl rfl ?_
    refine s_getf 71 6 0 rfl dX2_rank_68 ck2 rfl (by decide) rfl (by decide) w241 rfl (v := (2, 34)) rfl ?_
    refine s_iload_n 72 3 rfl dX2_rank_71 rfl rfl ?_
    refine s_iload 74 4 rfl dX2_rank_72 rfl ?_
    have c5 := H.1
    replace H := H.2
    have c6 := H.1
    replace H := H.2
    refine s_iast 75 rfl dX2_rank_74 ia34 c5 c6 ?_
    refine s_aload_n 76 0 rfl dX2_rank_75 rfl rfl ?_
    refine s_getf 79 6 1 rfl dX2_rank_76 ck2 rfl (by decide) rfl (by decide) w243 rfl (v := (2, 35)) rfl ?_
    refine s_iload 81 4 rfl dX2_rank_79 rfl ?_
    refine s_iload_n 82 3 rfl dX2_rank_81 rfl rfl ?_
    have c7 := H.1
    replace H := H.2
    have c8 := H.1
    replace H := H.2
    refine s_iast 83 rfl dX2_rank_82 ia35 c7 c8 ?_
    have c9 := H.1
    replace H := H.2
    refine s_iinc 86 3 rfl dX2_rank_83 (by decide) (z := x3) rfl (L2 := [(2, 6), (2, 5), (2, 8), (0, x3 + 1), (0, r3)]) rfl c9 ?_
    refine s_goto 45 dX2_rank_86 (by decide) ?_
    exact s_less [(2, 6), (2, 5), (2, 8), (0, x3 + 1), (9, 0)] ⟨Or.inr rfl, Or.inr rfl, Or.inr rfl, Or.inr rfl, Or.inl rfl, trivial⟩ H
theorem vX2_heightsOfHighest_0 {X : Nat × (Int → Int)} {h : HP} {Q : Int → HP → Prop} {x2 : Int} (H : Wd mX2_heightsOfHighest X 5 [(2, 6), (2, 5), (0, x2), (0, 0), (0, 0)] [] h Q) : Wd mX2_heightsOfHighest X 0 [(2, 6), (2, 5), (0, x2), (9, 0), (9, 0)] [] h Q := by
  refine s_iconst 1 rfl dX2_heightsOfHighest_0 ⟨by decide, by decide⟩ ?_
  refine s_istore_n 2 3 rfl dX2_heightsOfHighest_1 rfl (by decide) (L2 := [(2, 6), (2, 5), (0, x2), (0, 0), (9, 0)]) rfl ?_
  refine s_iconst 3 rfl dX2_heightsOfHighest_2 ⟨by decide, by decide⟩ ?_
  refine s_istore 5 4 rfl dX2_heightsOfHighest_3 (by decide) (L2 := [(2, 6), (2, 5), (0, x2), (0, 0), (0, 0)]) rfl ?_
  exact H
theorem vX2_heightsOfHighest_5 {X : Nat × (Int → Int)} {h : HP} {Q : Int → HP → Prop} {x2 x3 x4 : Int} (H : ((x2 ≤ x4 → (Q x3 h)) ∧ (¬ (x2 ≤ x4) → (0 ≤ x4 ∧ x4 < 300 ∧ 0 ≤ h 34 x4 ∧ h 34 x4 < 300 ∧ inI (x3 + h 27 (h 34 x4)) ∧ inI (x4 + 1) ∧ Wd mX2_heightsOfHighest X 5 [(2, 6), (2, 5), (0, x2), (0, x3 + h 27 (h 34 x4)), (0, x4 + 1)] [] h Q)))) : Wd mX2_heightsOfHighest X 5 [(2, 6), (2, 5), (0, x2), (0, x3), (0, x4)] [] h Q := by
  refine s_iload 7 4 rfl dX2_heightsOfHighest_5 rfl ?_
  refine s_iload_n 8 2 rfl dX2_heightsOfHighest_7 rfl rfl ?_
  refine s_icmp_ge 11 32 rfl dX2_heightsOfHighest_8 (by decide) (fun c6 => ?_) (fun c6 => ?_)
  · replace H := H.1 c6
    refine s_iload_n 33 3 rfl dX2_heightsOfHighest_32 rfl rfl ?_
    exact s_iret (S := []) dX2_heightsOfHighest_33 rfl H
  · replace H := H.2 c6
    refine s_iload_n 12 3 rfl dX2_heightsOfHighest_11 rfl rfl ?_
    refine s_aload_n 13 1 rfl dX2_heightsOfHighest_12 rfl rfl ?_
    refine s_getf 16 5 3 rfl dX2_heightsOfHighest_13 ck7 rfl (by decide) rfl (by decide) w193 rfl (v := (2, 27)) rfl ?_
    refine s_aload_n 17 0 rfl dX2_heightsOfHighest_16 rfl rfl ?_
    refine s_getf 20 6 0 rfl dX2_heightsOfHighest_17 ck2 rfl (by decide) rfl (by decide) w241 rfl (v := (2, 34)) rfl ?_
    refine s_iload 22 4 rfl dX2_heightsOfHighest_20 rfl ?_
    have c0 := H.1
    replace H := H.2
    have c1 := H.1
    replace H := H.2
    refine s_iald 23 rfl dX2_heightsOfHighest_22 ia34 c0 c1 (v9 := h 34 x4) rfl ?_
    have c2 := H.1
    replace H := H.2
    have c3 := H.1
    replace H := H.2
    refine s_iald 24 rfl dX2_heightsOfHighest_23 ia27 c2 c3 (v9 := h 27 (h 34 x4)) rfl ?_
    have c4 := H.1
    replace H := H.2
    refine s_iadd 25 rfl dX2_heightsOfHighest_24 c4 ?_
    refine s_istore_n 26 3 rfl dX2_heightsOfHighest_25 rfl (by decide) (L2 := [(2, 6), (2, 5), (0, x2), (0, x3 + h 27 (h 34 x4)), (0, x4)]) rfl ?_
    have c5 := H.1
    replace H := H.2
    refine s_iinc 29 4 rfl dX2_heightsOfHighest_26 (by decide) (z := x4) rfl (L2 := [(2, 6), (2, 5), (0, x2), (0, x3 + h 27 (h 34 x4)), (0, x4 + 1)]) rfl c5 ?_
    refine s_goto 5 dX2_heightsOfHighest_29 (by decide) ?_
    exact H
theorem vX4_factor_0 {X : Nat × (Int → Int)} {h : HP} {Q : Int → HP → Prop} (H : Q (h 9 2) h) : Wd mX4_factor X 0 [(2, 1)] [] h Q := by
  refine s_aload_n 1 0 rfl dX4_factor_0 rfl rfl ?_
  refine s_getf 4 1 0 rfl dX4_factor_1 ck4 rfl (by decide) rfl (by decide) w69 rfl (v := (2, 9)) rfl ?_
  refine s_iconst 5 rfl dX4_factor_4 ⟨by decide, by decide⟩ ?_
  refine s_iald 6 rfl dX4_factor_5 ia9 (by decide) (by decide) (v9 := h 9 2) rfl ?_
  exact s_iret (S := []) dX4_factor_6 rfl H
theorem vX2_weigh_0 {X : Nat × (Int → Int)} {h : HP} {Q : Int → HP → Prop} (H : Wd mX2_partOf X 0 [(0, h 5 10), (0, 3)] [] h (fun r1 h2 => Wd mX2_heightsOfHighest X 0 [(2, 6), (2, 5), (0, r1), (9, 0), (9, 0)] [] (xu h2 6 5 r1) (fun r3 h4 => Wd mX2_heightsOfHighest X 0 [(2, 6), (2, 5), (0, h4 5 10), (9, 0), (9, 0)] [] (xu h4 6 4 r3) (fun r5 h6 => ((1 ≤ h6 5 10 → (inI (Int.tdiv (h6 5 10) 2) ∧ 0 ≤ Int.tdiv (h6 5 10) 2 ∧ Int.tdiv (h6 5 10) 2 < 300 ∧ 0 ≤ h6 34 (Int.tdiv (h6 5 10) 2) ∧ h6 34 (Int.tdiv (h6 5 10) 2) < 300 ∧ Wd mX2_weigh X 79 [(2, 6), (2, 5), (2, 1), (0, 0)] [] (xu (xu (xu h6 6 3 r5) 6 6 (h6 27 (h6 34 (Int.tdiv (h6 5 10) 2)))) 6 2 0) Q)) ∧ (¬ (1 ≤ h6 5 10) → (Wd mX2_weigh X 79 [(2, 6), (2, 5), (2, 1), (0, 0)] [] (xu (xu (xu h6 6 3 r5) 6 6 0) 6 2 0) Q))))))) : Wd mX2_weigh X 0 [(2, 6), (2, 5), (2, 1), (9, 0)] [] h Q := by
  refine s_aload_n 1 0 rfl dX2_weigh_0 rfl rfl ?_
  refine s_aload_n 2 1 rfl dX2_weigh_1 rfl rfl ?_
  refine s_getf 5 5 10 rfl dX2_weigh_2 ck7 rfl (by decide) rfl (by decide) w209 rfl (v := (0, h 5 10)) rfl ?_
  refine s_iconst 6 rfl dX2_weigh_5 ⟨by decide, by decide⟩ ?_
  refine s_callS (mj := mX2_partOf) (S := [(2, 6)]) 9 [(0, h 5 10), (0, 3)] [(0, h 5 10), (0, 3)] rfl dX2_weigh_6 okX2_partOf w555 w556 rfl npX2_partOf (Nat.le_of_ble_eq_true rfl) (by decide) (Nat.le_of_ble_eq_true rfl) rfl (Wd.imp H (fun r1 h2 H => ?_))
  show Wd mX2_weigh X 9 [(2, 6), (2, 5), (2, 1), (9, 0)] [(0, r1), (2, 6)] h2 Q
  refine s_putI 12 6 5 rfl dX2_weigh_9 ck2 rfl (by decide) rfl (by decide) w249 rfl rfl rfl ?_
  refine s_aload_n 13 0 rfl dX2_weigh_12 rfl rfl ?_
  refine s_aload_n 14 0 rfl dX2_weigh_13 rfl rfl ?_
  refine s_aload_n 15 1 rfl dX2_weigh_14 rfl rfl ?_
  refine s_aload_n 16 0 rfl dX2_weigh_15 rfl rfl ?_
  refine s_getf 19 6 5 rfl dX2_weigh_16 ck2 rfl (by decide) rfl (by decide) w249 rfl (v := (0, r1)) (by show (0, (xu h2 6 5 r1) 6 5) = _; rw [(xu_s _ _ _ _)]) ?_
  refine s_callV (mj := mX2_heightsOfHighest) (S := [(2, 6)]) 22 [(2, 5), (0, r1)] [(2, 6), (2, 5), (0, r1), (9, 0), (9, 0)] 6 rfl dX2_weigh_19 okX2_heightsOfHighest w559 w560 w561 rfl (by decide) rfl rfl rfl rfl npX2_heightsOfHighest (Nat.le_of_ble_eq_true rfl) (by decide) (Nat.le_of_ble_eq_true rfl) rfl (Wd.imp H (fun r3 h4 H => ?_))
  show Wd mX2_weigh X 22 [(2, 6), (2, 5), (2, 1), (9, 0)] [(0, r3), (2, 6)] h4 Q
  refine s_i2l 23 rfl dX2_weigh_22 ?_
  refine s_putJ 26 6 4 rfl dX2_weigh_23 ck2 rfl (by decide) rfl (by decide) w248 rfl rfl rfl ?_
  refine s_aload_n 27 0 rfl dX2_weigh_26 rfl rfl ?_
  refine s_aload_n 28 0 rfl dX2_weigh_27 rfl rfl ?_
  refine s_aload_n 29 1 rfl dX2_weigh_28 rfl rfl ?_
  refine s_aload_n 30 1 rfl dX2_weigh_29 rfl rfl ?_
  refine s_getf 33 5 10 rfl dX2_weigh_30 ck7 rfl (by decide) rfl (by decide) w209 rfl (v := (0, h4 5 10)) (by show (0, (xu h4 6 4 r3) 5 10) = _; rw [(xu_k (by decide))]) ?_
  refine s_callV (mj := mX2_heightsOfHighest) (S := [(2, 6)]) 36 [(2, 5), (0, h4 5 10)] [(2, 6), (2, 5), (0, h4 5 10), (9, 0), (9, 0)] 6 rfl dX2_weigh_33 okX2_heightsOfHighest w559 w560 w561 rfl (by decide) rfl rfl rfl rfl npX2_heightsOfHighest (Nat.le_of_ble_eq_true rfl) (by decide) (Nat.le_of_ble_eq_true rfl) rfl (Wd.imp H (fun r5 h6 H => ?_))
  show Wd mX2_weigh X 36 [(2, 6), (2, 5), (2, 1), (9, 0)] [(0, r5), (2, 6)] h6 Q
  refine s_i2l 37 rfl dX2_weigh_36 ?_
  refine s_putJ 40 6 3 rfl dX2_weigh_37 ck2 rfl (by decide) rfl (by decide) w247 rfl rfl rfl ?_
  refine s_aload_n 41 0 rfl dX2_weigh_40 rfl rfl ?_
  refine s_aload_n 42 1 rfl dX2_weigh_41 rfl rfl ?_
  refine s_getf 45 5 10 rfl dX2_weigh_42 ck7 rfl (by decide) rfl (by decide) w209 rfl (v := (0, h6 5 10)) (by show (0, (xu h6 6 3 r5) 5 10) = _; rw [(xu_k (by decide))]) ?_
  refine s_iconst 46 rfl dX2_weigh_45 ⟨by decide, by decide⟩ ?_
  refine s_icmp_ge 49 53 rfl dX2_weigh_46 (by decide) (fun c11 => ?_) (fun c11 => ?_)
  · replace H := H.1 c11
    refine s_aload_n 54 1 rfl dX2_weigh_53 rfl rfl ?_
    refine s_getf 57 5 3 rfl dX2_weigh_54 ck7 rfl (by decide) rfl (by decide) w193 rfl (v := (2, 27)) rfl ?_
    refine s_aload_n 58 0 rfl dX2_weigh_57 rfl rfl ?_
    refine s_getf 61 6 0 rfl dX2_weigh_58 ck2 rfl (by decide) rfl (by decide) w241 rfl (v := (2, 34)) rfl ?_
    refine s_aload_n 62 1 rfl dX2_weigh_61 rfl rfl ?_
    refine s_getf 65 5 10 rfl dX2_weigh_62 ck7 rfl (by decide) rfl (by decide) w209 rfl (v := (0, h6 5 10)) (by show (0, (xu h6 6 3 r5) 5 10) = _; rw [(xu_k (by decide))]) ?_
    refine s_iconst 66 rfl dX2_weigh_65 ⟨by decide, by decide⟩ ?_
    have c6 := H.1
    replace H := H.2
    refine s_idiv 67 rfl dX2_weigh_66 (by decide) c6 ?_
    have c7 := H.1
    replace H := H.2
    have c8 := H.1
    replace H := H.2
    refine s_iald 68 rfl dX2_weigh_67 ia34 c7 c8 (v9 := h6 34 (Int.tdiv (h6 5 10) 2)) (xu_k (by decide)) ?_
    have c9 := H.1
    replace H := H.2
    have c10 := H.1
    replace H := H.2
    refine s_iald 69 rfl dX2_weigh_68 ia27 c9 c10 (v9 := h6 27 (h6 34 (Int.tdiv (h6 5 10) 2))) (xu_k (by decide)) ?_
    refine s_putI 72 6 6 rfl dX2_weigh_69 ck2 rfl (by decide) rfl (by decide) w250 rfl rfl rfl ?_
    refine s_aload_n 73 0 rfl dX2_weigh_72 rfl rfl ?_
    refine s_iconst 74 rfl dX2_weigh_73 ⟨by decide, by decide⟩ ?_
    refine s_putI 77 6 2 rfl dX2_weigh_74 ck2 rfl (by decide) rfl (by decide) w245 rfl rfl rfl ?_
    refine s_iconst 78 rfl dX2_weigh_77 ⟨by decide, by decide⟩ ?_
    refine s_istore_n 79 3 rfl dX2_weigh_78 rfl (by decide) (L2 := [(2, 6), (2, 5), (2, 1), (0, 0)]) rfl ?_
    exact H
  · replace H := H.2 c11
    refine s_iconst 50 rfl dX2_weigh_49 ⟨by decide, by decide⟩ ?_
    refine s_goto 69 dX2_weigh_50 (by decide) ?_
    refine s_putI 72 6 6 rfl dX2_weigh_69 ck2 rfl (by decide) rfl (by decide) w250 rfl rfl rfl ?_
    refine s_aload_n 73 0 rfl dX2_weigh_72 rfl rfl ?_
    refine s_iconst 74 rfl dX2_weigh_73 ⟨by decide, by decide⟩ ?_
    refine s_putI 77 6 2 rfl dX2_weigh_74 ck2 rfl (by decide) rfl (by decide) w245 rfl rfl rfl ?_
    refine s_iconst 78 rfl dX2_weigh_77 ⟨by decide, by decide⟩ ?_
    refine s_istore_n 79 3 rfl dX2_weigh_78 rfl (by decide) (L2 := [(2, 6), (2, 5), (2, 1), (0, 0)]) rfl ?_
    exact H
theorem vX2_weigh_79 {X : Nat × (Int → Int)} {h : HP} {Q : Int → HP → Prop} {x3 : Int} (H : ((h 5 10 ≤ x3 → (Q 0 h)) ∧ (¬ (h 5 10 ≤ x3) → (0 ≤ x3 ∧ x3 < 300 ∧ inJ (10 * h 27 x3) ∧ inJ (10 * h 27 x3 * h 6 5) ∧ Wd mX4_factor X 0 [(2, 1)] [] h (fun r5 h6 => inJ (r5 * h6 6 4) ∧ ((10 * h 27 x3 * h 6 5 ≤ r5 * h6 6 4 → (inI (x3 + 1) ∧ Wd mX2_weigh X 79 [(2, 6), (2, 5), (2, 1), (0, x3 + 1)] [] h6 Q)) ∧ (¬ (10 * h 27 x3 * h 6 5 ≤ r5 * h6 6 4) → (inI (h6 6 2 + 1) ∧ inI (x3 + 1) ∧ Wd mX2_weigh X 79 [(2, 6), (2, 5), (2, 1), (0, x3 + 1)] [] (xu h6 6 2 (h6 6 2 + 1)) Q)))))))) : Wd mX2_weigh X 79 [(2, 6), (2, 5), (2, 1), (0, x3)] [] h Q := by
  refine s_iload_n 80 3 rfl dX2_weigh_79 rfl rfl ?_
  refine s_aload_n 81 1 rfl dX2_weigh_80 rfl rfl ?_
  refine s_getf 84 5 10 rfl dX2_weigh_81 ck7 rfl (by decide) rfl (by decide) w209 rfl (v := (0, h 5 10)) rfl ?_
  refine s_icmp_ge 87 134 rfl dX2_weigh_84 (by decide) (fun c11 => ?_) (fun c11 => ?_)
  · replace H := H.1 c11
    exact s_vret (S := []) dX2_weigh_134 rfl H
  · replace H := H.2 c11
    refine s_ldc2 90 10 rfl dX2_weigh_87 w563 ⟨by decide, by decide⟩ ?_
    refine s_aload_n 91 1 rfl dX2_weigh_90 rfl rfl ?_
    refine s_getf 94 5 3 rfl dX2_weigh_91 ck7 rfl (by decide) rfl (by decide) w193 rfl (v := (2, 27)) rfl ?_
    refine s_iload_n 95 3 rfl dX2_weigh_94 rfl rfl ?_
    have c0 := H.1
    replace H := H.2
    have c1 := H.1
    replace H := H.2
    refine s_iald 96 rfl dX2_weigh_95 ia27 c0 c1 (v9 := h 27 x3) rfl ?_
    refine s_i2l 97 rfl dX2_weigh_96 ?_
    have c2 := H.1
    replace H := H.2
    refine s_lmul 98 rfl dX2_weigh_97 c2 ?_
    refine s_aload_n 99 0 rfl dX2_weigh_98 rfl rfl ?_
    refine s_getf 102 6 5 rfl dX2_weigh_99 ck2 rfl (by decide) rfl (by decide) w249 rfl (v := (0, h 6 5)) rfl ?_
    refine s_i2l 103 rfl dX2_weigh_102 ?_
    have c3 := H.1
    replace H := H.2
    refine s_lmul 104 rfl dX2_weigh_103 c3 ?_
    refine s_aload_n 105 2 rfl dX2_weigh_104 rfl rfl ?_
    refine s_callV (mj := mX4_factor) (S := [(1, 10 * h 27 x3 * h 6 5)]) 108 [] [(2, 1)] 1 rfl dX2_weigh_105 okX4_factor w564 w565 w566 rfl (by decide) rfl rfl rfl rfl npX4_factor (Nat.le_of_ble_eq_true rfl) (by decide) (Nat.le_of_ble_eq_true rfl) rfl (Wd.imp H (fun r5 h6 H => ?_))
    show Wd mX2_weigh X 108 [(2, 6), (2, 5), (2, 1), (0, x3)] [(0, r5), (1, 10 * h 27 x3 * h 6 5)] h6 Q
    refine s_i2l 109 rfl dX2_weigh_108 ?_
    refine s_aload_n 110 0 rfl dX2_weigh_109 rfl rfl ?_
    refine s_getf 113 6 4 rfl dX2_weigh_110 ck2 rfl (by decide) rfl (by decide) w248 rfl (v := (1, h6 6 4)) rfl ?_
    have c6 := H.1
    replace H := H.2
    refine s_lmul 114 rfl dX2_weigh_113 c6 ?_
    refine s_lcmp 115 rfl dX2_weigh_114 ?_
    refine s_if_le 118 128 rfl dX2_weigh_115 (by decide) (fun c10 => ?_) (fun c10 => ?_)
    · replace H := H.1 (lcz_le.mp c10)
      have c7 := H.1
      replace H := H.2
      refine s_iinc 131 3 rfl dX2_weigh_128 (by decide) (z := x3) rfl (L2 := [(2, 6), (2, 5), (2, 1), (0, x3 + 1)]) rfl c7 ?_
      refine s_goto 79 dX2_weigh_131 (by decide) ?_
      exact H
    · replace H := H.2 (fun y => c10 (lcz_le.mpr y))
      refine s_aload_n 119 0 rfl dX2_weigh_118 rfl rfl ?_
      refine s_dup 120 rfl dX2_weigh_119 (by decide : ¬ (2 : Nat) = 1) ?_
      refine s_getf 123 6 2 rfl dX2_weigh_120 ck2 rfl (by decide) rfl (by decide) w245 rfl (v := (0, h6 6 2)) rfl ?_
      refine s_iconst 124 rfl dX2_weigh_123 ⟨by decide, by decide⟩ ?_
      have c8 := H.1
      replace H := H.2
      refine s_iadd 125 rfl dX2_weigh_124 c8 ?_
      refine s_putI 128 6 2 rfl dX2_weigh_125 ck2 rfl (by decide) rfl (by decide) w245 rfl rfl rfl ?_
      have c9 := H.1
      replace H := H.2
      refine s_iinc 131 3 rfl dX2_weigh_128 (by decide) (z := x3) rfl (L2 := [(2, 6), (2, 5), (2, 1), (0, x3 + 1)]) rfl c9 ?_
      refine s_goto 79 dX2_weigh_131 (by decide) ?_
      exact H
theorem vX2_periodsOfHighest_0 {X : Nat × (Int → Int)} {h : HP} {Q : Int → HP → Prop} {x2 : Int} (H : Wd mX2_periodsOfHighest X 5 [(2, 6), (2, 5), (0, x2), (0, 0), (0, 0)] [] h Q) : Wd mX2_periodsOfHighest X 0 [(2, 6), (2, 5), (0, x2), (9, 0), (9, 0)] [] h Q := by
  refine s_iconst 1 rfl dX2_periodsOfHighest_0 ⟨by decide, by decide⟩ ?_
  refine s_istore_n 2 3 rfl dX2_periodsOfHighest_1 rfl (by decide) (L2 := [(2, 6), (2, 5), (0, x2), (0, 0), (9, 0)]) rfl ?_
  refine s_iconst 3 rfl dX2_periodsOfHighest_2 ⟨by decide, by decide⟩ ?_
  refine s_istore 5 4 rfl dX2_periodsOfHighest_3 (by decide) (L2 := [(2, 6), (2, 5), (0, x2), (0, 0), (0, 0)]) rfl ?_
  exact H
theorem vX2_periodsOfHighest_5 {X : Nat × (Int → Int)} {h : HP} {Q : Int → HP → Prop} {x2 x3 x4 : Int} (H : ((x2 ≤ x4 → (Q x3 h)) ∧ (¬ (x2 ≤ x4) → (0 ≤ x4 ∧ x4 < 300 ∧ 0 ≤ h 34 x4 ∧ h 34 x4 < 300 ∧ inI (x3 + h 26 (h 34 x4)) ∧ inI (x4 + 1) ∧ Wd mX2_periodsOfHighest X 5 [(2, 6), (2, 5), (0, x2), (0, x3 + h 26 (h 34 x4)), (0, x4 + 1)] [] h Q)))) : Wd mX2_periodsOfHighest X 5 [(2, 6), (2, 5), (0, x2), (0, x3), (0, x4)] [] h Q := by
  refine s_iload 7 4 rfl dX2_periodsOfHighest_5 rfl ?_
  refine s_iload_n 8 2 rfl dX2_periodsOfHighest_7 rfl rfl ?_
  refine s_icmp_ge 11 32 rfl dX2_periodsOfHighest_8 (by decide) (fun c6 => ?_) (fun c6 => ?_)
  · replace H := H.1 c6
    refine s_iload_n 33 3 rfl dX2_periodsOfHighest_32 rfl rfl ?_
    exact s_iret (S := []) dX2_periodsOfHighest_33 rfl H
  · replace H := H.2 c6
    refine s_iload_n 12 3 rfl dX2_periodsOfHighest_11 rfl rfl ?_
    refine s_aload_n 13 1 rfl dX2_periodsOfHighest_12 rfl rfl ?_
    refine s_getf 16 5 2 rfl dX2_periodsOfHighest_13 ck7 rfl (by decide) rfl (by decide) w190 rfl (v := (2, 26)) rfl ?_
    refine s_aload_n 17 0 rfl dX2_periodsOfHighest_16 rfl rfl ?_
    refine s_getf 20 6 0 rfl dX2_periodsOfHighest_17 ck2 rfl (by decide) rfl (by decide) w241 rfl (v := (2, 34)) rfl ?_
    refine s_iload 22 4 rfl dX2_periodsOfHighest_20 rfl ?_
    have c0 := H.1
    replace H := H.2
    have c1 := H.1
    replace H := H.2
    refine s_iald 23 rfl dX2_periodsOfHighest_22 ia34 c0 c1 (v9 := h 34 x4) rfl ?_
    have c2 := H.1
    replace H := H.2
    have c3 := H.1
    replace H := H.2
    refine s_iald 24 rfl dX2_periodsOfHighest_23 ia26 c2 c3 (v9 := h 26 (h 34 x4)) rfl ?_
    have c4 := H.1
    replace H := H.2
    refine s_iadd 25 rfl dX2_periodsOfHighest_24 c4 ?_
    refine s_istore_n 26 3 rfl dX2_periodsOfHighest_25 rfl (by decide) (L2 := [(2, 6), (2, 5), (0, x2), (0, x3 + h 26 (h 34 x4)), (0, x4)]) rfl ?_
    have c5 := H.1
    replace H := H.2
    refine s_iinc 29 4 rfl dX2_periodsOfHighest_26 (by decide) (z := x4) rfl (L2 := [(2, 6), (2, 5), (0, x2), (0, x3 + h 26 (h 34 x4)), (0, x4 + 1)]) rfl c5 ?_
    refine s_goto 5 dX2_periodsOfHighest_29 (by decide) ?_
    exact H
theorem vX2_leastRankIn_0 {X : Nat × (Int → Int)} {h : HP} {Q : Int → HP → Prop} {x1 x2 : Int} (H : Wd mX2_leastRankIn X 5 [(2, 6), (9, 0), (0, x2), (0, x1), (0, x1)] [] h Q) : Wd mX2_leastRankIn X 0 [(2, 6), (0, x1), (0, x2), (9, 0), (9, 0)] [] h Q := by
  refine s_iload_n 1 1 rfl dX2_leastRankIn_0 rfl rfl ?_
  refine s_istore_n 2 3 rfl dX2_leastRankIn_1 rfl (by decide) (L2 := [(2, 6), (0, x1), (0, x2), (0, x1), (9, 0)]) rfl ?_
  refine s_iload_n 3 1 rfl dX2_leastRankIn_2 rfl rfl ?_
  refine s_istore 5 4 rfl dX2_leastRankIn_3 (by decide) (L2 := [(2, 6), (0, x1), (0, x2), (0, x1), (0, x1)]) rfl ?_
  exact s_less [(2, 6), (9, 0), (0, x2), (0, x1), (0, x1)] ⟨Or.inr rfl, Or.inl rfl, Or.inr rfl, Or.inr rfl, Or.inr rfl, trivial⟩ H
theorem vX2_leastRankIn_5 {X : Nat × (Int → Int)} {h : HP} {Q : Int → HP → Prop} {x2 x3 x4 : Int} (H : ((x2 ≤ x4 → (Q x3 h)) ∧ (¬ (x2 ≤ x4) → (0 ≤ x4 ∧ x4 < 300 ∧ 0 ≤ x3 ∧ x3 < 300 ∧ ((h 35 x3 ≤ h 35 x4 → (inI (x4 + 1) ∧ Wd mX2_leastRankIn X 5 [(2, 6), (9, 0), (0, x2), (0, x3), (0, x4 + 1)] [] h Q)) ∧ (¬ (h 35 x3 ≤ h 35 x4) → (inI (x4 + 1) ∧ Wd mX2_leastRankIn X 5 [(2, 6), (9, 0), (0, x2), (0, x4), (0, x4 + 1)] [] h Q))))))) : Wd mX2_leastRankIn X 5 [(2, 6), (9, 0), (0, x2), (0, x3), (0, x4)] [] h Q := by
  refine s_iload 7 4 rfl dX2_leastRankIn_5 rfl ?_
  refine s_iload_n 8 2 rfl dX2_leastRankIn_7 rfl rfl ?_
  refine s_icmp_ge 11 36 rfl dX2_leastRankIn_8 (by decide) (fun c7 => ?_) (fun c7 => ?_)
  · replace H := H.1 c7
    refine s_iload_n 37 3 rfl dX2_leastRankIn_36 rfl rfl ?_
    exact s_iret (S := []) dX2_leastRankIn_37 rfl H
  · replace H := H.2 c7
    refine s_aload_n 12 0 rfl dX2_leastRankIn_11 rfl rfl ?_
    refine s_getf 15 6 1 rfl dX2_leastRankIn_12 ck2 rfl (by decide) rfl (by decide) w243 rfl (v := (2, 35)) rfl ?_
    refine s_iload 17 4 rfl dX2_leastRankIn_15 rfl ?_
    have c0 := H.1
    replace H := H.2
    have c1 := H.1
    replace H := H.2
    refine s_iald 18 rfl dX2_leastRankIn_17 ia35 c0 c1 (v9 := h 35 x4) rfl ?_
    refine s_aload_n 19 0 rfl dX2_leastRankIn_18 rfl rfl ?_
    refine s_getf 22 6 1 rfl dX2_leastRankIn_19 ck2 rfl (by decide) rfl (by decide) w243 rfl (v := (2, 35)) rfl ?_
    refine s_iload_n 23 3 rfl dX2_leastRankIn_22 rfl rfl ?_
    have c2 := H.1
    replace H := H.2
    have c3 := H.1
    replace H := H.2
    refine s_iald 24 rfl dX2_leastRankIn_23 ia35 c2 c3 (v9 := h 35 x3) rfl ?_
    refine s_icmp_ge 27 30 rfl dX2_leastRankIn_24 (by decide) (fun c6 => ?_) (fun c6 => ?_)
    · replace H := H.1 c6
      have c4 := H.1
      replace H := H.2
      refine s_iinc 33 4 rfl dX2_leastRankIn_30 (by decide) (z := x4) rfl (L2 := [(2, 6), (9, 0), (0, x2), (0, x3), (0, x4 + 1)]) rfl c4 ?_
      refine s_goto 5 dX2_leastRankIn_33 (by decide) ?_
      exact H
    · replace H := H.2 c6
      refine s_iload 29 4 rfl dX2_leastRankIn_27 rfl ?_
      refine s_istore_n 30 3 rfl dX2_leastRankIn_29 rfl (by decide) (L2 := [(2, 6), (9, 0), (0, x2), (0, x4), (0, x4)]) rfl ?_
      have c5 := H.1
      replace H := H.2
      refine s_iinc 33 4 rfl dX2_leastRankIn_30 (by decide) (z := x4) rfl (L2 := [(2, 6), (9, 0), (0, x2), (0, x4), (0, x4 + 1)]) rfl c5 ?_
      refine s_goto 5 dX2_leastRankIn_33 (by decide) ?_
      exact H
theorem vX3_canCome_0 {X : Nat × (Int → Int)} {h : HP} {Q : Int → HP → Prop} {x0 : Int} (H : ((x0 = (-32768) → (Q 1 h)) ∧ (¬ x0 = (-32768) → ((x0 < (-9999) → (Q 0 h)) ∧ (¬ (x0 < (-9999)) → ((9999 < x0 → (Q 0 h)) ∧ (¬ (9999 < x0) → (Q 1 h)))))))) : Wd mX3_canCome X 0 [(0, x0)] [] h Q := by
  refine s_iload_n 1 0 rfl dX3_canCome_0 rfl rfl ?_
  refine s_sipush 4 rfl dX3_canCome_1 (by decide) ⟨by decide, by decide⟩ ?_
  refine s_icmp_eq 7 21 rfl dX3_canCome_4 (by decide) (fun c2 => ?_) (fun c2 => ?_)
  · replace H := H.1 c2
    refine s_iconst 22 rfl dX3_canCome_21 ⟨by decide, by decide⟩ ?_
    refine s_goto 26 dX3_canCome_22 (by decide) ?_
    exact s_zret (S := []) dX3_canCome_26 rfl (Or.inr rfl) H
  · replace H := H.2 c2
    refine s_iload_n 8 0 rfl dX3_canCome_7 rfl rfl ?_
    refine s_sipush 11 rfl dX3_canCome_8 (by decide) ⟨by decide, by decide⟩ ?_
    refine s_icmp_lt 14 25 rfl dX3_canCome_11 (by decide) (fun c1 => ?_) (fun c1 => ?_)
    · replace H := H.1 c1
      refine s_iconst 26 rfl dX3_canCome_25 ⟨by decide, by decide⟩ ?_
      exact s_zret (S := []) dX3_canCome_26 rfl (Or.inl rfl) H
    · replace H := H.2 c1
      refine s_iload_n 15 0 rfl dX3_canCome_14 rfl rfl ?_
      refine s_sipush 18 rfl dX3_canCome_15 (by decide) ⟨by decide, by decide⟩ ?_
      refine s_icmp_gt 21 25 rfl dX3_canCome_18 (by decide) (fun c0 => ?_) (fun c0 => ?_)
      · replace H := H.1 c0
        refine s_iconst 26 rfl dX3_canCome_25 ⟨by decide, by decide⟩ ?_
        exact s_zret (S := []) dX3_canCome_26 rfl (Or.inl rfl) H
      · replace H := H.2 c0
        refine s_iconst 22 rfl dX3_canCome_21 ⟨by decide, by decide⟩ ?_
        refine s_goto 26 dX3_canCome_22 (by decide) ?_
        exact s_zret (S := []) dX3_canCome_26 rfl (Or.inr rfl) H
theorem vX3_has_0 {X : Nat × (Int → Int)} {h : HP} {Q : Int → HP → Prop} {x1 : Int} (H : ((x1 < 0 → (Q 0 h)) ∧ (¬ (x1 < 0) → ((h 3 2 ≤ x1 → (Q 0 h)) ∧ (¬ (h 3 2 ≤ x1) → (Q 1 h)))))) : Wd mX3_has X 0 [(2, 3), (0, x1)] [] h Q := by
  refine s_iload_n 1 1 rfl dX3_has_0 rfl rfl ?_
  refine s_if_lt 4 16 rfl dX3_has_1 (by decide) (fun c1 => ?_) (fun c1 => ?_)
  · replace H := H.1 c1
    refine s_iconst 17 rfl dX3_has_16 ⟨by decide, by decide⟩ ?_
    exact s_zret (S := []) dX3_has_17 rfl (Or.inl rfl) H
  · replace H := H.2 c1
    refine s_iload_n 5 1 rfl dX3_has_4 rfl rfl ?_
    refine s_aload_n 6 0 rfl dX3_has_5 rfl rfl ?_
    refine s_getf 9 3 2 rfl dX3_has_6 ck3 rfl (by decide) rfl (by decide) w122 rfl (v := (0, h 3 2)) rfl ?_
    refine s_icmp_ge 12 16 rfl dX3_has_9 (by decide) (fun c0 => ?_) (fun c0 => ?_)
    · replace H := H.1 c0
      refine s_iconst 17 rfl dX3_has_16 ⟨by decide, by decide⟩ ?_
      exact s_zret (S := []) dX3_has_17 rfl (Or.inl rfl) H
    · replace H := H.2 c0
      refine s_iconst 13 rfl dX3_has_12 ⟨by decide, by decide⟩ ?_
      refine s_goto 17 dX3_has_13 (by decide) ?_
      exact s_zret (S := []) dX3_has_17 rfl (Or.inr rfl) H
theorem vX3_room_0 {X : Nat × (Int → Int)} {h : HP} {Q : Int → HP → Prop} (H : inI (600 - h 3 2) ∧ Q (600 - h 3 2) h) : Wd mX3_room X 0 [(2, 3)] [] h Q := by
  refine s_aload_n 1 0 rfl dX3_room_0 rfl rfl ?_
  refine s_getf 4 3 0 rfl dX3_room_1 ck3 rfl (by decide) rfl (by decide) w116 rfl (v := (2, 12)) rfl ?_
  refine s_alenI 5 rfl dX3_room_4 ia12 ?_
  refine s_aload_n 6 0 rfl dX3_room_5 rfl rfl ?_
  refine s_getf 9 3 2 rfl dX3_room_6 ck3 rfl (by decide) rfl (by decide) w122 rfl (v := (0, h 3 2)) rfl ?_
  have c0 := H.1
  replace H := H.2
  refine s_isub 10 rfl dX3_room_9 c0 ?_
  exact s_iret (S := []) dX3_room_10 rfl H
theorem vX3_add_0 {X : Nat × (Int → Int)} {h : HP} {Q : Int → HP → Prop} {x1 : Int} (H : ((h 3 2 < 600 → (0 ≤ h 3 2 ∧ h 3 2 < 600 ∧ inI (h 3 2 + 1) ∧ Q 0 (xu (xu (xu h 12 (h 3 2) x1) 13 (h 3 2) 0) 3 2 (h 3 2 + 1)))) ∧ (¬ (h 3 2 < 600) → (Q 0 h)))) : Wd mX3_add X 0 [(2, 3), (0, x1)] [] h Q := by
  refine s_aload_n 1 0 rfl dX3_add_0 rfl rfl ?_
  refine s_getf 4 3 2 rfl dX3_add_1 ck3 rfl (by decide) rfl (by decide) w122 rfl (v := (0, h 3 2)) rfl ?_
  refine s_aload_n 5 0 rfl dX3_add_4 rfl rfl ?_
  refine s_getf 8 3 0 rfl dX3_add_5 ck3 rfl (by decide) rfl (by decide) w116 rfl (v := (2, 12)) rfl ?_
  refine s_alenI 9 rfl dX3_add_8 ia12 ?_
  refine s_icmp_lt 12 13 rfl dX3_add_9 (by decide) (fun c3 => ?_) (fun c3 => ?_)
  · replace H := H.1 c3
    refine s_aload_n 14 0 rfl dX3_add_13 rfl rfl ?_
    refine s_getf 17 3 0 rfl dX3_add_14 ck3 rfl (by decide) rfl (by decide) w116 rfl (v := (2, 12)) rfl ?_
    refine s_aload_n 18 0 rfl dX3_add_17 rfl rfl ?_
    refine s_getf 21 3 2 rfl dX3_add_18 ck3 rfl (by decide) rfl (by decide) w122 rfl (v := (0, h 3 2)) rfl ?_
    refine s_iload_n 22 1 rfl dX3_add_21 rfl rfl ?_
    have c0 := H.1
    replace H := H.2
    have c1 := H.1
    replace H := H.2
    refine s_iast 23 rfl dX3_add_22 ia12 c0 c1 ?_
    refine s_aload_n 24 0 rfl dX3_add_23 rfl rfl ?_
    refine s_getf 27 3 1 rfl dX3_add_24 ck3 rfl (by decide) rfl (by decide) w119 rfl (v := (2, 13)) rfl ?_
    refine s_aload_n 28 0 rfl dX3_add_27 rfl rfl ?_
    refine s_getf 31 3 2 rfl dX3_add_28 ck3 rfl (by decide) rfl (by decide) w122 rfl (v := (0, h 3 2)) (by show (0, (xu h 12 (h 3 2) x1) 3 2) = _; rw [(xu_k (by decide))]) ?_
    refine s_iconst 32 rfl dX3_add_31 ⟨by decide, by decide⟩ ?_
    refine s_iast 33 rfl dX3_add_32 ia13 c0 c1 ?_
    refine s_aload_n 34 0 rfl dX3_add_33 rfl rfl ?_
    refine s_dup 35 rfl dX3_add_34 (by decide : ¬ (2 : Nat) = 1) ?_
    refine s_getf 38 3 2 rfl dX3_add_35 ck3 rfl (by decide) rfl (by decide) w122 rfl (v := (0, h 3 2)) (by show (0, (xu (xu h 12 (h 3 2) x1) 13 (h 3 2) 0) 3 2) = _; rw [((xu_k (by decide)).trans (xu_k (by decide)))]) ?_
    refine s_iconst 39 rfl dX3_add_38 ⟨by decide, by decide⟩ ?_
    have c2 := H.1
    replace H := H.2
    refine s_iadd 40 rfl dX3_add_39 c2 ?_
    refine s_putI 43 3 2 rfl dX3_add_40 ck3 rfl (by decide) rfl (by decide) w122 rfl rfl rfl ?_
    exact s_vret (S := []) dX3_add_43 rfl H
  · replace H := H.2 c3
    exact s_vret (S := []) dX3_add_12 rfl H
theorem vX3_drop_0 {X : Nat × (Int → Int)} {h : HP} {Q : Int → HP → Prop} {x1 : Int} (H : ((x1 < 0 → (Q 0 h)) ∧ (¬ (x1 < 0) → ((x1 ≤ h 3 2 → (Wd mX3_drop X 15 [(2, 3), (0, x1), (0, x1)] [] h Q)) ∧ (¬ (x1 ≤ h 3 2) → (Q 0 h)))))) : Wd mX3_drop X 0 [(2, 3), (0, x1), (9, 0)] [] h Q := by
  refine s_iload_n 1 1 rfl dX3_drop_0 rfl rfl ?_
  refine s_if_lt 4 12 rfl dX3_drop_1 (by decide) (fun c1 => ?_) (fun c1 => ?_)
  · replace H := H.1 c1
    exact s_vret (S := []) dX3_drop_12 rfl H
  · replace H := H.2 c1
    refine s_iload_n 5 1 rfl dX3_drop_4 rfl rfl ?_
    refine s_aload_n 6 0 rfl dX3_drop_5 rfl rfl ?_
    refine s_getf 9 3 2 rfl dX3_drop_6 ck3 rfl (by decide) rfl (by decide) w122 rfl (v := (0, h 3 2)) rfl ?_
    refine s_icmp_le 12 13 rfl dX3_drop_9 (by decide) (fun c0 => ?_) (fun c0 => ?_)
    · replace H := H.1 c0
      refine s_iload_n 14 1 rfl dX3_drop_13 rfl rfl ?_
      refine s_istore_n 15 2 rfl dX3_drop_14 rfl (by decide) (L2 := [(2, 3), (0, x1), (0, x1)]) rfl ?_
      exact H
    · replace H := H.2 c0
      exact s_vret (S := []) dX3_drop_12 rfl H
theorem vX3_drop_15 {X : Nat × (Int → Int)} {h : HP} {Q : Int → HP → Prop} {x1 x2 : Int} (H : ((h 3 2 ≤ x2 → (inI (h 3 2 - x1) ∧ Q 0 (xu h 3 2 (h 3 2 - x1)))) ∧ (¬ (h 3 2 ≤ x2) → (inI (x2 - x1) ∧ 0 ≤ x2 ∧ x2 < 600 ∧ 0 ≤ x2 - x1 ∧ x2 - x1 < 600 ∧ inI (x2 + 1) ∧ Wd mX3_drop X 15 [(2, 3), (0, x1), (0, x2 + 1)] [] (xu (xu h 12 (x2 - x1) (h 12 x2)) 13 (x2 - x1) (h 13 x2)) Q)))) : Wd mX3_drop X 15 [(2, 3), (0, x1), (0, x2)] [] h Q := by
  refine s_iload_n 16 2 rfl dX3_drop_15 rfl rfl ?_
  refine s_aload_n 17 0 rfl dX3_drop_16 rfl rfl ?_
  refine s_getf 20 3 2 rfl dX3_drop_17 ck3 rfl (by decide) rfl (by decide) w122 rfl (v := (0, h 3 2)) rfl ?_
  refine s_icmp_ge 23 57 rfl dX3_drop_20 (by decide) (fun c7 => ?_) (fun c7 => ?_)
  · replace H := H.1 c7
    refine s_aload_n 58 0 rfl dX3_drop_57 rfl rfl ?_
    refine s_dup 59 rfl dX3_drop_58 (by decide : ¬ (2 : Nat) = 1) ?_
    refine s_getf 62 3 2 rfl dX3_drop_59 ck3 rfl (by decide) rfl (by decide) w122 rfl (v := (0, h 3 2)) rfl ?_
    refine s_iload_n 63 1 rfl dX3_drop_62 rfl rfl ?_
    have c0 := H.1
    replace H := H.2
    refine s_isub 64 rfl dX3_drop_63 c0 ?_
    refine s_putI 67 3 2 rfl dX3_drop_64 ck3 rfl (by decide) rfl (by decide) w122 rfl rfl rfl ?_
    exact s_vret (S := []) dX3_drop_67 rfl H
  · replace H := H.2 c7
    refine s_aload_n 24 0 rfl dX3_drop_23 rfl rfl ?_
    refine s_getf 27 3 0 rfl dX3_drop_24 ck3 rfl (by decide) rfl (by decide) w116 rfl (v := (2, 12)) rfl ?_
    refine s_iload_n 28 2 rfl dX3_drop_27 rfl rfl ?_
    refine s_iload_n 29 1 rfl dX3_drop_28 rfl rfl ?_
    have c1 := H.1
    replace H := H.2
    refine s_isub 30 rfl dX3_drop_29 c1 ?_
    refine s_aload_n 31 0 rfl dX3_drop_30 rfl rfl ?_
    refine s_getf 34 3 0 rfl dX3_drop_31 ck3 rfl (by decide) rfl (by decide) w116 rfl (v := (2, 12)) rfl ?_
    refine s_iload_n 35 2 rfl dX3_drop_34 rfl rfl ?_
    have c2 := H.1
    replace H := H.2
    have c3 := H.1
    replace H := H.2
    refine s_iald 36 rfl dX3_drop_35 ia12 c2 c3 (v9 := h 12 x2) rfl ?_
    have c4 := H.1
    replace H := H.2
    have c5 := H.1
    replace H := H.2
    refine s_iast 37 rfl dX3_drop_36 ia12 c4 c5 ?_
    refine s_aload_n 38 0 rfl dX3_drop_37 rfl rfl ?_
    refine s_getf 41 3 1 rfl dX3_drop_38 ck3 rfl (by decide) rfl (by decide) w119 rfl (v := (2, 13)) rfl ?_
    refine s_iload_n 42 2 rfl dX3_drop_41 rfl rfl ?_
    refine s_iload_n 43 1 rfl dX3_drop_42 rfl rfl ?_
    refine s_isub 44 rfl dX3_drop_43 c1 ?_
    refine s_aload_n 45 0 rfl dX3_drop_44 rfl rfl ?_
    refine s_getf 48 3 1 rfl dX3_drop_45 ck3 rfl (by decide) rfl (by decide) w119 rfl (v := (2, 13)) rfl ?_
    refine s_iload_n 49 2 rfl dX3_drop_48 rfl rfl ?_
    refine s_iald 50 rfl dX3_drop_49 ia13 c2 c3 (v9 := h 13 x2) (xu_k (by decide)) ?_
    refine s_iast 51 rfl dX3_drop_50 ia13 c4 c5 ?_
    have c6 := H.1
    replace H := H.2
    refine s_iinc 54 2 rfl dX3_drop_51 (by decide) (z := x2) rfl (L2 := [(2, 3), (0, x1), (0, x2 + 1)]) rfl c6 ?_
    refine s_goto 15 dX3_drop_54 (by decide) ?_
    exact H
theorem vX3_nameAt_0 {X : Nat × (Int → Int)} {h : HP} {Q : Int → HP → Prop} {x1 : Int} (H : Wd mX3_has X 0 [(2, 3), (0, x1)] [] h (fun r1 h2 => ((r1 = 0 → (Q (-1) h2)) ∧ (¬ r1 = 0 → (0 ≤ x1 ∧ x1 < 600 ∧ ((h2 13 x1 = 0 → (Q (-1) h2)) ∧ (¬ h2 13 x1 = 0 → (Q (h2 13 x1) h2)))))))) : Wd mX3_nameAt X 0 [(2, 3), (0, x1)] [] h Q := by
  refine s_aload_n 1 0 rfl dX3_nameAt_0 rfl rfl ?_
  refine s_iload_n 2 1 rfl dX3_nameAt_1 rfl rfl ?_
  refine s_callV (mj := mX3_has) (S := []) 5 [(0, x1)] [(2, 3), (0, x1)] 3 rfl dX3_nameAt_2 okX3_has w610 w599 w600 rfl (by decide) rfl rfl rfl rfl npX3_has (Nat.le_of_ble_eq_true rfl) (by decide) (Nat.le_of_ble_eq_true rfl) rfl (Wd.imp H (fun r1 h2 H => ?_))
  show Wd mX3_nameAt X 5 [(2, 3), (0, x1)] [(0, r1)] h2 Q
  refine s_if_eq 8 26 rfl dX3_nameAt_5 (by decide) (fun c5 => ?_) (fun c5 => ?_)
  · replace H := H.1 c5
    refine s_iconst 27 rfl dX3_nameAt_26 ⟨by decide, by decide⟩ ?_
    exact s_iret (S := []) dX3_nameAt_27 rfl H
  · replace H := H.2 c5
    refine s_aload_n 9 0 rfl dX3_nameAt_8 rfl rfl ?_
    refine s_getf 12 3 1 rfl dX3_nameAt_9 ck3 rfl (by decide) rfl (by decide) w119 rfl (v := (2, 13)) rfl ?_
    refine s_iload_n 13 1 rfl dX3_nameAt_12 rfl rfl ?_
    have c2 := H.1
    replace H := H.2
    have c3 := H.1
    replace H := H.2
    refine s_iald 14 rfl dX3_nameAt_13 ia13 c2 c3 (v9 := h2 13 x1) rfl ?_
    refine s_if_eq 17 26 rfl dX3_nameAt_14 (by decide) (fun c4 => ?_) (fun c4 => ?_)
    · replace H := H.1 c4
      refine s_iconst 27 rfl dX3_nameAt_26 ⟨by decide, by decide⟩ ?_
      exact s_iret (S := []) dX3_nameAt_27 rfl H
    · replace H := H.2 c4
      refine s_aload_n 18 0 rfl dX3_nameAt_17 rfl rfl ?_
      refine s_getf 21 3 1 rfl dX3_nameAt_18 ck3 rfl (by decide) rfl (by decide) w119 rfl (v := (2, 13)) rfl ?_
      refine s_iload_n 22 1 rfl dX3_nameAt_21 rfl rfl ?_
      refine s_iald 23 rfl dX3_nameAt_22 ia13 c2 c3 (v9 := h2 13 x1) rfl ?_
      refine s_goto 27 dX3_nameAt_23 (by decide) ?_
      exact s_iret (S := []) dX3_nameAt_27 rfl H
theorem vX3_bearerOf_0 {X : Nat × (Int → Int)} {h : HP} {Q : Int → HP → Prop} {x1 : Int} (H : ((1 ≤ x1 → (Wd mX3_bearerOf X 9 [(2, 3), (0, x1), (0, 0)] [] h Q)) ∧ (¬ (1 ≤ x1) → (Q (-1) h)))) : Wd mX3_bearerOf X 0 [(2, 3), (0, x1), (9, 0)] [] h Q := by
  refine s_iload_n 1 1 rfl dX3_bearerOf_0 rfl rfl ?_
  refine s_iconst 2 rfl dX3_bearerOf_1 ⟨by decide, by decide⟩ ?_
  refine s_icmp_ge 5 7 rfl dX3_bearerOf_2 (by decide) (fun c0 => ?_) (fun c0 => ?_)
  · replace H := H.1 c0
    refine s_iconst 8 rfl dX3_bearerOf_7 ⟨by decide, by decide⟩ ?_
    refine s_istore_n 9 2 rfl dX3_bearerOf_8 rfl (by decide) (L2 := [(2, 3), (0, x1), (0, 0)]) rfl ?_
    exact H
  · replace H := H.2 c0
    refine s_iconst 6 rfl dX3_bearerOf_5 ⟨by decide, by decide⟩ ?_
    exact s_iret (S := []) dX3_bearerOf_6 rfl H
theorem vX3_bearerOf_9 {X : Nat × (Int → Int)} {h : HP} {Q : Int → HP → Prop} {x1 x2 : Int} (H : ((h 3 2 ≤ x2 → (Q (-1) h)) ∧ (¬ (h 3 2 ≤ x2) → (0 ≤ x2 ∧ x2 < 600 ∧ ((¬ h 13 x2 = x1 → (inI (x2 + 1) ∧ Wd mX3_bearerOf X 9 [(2, 3), (0, x1), (0, x2 + 1)] [] h Q)) ∧ (h 13 x2 = x1 → (Q x2 h))))))) : Wd mX3_bearerOf X 9 [(2, 3), (0, x1), (0, x2)] [] h Q := by
  refine s_iload_n 10 2 rfl dX3_bearerOf_9 rfl rfl ?_
  refine s_aload_n 11 0 rfl dX3_bearerOf_10 rfl rfl ?_
  refine s_getf 14 3 2 rfl dX3_bearerOf_11 ck3 rfl (by decide) rfl (by decide) w122 rfl (v := (0, h 3 2)) rfl ?_
  refine s_icmp_ge 17 35 rfl dX3_bearerOf_14 (by decide) (fun c4 => ?_) (fun c4 => ?_)
  · replace H := H.1 c4
    refine s_iconst 36 rfl dX3_bearerOf_35 ⟨by decide, by decide⟩ ?_
    exact s_iret (S := []) dX3_bearerOf_36 rfl H
  · replace H := H.2 c4
    refine s_aload_n 18 0 rfl dX3_bearerOf_17 rfl rfl ?_
    refine s_getf 21 3 1 rfl dX3_bearerOf_18 ck3 rfl (by decide) rfl (by decide) w119 rfl (v := (2, 13)) rfl ?_
    refine s_iload_n 22 2 rfl dX3_bearerOf_21 rfl rfl ?_
    have c0 := H.1
    replace H := H.2
    have c1 := H.1
    replace H := H.2
    refine s_iald 23 rfl dX3_bearerOf_22 ia13 c0 c1 (v9 := h 13 x2) rfl ?_
    refine s_iload_n 24 1 rfl dX3_bearerOf_23 rfl rfl ?_
    refine s_icmp_ne 27 29 rfl dX3_bearerOf_24 (by decide) (fun c3 => ?_) (fun c3 => ?_)
    · replace H := H.1 c3
      have c2 := H.1
      replace H := H.2
      refine s_iinc 32 2 rfl dX3_bearerOf_29 (by decide) (z := x2) rfl (L2 := [(2, 3), (0, x1), (0, x2 + 1)]) rfl c2 ?_
      refine s_goto 9 dX3_bearerOf_32 (by decide) ?_
      exact H
    · replace H := H.2 c3
      refine s_iload_n 28 2 rfl dX3_bearerOf_27 rfl rfl ?_
      exact s_iret (S := []) dX3_bearerOf_28 rfl H
theorem vX3_namesGiven_0 {X : Nat × (Int → Int)} {h : HP} {Q : Int → HP → Prop} (H : Wd mX3_namesGiven X 4 [(2, 3), (0, 0), (0, 0)] [] h Q) : Wd mX3_namesGiven X 0 [(2, 3), (9, 0), (9, 0)] [] h Q := by
  refine s_iconst 1 rfl dX3_namesGiven_0 ⟨by decide, by decide⟩ ?_
  refine s_istore_n 2 1 rfl dX3_namesGiven_1 rfl (by decide) (L2 := [(2, 3), (0, 0), (9, 0)]) rfl ?_
  refine s_iconst 3 rfl dX3_namesGiven_2 ⟨by decide, by decide⟩ ?_
  refine s_istore_n 4 2 rfl dX3_namesGiven_3 rfl (by decide) (L2 := [(2, 3), (0, 0), (0, 0)]) rfl ?_
  exact H
theorem vX3_namesGiven_4 {X : Nat × (Int → Int)} {h : HP} {Q : Int → HP → Prop} {x1 x2 : Int} (H : ((h 3 2 ≤ x2 → (Q x1 h)) ∧ (¬ (h 3 2 ≤ x2) → (0 ≤ x2 ∧ x2 < 600 ∧ ((h 13 x2 = 0 → (inI (x2 + 1) ∧ Wd mX3_namesGiven X 4 [(2, 3), (0, x1), (0, x2 + 1)] [] h Q)) ∧ (¬ h 13 x2 = 0 → (inI (x1 + 1) ∧ inI (x2 + 1) ∧ Wd mX3_namesGiven X 4 [(2, 3), (0, x1 + 1), (0, x2 + 1)] [] h Q))))))) : Wd mX3_namesGiven X 4 [(2, 3), (0, x1), (0, x2)] [] h Q := by
  refine s_iload_n 5 2 rfl dX3_namesGiven_4 rfl rfl ?_
  refine s_aload_n 6 0 rfl dX3_namesGiven_5 rfl rfl ?_
  refine s_getf 9 3 2 rfl dX3_namesGiven_6 ck3 rfl (by decide) rfl (by decide) w122 rfl (v := (0, h 3 2)) rfl ?_
  refine s_icmp_ge 12 30 rfl dX3_namesGiven_9 (by decide) (fun c6 => ?_) (fun c6 => ?_)
  · replace H := H.1 c6
    refine s_iload_n 31 1 rfl dX3_namesGiven_30 rfl rfl ?_
    exact s_iret (S := []) dX3_namesGiven_31 rfl H
  · replace H := H.2 c6
    refine s_aload_n 13 0 rfl dX3_namesGiven_12 rfl rfl ?_
    refine s_getf 16 3 1 rfl dX3_namesGiven_13 ck3 rfl (by decide) rfl (by decide) w119 rfl (v := (2, 13)) rfl ?_
    refine s_iload_n 17 2 rfl dX3_namesGiven_16 rfl rfl ?_
    have c0 := H.1
    replace H := H.2
    have c1 := H.1
    replace H := H.2
    refine s_iald 18 rfl dX3_namesGiven_17 ia13 c0 c1 (v9 := h 13 x2) rfl ?_
    refine s_if_eq 21 24 rfl dX3_namesGiven_18 (by decide) (fun c5 => ?_) (fun c5 => ?_)
    · replace H := H.1 c5
      have c2 := H.1
      replace H := H.2
      refine s_iinc 27 2 rfl dX3_namesGiven_24 (by decide) (z := x2) rfl (L2 := [(2, 3), (0, x1), (0, x2 + 1)]) rfl c2 ?_
      refine s_goto 4 dX3_namesGiven_27 (by decide) ?_
      exact H
    · replace H := H.2 c5
      have c3 := H.1
      replace H := H.2
      refine s_iinc 24 1 rfl dX3_namesGiven_21 (by decide) (z := x1) rfl (L2 := [(2, 3), (0, x1 + 1), (0, x2)]) rfl c3 ?_
      have c4 := H.1
      replace H := H.2
      refine s_iinc 27 2 rfl dX3_namesGiven_24 (by decide) (z := x2) rfl (L2 := [(2, 3), (0, x1 + 1), (0, x2 + 1)]) rfl c4 ?_
      refine s_goto 4 dX3_namesGiven_27 (by decide) ?_
      exact H
theorem vX3_leastNameIn_0 {X : Nat × (Int → Int)} {h : HP} {Q : Int → HP → Prop} {x1 x2 : Int} (H : Wd mX3_leastNameIn X 5 [(2, 3), (9, 0), (0, x2), (0, (-1)), (0, x1), (9, 0)] [] h Q) : Wd mX3_leastNameIn X 0 [(2, 3), (0, x1), (0, x2), (9, 0), (9, 0), (9, 0)] [] h Q := by
  refine s_iconst 1 rfl dX3_leastNameIn_0 ⟨by decide, by decide⟩ ?_
  refine s_istore_n 2 3 rfl dX3_leastNameIn_1 rfl (by decide) (L2 := [(2, 3), (0, x1), (0, x2), (0, (-1)), (9, 0), (9, 0)]) rfl ?_
  refine s_iload_n 3 1 rfl dX3_leastNameIn_2 rfl rfl ?_
  refine s_istore 5 4 rfl dX3_leastNameIn_3 (by decide) (L2 := [(2, 3), (0, x1), (0, x2), (0, (-1)), (0, x1), (9, 0)]) rfl ?_
  exact s_less [(2, 3), (9, 0), (0, x2), (0, (-1)), (0, x1), (9, 0)] ⟨Or.inr rfl, Or.inl rfl, Or.inr rfl, Or.inr rfl, Or.inr rfl, Or.inl rfl, trivial⟩ H
theorem vX3_leastNameIn_5 {X : Nat × (Int → Int)} {h : HP} {Q : Int → HP → Prop} {x2 x3 x4 : Int} (H : ((x2 ≤ x4 → (Q x3 h)) ∧ (¬ (x2 ≤ x4) → (Wd mX3_nameAt X 0 [(2, 3), (0, x4)] [] h (fun r1 h2 => ((r1 = (-1) → (inI (x4 + 1) ∧ Wd mX3_leastNameIn X 5 [(2, 3), (9, 0), (0, x2), (0, x3), (0, x4 + 1), (9, 0)] [] h2 Q)) ∧ (¬ r1 = (-1) → ((x3 = (-1) → (inI (x4 + 1) ∧ Wd mX3_leastNameIn X 5 [(2, 3), (9, 0), (0, x2), (0, r1), (0, x4 + 1), (9, 0)] [] h2 Q)) ∧ (¬ x3 = (-1) → ((x3 ≤ r1 → (inI (x4 + 1) ∧ Wd mX3_leastNameIn X 5 [(2, 3), (9, 0), (0, x2), (0, x3), (0, x4 + 1), (9, 0)] [] h2 Q)) ∧ (¬ (x3 ≤ r1) → (inI (x4 + 1) ∧ Wd mX3_leastNameIn X 5 [(2, 3), (9, 0), (0, x2), (0, r1), (0, x4 + 1), (9, 0)] [] h2 Q)))))))))))) : Wd mX3_leastNameIn X 5 [(2, 3), (9, 0), (0, x2), (0, x3), (0, x4), (9, 0)] [] h Q := by
  refine s_iload 7 4 rfl dX3_leastNameIn_5 rfl ?_
  refine s_iload_n 8 2 rfl dX3_leastNameIn_7 rfl rfl ?_
  refine s_icmp_ge 11 45 rfl dX3_leastNameIn_8 (by decide) (fun c9 => ?_) (fun c9 => ?_)
  · replace H := H.1 c9
    refine s_iload_n 46 3 rfl dX3_leastNameIn_45 rfl rfl ?_
    exact s_iret (S := []) dX3_leastNameIn_46 rfl H
  · replace H := H.2 c9
    refine s_aload_n 12 0 rfl dX3_leastNameIn_11 rfl rfl ?_
    refine s_iload 14 4 rfl dX3_leastNameIn_12 rfl ?_
    refine s_callV (mj := mX3_nameAt) (S := []) 17 [(0, x4)] [(2, 3), (0, x4)] 3 rfl dX3_leastNameIn_14 okX3_nameAt w643 w607 w608 rfl (by decide) rfl rfl rfl rfl npX3_nameAt (Nat.le_of_ble_eq_true rfl) (by decide) (Nat.le_of_ble_eq_true rfl) rfl (Wd.imp H (fun r1 h2 H => ?_))
    show Wd mX3_leastNameIn X 17 [(2, 3), (9, 0), (0, x2), (0, x3), (0, x4), (9, 0)] [(0, r1)] h2 Q
    refine s_istore 19 5 rfl dX3_leastNameIn_17 (by decide) (L2 := [(2, 3), (9, 0), (0, x2), (0, x3), (0, x4), (0, r1)]) rfl ?_
    refine s_iload 21 5 rfl dX3_leastNameIn_19 rfl ?_
    refine s_iconst 22 rfl dX3_leastNameIn_21 ⟨by decide, by decide⟩ ?_
    refine s_icmp_eq 25 39 rfl dX3_leastNameIn_22 (by decide) (fun c8 => ?_) (fun c8 => ?_)
    · replace H := H.1 c8
      have c2 := H.1
      replace H := H.2
      refine s_iinc 42 4 rfl dX3_leastNameIn_39 (by decide) (z := x4) rfl (L2 := [(2, 3), (9, 0), (0, x2), (0, x3), (0, x4 + 1), (0, r1)]) rfl c2 ?_
      refine s_goto 5 dX3_leastNameIn_42 (by decide) ?_
      exact s_less [(2, 3), (9, 0), (0, x2), (0, x3), (0, x4 + 1), (9, 0)] ⟨Or.inr rfl, Or.inl rfl, Or.inr rfl, Or.inr rfl, Or.inr rfl, Or.inl rfl, trivial⟩ H
    · replace H := H.2 c8
      refine s_iload_n 26 3 rfl dX3_leastNameIn_25 rfl rfl ?_
      refine s_iconst 27 rfl dX3_leastNameIn_26 ⟨by decide, by decide⟩ ?_
      refine s_icmp_eq 30 36 rfl dX3_leastNameIn_27 (by decide) (fun c7 => ?_) (fun c7 => ?_)
      · replace H := H.1 c7
        refine s_iload 38 5 rfl dX3_leastNameIn_36 rfl ?_
        refine s_istore_n 39 3 rfl dX3_leastNameIn_38 rfl (by decide) (L2 := [(2, 3), (9, 0), (0, x2), (0, r1), (0, x4), (0, r1)]) rfl ?_
        have c3 := H.1
        replace H := H.2
        refine s_iinc 42 4 rfl dX3_leastNameIn_39 (by decide) (z := x4) rfl (L2 := [(2, 3), (9, 0), (0, x2), (0, r1), (0, x4 + 1), (0, r1)]) rfl c3 ?_
        refine s_goto 5 dX3_leastNameIn_42 (by decide) ?_
        exact s_less [(2, 3), (9, 0), (0, x2), (0, r1), (0, x4 + 1), (9, 0)] ⟨Or.inr rfl, Or.inl rfl, Or.inr rfl, Or.inr rfl, Or.inr rfl, Or.inl rfl, trivial⟩ H
      · replace H := H.2 c7
        refine s_iload 32 5 rfl dX3_leastNameIn_30 rfl ?_
        refine s_iload_n 33 3 rfl dX3_leastNameIn_32 rfl rfl ?_
        refine s_icmp_ge 36 39 rfl dX3_leastNameIn_33 (by decide) (fun c6 => ?_) (fun c6 => ?_)
        · replace H := H.1 c6
          have c4 := H.1
          replace H := H.2
          refine s_iinc 42 4 rfl dX3_leastNameIn_39 (by decide) (z := x4) rfl (L2 := [(2, 3), (9, 0), (0, x2), (0, x3), (0, x4 + 1), (0, r1)]) rfl c4 ?_
          refine s_goto 5 dX3_leastNameIn_42 (by decide) ?_
          exact s_less [(2, 3), (9, 0), (0, x2), (0, x3), (0, x4 + 1), (9, 0)] ⟨Or.inr rfl, Or.inl rfl, Or.inr rfl, Or.inr rfl, Or.inr rfl, Or.inl rfl, trivial⟩ H
        · replace H := H.2 c6
          refine s_iload 38 5 rfl dX3_leastNameIn_36 rfl ?_
          refine s_istore_n 39 3 rfl dX3_leastNameIn_38 rfl (by decide) (L2 := [(2, 3), (9, 0), (0, x2), (0, r1), (0, x4), (0, r1)]) rfl ?_
          have c5 := H.1
          replace H := H.2
          refine s_iinc 42 4 rfl dX3_leastNameIn_39 (by decide) (z := x4) rfl (L2 := [(2, 3), (9, 0), (0, x2), (0, r1), (0, x4 + 1), (0, r1)]) rfl c5 ?_
          refine s_goto 5 dX3_leastNameIn_42 (by decide) ?_
          exact s_less [(2, 3), (9, 0), (0, x2), (0, r1), (0, x4 + 1), (9, 0)] ⟨Or.inr rfl, Or.inl rfl, Or.inr rfl, Or.inr rfl, Or.inr rfl, Or.inl rfl, trivial⟩ H
theorem vX4_mend_0 {X : Nat × (Int → Int)} {h : HP} {Q : Int → HP → Prop} (H : Q (h 9 0) h) : Wd mX4_mend X 0 [(2, 1)] [] h Q := by
  refine s_aload_n 1 0 rfl dX4_mend_0 rfl rfl ?_
  refine s_getf 4 1 0 rfl dX4_mend_1 ck4 rfl (by decide) rfl (by decide) w69 rfl (v := (2, 9)) rfl ?_
  refine s_iconst 5 rfl dX4_mend_4 ⟨by decide, by decide⟩ ?_
  refine s_iald 6 rfl dX4_mend_5 ia9 (by decide) (by decide) (v9 := h 9 0) rfl ?_
  exact s_iret (S := []) dX4_mend_6 rfl H
theorem vX4_band_0 {X : Nat × (Int → Int)} {h : HP} {Q : Int → HP → Prop} (H : Q (h 9 1) h) : Wd mX4_band X 0 [(2, 1)] [] h Q := by
  refine s_aload_n 1 0 rfl dX4_band_0 rfl rfl ?_
  refine s_getf 4 1 0 rfl dX4_band_1 ck4 rfl (by decide) rfl (by decide) w69 rfl (v := (2, 9)) rfl ?_
  refine s_iconst 5 rfl dX4_band_4 ⟨by decide, by decide⟩ ?_
  refine s_iald 6 rfl dX4_band_5 ia9 (by decide) (by decide) (v9 := h 9 1) rfl ?_
  exact s_iret (S := []) dX4_band_6 rfl H
theorem vX4_changeNumber_0 {X : Nat × (Int → Int)} {h : HP} {Q : Int → HP → Prop} {x1 x2 : Int} (H : ((x1 < 0 → (Q 0 h)) ∧ (¬ (x1 < 0) → ((x1 < 4 → (0 ≤ x1 ∧ x1 < 4 ∧ ((x2 < sx 0 x1 → (Q 0 h)) ∧ (¬ (x2 < sx 0 x1) → ((sx 1 x1 < x2 → (Q 0 h)) ∧ (¬ (sx 1 x1 < x2) → ((¬ x2 = h 9 x1 → (Q 1 (xu h 9 x1 x2))) ∧ (x2 = h 9 x1 → (Q 0 h))))))))) ∧ (¬ (x1 < 4) → (Q 0 h)))))) : Wd mX4_changeNumber X 0 [(2, 1), (0, x1), (0, x2)] [] h Q := by
  refine s_iload_n 1 1 rfl dX4_changeNumber_0 rfl rfl ?_
  refine s_if_lt 4 13 rfl dX4_changeNumber_1 (by decide) (fun c6 => ?_) (fun c6 => ?_)
  · replace H := H.1 c6
    refine s_iconst 14 rfl dX4_changeNumber_13 ⟨by decide, by decide⟩ ?_
    exact s_zret (S := []) dX4_changeNumber_14 rfl (Or.inl rfl) H
  · replace H := H.2 c6
    refine s_iload_n 5 1 rfl dX4_changeNumber_4 rfl rfl ?_
    refine s_aload_n 6 0 rfl dX4_changeNumber_5 rfl rfl ?_
    refine s_getf 9 1 0 rfl dX4_changeNumber_6 ck4 rfl (by decide) rfl (by decide) w69 rfl (v := (2, 9)) rfl ?_
    refine s_alenI 10 rfl dX4_changeNumber_9 ia9 ?_
    refine s_icmp_lt 13 15 rfl dX4_changeNumber_10 (by decide) (fun c5 => ?_) (fun c5 => ?_)
    · replace H := H.1 c5
      refine s_iload_n 16 2 rfl dX4_changeNumber_15 rfl rfl ?_
      refine s_gets 19 1000 "BuoyReader$Settings" "LOWEST" rfl dX4_changeNumber_16 (Or.inl ⟨rfl, rfl, rfl⟩) w369 ?_
      refine s_iload_n 20 1 rfl dX4_changeNumber_19 rfl rfl ?_
      have c0 := H.1
      replace H := H.2
      have c1 := H.1
      replace H := H.2
      refine s_xald 21 rfl dX4_changeNumber_20 (Or.inl rfl) (len := 4) (f := sx 0) rfl c0 c1 ?_
      refine s_icmp_lt 24 43 rfl dX4_changeNumber_21 (by decide) (fun c4 => ?_) (fun c4 => ?_)
      · replace H := H.1 c4
        refine s_iconst 44 rfl dX4_changeNumber_43 ⟨by decide, by decide⟩ ?_
        exact s_zret (S := []) dX4_changeNumber_44 rfl (Or.inl rfl) H
      · replace H := H.2 c4
        refine s_iload_n 25 2 rfl dX4_changeNumber_24 rfl rfl ?_
        refine s_gets 28 1001 "BuoyReader$Settings" "GREATEST" rfl dX4_changeNumber_25 (Or.inr (Or.inl ⟨rfl, rfl, rfl⟩)) w371 ?_
        refine s_iload_n 29 1 rfl dX4_changeNumber_28 rfl rfl ?_
        refine s_xald 30 rfl dX4_changeNumber_29 (Or.inr (Or.inl rfl)) (len := 4) (f := sx 1) rfl c0 c1 ?_
        refine s_icmp_gt 33 43 rfl dX4_changeNumber_30 (by decide) (fun c3 => ?_) (fun c3 => ?_)
        · replace H := H.1 c3
          refine s_iconst 44 rfl dX4_changeNumber_43 ⟨by decide, by decide⟩ ?_
          exact s_zret (S := []) dX4_changeNumber_44 rfl (Or.inl rfl) H
        · replace H := H.2 c3
          refine s_iload_n 34 2 rfl dX4_changeNumber_33 rfl rfl ?_
          refine s_aload_n 35 0 rfl dX4_changeNumber_34 rfl rfl ?_
          refine s_getf 38 1 0 rfl dX4_changeNumber_35 ck4 rfl (by decide) rfl (by decide) w69 rfl (v := (2, 9)) rfl ?_
          refine s_iload_n 39 1 rfl dX4_changeNumber_38 rfl rfl ?_
          refine s_iald 40 rfl dX4_changeNumber_39 ia9 c0 c1 (v9 := h 9 x1) rfl ?_
          refine s_icmp_ne 43 45 rfl dX4_changeNumber_40 (by decide) (fun c2 => ?_) (fun c2 => ?_)
          · replace H := H.1 c2
            refine s_aload_n 46 0 rfl dX4_changeNumber_45 rfl rfl ?_
            refine s_getf 49 1 0 rfl dX4_changeNumber_46 ck4 rfl (by decide) rfl (by decide) w69 rfl (v := (2, 9)) rfl ?_
            refine s_iload_n 50 1 rfl dX4_changeNumber_49 rfl rfl ?_
            refine s_iload_n 51 2 rfl dX4_changeNumber_50 rfl rfl ?_
            refine s_iast 52 rfl dX4_changeNumber_51 ia9 c0 c1 ?_
            refine s_iconst 53 rfl dX4_changeNumber_52 ⟨by decide, by decide⟩ ?_
            exact s_zret (S := []) dX4_changeNumber_53 rfl (Or.inr rfl) H
          · replace H := H.2 c2
            refine s_iconst 44 rfl dX4_changeNumber_43 ⟨by decide, by decide⟩ ?_
            exact s_zret (S := []) dX4_changeNumber_44 rfl (Or.inl rfl) H
    · replace H := H.2 c5
      refine s_iconst 14 rfl dX4_changeNumber_13 ⟨by decide, by decide⟩ ?_
      exact s_zret (S := []) dX4_changeNumber_14 rfl (Or.inl rfl) H
theorem vX4_changeRule_0 {X : Nat × (Int → Int)} {h : HP} {Q : Int → HP → Prop} {x1 x2 : Int} (H : ((¬ x1 = 0 → ((¬ x2 = 0 → ((x1 < 0 → (Q 0 h)) ∧ (¬ (x1 < 0) → ((2 < x1 → (Q 0 h)) ∧ (¬ (2 < x1) → (Q 0 h)))))) ∧ (x2 = 0 → ((x1 < 0 → (Q 0 h)) ∧ (¬ (x1 < 0) → ((2 < x1 → (Q 0 h)) ∧ (¬ (2 < x1) → ((¬ x1 = h 1 1 → (Q 1 (xu (xu h 1 1 x1) 1 2 x2))) ∧ (x1 = h 1 1 → ((¬ x2 = h 1 2 → (Q 1 (xu (xu h 1 1 x1) 1 2 x2))) ∧ (x2 = h 1 2 → (Q 0 h)))))))))))) ∧ (x1 = 0 → ((x2 < (-9999) → ((x1 < 0 → (Q 0 h)) ∧ (¬ (x1 < 0) → ((2 < x1 → (Q 0 h)) ∧ (¬ (2 < x1) → (Q 0 h)))))) ∧ (¬ (x2 < (-9999)) → ((9999 < x2 → ((x1 < 0 → (Q 0 h)) ∧ (¬ (x1 < 0) → ((2 < x1 → (Q 0 h)) ∧ (¬ (2 < x1) → (Q 0 h)))))) ∧ (¬ (9999 < x2) → ((x1 < 0 → (Q 0 h)) ∧ (¬ (x1 < 0) → ((2 < x1 → (Q 0 h)) ∧ (¬ (2 < x1) → ((¬ x1 = h 1 1 → (Q 1 (xu (xu h 1 1 x1) 1 2 x2))) ∧ (x1 = h 1 1 → ((¬ x2 = h 1 2 → (Q 1 (xu (xu h 1 1 x1) 1 2 x2))) ∧ (x2 = h 1 2 → (Q 0 h)))))))))))))))) : Wd mX4_changeRule X 0 [(2, 1), (0, x1), (0, x2), (9, 0)] [] h Q := by
  refine s_iload_n 1 1 rfl dX4_changeRule_0 rfl rfl ?_
  refine s_if_ne 4 26 rfl dX4_changeRule_1 (by decide) (fun c22 => ?_) (fun c22 => ?_)
  · replace H := H.1 c22
    refine s_iload_n 27 2 rfl dX4_changeRule_26 rfl rfl ?_
    refine s_if_ne 30 34 rfl dX4_changeRule_27 (by decide) (fun c8 => ?_) (fun c8 => ?_)
    · replace H := H.1 c8
      refine s_iconst 35 rfl dX4_changeRule_34 ⟨by decide, by decide⟩ ?_
      refine s_istore_n 36 3 rfl dX4_changeRule_35 rfl (by decide) (L2 := [(2, 1), (0, x1), (0, x2), (0, 0)]) rfl ?_
      refine s_iload_n 37 1 rfl dX4_changeRule_36 rfl rfl ?_
      refine s_if_lt 40 65 rfl dX4_changeRule_37 (by decide) (fun c2 => ?_) (fun c2 => ?_)
      · replace H := H.1 c2
        refine s_iconst 66 rfl dX4_changeRule_65 ⟨by decide, by decide⟩ ?_
        exact s_zret (S := []) dX4_changeRule_66 rfl (Or.inl rfl) H
      · replace H := H.2 c2
        refine s_iload_n 41 1 rfl dX4_changeRule_40 rfl rfl ?_
        refine s_iconst 42 rfl dX4_changeRule_41 ⟨by decide, by decide⟩ ?_
        refine s_icmp_gt 45 65 rfl dX4_changeRule_42 (by decide) (fun c1 => ?_) (fun c1 => ?_)
        · replace H := H.1 c1
          refine s_iconst 66 rfl dX4_changeRule_65 ⟨by decide, by decide⟩ ?_
          exact s_zret (S := []) dX4_changeRule_66 rfl (Or.inl rfl) H
        · replace H := H.2 c1
          refine s_iload_n 46 3 rfl dX4_changeRule_45 rfl rfl ?_
          refine s_if_eq 49 65 rfl dX4_changeRule_46 (by decide) (fun c0 => ?_) (fun c0 => ?_)
          · refine s_iconst 66 rfl dX4_changeRule_65 ⟨by decide, by decide⟩ ?_
            exact s_zret (S := []) dX4_changeRule_66 rfl (Or.inl rfl) H
          · exact absurd (by decide) c0
    · replace H := H.2 c8
      refine s_iconst 31 rfl dX4_changeRule_30 ⟨by decide, by decide⟩ ?_
      refine s_goto 35 dX4_changeRule_31 (by decide) ?_
      refine s_istore_n 36 3 rfl dX4_changeRule_35 rfl (by decide) (L2 := [(2, 1), (0, x1), (0, x2), (0, 1)]) rfl ?_
      refine s_iload_n 37 1 rfl dX4_changeRule_36 rfl rfl ?_
      refine s_if_lt 40 65 rfl dX4_changeRule_37 (by decide) (fun c7 => ?_) (fun c7 => ?_)
      · replace H := H.1 c7
        refine s_iconst 66 rfl dX4_changeRule_65 ⟨by decide, by decide⟩ ?_
        exact s_zret (S := []) dX4_changeRule_66 rfl (Or.inl rfl) H
      · replace H := H.2 c7
        refine s_iload_n 41 1 rfl dX4_changeRule_40 rfl rfl ?_
        refine s_iconst 42 rfl dX4_changeRule_41 ⟨by decide, by decide⟩ ?_
        refine s_icmp_gt 45 65 rfl dX4_changeRule_42 (by decide) (fun c6 => ?_) (fun c6 => ?_)
        · replace H := H.1 c6
          refine s_iconst 66 rfl dX4_changeRule_65 ⟨by decide, by decide⟩ ?_
          exact s_zret (S := []) dX4_changeRule_66 rfl (Or.inl rfl) H
        · replace H := H.2 c6
          refine s_iload_n 46 3 rfl dX4_changeRule_45 rfl rfl ?_
          refine s_if_eq 49 65 rfl dX4_changeRule_46 (by decide) (fun c3 => ?_) (fun c3 => ?_)
          · exact absurd c3 (by decide)
          · refine s_iload_n 50 1 rfl dX4_changeRule_49 rfl rfl ?_
            refine s_aload_n 51 0 rfl dX4_changeRule_50 rfl rfl ?_
            refine s_getf 54 1 1 rfl dX4_changeRule_51 ck4 rfl (by decide) rfl (by decide) w70 rfl (v := (0, h 1 1)) rfl ?_
            refine s_icmp_ne 57 67 rfl dX4_changeRule_54 (by decide) (fun c5 => ?_) (fun c5 => ?_)
            · replace H := H.1 c5
              refine s_aload_n 68 0 rfl dX4_changeRule_67 rfl rfl ?_
              refine s_iload_n 69 1 rfl dX4_changeRule_68 rfl rfl ?_
              refine s_putI 72 1 1 rfl dX4_changeRule_69 ck4 rfl (by decide) rfl (by decide) w70 rfl rfl rfl ?_
              refine s_aload_n 73 0 rfl dX4_changeRule_72 rfl rfl ?_
              refine s_iload_n 74 2 rfl dX4_changeRule_73 rfl rfl ?_
              refine s_putI 77 1 2 rfl dX4_changeRule_74 ck4 rfl (by decide) rfl (by decide) w73 rfl rfl rfl ?_
              refine s_iconst 78 rfl dX4_changeRule_77 ⟨by decide, by decide⟩ ?_
              exact s_zret (S := []) dX4_changeRule_78 rfl (Or.inr rfl) H
            · replace H := H.2 c5
              refine s_iload_n 58 2 rfl dX4_changeRule_57 rfl rfl ?_
              refine s_aload_n 59 0 rfl dX4_changeRule_58 rfl rfl ?_
              refine s_getf 62 1 2 rfl dX4_changeRule_59 ck4 rfl (by decide) rfl (by decide) w73 rfl (v := (0, h 1 2)) rfl ?_
              refine s_icmp_ne 65 67 rfl dX4_changeRule_62 (by decide) (fun c4 => ?_) (fun c4 => ?_)
              · replace H := H.1 c4
                refine s_aload_n 68 0 rfl dX4_changeRule_67 rfl rfl ?_
                refine s_iload_n 69 1 rfl dX4_changeRule_68 rfl rfl ?_
                refine s_putI 72 1 1 rfl dX4_changeRule_69 ck4 rfl (by decide) rfl (by decide) w70 rfl rfl rfl ?_
                refine s_aload_n 73 0 rfl dX4_changeRule_72 rfl rfl ?_
                refine s_iload_n 74 2 rfl dX4_changeRule_73 rfl rfl ?_
                refine s_putI 77 1 2 rfl dX4_changeRule_74 ck4 rfl (by decide) rfl (by decide) w73 rfl rfl rfl ?_
                refine s_iconst 78 rfl dX4_changeRule_77 ⟨by decide, by decide⟩ ?_
                exact s_zret (S := []) dX4_changeRule_78 rfl (Or.inr rfl) H
              · replace H := H.2 c4
                refine s_iconst 66 rfl dX4_changeRule_65 ⟨by decide, by decide⟩ ?_
                exact s_zret (S := []) dX4_changeRule_66 rfl (Or.inl rfl) H
  · replace H := H.2 c22
    refine s_iload_n 5 2 rfl dX4_changeRule_4 rfl rfl ?_
    refine s_sipush 8 rfl dX4_changeRule_5 (by decide) ⟨by decide, by decide⟩ ?_
    refine s_icmp_lt 11 22 rfl dX4_changeRule_8 (by decide) (fun c21 => ?_) (fun c21 => ?_)
    · replace H := H.1 c21
      refine s_iconst 23 rfl dX4_changeRule_22 ⟨by decide, by decide⟩ ?_
      refine s_goto 35 dX4_changeRule_23 (by decide) ?_
      refine s_istore_n 36 3 rfl dX4_changeRule_35 rfl (by decide) (L2 := [(2, 1), (0, x1), (0, x2), (0, 0)]) rfl ?_
      refine s_iload_n 37 1 rfl dX4_changeRule_36 rfl rfl ?_
      refine s_if_lt 40 65 rfl dX4_changeRule_37 (by decide) (fun c11 => ?_) (fun c11 => ?_)
      · replace H := H.1 c11
        refine s_iconst 66 rfl dX4_changeRule_65 ⟨by decide, by decide⟩ ?_
        exact s_zret (S := []) dX4_changeRule_66 rfl (Or.inl rfl) H
      · replace H := H.2 c11
        refine s_iload_n 41 1 rfl dX4_changeRule_40 rfl rfl ?_
        refine s_iconst 42 rfl dX4_changeRule_41 ⟨by decide, by decide⟩ ?_
        refine s_icmp_gt 45 65 rfl dX4_changeRule_42 (by decide) (fun c10 => ?_) (fun c10 => ?_)
        · replace H := H.1 c10
          refine s_iconst 66 rfl dX4_changeRule_65 ⟨by decide, by decide⟩ ?_
          exact s_zret (S := []) dX4_changeRule_66 rfl (Or.inl rfl) H
        · replace H := H.2 c10
          refine s_iload_n 46 3 rfl dX4_changeRule_45 rfl rfl ?_
          refine s_if_eq 49 65 rfl dX4_changeRule_46 (by decide) (fun c9 => ?_) (fun c9 => ?_)
          · refine s_iconst 66 rfl dX4_changeRule_65 ⟨by decide, by decide⟩ ?_
            exact s_zret (S := []) dX4_changeRule_66 rfl (Or.inl rfl) H
          · exact absurd (by decide) c9
    · replace H := H.2 c21
      refine s_iload_n 12 2 rfl dX4_changeRule_11 rfl rfl ?_
      refine s_sipush 15 rfl dX4_changeRule_12 (by decide) ⟨by decide, by decide⟩ ?_
      refine s_icmp_gt 18 22 rfl dX4_changeRule_15 (by decide) (fun c20 => ?_) (fun c20 => ?_)
      · replace H := H.1 c20
        refine s_iconst 23 rfl dX4_changeRule_22 ⟨by decide, by decide⟩ ?_
        refine s_goto 35 dX4_changeRule_23 (by decide) ?_
        refine s_istore_n 36 3 rfl dX4_changeRule_35 rfl (by decide) (L2 := [(2, 1), (0, x1), (0, x2), (0, 0)]) rfl ?_
        refine s_iload_n 37 1 rfl dX4_changeRule_36 rfl rfl ?_
        refine s_if_lt 40 65 rfl dX4_changeRule_37 (by decide) (fun c14 => ?_) (fun c14 => ?_)
        · replace H := H.1 c14
          refine s_iconst 66 rfl dX4_changeRule_65 ⟨by decide, by decide⟩ ?_
          exact s_zret (S := []) dX4_changeRule_66 rfl (Or.inl rfl) H
        · replace H := H.2 c14
          refine s_iload_n 41 1 rfl dX4_changeRule_40 rfl rfl ?_
          refine s_iconst 42 rfl dX4_changeRule_41 ⟨by decide, by decide⟩ ?_
          refine s_icmp_gt 45 65 rfl dX4_changeRule_42 (by decide) (fun c13 => ?_) (fun c13 => ?_)
          · replace H := H.1 c13
            refine s_iconst 66 rfl dX4_changeRule_65 ⟨by decide, by decide⟩ ?_
            exact s_zret (S := []) dX4_changeRule_66 rfl (Or.inl rfl) H
          · replace H := H.2 c13
            refine s_iload_n 46 3 rfl dX4_changeRule_45 rfl rfl ?_
            refine s_if_eq 49 65 rfl dX4_changeRule_46 (by decide) (fun c12 => ?_) (fun c12 => ?_)
            · refine s_iconst 66 rfl dX4_changeRule_65 ⟨by decide, by decide⟩ ?_
              exact s_zret (S := []) dX4_changeRule_66 rfl (Or.inl rfl) H
            · exact absurd (by decide) c12
      · replace H := H.2 c20
        refine s_iconst 19 rfl dX4_changeRule_18 ⟨by decide, by decide⟩ ?_
        refine s_goto 35 dX4_changeRule_19 (by decide) ?_
        refine s_istore_n 36 3 rfl dX4_changeRule_35 rfl (by decide) (L2 := [(2, 1), (0, x1), (0, x2), (0, 1)]) rfl ?_
        refine s_iload_n 37 1 rfl dX4_changeRule_36 rfl rfl ?_
        refine s_if_lt 40 65 rfl dX4_changeRule_37 (by decide) (fun c19 => ?_) (fun c19 => ?_)
        · replace H := H.1 c19
          refine s_iconst 66 rfl dX4_changeRule_65 ⟨by decide, by decide⟩ ?_
          exact s_zret (S := []) dX4_changeRule_66 rfl (Or.inl rfl) H
        · replace H := H.2 c19
          refine s_iload_n 41 1 rfl dX4_changeRule_40 rfl rfl ?_
          refine s_iconst 42 rfl dX4_changeRule_41 ⟨by decide, by decide⟩ ?_
          refine s_icmp_gt 45 65 rfl dX4_changeRule_42 (by decide) (fun c18 => ?_) (fun c18 => ?_)
          · replace H := H.1 c18
            refine s_iconst 66 rfl dX4_changeRule_65 ⟨by decide, by decide⟩ ?_
            exact s_zret (S := []) dX4_changeRule_66 rfl (Or.inl rfl) H
          · replace H := H.2 c18
            refine s_iload_n 46 3 rfl dX4_changeRule_45 rfl rfl ?_
            refine s_if_eq 49 65 rfl dX4_changeRule_46 (by decide) (fun c15 => ?_) (fun c15 => ?_)
            · exact absurd c15 (by decide)
            · refine s_iload_n 50 1 rfl dX4_changeRule_49 rfl rfl ?_
              refine s_aload_n 51 0 rfl dX4_changeRule_50 rfl rfl ?_
              refine s_getf 54 1 1 rfl dX4_changeRule_51 ck4 rfl (by decide) rfl (by decide) w70 rfl (v := (0, h 1 1)) rfl ?_
              refine s_icmp_ne 57 67 rfl dX4_changeRule_54 (by decide) (fun c17 => ?_) (fun c17 => ?_)
              · replace H := H.1 c17
                refine s_aload_n 68 0 rfl dX4_changeRule_67 rfl rfl ?_
                refine s_iload_n 69 1 rfl dX4_changeRule_68 rfl rfl ?_
                refine s_putI 72 1 1 rfl dX4_changeRule_69 ck4 rfl (by decide) rfl (by decide) w70 rfl rfl rfl ?_
                refine s_aload_n 73 0 rfl dX4_changeRule_72 rfl rfl ?_
                refine s_iload_n 74 2 rfl dX4_changeRule_73 rfl rfl ?_
                refine s_putI 77 1 2 rfl dX4_changeRule_74 ck4 rfl (by decide) rfl (by decide) w73 rfl rfl rfl ?_
                refine s_iconst 78 rfl dX4_changeRule_77 ⟨by decide, by decide⟩ ?_
                exact s_zret (S := []) dX4_changeRule_78 rfl (Or.inr rfl) H
              · replace H := H.2 c17
                refine s_iload_n 58 2 rfl dX4_changeRule_57 rfl rfl ?_
                refine s_aload_n 59 0 rfl dX4_changeRule_58 rfl rfl ?_
                refine s_getf 62 1 2 rfl dX4_changeRule_59 ck4 rfl (by decide) rfl (by decide) w73 rfl (v := (0, h 1 2)) rfl ?_
                refine s_icmp_ne 65 67 rfl dX4_changeRule_62 (by decide) (fun c16 => ?_) (fun c16 => ?_)
                · replace H := H.1 c16
                  refine s_aload_n 68 0 rfl dX4_changeRule_67 rfl rfl ?_
                  refine s_iload_n 69 1 rfl dX4_changeRule_68 rfl rfl ?_
                  refine s_putI 72 1 1 rfl dX4_changeRule_69 ck4 rfl (by decide) rfl (by decide) w70 rfl rfl rfl ?_
                  refine s_aload_n 73 0 rfl dX4_changeRule_72 rfl rfl ?_
                  refine s_iload_n 74 2 rfl dX4_changeRule_73 rfl rfl ?_
                  refine s_putI 77 1 2 rfl dX4_changeRule_74 ck4 rfl (by decide) rfl (by decide) w73 rfl rfl rfl ?_
                  refine s_iconst 78 rfl dX4_changeRule_77 ⟨by decide, by decide⟩ ?_
                  exact s_zret (S := []) dX4_changeRule_78 rfl (Or.inr rfl) H
                · replace H := H.2 c16
                  refine s_iconst 66 rfl dX4_changeRule_65 ⟨by decide, by decide⟩ ?_
                  exact s_zret (S := []) dX4_changeRule_66 rfl (Or.inl rfl) H
theorem vX4_changeMark_0 {X : Nat × (Int → Int)} {h : HP} {Q : Int → HP → Prop} {x1 x2 : Int} (H : ((¬ x1 = 0 → ((¬ x2 = 0 → ((x1 < 0 → (Q 0 h)) ∧ (¬ (x1 < 0) → ((3 < x1 → (Q 0 h)) ∧ (¬ (3 < x1) → (Q 0 h)))))) ∧ (x2 = 0 → ((x1 < 0 → (Q 0 h)) ∧ (¬ (x1 < 0) → ((3 < x1 → (Q 0 h)) ∧ (¬ (3 < x1) → ((¬ x1 = h 1 3 → (Q 1 (xu (xu h 1 3 x1) 1 4 x2))) ∧ (x1 = h 1 3 → ((¬ x2 = h 1 4 → (Q 1 (xu (xu h 1 3 x1) 1 4 x2))) ∧ (x2 = h 1 4 → (Q 0 h)))))))))))) ∧ (x1 = 0 → ((x2 < 0 → ((x1 < 0 → (Q 0 h)) ∧ (¬ (x1 < 0) → ((3 < x1 → (Q 0 h)) ∧ (¬ (3 < x1) → (Q 0 h)))))) ∧ (¬ (x2 < 0) → ((99999 < x2 → ((x1 < 0 → (Q 0 h)) ∧ (¬ (x1 < 0) → ((3 < x1 → (Q 0 h)) ∧ (¬ (3 < x1) → (Q 0 h)))))) ∧ (¬ (99999 < x2) → ((x1 < 0 → (Q 0 h)) ∧ (¬ (x1 < 0) → ((3 < x1 → (Q 0 h)) ∧ (¬ (3 < x1) → ((¬ x1 = h 1 3 → (Q 1 (xu (xu h 1 3 x1) 1 4 x2))) ∧ (x1 = h 1 3 → ((¬ x2 = h 1 4 → (Q 1 (xu (xu h 1 3 x1) 1 4 x2))) ∧ (x2 = h 1 4 → (Q 0 h)))))))))))))))) : Wd mX4_changeMark X 0 [(2, 1), (0, x1), (0, x2), (9, 0)] [] h Q := by
  refine s_iload_n 1 1 rfl dX4_changeMark_0 rfl rfl ?_
  refine s_if_ne 4 22 rfl dX4_changeMark_1 (by decide) (fun c22 => ?_) (fun c22 => ?_)
  · replace H := H.1 c22
    refine s_iload_n 23 2 rfl dX4_changeMark_22 rfl rfl ?_
    refine s_if_ne 26 30 rfl dX4_changeMark_23 (by decide) (fun c8 => ?_) (fun c8 => ?_)
    · replace H := H.1 c8
      refine s_iconst 31 rfl dX4_changeMark_30 ⟨by decide, by decide⟩ ?_
      refine s_istore_n 32 3 rfl dX4_changeMark_31 rfl (by decide) (L2 := [(2, 1), (0, x1), (0, x2), (0, 0)]) rfl ?_
      refine s_iload_n 33 1 rfl dX4_changeMark_32 rfl rfl ?_
      refine s_if_lt 36 61 rfl dX4_changeMark_33 (by decide) (fun c2 => ?_) (fun c2 => ?_)
      · replace H := H.1 c2
        refine s_iconst 62 rfl dX4_changeMark_61 ⟨by decide, by decide⟩ ?_
        exact s_zret (S := []) dX4_changeMark_62 rfl (Or.inl rfl) H
      · replace H := H.2 c2
        refine s_iload_n 37 1 rfl dX4_changeMark_36 rfl rfl ?_
        refine s_iconst 38 rfl dX4_changeMark_37 ⟨by decide, by decide⟩ ?_
        refine s_icmp_gt 41 61 rfl dX4_changeMark_38 (by decide) (fun c1 => ?_) (fun c1 => ?_)
        · replace H := H.1 c1
          refine s_iconst 62 rfl dX4_changeMark_61 ⟨by decide, by decide⟩ ?_
          exact s_zret (S := []) dX4_changeMark_62 rfl (Or.inl rfl) H
        · replace H := H.2 c1
          refine s_iload_n 42 3 rfl dX4_changeMark_41 rfl rfl ?_
          refine s_if_eq 45 61 rfl dX4_changeMark_42 (by decide) (fun c0 => ?_) (fun c0 => ?_)
          · refine s_iconst 62 rfl dX4_changeMark_61 ⟨by decide, by decide⟩ ?_
            exact s_zret (S := []) dX4_changeMark_62 rfl (Or.inl rfl) H
          · exact absurd (by decide) c0
    · replace H := H.2 c8
      refine s_iconst 27 rfl dX4_changeMark_26 ⟨by decide, by decide⟩ ?_
      refine s_goto 31 dX4_changeMark_27 (by decide) ?_
      refine s_istore_n 32 3 rfl dX4_changeMark_31 rfl (by decide) (L2 := [(2, 1), (0, x1), (0, x2), (0, 1)]) rfl ?_
      refine s_iload_n 33 1 rfl dX4_changeMark_32 rfl rfl ?_
      refine s_if_lt 36 61 rfl dX4_changeMark_33 (by decide) (fun c7 => ?_) (fun c7 => ?_)
      · replace H := H.1 c7
        refine s_iconst 62 rfl dX4_changeMark_61 ⟨by decide, by decide⟩ ?_
        exact s_zret (S := []) dX4_changeMark_62 rfl (Or.inl rfl) H
      · replace H := H.2 c7
        refine s_iload_n 37 1 rfl dX4_changeMark_36 rfl rfl ?_
        refine s_iconst 38 rfl dX4_changeMark_37 ⟨by decide, by decide⟩ ?_
        refine s_icmp_gt 41 61 rfl dX4_changeMark_38 (by decide) (fun c6 => ?_) (fun c6 => ?_)
        · replace H := H.1 c6
          refine s_iconst 62 rfl dX4_changeMark_61 ⟨by decide, by decide⟩ ?_
          exact s_zret (S := []) dX4_changeMark_62 rfl (Or.inl rfl) H
        · replace H := H.2 c6
          refine s_iload_n 42 3 rfl dX4_changeMark_41 rfl rfl ?_
          refine s_if_eq 45 61 rfl dX4_changeMark_42 (by decide) (fun c3 => ?_) (fun c3 => ?_)
          · exact absurd c3 (by decide)
          · refine s_iload_n 46 1 rfl dX4_changeMark_45 rfl rfl ?_
            refine s_aload_n 47 0 rfl dX4_changeMark_46 rfl rfl ?_
            refine s_getf 50 1 3 rfl dX4_changeMark_47 ck4 rfl (by decide) rfl (by decide) w76 rfl (v := (0, h 1 3)) rfl ?_
            refine s_icmp_ne 53 63 rfl dX4_changeMark_50 (by decide) (fun c5 => ?_) (fun c5 => ?_)
            · replace H := H.1 c5
              refine s_aload_n 64 0 rfl dX4_changeMark_63 rfl rfl ?_
              refine s_iload_n 65 1 rfl dX4_changeMark_64 rfl rfl ?_
              refine s_putI 68 1 3 rfl dX4_changeMark_65 ck4 rfl (by decide) rfl (by decide) w76 rfl rfl rfl ?_
              refine s_aload_n 69 0 rfl dX4_changeMark_68 rfl rfl ?_
              refine s_iload_n 70 2 rfl dX4_changeMark_69 rfl rfl ?_
              refine s_putI 73 1 4 rfl dX4_changeMark_70 ck4 rfl (by decide) rfl (by decide) w79 rfl rfl rfl ?_
              refine s_iconst 74 rfl dX4_changeMark_73 ⟨by decide, by decide⟩ ?_
              exact s_zret (S := []) dX4_changeMark_74 rfl (Or.inr rfl) H
            · replace H := H.2 c5
              refine s_iload_n 54 2 rfl dX4_changeMark_53 rfl rfl ?_
              refine s_aload_n 55 0 rfl dX4_changeMark_54 rfl rfl ?_
              refine s_getf 58 1 4 rfl dX4_changeMark_55 ck4 rfl (by decide) rfl (by decide) w79 rfl (v := (0, h 1 4)) rfl ?_
              refine s_icmp_ne 61 63 rfl dX4_changeMark_58 (by decide) (fun c4 => ?_) (fun c4 => ?_)
              · replace H := H.1 c4
                refine s_aload_n 64 0 rfl dX4_changeMark_63 rfl rfl ?_
                refine s_iload_n 65 1 rfl dX4_changeMark_64 rfl rfl ?_
                refine s_putI 68 1 3 rfl dX4_changeMark_65 ck4 rfl (by decide) rfl (by decide) w76 rfl rfl rfl ?_
                refine s_aload_n 69 0 rfl dX4_changeMark_68 rfl rfl ?_
                refine s_iload_n 70 2 rfl dX4_changeMark_69 rfl rfl ?_
                refine s_putI 73 1 4 rfl dX4_changeMark_70 ck4 rfl (by decide) rfl (by decide) w79 rfl rfl rfl ?_
                refine s_iconst 74 rfl dX4_changeMark_73 ⟨by decide, by decide⟩ ?_
                exact s_zret (S := []) dX4_changeMark_74 rfl (Or.inr rfl) H
              · replace H := H.2 c4
                refine s_iconst 62 rfl dX4_changeMark_61 ⟨by decide, by decide⟩ ?_
                exact s_zret (S := []) dX4_changeMark_62 rfl (Or.inl rfl) H
  · replace H := H.2 c22
    refine s_iload_n 5 2 rfl dX4_changeMark_4 rfl rfl ?_
    refine s_if_lt 8 18 rfl dX4_changeMark_5 (by decide) (fun c21 => ?_) (fun c21 => ?_)
    · replace H := H.1 c21
      refine s_iconst 19 rfl dX4_changeMark_18 ⟨by decide, by decide⟩ ?_
      refine s_goto 31 dX4_changeMark_19 (by decide) ?_
      refine s_istore_n 32 3 rfl dX4_changeMark_31 rfl (by decide) (L2 := [(2, 1), (0, x1), (0, x2), (0, 0)]) rfl ?_
      refine s_iload_n 33 1 rfl dX4_changeMark_32 rfl rfl ?_
      refine s_if_lt 36 61 rfl dX4_changeMark_33 (by decide) (fun c11 => ?_) (fun c11 => ?_)
      · replace H := H.1 c11
        refine s_iconst 62 rfl dX4_changeMark_61 ⟨by decide, by decide⟩ ?_
        exact s_zret (S := []) dX4_changeMark_62 rfl (Or.inl rfl) H
      · replace H := H.2 c11
        refine s_iload_n 37 1 rfl dX4_changeMark_36 rfl rfl ?_
        refine s_iconst 38 rfl dX4_changeMark_37 ⟨by decide, by decide⟩ ?_
        refine s_icmp_gt 41 61 rfl dX4_changeMark_38 (by decide) (fun c10 => ?_) (fun c10 => ?_)
        · replace H := H.1 c10
          refine s_iconst 62 rfl dX4_changeMark_61 ⟨by decide, by decide⟩ ?_
          exact s_zret (S := []) dX4_changeMark_62 rfl (Or.inl rfl) H
        · replace H := H.2 c10
          refine s_iload_n 42 3 rfl dX4_changeMark_41 rfl rfl ?_
          refine s_if_eq 45 61 rfl dX4_changeMark_42 (by decide) (fun c9 => ?_) (fun c9 => ?_)
          · refine s_iconst 62 rfl dX4_changeMark_61 ⟨by decide, by decide⟩ ?_
            exact s_zret (S := []) dX4_changeMark_62 rfl (Or.inl rfl) H
          · exact absurd (by decide) c9
    · replace H := H.2 c21
      refine s_iload_n 9 2 rfl dX4_changeMark_8 rfl rfl ?_
      refine s_ldc 11 99999 rfl dX4_changeMark_9 w393 ⟨by decide, by decide⟩ ?_
      refine s_icmp_gt 14 18 rfl dX4_changeMark_11 (by decide) (fun c20 => ?_) (fun c20 => ?_)
      · replace H := H.1 c20
        refine s_iconst 19 rfl dX4_changeMark_18 ⟨by decide, by decide⟩ ?_
        refine s_goto 31 dX4_changeMark_19 (by decide) ?_
        refine s_istore_n 32 3 rfl dX4_changeMark_31 rfl (by decide) (L2 := [(2, 1), (0, x1), (0, x2), (0, 0)]) rfl ?_
        refine s_iload_n 33 1 rfl dX4_changeMark_32 rfl rfl ?_
        refine s_if_lt 36 61 rfl dX4_changeMark_33 (by decide) (fun c14 => ?_) (fun c14 => ?_)
        · replace H := H.1 c14
          refine s_iconst 62 rfl dX4_changeMark_61 ⟨by decide, by decide⟩ ?_
          exact s_zret (S := []) dX4_changeMark_62 rfl (Or.inl rfl) H
        · replace H := H.2 c14
          refine s_iload_n 37 1 rfl dX4_changeMark_36 rfl rfl ?_
          refine s_iconst 38 rfl dX4_changeMark_37 ⟨by decide, by decide⟩ ?_
          refine s_icmp_gt 41 61 rfl dX4_changeMark_38 (by decide) (fun c13 => ?_) (fun c13 => ?_)
          · replace H := H.1 c13
            refine s_iconst 62 rfl dX4_changeMark_61 ⟨by decide, by decide⟩ ?_
            exact s_zret (S := []) dX4_changeMark_62 rfl (Or.inl rfl) H
          · replace H := H.2 c13
            refine s_iload_n 42 3 rfl dX4_changeMark_41 rfl rfl ?_
            refine s_if_eq 45 61 rfl dX4_changeMark_42 (by decide) (fun c12 => ?_) (fun c12 => ?_)
            · refine s_iconst 62 rfl dX4_changeMark_61 ⟨by decide, by decide⟩ ?_
              exact s_zret (S := []) dX4_changeMark_62 rfl (Or.inl rfl) H
            · exact absurd (by decide) c12
      · replace H := H.2 c20
        refine s_iconst 15 rfl dX4_changeMark_14 ⟨by decide, by decide⟩ ?_
        refine s_goto 31 dX4_changeMark_15 (by decide) ?_
        refine s_istore_n 32 3 rfl dX4_changeMark_31 rfl (by decide) (L2 := [(2, 1), (0, x1), (0, x2), (0, 1)]) rfl ?_
        refine s_iload_n 33 1 rfl dX4_changeMark_32 rfl rfl ?_
        refine s_if_lt 36 61 rfl dX4_changeMark_33 (by decide) (fun c19 => ?_) (fun c19 => ?_)
        · replace H := H.1 c19
          refine s_iconst 62 rfl dX4_changeMark_61 ⟨by decide, by decide⟩ ?_
          exact s_zret (S := []) dX4_changeMark_62 rfl (Or.inl rfl) H
        · replace H := H.2 c19
          refine s_iload_n 37 1 rfl dX4_changeMark_36 rfl rfl ?_
          refine s_iconst 38 rfl dX4_changeMark_37 ⟨by decide, by decide⟩ ?_
          refine s_icmp_gt 41 61 rfl dX4_changeMark_38 (by decide) (fun c18 => ?_) (fun c18 => ?_)
          · replace H := H.1 c18
            refine s_iconst 62 rfl dX4_changeMark_61 ⟨by decide, by decide⟩ ?_
            exact s_zret (S := []) dX4_changeMark_62 rfl (Or.inl rfl) H
          · replace H := H.2 c18
            refine s_iload_n 42 3 rfl dX4_changeMark_41 rfl rfl ?_
            refine s_if_eq 45 61 rfl dX4_changeMark_42 (by decide) (fun c15 => ?_) (fun c15 => ?_)
            · exact absurd c15 (by decide)
            · refine s_iload_n 46 1 rfl dX4_changeMark_45 rfl rfl ?_
              refine s_aload_n 47 0 rfl dX4_changeMark_46 rfl rfl ?_
              refine s_getf 50 1 3 rfl dX4_changeMark_47 ck4 rfl (by decide) rfl (by decide) w76 rfl (v := (0, h 1 3)) rfl ?_
              refine s_icmp_ne 53 63 rfl dX4_changeMark_50 (by decide) (fun c17 => ?_) (fun c17 => ?_)
              · replace H := H.1 c17
                refine s_aload_n 64 0 rfl dX4_changeMark_63 rfl rfl ?_
                refine s_iload_n 65 1 rfl dX4_changeMark_64 rfl rfl ?_
                refine s_putI 68 1 3 rfl dX4_changeMark_65 ck4 rfl (by decide) rfl (by decide) w76 rfl rfl rfl ?_
                refine s_aload_n 69 0 rfl dX4_changeMark_68 rfl rfl ?_
                refine s_iload_n 70 2 rfl dX4_changeMark_69 rfl rfl ?_
                refine s_putI 73 1 4 rfl dX4_changeMark_70 ck4 rfl (by decide) rfl (by decide) w79 rfl rfl rfl ?_
                refine s_iconst 74 rfl dX4_changeMark_73 ⟨by decide, by decide⟩ ?_
                exact s_zret (S := []) dX4_changeMark_74 rfl (Or.inr rfl) H
              · replace H := H.2 c17
                refine s_iload_n 54 2 rfl dX4_changeMark_53 rfl rfl ?_
                refine s_aload_n 55 0 rfl dX4_changeMark_54 rfl rfl ?_
                refine s_getf 58 1 4 rfl dX4_changeMark_55 ck4 rfl (by decide) rfl (by decide) w79 rfl (v := (0, h 1 4)) rfl ?_
                refine s_icmp_ne 61 63 rfl dX4_changeMark_58 (by decide) (fun c16 => ?_) (fun c16 => ?_)
                · replace H := H.1 c16
                  refine s_aload_n 64 0 rfl dX4_changeMark_63 rfl rfl ?_
                  refine s_iload_n 65 1 rfl dX4_changeMark_64 rfl rfl ?_
                  refine s_putI 68 1 3 rfl dX4_changeMark_65 ck4 rfl (by decide) rfl (by decide) w76 rfl rfl rfl ?_
                  refine s_aload_n 69 0 rfl dX4_changeMark_68 rfl rfl ?_
                  refine s_iload_n 70 2 rfl dX4_changeMark_69 rfl rfl ?_
                  refine s_putI 73 1 4 rfl dX4_changeMark_70 ck4 rfl (by decide) rfl (by decide) w79 rfl rfl rfl ?_
                  refine s_iconst 74 rfl dX4_changeMark_73 ⟨by decide, by decide⟩ ?_
                  exact s_zret (S := []) dX4_changeMark_74 rfl (Or.inr rfl) H
                · replace H := H.2 c16
                  refine s_iconst 62 rfl dX4_changeMark_61 ⟨by decide, by decide⟩ ?_
                  exact s_zret (S := []) dX4_changeMark_62 rfl (Or.inl rfl) H
