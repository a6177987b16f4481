/-! the law: its words, and the formula of its loop -/
theorem w334 : Cond.methodLink RL 13 yX8_heave ∈ gtbl := gm 334 (by decide +kernel) rfl
theorem w335 : Cond.instanceMethod yX8_heave ∈ gtbl := gm 335 (by decide +kernel) rfl
theorem w336 : Cond.selects RX8 yX8_heave yX8_heave ∈ gtbl := gm 336 (by decide +kernel) rfl
theorem w349 : Cond.methodLink RL 20 yX8_four ∈ gtbl := gm 349 (by decide +kernel) rfl
theorem w350 : Cond.instanceMethod yX8_four ∈ gtbl := gm 350 (by decide +kernel) rfl
theorem w351 : Cond.selects RX8 yX8_four yX8_four ∈ gtbl := gm 351 (by decide +kernel) rfl
theorem w353 : Cond.methodLink RL 25 yX8_forget ∈ gtbl := gm 353 (by decide +kernel) rfl
theorem w354 : Cond.instanceMethod yX8_forget ∈ gtbl := gm 354 (by decide +kernel) rfl
theorem w355 : Cond.selects RX8 yX8_forget yX8_forget ∈ gtbl := gm 355 (by decide +kernel) rfl
theorem w361 : Cond.methodLink RL 29 yX8_set ∈ gtbl := gm 361 (by decide +kernel) rfl
theorem w362 : Cond.instanceMethod yX8_set ∈ gtbl := gm 362 (by decide +kernel) rfl
theorem w363 : Cond.selects RX8 yX8_set yX8_set ∈ gtbl := gm 363 (by decide +kernel) rfl
theorem w377 : Cond.methodLink RL 34 yX8_level ∈ gtbl := gm 377 (by decide +kernel) rfl
theorem w378 : Cond.instanceMethod yX8_level ∈ gtbl := gm 378 (by decide +kernel) rfl
theorem w379 : Cond.selects RX8 yX8_level yX8_level ∈ gtbl := gm 379 (by decide +kernel) rfl
theorem w385 : Cond.methodLink RL 38 yX8_mark ∈ gtbl := gm 385 (by decide +kernel) rfl
theorem w386 : Cond.instanceMethod yX8_mark ∈ gtbl := gm 386 (by decide +kernel) rfl
theorem w387 : Cond.selects RX8 yX8_mark yX8_mark ∈ gtbl := gm 387 (by decide +kernel) rfl
theorem w394 : Cond.methodLink RL 42 yX8_lens ∈ gtbl := gm 394 (by decide +kernel) rfl
theorem w395 : Cond.instanceMethod yX8_lens ∈ gtbl := gm 395 (by decide +kernel) rfl
theorem w396 : Cond.selects RX8 yX8_lens yX8_lens ∈ gtbl := gm 396 (by decide +kernel) rfl
theorem w409 : Cond.methodLink RL 47 yX8_off ∈ gtbl := gm 409 (by decide +kernel) rfl
theorem w410 : Cond.instanceMethod yX8_off ∈ gtbl := gm 410 (by decide +kernel) rfl
theorem w411 : Cond.selects RX8 yX8_off yX8_off ∈ gtbl := gm 411 (by decide +kernel) rfl
theorem w417 : Cond.methodLink RL 52 yX8_count ∈ gtbl := gm 417 (by decide +kernel) rfl
theorem w418 : Cond.instanceMethod yX8_count ∈ gtbl := gm 418 (by decide +kernel) rfl
theorem w419 : Cond.selects RX8 yX8_count yX8_count ∈ gtbl := gm 419 (by decide +kernel) rfl
theorem w594 : Cond.methodLink RL 56 yX8_sample ∈ gtbl := gm 594 (by decide +kernel) rfl
theorem w595 : Cond.instanceMethod yX8_sample ∈ gtbl := gm 595 (by decide +kernel) rfl
theorem w596 : Cond.selects RX8 yX8_sample yX8_sample ∈ gtbl := gm 596 (by decide +kernel) rfl
theorem w611 : Cond.methodLink RL 60 yX8_through ∈ gtbl := gm 611 (by decide +kernel) rfl
theorem w612 : Cond.instanceMethod yX8_through ∈ gtbl := gm 612 (by decide +kernel) rfl
theorem w613 : Cond.selects RX8 yX8_through yX8_through ∈ gtbl := gm 613 (by decide +kernel) rfl
theorem w615 : Cond.methodLink RL 64 yX8_stretch ∈ gtbl := gm 615 (by decide +kernel) rfl
theorem w616 : Cond.instanceMethod yX8_stretch ∈ gtbl := gm 616 (by decide +kernel) rfl
theorem w617 : Cond.selects RX8 yX8_stretch yX8_stretch ∈ gtbl := gm 617 (by decide +kernel) rfl
theorem w626 : Cond.methodLink RL 68 yX8_wave ∈ gtbl := gm 626 (by decide +kernel) rfl
theorem w627 : Cond.instanceMethod yX8_wave ∈ gtbl := gm 627 (by decide +kernel) rfl
theorem w628 : Cond.selects RX8 yX8_wave yX8_wave ∈ gtbl := gm 628 (by decide +kernel) rfl
theorem w644 : Cond.methodLink RL 72 yX8_ranked ∈ gtbl := gm 644 (by decide +kernel) rfl
theorem w645 : Cond.instanceMethod yX8_ranked ∈ gtbl := gm 645 (by decide +kernel) rfl
theorem w646 : Cond.selects RX8 yX8_ranked yX8_ranked ∈ gtbl := gm 646 (by decide +kernel) rfl
theorem w648 : Cond.methodLink RL 76 yX8_highest ∈ gtbl := gm 648 (by decide +kernel) rfl
theorem w649 : Cond.instanceMethod yX8_highest ∈ gtbl := gm 649 (by decide +kernel) rfl
theorem w650 : Cond.selects RX8 yX8_highest yX8_highest ∈ gtbl := gm 650 (by decide +kernel) rfl
theorem w662 : Cond.methodLink RL 80 yX8_freak ∈ gtbl := gm 662 (by decide +kernel) rfl
theorem w663 : Cond.instanceMethod yX8_freak ∈ gtbl := gm 663 (by decide +kernel) rfl
theorem w664 : Cond.selects RX8 yX8_freak yX8_freak ∈ gtbl := gm 664 (by decide +kernel) rfl
theorem w666 : Cond.methodLink RL 84 yX8_group ∈ gtbl := gm 666 (by decide +kernel) rfl
theorem w667 : Cond.instanceMethod yX8_group ∈ gtbl := gm 667 (by decide +kernel) rfl
theorem w668 : Cond.selects RX8 yX8_group yX8_group ∈ gtbl := gm 668 (by decide +kernel) rfl
theorem w678 : Cond.methodLink RL 88 yX8_energy ∈ gtbl := gm 678 (by decide +kernel) rfl
theorem w679 : Cond.instanceMethod yX8_energy ∈ gtbl := gm 679 (by decide +kernel) rfl
theorem w680 : Cond.selects RX8 yX8_energy yX8_energy ∈ gtbl := gm 680 (by decide +kernel) rfl
theorem w687 : Cond.methodLink RL 93 yX8_name ∈ gtbl := gm 687 (by decide +kernel) rfl
theorem w688 : Cond.instanceMethod yX8_name ∈ gtbl := gm 688 (by decide +kernel) rfl
theorem w689 : Cond.selects RX8 yX8_name yX8_name ∈ gtbl := gm 689 (by decide +kernel) rfl
theorem w695 : Cond.methodLink RL 97 yX8_unname ∈ gtbl := gm 695 (by decide +kernel) rfl
theorem w696 : Cond.instanceMethod yX8_unname ∈ gtbl := gm 696 (by decide +kernel) rfl
theorem w697 : Cond.selects RX8 yX8_unname yX8_unname ∈ gtbl := gm 697 (by decide +kernel) rfl
theorem w699 : Cond.methodLink RL 101 yX8_named ∈ gtbl := gm 699 (by decide +kernel) rfl
theorem w700 : Cond.instanceMethod yX8_named ∈ gtbl := gm 700 (by decide +kernel) rfl
theorem w701 : Cond.selects RX8 yX8_named yX8_named ∈ gtbl := gm 701 (by decide +kernel) rfl
theorem w703 : Cond.methodLink RL 105 yX8_would ∈ gtbl := gm 703 (by decide +kernel) rfl
theorem w704 : Cond.instanceMethod yX8_would ∈ gtbl := gm 704 (by decide +kernel) rfl
theorem w705 : Cond.selects RX8 yX8_would yX8_would ∈ gtbl := gm 705 (by decide +kernel) rfl
theorem w713 : Cond.methodLink RL 109 yX8_quiet ∈ gtbl := gm 713 (by decide +kernel) rfl
theorem w714 : Cond.instanceMethod yX8_quiet ∈ gtbl := gm 714 (by decide +kernel) rfl
theorem w715 : Cond.selects RX8 yX8_quiet yX8_quiet ∈ gtbl := gm 715 (by decide +kernel) rfl
theorem w717 : Cond.methodLink RL 113 yX8_gone ∈ gtbl := gm 717 (by decide +kernel) rfl
theorem w718 : Cond.instanceMethod yX8_gone ∈ gtbl := gm 718 (by decide +kernel) rfl
theorem w719 : Cond.selects RX8 yX8_gone yX8_gone ∈ gtbl := gm 719 (by decide +kernel) rfl
theorem w827 : Cond.methodLink RL 17 yX9_heave ∈ gtbl := gm 827 (by decide +kernel) rfl
theorem w837 : Cond.methodLink RL 24 yX9_four ∈ gtbl := gm 837 (by decide +kernel) rfl
theorem w838 : Cond.instanceMethod yX9_four ∈ gtbl := gm 838 (by decide +kernel) rfl
theorem w839 : Cond.selects RX9 yX9_four yX9_four ∈ gtbl := gm 839 (by decide +kernel) rfl
theorem w845 : Cond.methodLink RL 28 yX9_forget ∈ gtbl := gm 845 (by decide +kernel) rfl
theorem w846 : Cond.instanceMethod yX9_forget ∈ gtbl := gm 846 (by decide +kernel) rfl
theorem w847 : Cond.selects RX9 yX9_forget yX9_forget ∈ gtbl := gm 847 (by decide +kernel) rfl
theorem w849 : Cond.methodLink RL 33 yX9_set ∈ gtbl := gm 849 (by decide +kernel) rfl
theorem w850 : Cond.instanceMethod yX9_set ∈ gtbl := gm 850 (by decide +kernel) rfl
theorem w851 : Cond.selects RX9 yX9_set yX9_set ∈ gtbl := gm 851 (by decide +kernel) rfl
theorem w853 : Cond.methodLink RL 37 yX9_level ∈ gtbl := gm 853 (by decide +kernel) rfl
theorem w854 : Cond.instanceMethod yX9_level ∈ gtbl := gm 854 (by decide +kernel) rfl
theorem w855 : Cond.selects RX9 yX9_level yX9_level ∈ gtbl := gm 855 (by decide +kernel) rfl
theorem w861 : Cond.methodLink RL 41 yX9_mark ∈ gtbl := gm 861 (by decide +kernel) rfl
theorem w862 : Cond.instanceMethod yX9_mark ∈ gtbl := gm 862 (by decide +kernel) rfl
theorem w863 : Cond.selects RX9 yX9_mark yX9_mark ∈ gtbl := gm 863 (by decide +kernel) rfl
theorem w866 : Cond.methodLink RL 46 yX9_lens ∈ gtbl := gm 866 (by decide +kernel) rfl
theorem w867 : Cond.instanceMethod yX9_lens ∈ gtbl := gm 867 (by decide +kernel) rfl
theorem w868 : Cond.selects RX9 yX9_lens yX9_lens ∈ gtbl := gm 868 (by decide +kernel) rfl
theorem w870 : Cond.methodLink RL 51 yX9_off ∈ gtbl := gm 870 (by decide +kernel) rfl
theorem w871 : Cond.instanceMethod yX9_off ∈ gtbl := gm 871 (by decide +kernel) rfl
theorem w872 : Cond.selects RX9 yX9_off yX9_off ∈ gtbl := gm 872 (by decide +kernel) rfl
theorem w874 : Cond.methodLink RL 55 yX9_count ∈ gtbl := gm 874 (by decide +kernel) rfl
theorem w875 : Cond.instanceMethod yX9_count ∈ gtbl := gm 875 (by decide +kernel) rfl
theorem w876 : Cond.selects RX9 yX9_count yX9_count ∈ gtbl := gm 876 (by decide +kernel) rfl
theorem w970 : Cond.methodLink RL 59 yX9_sample ∈ gtbl := gm 970 (by decide +kernel) rfl
theorem w971 : Cond.instanceMethod yX9_sample ∈ gtbl := gm 971 (by decide +kernel) rfl
theorem w972 : Cond.selects RX9 yX9_sample yX9_sample ∈ gtbl := gm 972 (by decide +kernel) rfl
theorem w978 : Cond.methodLink RL 63 yX9_through ∈ gtbl := gm 978 (by decide +kernel) rfl
theorem w979 : Cond.instanceMethod yX9_through ∈ gtbl := gm 979 (by decide +kernel) rfl
theorem w980 : Cond.selects RX9 yX9_through yX9_through ∈ gtbl := gm 980 (by decide +kernel) rfl
theorem w982 : Cond.methodLink RL 67 yX9_stretch ∈ gtbl := gm 982 (by decide +kernel) rfl
theorem w983 : Cond.instanceMethod yX9_stretch ∈ gtbl := gm 983 (by decide +kernel) rfl
theorem w984 : Cond.selects RX9 yX9_stretch yX9_stretch ∈ gtbl := gm 984 (by decide +kernel) rfl
theorem w990 : Cond.methodLink RL 71 yX9_wave_ ∈ gtbl := gm 990 (by decide +kernel) rfl
theorem w991 : Cond.instanceMethod yX9_wave_ ∈ gtbl := gm 991 (by decide +kernel) rfl
theorem w992 : Cond.selects RX9 yX9_wave_ yX9_wave_ ∈ gtbl := gm 992 (by decide +kernel) rfl
theorem w1006 : Cond.methodLink RL 75 yX9_ranked ∈ gtbl := gm 1006 (by decide +kernel) rfl
theorem w1007 : Cond.instanceMethod yX9_ranked ∈ gtbl := gm 1007 (by decide +kernel) rfl
theorem w1008 : Cond.selects RX9 yX9_ranked yX9_ranked ∈ gtbl := gm 1008 (by decide +kernel) rfl
theorem w1010 : Cond.methodLink RL 79 yX9_highest ∈ gtbl := gm 1010 (by decide +kernel) rfl
theorem w1011 : Cond.instanceMethod yX9_highest ∈ gtbl := gm 1011 (by decide +kernel) rfl
theorem w1012 : Cond.selects RX9 yX9_highest yX9_highest ∈ gtbl := gm 1012 (by decide +kernel) rfl
theorem w1017 : Cond.methodLink RL 83 yX9_freak ∈ gtbl := gm 1017 (by decide +kernel) rfl
theorem w1018 : Cond.instanceMethod yX9_freak ∈ gtbl := gm 1018 (by decide +kernel) rfl
theorem w1019 : Cond.selects RX9 yX9_freak yX9_freak ∈ gtbl := gm 1019 (by decide +kernel) rfl
theorem w1021 : Cond.methodLink RL 87 yX9_group ∈ gtbl := gm 1021 (by decide +kernel) rfl
theorem w1022 : Cond.instanceMethod yX9_group ∈ gtbl := gm 1022 (by decide +kernel) rfl
theorem w1023 : Cond.selects RX9 yX9_group yX9_group ∈ gtbl := gm 1023 (by decide +kernel) rfl
theorem w1029 : Cond.methodLink RL 92 yX9_energy ∈ gtbl := gm 1029 (by decide +kernel) rfl
theorem w1030 : Cond.instanceMethod yX9_energy ∈ gtbl := gm 1030 (by decide +kernel) rfl
theorem w1031 : Cond.selects RX9 yX9_energy yX9_energy ∈ gtbl := gm 1031 (by decide +kernel) rfl
theorem w1034 : Cond.methodLink RL 96 yX9_name ∈ gtbl := gm 1034 (by decide +kernel) rfl
theorem w1035 : Cond.instanceMethod yX9_name ∈ gtbl := gm 1035 (by decide +kernel) rfl
theorem w1036 : Cond.selects RX9 yX9_name yX9_name ∈ gtbl := gm 1036 (by decide +kernel) rfl
theorem w1042 : Cond.methodLink RL 100 yX9_unname ∈ gtbl := gm 1042 (by decide +kernel) rfl
theorem w1043 : Cond.instanceMethod yX9_unname ∈ gtbl := gm 1043 (by decide +kernel) rfl
theorem w1044 : Cond.selects RX9 yX9_unname yX9_unname ∈ gtbl := gm 1044 (by decide +kernel) rfl
theorem w1046 : Cond.methodLink RL 104 yX9_named ∈ gtbl := gm 1046 (by decide +kernel) rfl
theorem w1047 : Cond.instanceMethod yX9_named ∈ gtbl := gm 1047 (by decide +kernel) rfl
theorem w1048 : Cond.selects RX9 yX9_named yX9_named ∈ gtbl := gm 1048 (by decide +kernel) rfl
theorem w1050 : Cond.methodLink RL 108 yX9_would ∈ gtbl := gm 1050 (by decide +kernel) rfl
theorem w1051 : Cond.instanceMethod yX9_would ∈ gtbl := gm 1051 (by decide +kernel) rfl
theorem w1052 : Cond.selects RX9 yX9_would yX9_would ∈ gtbl := gm 1052 (by decide +kernel) rfl
theorem w1058 : Cond.methodLink RL 112 yX9_quiet ∈ gtbl := gm 1058 (by decide +kernel) rfl
theorem w1059 : Cond.instanceMethod yX9_quiet ∈ gtbl := gm 1059 (by decide +kernel) rfl
theorem w1060 : Cond.selects RX9 yX9_quiet yX9_quiet ∈ gtbl := gm 1060 (by decide +kernel) rfl
theorem w1062 : Cond.methodLink RL 116 yX9_gone ∈ gtbl := gm 1062 (by decide +kernel) rfl
theorem w1063 : Cond.instanceMethod yX9_gone ∈ gtbl := gm 1063 (by decide +kernel) rfl
theorem w1064 : Cond.selects RX9 yX9_gone yX9_gone ∈ gtbl := gm 1064 (by decide +kernel) rfl
theorem w1070 : Cond.constantLong RL 18 (Int64.ofInt 4294967295) ∈ gtbl := gm 1070 (by decide +kernel) rfl
abbrev mL_law : MI := (x, code, 4, some .boolean, 9, 344)
theorem vL_law_827 {X : Nat × (Int → Int)} {h : HP} {Q : Int → HP → Prop} {x3 : Int} (H : inI (x3 + 3) ∧ Wd mL_law X 18 [(2, 1004), (2, 0), (2, 41), (0, x3 + 3)] [] h Q) : Wd mL_law X 827 [(2, 1004), (2, 0), (2, 41), (0, x3)] [] h Q := by
  have c0 := H.1
  replace H := H.2
  refine s_iinc 830 3 rfl dL_law_827 (by decide) (z := x3) rfl (L2 := [(2, 1004), (2, 0), (2, 41), (0, x3 + 3)]) rfl c0 ?_
  refine s_goto 18 dL_law_830 (by decide) ?_
  exact H
theorem vL_law_18 {X : Nat × (Int → Int)} {h : HP} {Q : Int → HP → Prop} {x3 : Int} (H : inI ((X.1 : Int) - 3) ∧ ((((X.1 : Int) - 3) < x3 → (Q 1 h)) ∧ (¬ (((X.1 : Int) - 3) < x3) → (0 ≤ x3 ∧ x3 < X.1 ∧ ((((Int32.ofInt (X.2 x3) &&& Int32.ofInt 31).toInt) < 0 ∨ 23 < ((Int32.ofInt (X.2 x3) &&& Int32.ofInt 31).toInt) → (Wd mL_law X 827 [(2, 1004), (2, 0), (2, 41), (0, x3)] [] h Q)) ∧ (((Int32.ofInt (X.2 x3) &&& Int32.ofInt 31).toInt) = 0 → (inI (x3 + 1) ∧ 0 ≤ x3 + 1 ∧ x3 + 1 < X.1 ∧ Wd mX8_heave X 0 [(2, 0), (0, X.2 (x3 + 1))] [] h (fun r8 h9 => Wd mX9_heave X 0 [(2, 41), (0, X.2 (x3 + 1))] [] h9 (fun r10 h11 => ((r8 = r10 → (Wd mL_law X 827 [(2, 1004), (2, 0), (2, 41), (0, x3)] [] h11 Q)) ∧ (¬ r8 = r10 → (Q 0 h11))))))) ∧ (((Int32.ofInt (X.2 x3) &&& Int32.ofInt 31).toInt) = 1 → (inI (x3 + 1) ∧ 0 ≤ x3 + 1 ∧ x3 + 1 < X.1 ∧ inI (x3 + 2) ∧ 0 ≤ x3 + 2 ∧ x3 + 2 < X.1 ∧ Wd mX8_four X 0 [(2, 0), (1, ((Int64.ofInt ((Int64.ofInt (X.2 (x3 + 1)) <<< ((Int32.ofInt 32).toInt64 &&& 63)).toInt) ||| Int64.ofInt ((Int64.ofInt (X.2 (x3 + 2)) &&& Int64.ofInt 4294967295).toInt)).toInt)), (9, 0), (9, 0), (9, 0), (9, 0), (9, 0), (9, 0)] [] h (fun r19 h20 => Wd mX9_four X 0 [(2, 41), (1, ((Int64.ofInt ((Int64.ofInt (X.2 (x3 + 1)) <<< ((Int32.ofInt 32).toInt64 &&& 63)).toInt) ||| Int64.ofInt ((Int64.ofInt (X.2 (x3 + 2)) &&& Int64.ofInt 4294967295).toInt)).toInt)), (9, 0), (9, 0), (9, 0)] [] h20 (fun r21 h22 => ((r19 = r21 → (Wd mL_law X 827 [(2, 1004), (2, 0), (2, 41), (0, x3)] [] h22 Q)) ∧ (¬ r19 = r21 → (Q 0 h22))))))) ∧ (((Int32.ofInt (X.2 x3) &&& Int32.ofInt 31).toInt) = 2 → (inI (x3 + 1) ∧ 0 ≤ x3 + 1 ∧ x3 + 1 < X.1 ∧ Wd mX8_forget X 0 [(2, 0), (0, X.2 (x3 + 1))] [] h (fun r27 h28 => Wd mX9_forget X 0 [(2, 41), (0, X.2 (x3 + 1)), (9, 0)] [] h28 (fun r29 h30 => ((r27 = r29 → (Wd mL_law X 827 [(2, 1004), (2, 0), (2, 41), (0, x3)] [] h30 Q)) ∧ (¬ r27 = r29 → (Q 0 h30))))))) ∧ (((Int32.ofInt (X.2 x3) &&& Int32.ofInt 31).toInt) = 3 → (inI (x3 + 1) ∧ 0 ≤ x3 + 1 ∧ x3 + 1 < X.1 ∧ inI (x3 + 2) ∧ 0 ≤ x3 + 2 ∧ x3 + 2 < X.1 ∧ Wd mX8_set X 0 [(2, 0), (0, X.2 (x3 + 1)), (0, X.2 (x3 + 2))] [] h (fun r38 h39 => Wd mX9_set X 0 [(2, 41), (0, X.2 (x3 + 1)), (0, X.2 (x3 + 2)), (9, 0)] [] h39 (fun r40 h41 => ((r38 = r40 → (Wd mL_law X 827 [(2, 1004), (2, 0), (2, 41), (0, x3)] [] h41 Q)) ∧ (¬ r38 = r40 → (Q 0 h41))))))) ∧ (((Int32.ofInt (X.2 x3) &&& Int32.ofInt 31).toInt) = 4 → (inI (x3 + 1) ∧ 0 ≤ x3 + 1 ∧ x3 + 1 < X.1 ∧ inI (x3 + 2) ∧ 0 ≤ x3 + 2 ∧ x3 + 2 < X.1 ∧ Wd mX8_level X 0 [(2, 0), (0, X.2 (x3 + 1)), (0, X.2 (x3 + 2))] [] h (fun r49 h50 => Wd mX9_level X 0 [(2, 41), (0, X.2 (x3 + 1)), (0, X.2 (x3 + 2))] [] h50 (fun r51 h52 => ((r49 = r51 → (Wd mL_law X 827 [(2, 1004), (2, 0), (2, 41), (0, x3)] [] h52 Q)) ∧ (¬ r49 = r51 → (Q 0 h52))))))) ∧ (((Int32.ofInt (X.2 x3) &&& Int32.ofInt 31).toInt) = 5 → (inI (x3 + 1) ∧ 0 ≤ x3 + 1 ∧ x3 + 1 < X.1 ∧ inI (x3 + 2) ∧ 0 ≤ x3 + 2 ∧ x3 + 2 < X.1 ∧ Wd mX8_mark X 0 [(2, 0), (0, X.2 (x3 + 1)), (0, X.2 (x3 + 2))] [] h (fun r60 h61 => Wd mX9_mark X 0 [(2, 41), (0, X.2 (x3 + 1)), (0, X.2 (x3 + 2))] [] h61 (fun r62 h63 => ((r60 = r62 → (Wd mL_law X 827 [(2, 1004), (2, 0), (2, 41), (0, x3)] [] h63 Q)) ∧ (¬ r60 = r62 → (Q 0 h63))))))) ∧ (((Int32.ofInt (X.2 x3) &&& Int32.ofInt 31).toInt) = 6 → (inI (x3 + 1) ∧ 0 ≤ x3 + 1 ∧ x3 + 1 < X.1 ∧ inI (x3 + 2) ∧ 0 ≤ x3 + 2 ∧ x3 + 2 < X.1 ∧ Wd mX8_lens X 0 [(2, 0), (0, X.2 (x3 + 1)), (0, X.2 (x3 + 2))] [] h (fun r71 h72 => Wd mX9_lens X 0 [(2, 41), (0, X.2 (x3 + 1)), (0, X.2 (x3 + 2)), (9, 0)] [] h72 (fun r73 h74 => ((r71 = r73 → (Wd mL_law X 827 [(2, 1004), (2, 0), (2, 41), (0, x3)] [] h74 Q)) ∧ (¬ r71 = r73 → (Q 0 h74))))))) ∧ (((Int32.ofInt (X.2 x3) &&& Int32.ofInt 31).toInt) = 7 → (Wd mX8_off X 0 [(2, 0)] [] h (fun r76 h77 => Wd mX9_off X 0 [(2, 41)] [] h77 (fun r78 h79 => ((r76 = r78 → (Wd mL_law X 827 [(2, 1004), (2, 0), (2, 41), (0, x3)] [] h79 Q)) ∧ (¬ r76 = r78 → (Q 0 h79))))))) ∧ (((Int32.ofInt (X.2 x3) &&& Int32.ofInt 31).toInt) = 8 → (inI (x3 + 1) ∧ 0 ≤ x3 + 1 ∧ x3 + 1 < X.1 ∧ Wd mX8_count X 0 [(2, 0), (0, X.2 (x3 + 1))] [] h (fun r84 h85 => Wd mX9_count X 0 [(2, 41), (0, X.2 (x3 + 1))] [] h85 (fun r86 h87 => ((r84 = r86 → (Wd mL_law X 827 [(2, 1004), (2, 0), (2, 41), (0, x3)] [] h87 Q)) ∧ (¬ r84 = r86 → (Q 0 h87))))))) ∧ (((Int32.ofInt (X.2 x3) &&& Int32.ofInt 31).toInt) = 9 → (inI (x3 + 1) ∧ 0 ≤ x3 + 1 ∧ x3 + 1 < X.1 ∧ inI (x3 + 2) ∧ 0 ≤ x3 + 2 ∧ x3 + 2 < X.1 ∧ Wd mX8_sample X 0 [(2, 0), (0, X.2 (x3 + 1)), (0, X.2 (x3 + 2))] [] h (fun r95 h96 => Wd mX9_sample X 0 [(2, 41), (0, X.2 (x3 + 1)), (0, X.2 (x3 + 2))] [] h96 (fun r97 h98 => ((r95 = r97 → (Wd mL_law X 827 [(2, 1004), (2, 0), (2, 41), (0, x3)] [] h98 Q)) ∧ (¬ r95 = r97 → (Q 0 h98))))))) ∧ (((Int32.ofInt (X.2 x3) &&& Int32.ofInt 31).toInt) = 10 → (inI (x3 + 1) ∧ 0 ≤ x3 + 1 ∧ x3 + 1 < X.1 ∧ inI (x3 + 2) ∧ 0 ≤ x3 + 2 ∧ x3 + 2 < X.1 ∧ Wd mX8_through X 0 [(2, 0), (0, X.2 (x3 + 1)), (0, X.2 (x3 + 2))] [] h (fun r106 h107 => Wd mX9_through X 0 [(2, 41), (0, X.2 (x3 + 1)), (0, X.2 (x3 + 2))] [] h107 (fun r108 h109 => ((r106 = r108 → (Wd mL_law X 827 [(2, 1004), (2, 0), (2, 41), (0, x3)] [] h109 Q)) ∧ (¬ r106 = r108 → (Q 0 h109))))))) ∧ (((Int32.ofInt (X.2 x3) &&& Int32.ofInt 31).toInt) = 11 → (inI (x3 + 1) ∧ 0 ≤ x3 + 1 ∧ x3 + 1 < X.1 ∧ inI (x3 + 2) ∧ 0 ≤ x3 + 2 ∧ x3 + 2 < X.1 ∧ Wd mX8_stretch X 0 [(2, 0), (0, X.2 (x3 + 1)), (0, X.2 (x3 + 2))] [] h (fun r117 h118 => Wd mX9_stretch X 0 [(2, 41), (0, X.2 (x3 + 1)), (0, X.2 (x3 + 2)), (9, 0), (9, 0)] [] h118 (fun r119 h120 => ((r117 = r119 → (Wd mL_law X 827 [(2, 1004), (2, 0), (2, 41), (0, x3)] [] h120 Q)) ∧ (¬ r117 = r119 → (Q 0 h120))))))) ∧ (((Int32.ofInt (X.2 x3) &&& Int32.ofInt 31).toInt) = 12 → (inI (x3 + 1) ∧ 0 ≤ x3 + 1 ∧ x3 + 1 < X.1 ∧ inI (x3 + 2) ∧ 0 ≤ x3 + 2 ∧ x3 + 2 < X.1 ∧ Wd mX8_wave X 0 [(2, 0), (0, X.2 (x3 + 1)), (0, X.2 (x3 + 2))] [] h (fun r128 h129 => Wd mX9_wave_ X 0 [(2, 41), (0, X.2 (x3 + 1)), (0, X.2 (x3 + 2))] [] h129 (fun r130 h131 => ((r128 = r130 → (Wd mL_law X 827 [(2, 1004), (2, 0), (2, 41), (0, x3)] [] h131 Q)) ∧ (¬ r128 = r130 → (Q 0 h131))))))) ∧ (((Int32.ofInt (X.2 x3) &&& Int32.ofInt 31).toInt) = 13 → (inI (x3 + 1) ∧ 0 ≤ x3 + 1 ∧ x3 + 1 < X.1 ∧ Wd mX8_ranked X 0 [(2, 0), (0, X.2 (x3 + 1))] [] h (fun r136 h137 => Wd mX9_ranked X 0 [(2, 41), (0, X.2 (x3 + 1)), (9, 0)] [] h137 (fun r138 h139 => ((r136 = r138 → (Wd mL_law X 827 [(2, 1004), (2, 0), (2, 41), (0, x3)] [] h139 Q)) ∧ (¬ r136 = r138 → (Q 0 h139))))))) ∧ (((Int32.ofInt (X.2 x3) &&& Int32.ofInt 31).toInt) = 14 → (inI (x3 + 1) ∧ 0 ≤ x3 + 1 ∧ x3 + 1 < X.1 ∧ inI (x3 + 2) ∧ 0 ≤ x3 + 2 ∧ x3 + 2 < X.1 ∧ Wd mX8_highest X 0 [(2, 0), (0, X.2 (x3 + 1)), (0, X.2 (x3 + 2)), (9, 0), (9, 0), (9, 0), (9, 0)] [] h (fun r147 h148 => Wd mX9_highest X 0 [(2, 41), (0, X.2 (x3 + 1)), (0, X.2 (x3 + 2)), (9, 0), (9, 0), (9, 0)] [] h148 (fun r149 h150 => ((r147 = r149 → (Wd mL_law X 827 [(2, 1004), (2, 0), (2, 41), (0, x3)] [] h150 Q)) ∧ (¬ r147 = r149 → (Q 0 h150))))))) ∧ (((Int32.ofInt (X.2 x3) &&& Int32.ofInt 31).toInt) = 15 → (inI (x3 + 1) ∧ 0 ≤ x3 + 1 ∧ x3 + 1 < X.1 ∧ Wd mX8_freak X 0 [(2, 0), (0, X.2 (x3 + 1))] [] h (fun r155 h156 => Wd mX9_freak X 0 [(2, 41), (0, X.2 (x3 + 1)), (9, 0), (9, 0), (9, 0)] [] h156 (fun r157 h158 => ((r155 = r157 → (Wd mL_law X 827 [(2, 1004), (2, 0), (2, 41), (0, x3)] [] h158 Q)) ∧ (¬ r155 = r157 → (Q 0 h158))))))) ∧ (((Int32.ofInt (X.2 x3) &&& Int32.ofInt 31).toInt) = 16 → (inI (x3 + 1) ∧ 0 ≤ x3 + 1 ∧ x3 + 1 < X.1 ∧ inI (x3 + 2) ∧ 0 ≤ x3 + 2 ∧ x3 + 2 < X.1 ∧ Wd mX8_group X 0 [(2, 0), (0, X.2 (x3 + 1)), (0, X.2 (x3 + 2)), (9, 0), (9, 0)] [] h (fun r166 h167 => Wd mX9_group X 0 [(2, 41), (0, X.2 (x3 + 1)), (0, X.2 (x3 + 2)), (9, 0), (9, 0), (9, 0), (9, 0), (9, 0)] [] h167 (fun r168 h169 => ((r166 = r168 → (Wd mL_law X 827 [(2, 1004), (2, 0), (2, 41), (0, x3)] [] h169 Q)) ∧ (¬ r166 = r168 → (Q 0 h169))))))) ∧ (((Int32.ofInt (X.2 x3) &&& Int32.ofInt 31).toInt) = 17 → (inI (x3 + 1) ∧ 0 ≤ x3 + 1 ∧ x3 + 1 < X.1 ∧ Wd mX8_energy X 0 [(2, 0), (0, X.2 (x3 + 1)), (9, 0)] [] h (fun r174 h175 => Wd mX9_energy X 0 [(2, 41), (0, X.2 (x3 + 1)), (9, 0), (9, 0), (9, 0), (9, 0), (9, 0)] [] h175 (fun r176 h177 => ((r174 = r176 → (Wd mL_law X 827 [(2, 1004), (2, 0), (2, 41), (0, x3)] [] h177 Q)) ∧ (¬ r174 = r176 → (Q 0 h177))))))) ∧ (((Int32.ofInt (X.2 x3) &&& Int32.ofInt 31).toInt) = 18 → (inI (x3 + 1) ∧ 0 ≤ x3 + 1 ∧ x3 + 1 < X.1 ∧ inI (x3 + 2) ∧ 0 ≤ x3 + 2 ∧ x3 + 2 < X.1 ∧ Wd mX8_name X 0 [(2, 0), (0, X.2 (x3 + 1)), (0, X.2 (x3 + 2)), (9, 0)] [] h (fun r185 h186 => Wd mX9_name X 0 [(2, 41), (0, X.2 (x3 + 1)), (0, X.2 (x3 + 2))] [] h186 (fun r187 h188 => ((r185 = r187 → (Wd mL_law X 827 [(2, 1004), (2, 0), (2, 41), (0, x3)] [] h188 Q)) ∧ (¬ r185 = r187 → (Q 0 h188))))))) ∧ (((Int32.ofInt (X.2 x3) &&& Int32.ofInt 31).toInt) = 19 → (inI (x3 + 1) ∧ 0 ≤ x3 + 1 ∧ x3 + 1 < X.1 ∧ Wd mX8_unname X 0 [(2, 0), (0, X.2 (x3 + 1)), (9, 0)] [] h (fun r193 h194 => Wd mX9_unname X 0 [(2, 41), (0, X.2 (x3 + 1)), (9, 0)] [] h194 (fun r195 h196 => ((r193 = r195 → (Wd mL_law X 827 [(2, 1004), (2, 0), (2, 41), (0, x3)] [] h196 Q)) ∧ (¬ r193 = r195 → (Q 0 h196))))))) ∧ (((Int32.ofInt (X.2 x3) &&& Int32.ofInt 31).toInt) = 20 → (inI (x3 + 1) ∧ 0 ≤ x3 + 1 ∧ x3 + 1 < X.1 ∧ Wd mX8_named X 0 [(2, 0), (0, X.2 (x3 + 1)), (9, 0)] [] h (fun r201 h202 => Wd mX9_named X 0 [(2, 41), (0, X.2 (x3 + 1))] [] h202 (fun r203 h204 => ((r201 = r203 → (Wd mL_law X 827 [(2, 1004), (2, 0), (2, 41), (0, x3)] [] h204 Q)) ∧ (¬ r201 = r203 → (Q 0 h204))))))) ∧ (((Int32.ofInt (X.2 x3) &&& Int32.ofInt 31).toInt) = 21 → (inI (x3 + 1) ∧ 0 ≤ x3 + 1 ∧ x3 + 1 < X.1 ∧ Wd mX8_would X 0 [(2, 0), (0, X.2 (x3 + 1))] [] h (fun r209 h210 => Wd mX9_would X 0 [(2, 41), (0, X.2 (x3 + 1))] [] h210 (fun r211 h212 => ((r209 = r211 → (Wd mL_law X 827 [(2, 1004), (2, 0), (2, 41), (0, x3)] [] h212 Q)) ∧ (¬ r209 = r211 → (Q 0 h212))))))) ∧ (((Int32.ofInt (X.2 x3) &&& Int32.ofInt 31).toInt) = 22 → (inI (x3 + 1) ∧ 0 ≤ x3 + 1 ∧ x3 + 1 < X.1 ∧ Wd mX8_quiet X 0 [(2, 0), (0, X.2 (x3 + 1)), (9, 0), (9, 0), (9, 0), (9, 0)] [] h (fun r217 h218 => Wd mX9_quiet X 0 [(2, 41), (0, X.2 (x3 + 1)), (9, 0)] [] h218 (fun r219 h220 => ((r217 = r219 → (Wd mL_law X 827 [(2, 1004), (2, 0), (2, 41), (0, x3)] [] h220 Q)) ∧ (¬ r217 = r219 → (Q 0 h220))))))) ∧ (((Int32.ofInt (X.2 x3) &&& Int32.ofInt 31).toInt) = 23 → (inI (x3 + 1) ∧ 0 ≤ x3 + 1 ∧ x3 + 1 < X.1 ∧ Wd mX8_gone X 0 [(2, 0), (0, X.2 (x3 + 1)), (9, 0), (9, 0), (9, 0)] [] h (fun r225 h226 => Wd mX9_gone X 0 [(2, 41), (0, X.2 (x3 + 1)), (9, 0)] [] h226 (fun r227 h228 => ((r225 = r227 → (Wd mL_law X 827 [(2, 1004), (2, 0), (2, 41), (0, x3)] [] h228 Q)) ∧ (¬ r225 = r227 → (Q 0 h228)))))))))))) : Wd mL_law X 18 [(2, 1004), (2, 0), (2, 41), (0, x3)] [] h Q := by
  refine s_iload_n 19 3 rfl dL_law_18 rfl rfl ?_
  refine s_aload_n 20 0 rfl dL_law_19 rfl rfl ?_
  refine s_xlen 21 rfl dL_law_20 (Or.inr (Or.inr (Or.inr (Or.inr rfl)))) (len := X.1) (f := X.2) rfl ?_
  refine s_iconst 22 rfl dL_law_21 ⟨by decide, by decide⟩ ?_
  have c0 := H.1
  replace H := H.2
  refine s_isub 23 rfl dL_law_22 c0 ?_
  refine s_icmp_gt 26 833 rfl dL_law_23 (by decide) (fun c229 => ?_) (fun c229 => ?_)
  · replace H := H.1 c229
    refine s_iconst 834 rfl dL_law_833 ⟨by decide, by decide⟩ ?_
    exact s_zret (S := []) dL_law_834 rfl (Or.inr rfl) H
  · replace H := H.2 c229
    refine s_aload_n 27 0 rfl dL_law_26 rfl rfl ?_
    refine s_iload_n 28 3 rfl dL_law_27 rfl rfl ?_
    have c1 := H.1
    replace H := H.2
    have c2 := H.1
    replace H := H.2
    refine s_xald 29 rfl dL_law_28 (Or.inr (Or.inr (Or.inr (Or.inr rfl)))) (len := X.1) (f := X.2) rfl c1 c2 ?_
    refine s_bipush 31 rfl dL_law_29 (by decide) ⟨by decide, by decide⟩ ?_
    refine s_iand 32 rfl dL_law_31 ?_
    rcases (by omega : (((Int32.ofInt (X.2 x3) &&& Int32.ofInt 31).toInt) < 0 ∨ 23 < ((Int32.ofInt (X.2 x3) &&& Int32.ofInt 31).toInt)) ∨ ((Int32.ofInt (X.2 x3) &&& Int32.ofInt 31).toInt) = 0 ∨ ((Int32.ofInt (X.2 x3) &&& Int32.ofInt 31).toInt) = 1 ∨ ((Int32.ofInt (X.2 x3) &&& Int32.ofInt 31).toInt) = 2 ∨ ((Int32.ofInt (X.2 x3) &&& Int32.ofInt 31).toInt) = 3 ∨ ((Int32.ofInt (X.2 x3) &&& Int32.ofInt 31).toInt) = 4 ∨ ((Int32.ofInt (X.2 x3) &&& Int32.ofInt 31).toInt) = 5 ∨ ((Int32.ofInt (X.2 x3) &&& Int32.ofInt 31).toInt) = 6 ∨ ((Int32.ofInt (X.2 x3) &&& Int32.ofInt 31).toInt) = 7 ∨ ((Int32.ofInt (X.2 x3) &&& Int32.ofInt 31).toInt) = 8 ∨ ((Int32.ofInt (X.2 x3) &&& Int32.ofInt 31).toInt) = 9 ∨ ((Int32.ofInt (X.2 x3) &&& Int32.ofInt 31).toInt) = 10 ∨ ((Int32.ofInt (X.2 x3) &&& Int32.ofInt 31).toInt) = 11 ∨ ((Int32.ofInt (X.2 x3) &&& Int32.ofInt 31).toInt) = 12 ∨ ((Int32.ofInt (X.2 x3) &&& Int32.ofInt 31).toInt) = 13 ∨ ((Int32.ofInt (X.2 x3) &&& Int32.ofInt 31).toInt) = 14 ∨ ((Int32.ofInt (X.2 x3) &&& Int32.ofInt 31).toInt) = 15 ∨ ((Int32.ofInt (X.2 x3) &&& Int32.ofInt 31).toInt) = 16 ∨ ((Int32.ofInt (X.2 x3) &&& Int32.ofInt 31).toInt) = 17 ∨ ((Int32.ofInt (X.2 x3) &&& Int32.ofInt 31).toInt) = 18 ∨ ((Int32.ofInt (X.2 x3) &&& Int32.ofInt 31).toInt) = 19 ∨ ((Int32.ofInt (X.2 x3) &&& Int32.ofInt 31).toInt) = 20 ∨ ((Int32.ofInt (X.2 x3) &&& Int32.ofInt 31).toInt) = 21 ∨ ((Int32.ofInt (X.2 x3) &&& Int32.ofInt 31).toInt) = 22 ∨ ((Int32.ofInt (X.2 x3) &&& Int32.ofInt 31).toInt) = 23) with c3 | c3 | c3 | c3 | c3 | c3 | c3 | c3 | c3 | c3 | c3 | c3 | c3 | c3 | c3 | c3 | c3 | c3 | c3 | c3 | c3 | c3 | c3 | c3 | c3
    · refine s_tsd 827 dL_law_32 c3 (by decide) ?_
      replace H := H.1 c3
      exact H
    · refine s_tsw 144 dL_law_32 (by omega) (by omega) (by rw [c3]; rfl) (by decide) ?_
      replace H := H.2.1 c3
      refine s_aload_n 145 1 rfl dL_law_144 rfl rfl ?_
      refine s_aload_n 146 0 rfl dL_law_145 rfl rfl ?_
      refine s_iload_n 147 3 rfl dL_law_146 rfl rfl ?_
      refine s_iconst 148 rfl dL_law_147 ⟨by decide, by decide⟩ ?_
      have c4 := H.1
      replace H := H.2
      refine s_iadd 149 rfl dL_law_148 c4 ?_
      have c5 := H.1
      replace H := H.2
      have c6 := H.1
      replace H := H.2
      refine s_xald 150 rfl dL_law_149 (Or.inr (Or.inr (Or.inr (Or.inr rfl)))) (len := X.1) (f := X.2) rfl c5 c6 ?_
      refine s_callV (mj := mX8_heave) (S := []) 153 [(0, X.2 (x3 + 1))] [(2, 0), (0, X.2 (x3 + 1))] 0 rfl dL_law_150 okX8_heave w334 w335 w336 rfl (by decide) rfl rfl rfl rfl npX8_heave (Nat.le_of_ble_eq_true rfl) (by decide) (Nat.le_of_ble_eq_true rfl) rfl (Wd.imp H (fun r8 h9 H => ?_))
      show Wd mL_law X 153 [(2, 1004), (2, 0), (2, 41), (0, x3)] [(0, r8)] h9 Q
      refine s_aload_n 154 2 rfl dL_law_153 rfl rfl ?_
      refine s_aload_n 155 0 rfl dL_law_154 rfl rfl ?_
      refine s_iload_n 156 3 rfl dL_law_155 rfl rfl ?_
      refine s_iconst 157 rfl dL_law_156 ⟨by decide, by decide⟩ ?_
      refine s_iadd 158 rfl dL_law_157 c4 ?_
      refine s_xald 159 rfl dL_law_158 (Or.inr (Or.inr (Or.inr (Or.inr rfl)))) (len := X.1) (f := X.2) rfl c5 c6 ?_
      refine s_callV (mj := mX9_heave) (S := [(0, r8)]) 162 [(0, X.2 (x3 + 1))] [(2, 41), (0, X.2 (x3 + 1))] 41 rfl dL_law_159 okX9_heave w827 w828 w829 rfl (by decide) rfl rfl rfl rfl npX9_heave (Nat.le_of_ble_eq_true rfl) (by decide) (Nat.le_of_ble_eq_true rfl) rfl (Wd.imp H (fun r10 h11 H => ?_))
      show Wd mL_law X 162 [(2, 1004), (2, 0), (2, 41), (0, x3)] [(0, r10), (0, r8)] h11 Q
      refine s_icmp_eq 165 827 rfl dL_law_162 (by decide) (fun c11 => ?_) (fun c11 => ?_)
      · replace H := H.1 c11
        exact H
      · replace H := H.2 c11
        refine s_iconst 166 rfl dL_law_165 ⟨by decide, by decide⟩ ?_
        exact s_zret (S := []) dL_law_166 rfl (Or.inl rfl) H
    · refine s_tsw 167 dL_law_32 (by omega) (by omega) (by rw [c3]; rfl) (by decide) ?_
      replace H := H.2.2.1 c3
      refine s_aload_n 168 1 rfl dL_law_167 rfl rfl ?_
      refine s_aload_n 169 0 rfl dL_law_168 rfl rfl ?_
      refine s_iload_n 170 3 rfl dL_law_169 rfl rfl ?_
      refine s_iconst 171 rfl dL_law_170 ⟨by decide, by decide⟩ ?_
      have c12 := H.1
      replace H := H.2
      refine s_iadd 172 rfl dL_law_171 c12 ?_
      have c13 := H.1
      replace H := H.2
      have c14 := H.1
      replace H := H.2
      refine s_xald 173 rfl dL_law_172 (Or.inr (Or.inr (Or.inr (Or.inr rfl)))) (len := X.1) (f := X.2) rfl c13 c14 ?_
      refine s_i2l 174 rfl dL_law_173 ?_
      refine s_bipush 176 rfl dL_law_174 (by decide) ⟨by decide, by decide⟩ ?_
      refine s_lshl 177 rfl dL_law_176 ?_
      refine s_aload_n 178 0 rfl dL_law_177 rfl rfl ?_
      refine s_iload_n 179 3 rfl dL_law_178 rfl rfl ?_
      refine s_iconst 180 rfl dL_law_179 ⟨by decide, by decide⟩ ?_
      have c15 := H.1
      replace H := H.2
      refine s_iadd 181 rfl dL_law_180 c15 ?_
      have c16 := H.1
      replace H := H.2
      have c17 := H.1
      replace H := H.2
      refine s_xald 182 rfl dL_law_181 (Or.inr (Or.inr (Or.inr (Or.inr rfl)))) (len := X.1) (f := X.2) rfl c16 c17 ?_
      refine s_i2l 183 rfl dL_law_182 ?_
      refine s_ldc2 186 4294967295 rfl dL_law_183 w1070 ⟨by decide, by decide⟩ ?_
      refine s_land 187 rfl dL_law_186 ?_
      refine s_lor 188 rfl dL_law_187 ?_
      refine s_callV (mj := mX8_four) (S := []) 191 [(1, ((Int64.ofInt ((Int64.ofInt (X.2 (x3 + 1)) <<< ((Int32.ofInt 32).toInt64 &&& 63)).toInt) ||| Int64.ofInt ((Int64.ofInt (X.2 (x3 + 2)) &&& Int64.ofInt 4294967295).toInt)).toInt))] [(2, 0), (1, ((Int64.ofInt ((Int64.ofInt (X.2 (x3 + 1)) <<< ((Int32.ofInt 32).toInt64 &&& 63)).toInt) ||| Int64.ofInt ((Int64.ofInt (X.2 (x3 + 2)) &&& Int64.ofInt 4294967295).toInt)).toInt)), (9, 0), (9, 0), (9, 0), (9, 0), (9, 0), (9, 0)] 0 rfl dL_law_188 okX8_four w349 w350 w351 rfl (by decide) rfl rfl rfl rfl npX8_four (Nat.le_of_ble_eq_true rfl) (by decide) (Nat.le_of_ble_eq_true rfl) rfl (Wd.imp H (fun r19 h20 H => ?_))
      show Wd mL_law X 191 [(2, 1004), (2, 0), (2, 41), (0, x3)] [(0, r19)] h20 Q
      refine s_aload_n 192 2 rfl dL_law_191 rfl rfl ?_
      refine s_aload_n 193 0 rfl dL_law_192 rfl rfl ?_
      refine s_iload_n 194 3 rfl dL_law_193 rfl rfl ?_
      refine s_iconst 195 rfl dL_law_194 ⟨by decide, by decide⟩ ?_
      refine s_iadd 196 rfl dL_law_195 c12 ?_
      refine s_xald 197 rfl dL_law_196 (Or.inr (Or.inr (Or.inr (Or.inr rfl)))) (len := X.1) (f := X.2) rfl c13 c14 ?_
      refine s_i2l 198 rfl dL_law_197 ?_
      refine s_bipush 200 rfl dL_law_198 (by decide) ⟨by decide, by decide⟩ ?_
      refine s_lshl 201 rfl dL_law_200 ?_
      refine s_aload_n 202 0 rfl dL_law_201 rfl rfl ?_
      refine s_iload_n 203 3 rfl dL_law_202 rfl rfl ?_
      refine s_iconst 204 rfl dL_law_203 ⟨by decide, by decide⟩ ?_
      refine s_iadd 205 rfl dL_law_204 c15 ?_
      refine s_xald 206 rfl dL_law_205 (Or.inr (Or.inr (Or.inr (Or.inr rfl)))) (len := X.1) (f := X.2) rfl c16 c17 ?_
      refine s_i2l 207 rfl dL_law_206 ?_
      refine s_ldc2 210 4294967295 rfl dL_law_207 w1070 ⟨by decide, by decide⟩ ?_
      refine s_land 211 rfl dL_law_210 ?_
      refine s_lor 212 rfl dL_law_211 ?_
      refine s_callV (mj := mX9_four) (S := [(0, r19)]) 215 [(1, ((Int64.ofInt ((Int64.ofInt (X.2 (x3 + 1)) <<< ((Int32.ofInt 32).toInt64 &&& 63)).toInt) ||| Int64.ofInt ((Int64.ofInt (X.2 (x3 + 2)) &&& Int64.ofInt 4294967295).toInt)).toInt))] [(2, 41), (1, ((Int64.ofInt ((Int64.ofInt (X.2 (x3 + 1)) <<< ((Int32.ofInt 32).toInt64 &&& 63)).toInt) ||| Int64.ofInt ((Int64.ofInt (X.2 (x3 + 2)) &&& Int64.ofInt 4294967295).toInt)).toInt)), (9, 0), (9, 0), (9, 0)] 41 rfl dL_law_212 okX9_four w837 w838 w839 rfl (by decide) rfl rfl rfl rfl npX9_four (Nat.le_of_ble_eq_true rfl) (by decide) (Nat.le_of_ble_eq_true rfl) rfl (Wd.imp H (fun r21 h22 H => ?_))
      show Wd mL_law X 215 [(2, 1004), (2, 0), (2, 41), (0, x3)] [(0, r21), (0, r19)] h22 Q
      refine s_icmp_eq 218 827 rfl dL_law_215 (by decide) (fun c22 => ?_) (fun c22 => ?_)
      · replace H := H.1 c22
        exact H
      · replace H := H.2 c22
        refine s_iconst 219 rfl dL_law_218 ⟨by decide, by decide⟩ ?_
        exact s_zret (S := []) dL_law_219 rfl (Or.inl rfl) H
    · refine s_tsw 220 dL_law_32 (by omega) (by omega) (by rw [c3]; rfl) (by decide) ?_
      replace H := H.2.2.2.1 c3
      refine s_aload_n 221 1 rfl dL_law_220 rfl rfl ?_
      refine s_aload_n 222 0 rfl dL_law_221 rfl rfl ?_
      refine s_iload_n 223 3 rfl dL_law_222 rfl rfl ?_
      refine s_iconst 224 rfl dL_law_223 ⟨by decide, by decide⟩ ?_
      have c23 := H.1
      replace H := H.2
      refine s_iadd 225 rfl dL_law_224 c23 ?_
      have c24 := H.1
      replace H := H.2
      have c25 := H.1
      replace H := H.2
      refine s_xald 226 rfl dL_law_225 (Or.inr (Or.inr (Or.inr (Or.inr rfl)))) (len := X.1) (f := X.2) rfl c24 c25 ?_
      refine s_callV (mj := mX8_forget) (S := []) 229 [(0, X.2 (x3 + 1))] [(2, 0), (0, X.2 (x3 + 1))] 0 rfl dL_law_226 okX8_forget w353 w354 w355 rfl (by decide) rfl rfl rfl rfl npX8_forget (Nat.le_of_ble_eq_true rfl) (by decide) (Nat.le_of_ble_eq_true rfl) rfl (Wd.imp H (fun r27 h28 H => ?_))
      show Wd mL_law X 229 [(2, 1004), (2, 0), (2, 41), (0, x3)] [(0, r27)] h28 Q
      refine s_aload_n 230 2 rfl dL_law_229 rfl rfl ?_
      refine s_aload_n 231 0 rfl dL_law_230 rfl rfl ?_
      refine s_iload_n 232 3 rfl dL_law_231 rfl rfl ?_
      refine s_iconst 233 rfl dL_law_232 ⟨by decide, by decide⟩ ?_
      refine s_iadd 234 rfl dL_law_233 c23 ?_
      refine s_xald 235 rfl dL_law_234 (Or.inr (Or.inr (Or.inr (Or.inr rfl)))) (len := X.1) (f := X.2) rfl c24 c25 ?_
      refine s_callV (mj := mX9_forget) (S := [(0, r27)]) 238 [(0, X.2 (x3 + 1))] [(2, 41), (0, X.2 (x3 + 1)), (9, 0)] 41 rfl dL_law_235 okX9_forget w845 w846 w847 rfl (by decide) rfl rfl rfl rfl npX9_forget (Nat.le_of_ble_eq_true rfl) (by decide) (Nat.le_of_ble_eq_true rfl) rfl (Wd.imp H (fun r29 h30 H => ?_))
      show Wd mL_law X 238 [(2, 1004), (2, 0), (2, 41), (0, x3)] [(0, r29), (0, r27)] h30 Q
      refine s_icmp_eq 241 827 rfl dL_law_238 (by decide) (fun c30 => ?_) (fun c30 => ?_)
      · replace H := H.1 c30
        exact H
      · replace H := H.2 c30
        refine s_iconst 242 rfl dL_law_241 ⟨by decide, by decide⟩ ?_
        exact s_zret (S := []) dL_law_242 rfl (Or.inl rfl) H
    · refine s_tsw 243 dL_law_32 (by omega) (by omega) (by rw [c3]; rfl) (by decide) ?_
      replace H := H.2.2.2.2.1 c3
      refine s_aload_n 244 1 rfl dL_law_243 rfl rfl ?_
      refine s_aload_n 245 0 rfl dL_law_244 rfl rfl ?_
      refine s_iload_n 246 3 rfl dL_law_245 rfl rfl ?_
      refine s_iconst 247 rfl dL_law_246 ⟨by decide, by decide⟩ ?_
      have c31 := H.1
      replace H := H.2
      refine s_iadd 248 rfl dL_law_247 c31 ?_
      have c32 := H.1
      replace H := H.2
      have c33 := H.1
      replace H := H.2
      refine s_xald 249 rfl dL_law_248 (Or.inr (Or.inr (Or.inr (Or.inr rfl)))) (len := X.1) (f := X.2) rfl c32 c33 ?_
      refine s_aload_n 250 0 rfl dL_law_249 rfl rfl ?_
      refine s_iload_n 251 3 rfl dL_law_250 rfl rfl ?_
      refine s_iconst 252 rfl dL_law_251 ⟨by decide, by decide⟩ ?_
      have c34 := H.1
      replace H := H.2
      refine s_iadd 253 rfl dL_law_252 c34 ?_
      have c35 := H.1
      replace H := H.2
      have c36 := H.1
      replace H := H.2
      refine s_xald 254 rfl dL_law_253 (Or.inr (Or.inr (Or.inr (Or.inr rfl)))) (len := X.1) (f := X.2) rfl c35 c36 ?_
      refine s_callV (mj := mX8_set) (S := []) 257 [(0, X.2 (x3 + 1)), (0, X.2 (x3 + 2))] [(2, 0), (0, X.2 (x3 + 1)), (0, X.2 (x3 + 2))] 0 rfl dL_law_254 okX8_set w361 w362 w363 rfl (by decide) rfl rfl rfl rfl npX8_set (Nat.le_of_ble_eq_true rfl) (by decide) (Nat.le_of_ble_eq_true rfl) rfl (Wd.imp H (fun r38 h39 H => ?_))
      show Wd mL_law X 257 [(2, 1004), (2, 0), (2, 41), (0, x3)] [(0, r38)] h39 Q
      refine s_aload_n 258 2 rfl dL_law_257 rfl rfl ?_
      refine s_aload_n 259 0 rfl dL_law_258 rfl rfl ?_
      refine s_iload_n 260 3 rfl dL_law_259 rfl rfl ?_
      refine s_iconst 261 rfl dL_law_260 ⟨by decide, by decide⟩ ?_
      refine s_iadd 262 rfl dL_law_261 c31 ?_
      refine s_xald 263 rfl dL_law_262 (Or.inr (Or.inr (Or.inr (Or.inr rfl)))) (len := X.1) (f := X.2) rfl c32 c33 ?_
      refine s_aload_n 264 0 rfl dL_law_263 rfl rfl ?_
      refine s_iload_n 265 3 rfl dL_law_264 rfl rfl ?_
      refine s_iconst 266 rfl dL_law_265 ⟨by decide, by decide⟩ ?_
      refine s_iadd 267 rfl dL_law_266 c34 ?_
      refine s_xald 268 rfl dL_law_267 (Or.inr (Or.inr (Or.inr (Or.inr rfl)))) (len := X.1) (f := X.2) rfl c35 c36 ?_
      refine s_callV (mj := mX9_set) (S := [(0, r38)]) 271 [(0, X.2 (x3 + 1)), (0, X.2 (x3 + 2))] [(2, 41), (0, X.2 (x3 + 1)), (0, X.2 (x3 + 2)), (9, 0)] 41 rfl dL_law_268 okX9_set w849 w850 w851 rfl (by decide) rfl rfl rfl rfl npX9_set (Nat.le_of_ble_eq_true rfl) (by decide) (Nat.le_of_ble_eq_true rfl) rfl (Wd.imp H (fun r40 h41 H => ?_))
      show Wd mL_law X 271 [(2, 1004), (2, 0), (2, 41), (0, x3)] [(0, r40), (0, r38)] h41 Q
      refine s_icmp_eq 274 827 rfl dL_law_271 (by decide) (fun c41 => ?_) (fun c41 => ?_)
      · replace H := H.1 c41
        exact H
      · replace H := H.2 c41
        refine s_iconst 275 rfl dL_law_274 ⟨by decide, by decide⟩ ?_
        exact s_zret (S := []) dL_law_275 rfl (Or.inl rfl) H
    · refine s_tsw 276 dL_law_32 (by omega) (by omega) (by rw [c3]; rfl) (by decide) ?_
      replace H := H.2.2.2.2.2.1 c3
      refine s_aload_n 277 1 rfl dL_law_276 rfl rfl ?_
      refine s_aload_n 278 0 rfl dL_law_277 rfl rfl ?_
      refine s_iload_n 279 3 rfl dL_law_278 rfl rfl ?_
      refine s_iconst 280 rfl dL_law_279 ⟨by decide, by decide⟩ ?_
      have c42 := H.1
      replace H := H.2
      refine s_iadd 281 rfl dL_law_280 c42 ?_
      have c43 := H.1
      replace H := H.2
      have c44 := H.1
      replace H := H.2
      refine s_xald 282 rfl dL_law_281 (Or.inr (Or.inr (Or.inr (Or.inr rfl)))) (len := X.1) (f := X.2) rfl c43 c44 ?_
      refine s_aload_n 283 0 rfl dL_law_282 rfl rfl ?_
      refine s_iload_n 284 3 rfl dL_law_283 rfl rfl ?_
      refine s_iconst 285 rfl dL_law_284 ⟨by decide, by decide⟩ ?_
      have c45 := H.1
      replace H := H.2
      refine s_iadd 286 rfl dL_law_285 c45 ?_
      have c46 := H.1
      replace H := H.2
      have c47 := H.1
      replace H := H.2
      refine s_xald 287 rfl dL_law_286 (Or.inr (Or.inr (Or.inr (Or.inr rfl)))) (len := X.1) (f := X.2) rfl c46 c47 ?_
      refine s_callV (mj := mX8_level) (S := []) 290 [(0, X.2 (x3 + 1)), (0, X.2 (x3 + 2))] [(2, 0), (0, X.2 (x3 + 1)), (0, X.2 (x3 + 2))] 0 rfl dL_law_287 okX8_level w377 w378 w379 rfl (by decide) rfl rfl rfl rfl npX8_level (Nat.le_of_ble_eq_true rfl) (by decide) (Nat.le_of_ble_eq_true rfl) rfl (Wd.imp H (fun r49 h50 H => ?_))
      show Wd mL_law X 290 [(2, 1004), (2, 0), (2, 41), (0, x3)] [(0, r49)] h50 Q
      refine s_aload_n 291 2 rfl dL_law_290 rfl rfl ?_
      refine s_aload_n 292 0 rfl dL_law_291 rfl rfl ?_
      refine s_iload_n 293 3 rfl dL_law_292 rfl rfl ?_
      refine s_iconst 294 rfl dL_law_293 ⟨by decide, by decide⟩ ?_
      refine s_iadd 295 rfl dL_law_294 c42 ?_
      refine s_xald 296 rfl dL_law_295 (Or.inr (Or.inr (Or.inr (Or.inr rfl)))) (len := X.1) (f := X.2) rfl c43 c44 ?_
      refine s_aload_n 297 0 rfl dL_law_296 rfl rfl ?_
      refine s_iload_n 298 3 rfl dL_law_297 rfl rfl ?_
      refine s_iconst 299 rfl dL_law_298 ⟨by decide, by decide⟩ ?_
      refine s_iadd 300 rfl dL_law_299 c45 ?_
      refine s_xald 301 rfl dL_law_300 (Or.inr (Or.inr (Or.inr (Or.inr rfl)))) (len := X.1) (f := X.2) rfl c46 c47 ?_
      refine s_callV (mj := mX9_level) (S := [(0, r49)]) 304 [(0, X.2 (x3 + 1)), (0, X.2 (x3 + 2))] [(2, 41), (0, X.2 (x3 + 1)), (0, X.2 (x3 + 2))] 41 rfl dL_law_301 okX9_level w853 w854 w855 rfl (by decide) rfl rfl rfl rfl npX9_level (Nat.le_of_ble_eq_true rfl) (by decide) (Nat.le_of_ble_eq_true rfl) rfl (Wd.imp H (fun r51 h52 H => ?_))
      show Wd mL_law X 304 [(2, 1004), (2, 0), (2, 41), (0, x3)] [(0, r51), (0, r49)] h52 Q
      refine s_icmp_eq 307 827 rfl dL_law_304 (by decide) (fun c52 => ?_) (fun c52 => ?_)
      · replace H := H.1 c52
        exact H
      · replace H := H.2 c52
        refine s_iconst 308 rfl dL_law_307 ⟨by decide, by decide⟩ ?_
        exact s_zret (S := []) dL_law_308 rfl (Or.inl rfl) H
    · refine s_tsw 309 dL_law_32 (by omega) (by omega) (by rw [c3]; rfl) (by decide) ?_
      replace H := H.2.2.2.2.2.2.1 c3
      refine s_aload_n 310 1 rfl dL_law_309 rfl rfl ?_
      refine s_aload_n 311 0 rfl dL_law_310 rfl rfl ?_
      refine s_iload_n 312 3 rfl dL_law_311 rfl rfl ?_
      refine s_iconst 313 rfl dL_law_312 ⟨by decide, by decide⟩ ?_
      have c53 := H.1
      replace H := H.2
      refine s_iadd 314 rfl dL_law_313 c53 ?_
      have c54 := H.1
      replace H := H.2
      have c55 := H.1
      replace H := H.2
      refine s_xald 315 rfl dL_law_314 (Or.inr (Or.inr (Or.inr (Or.inr rfl)))) (len := X.1) (f := X.2) rfl c54 c55 ?_
      refine s_aload_n 316 0 rfl dL_law_315 rfl rfl ?_
      refine s_iload_n 317 3 rfl dL_law_316 rfl rfl ?_
      refine s_iconst 318 rfl dL_law_317 ⟨by decide, by decide⟩ ?_
      have c56 := H.1
      replace H := H.2
      refine s_iadd 319 rfl dL_law_318 c56 ?_
      have c57 := H.1
      replace H := H.2
      have c58 := H.1
      replace H := H.2
      refine s_xald 320 rfl dL_law_319 (Or.inr (Or.inr (Or.inr (Or.inr rfl)))) (len := X.1) (f := X.2) rfl c57 c58 ?_
      refine s_callV (mj := mX8_mark) (S := []) 323 [(0, X.2 (x3 + 1)), (0, X.2 (x3 + 2))] [(2, 0), (0, X.2 (x3 + 1)), (0, X.2 (x3 + 2))] 0 rfl dL_law_320 okX8_mark w385 w386 w387 rfl (by decide) rfl rfl rfl rfl npX8_mark (Nat.le_of_ble_eq_true rfl) (by decide) (Nat.le_of_ble_eq_true rfl) rfl (Wd.imp H (fun r60 h61 H => ?_))
      show Wd mL_law X 323 [(2, 1004), (2, 0), (2, 41), (0, x3)] [(0, r60)] h61 Q
      refine s_aload_n 324 2 rfl dL_law_323 rfl rfl ?_
      refine s_aload_n 325 0 rfl dL_law_324 rfl rfl ?_
      refine s_iload_n 326 3 rfl dL_law_325 rfl rfl ?_
      refine s_iconst 327 rfl dL_law_326 ⟨by decide, by decide⟩ ?_
      refine s_iadd 328 rfl dL_law_327 c53 ?_
      refine s_xald 329 rfl dL_law_328 (Or.inr (Or.inr (Or.inr (Or.inr rfl)))) (len := X.1) (f := X.2) rfl c54 c55 ?_
      refine s_aload_n 330 0 rfl dL_law_329 rfl rfl ?_
      refine s_iload_n 331 3 rfl dL_law_330 rfl rfl ?_
      refine s_iconst 332 rfl dL_law_331 ⟨by decide, by decide⟩ ?_
      refine s_iadd 333 rfl dL_law_332 c56 ?_
      refine s_xald 334 rfl dL_law_333 (Or.inr (Or.inr (Or.inr (Or.inr rfl)))) (len := X.1) (f := X.2) rfl c57 c58 ?_
      refine s_callV (mj := mX9_mark) (S := [(0, r60)]) 337 [(0, X.2 (x3 + 1)), (0, X.2 (x3 + 2))] [(2, 41), (0, X.2 (x3 + 1)), (0, X.2 (x3 + 2))] 41 rfl dL_law_334 okX9_mark w861 w862 w863 rfl (by decide) rfl rfl rfl rfl npX9_mark (Nat.le_of_ble_eq_true rfl) (by decide) (Nat.le_of_ble_eq_true rfl) rfl (Wd.imp H (fun r62 h63 H => ?_))
      show Wd mL_law X 337 [(2, 1004), (2, 0), (2, 41), (0, x3)] [(0, r62), (0, r60)] h63 Q
      refine s_icmp_eq 340 827 rfl dL_law_337 (by decide) (fun c63 => ?_) (fun c63 => ?_)
      · replace H := H.1 c63
        exact H
      · replace H := H.2 c63
        refine s_iconst 341 rfl dL_law_340 ⟨by decide, by decide⟩ ?_
        exact s_zret (S := []) dL_law_341 rfl (Or.inl rfl) H
    · refine s_tsw 342 dL_law_32 (by omega) (by omega) (by rw [c3]; rfl) (by decide) ?_
      replace H := H.2.2.2.2.2.2.2.1 c3
      refine s_aload_n 343 1 rfl dL_law_342 rfl rfl ?_
      refine s_aload_n 344 0 rfl dL_law_343 rfl rfl ?_
      refine s_iload_n 345 3 rfl dL_law_344 rfl rfl ?_
      refine s_iconst 346 rfl dL_law_345 ⟨by decide, by decide⟩ ?_
      have c64 := H.1
      replace H := H.2
      refine s_iadd 347 rfl dL_law_346 c64 ?_
      have c65 := H.1
      replace H := H.2
      have c66 := H.1
      replace H := H.2
      refine s_xald 348 rfl dL_law_347 (Or.inr (Or.inr (Or.inr (Or.inr rfl)))) (len := X.1) (f := X.2) rfl c65 c66 ?_
      refine s_aload_n 349 0 rfl dL_law_348 rfl rfl ?_
      refine s_iload_n 350 3 rfl dL_law_349 rfl rfl ?_
      refine s_iconst 351 rfl dL_law_350 ⟨by decide, by decide⟩ ?_
      have c67 := H.1
      replace H := H.2
      refine s_iadd 352 rfl dL_law_351 c67 ?_
      have c68 := H.1
      replace H := H.2
      have c69 := H.1
      replace H := H.2
      refine s_xald 353 rfl dL_law_352 (Or.inr (Or.inr (Or.inr (Or.inr rfl)))) (len := X.1) (f := X.2) rfl c68 c69 ?_
      refine s_callV (mj := mX8_lens) (S := []) 356 [(0, X.2 (x3 + 1)), (0, X.2 (x3 + 2))] [(2, 0), (0, X.2 (x3 + 1)), (0, X.2 (x3 + 2))] 0 rfl dL_law_353 okX8_lens w394 w395 w396 rfl (by decide) rfl rfl rfl rfl npX8_lens (Nat.le_of_ble_eq_true rfl) (by decide) (Nat.le_of_ble_eq_true rfl) rfl (Wd.imp H (fun r71 h72 H => ?_))
      show Wd mL_law X 356 [(2, 1004), (2, 0), (2, 41), (0, x3)] [(0, r71)] h72 Q
      refine s_aload_n 357 2 rfl dL_law_356 rfl rfl ?_
      refine s_aload_n 358 0 rfl dL_law_357 rfl rfl ?_
      refine s_iload_n 359 3 rfl dL_law_358 rfl rfl ?_
      refine s_iconst 360 rfl dL_law_359 ⟨by decide, by decide⟩ ?_
      refine s_iadd 361 rfl dL_law_360 c64 ?_
      refine s_xald 362 rfl dL_law_361 (Or.inr (Or.inr (Or.inr (Or.inr rfl)))) (len := X.1) (f := X.2) rfl c65 c66 ?_
      refine s_aload_n 363 0 rfl dL_law_362 rfl rfl ?_
      refine s_iload_n 364 3 rfl dL_law_363 rfl rfl ?_
      refine s_iconst 365 rfl dL_law_364 ⟨by decide, by decide⟩ ?_
      refine s_iadd 366 rfl dL_law_365 c67 ?_
      refine s_xald 367 rfl dL_law_366 (Or.inr (Or.inr (Or.inr (Or.inr rfl)))) (len := X.1) (f := X.2) rfl c68 c69 ?_
      refine s_callV (mj := mX9_lens) (S := [(0, r71)]) 370 [(0, X.2 (x3 + 1)), (0, X.2 (x3 + 2))] [(2, 41), (0, X.2 (x3 + 1)), (0, X.2 (x3 + 2)), (9, 0)] 41 rfl dL_law_367 okX9_lens w866 w867 w868 rfl (by decide) rfl rfl rfl rfl npX9_lens (Nat.le_of_ble_eq_true rfl) (by decide) (Nat.le_of_ble_eq_true rfl) rfl (Wd.imp H (fun r73 h74 H => ?_))
      show Wd mL_law X 370 [(2, 1004), (2, 0), (2, 41), (0, x3)] [(0, r73), (0, r71)] h74 Q
      refine s_icmp_eq 373 827 rfl dL_law_370 (by decide) (fun c74 => ?_) (fun c74 => ?_)
      · replace H := H.1 c74
        exact H
      · replace H := H.2 c74
        refine s_iconst 374 rfl dL_law_373 ⟨by decide, by decide⟩ ?_
        exact s_zret (S := []) dL_law_374 rfl (Or.inl rfl) H
    · refine s_tsw 375 dL_law_32 (by omega) (by omega) (by rw [c3]; rfl) (by decide) ?_
      replace H := H.2.2.2.2.2.2.2.2.1 c3
      refine s_aload_n 376 1 rfl dL_law_375 rfl rfl ?_
      refine s_callV (mj := mX8_off) (S := []) 379 [] [(2, 0)] 0 rfl dL_law_376 okX8_off w409 w410 w411 rfl (by decide) rfl rfl rfl rfl npX8_off (Nat.le_of_ble_eq_true rfl) (by decide) (Nat.le_of_ble_eq_true rfl) rfl (Wd.imp H (fun r76 h77 H => ?_))
      show Wd mL_law X 379 [(2, 1004), (2, 0), (2, 41), (0, x3)] [(0, r76)] h77 Q
      refine s_aload_n 380 2 rfl dL_law_379 rfl rfl ?_
      refine s_callV (mj := mX9_off) (S := [(0, r76)]) 383 [] [(2, 41)] 41 rfl dL_law_380 okX9_off w870 w871 w872 rfl (by decide) rfl rfl rfl rfl npX9_off (Nat.le_of_ble_eq_true rfl) (by decide) (Nat.le_of_ble_eq_true rfl) rfl (Wd.imp H (fun r78 h79 H => ?_))
      show Wd mL_law X 383 [(2, 1004), (2, 0), (2, 41), (0, x3)] [(0, r78), (0, r76)] h79 Q
      refine s_icmp_eq 386 827 rfl dL_law_383 (by decide) (fun c79 => ?_) (fun c79 => ?_)
      · replace H := H.1 c79
        exact H
      · replace H := H.2 c79
        refine s_iconst 387 rfl dL_law_386 ⟨by decide, by decide⟩ ?_
        exact s_zret (S := []) dL_law_387 rfl (Or.inl rfl) H
    · refine s_tsw 388 dL_law_32 (by omega) (by omega) (by rw [c3]; rfl) (by decide) ?_
      replace H := H.2.2.2.2.2.2.2.2.2.1 c3
      refine s_aload_n 389 1 rfl dL_law_388 rfl rfl ?_
      refine s_aload_n 390 0 rfl dL_law_389 rfl rfl ?_
      refine s_iload_n 391 3 rfl dL_law_390 rfl rfl ?_
      refine s_iconst 392 rfl dL_law_391 ⟨by decide, by decide⟩ ?_
      have c80 := H.1
      replace H := H.2
      refine s_iadd 393 rfl dL_law_392 c80 ?_
      have c81 := H.1
      replace H := H.2
      have c82 := H.1
      replace H := H.2
      refine s_xald 394 rfl dL_law_393 (Or.inr (Or.inr (Or.inr (Or.inr rfl)))) (len := X.1) (f := X.2) rfl c81 c82 ?_
      refine s_callV (mj := mX8_count) (S := []) 397 [(0, X.2 (x3 + 1))] [(2, 0), (0, X.2 (x3 + 1))] 0 rfl dL_law_394 okX8_count w417 w418 w419 rfl (by decide) rfl rfl rfl rfl npX8_count (Nat.le_of_ble_eq_true rfl) (by decide) (Nat.le_of_ble_eq_true rfl) rfl (Wd.imp H (fun r84 h85 H => ?_))
      show Wd mL_law X 397 [(2, 1004), (2, 0), (2, 41), (0, x3)] [(0, r84)] h85 Q
      refine s_aload_n 398 2 rfl dL_law_397 rfl rfl ?_
      refine s_aload_n 399 0 rfl dL_law_398 rfl rfl ?_
      refine s_iload_n 400 3 rfl dL_law_399 rfl rfl ?_
      refine s_iconst 401 rfl dL_law_400 ⟨by decide, by decide⟩ ?_
      refine s_iadd 402 rfl dL_law_401 c80 ?_
      refine s_xald 403 rfl dL_law_402 (Or.inr (Or.inr (Or.inr (Or.inr rfl)))) (len := X.1) (f := X.2) rfl c81 c82 ?_
      refine s_callV (mj := mX9_count) (S := [(0, r84)]) 406 [(0, X.2 (x3 + 1))] [(2, 41), (0, X.2 (x3 + 1))] 41 rfl dL_law_403 okX9_count w874 w875 w876 rfl (by decide) rfl rfl rfl rfl npX9_count (Nat.le_of_ble_eq_true rfl) (by decide) (Nat.le_of_ble_eq_true rfl) rfl (Wd.imp H (fun r86 h87 H => ?_))
      show Wd mL_law X 406 [(2, 1004), (2, 0), (2, 41), (0, x3)] [(0, r86), (0, r84)] h87 Q
      refine s_icmp_eq 409 827 rfl dL_law_406 (by decide) (fun c87 => ?_) (fun c87 => ?_)
      · replace H := H.1 c87
        exact H
      · replace H := H.2 c87
        refine s_iconst 410 rfl dL_law_409 ⟨by decide, by decide⟩ ?_
        exact s_zret (S := []) dL_law_410 rfl (Or.inl rfl) H
    · refine s_tsw 411 dL_law_32 (by omega) (by omega) (by rw [c3]; rfl) (by decide) ?_
      replace H := H.2.2.2.2.2.2.2.2.2.2.1 c3
      refine s_aload_n 412 1 rfl dL_law_411 rfl rfl ?_
      refine s_aload_n 413 0 rfl dL_law_412 rfl rfl ?_
      refine s_iload_n 414 3 rfl dL_law_413 rfl rfl ?_
      refine s_iconst 415 rfl dL_law_414 ⟨by decide, by decide⟩ ?_
      have c88 := H.1
      replace H := H.2
      refine s_iadd 416 rfl dL_law_415 c88 ?_
      have c89 := H.1
      replace H := H.2
      have c90 := H.1
      replace H := H.2
      refine s_xald 417 rfl dL_law_416 (Or.inr (Or.inr (Or.inr (Or.inr rfl)))) (len := X.1) (f := X.2) rfl c89 c90 ?_
      refine s_aload_n 418 0 rfl dL_law_417 rfl rfl ?_
      refine s_iload_n 419 3 rfl dL_law_418 rfl rfl ?_
      refine s_iconst 420 rfl dL_law_419 ⟨by decide, by decide⟩ ?_
      have c91 := H.1
      replace H := H.2
      refine s_iadd 421 rfl dL_law_420 c91 ?_
      have c92 := H.1
      replace H := H.2
      have c93 := H.1
      replace H := H.2
      refine s_xald 422 rfl dL_law_421 (Or.inr (Or.inr (Or.inr (Or.inr rfl)))) (len := X.1) (f := X.2) rfl c92 c93 ?_
      refine s_callV (mj := mX8_sample) (S := []) 425 [(0, X.2 (x3 + 1)), (0, X.2 (x3 + 2))] [(2, 0), (0, X.2 (x3 + 1)), (0, X.2 (x3 + 2))] 0 rfl dL_law_422 okX8_sample w594 w595 w596 rfl (by decide) rfl rfl rfl rfl npX8_sample (Nat.le_of_ble_eq_true rfl) (by decide) (Nat.le_of_ble_eq_true rfl) rfl (Wd.imp H (fun r95 h96 H => ?_))
      show Wd mL_law X 425 [(2, 1004), (2, 0), (2, 41), (0, x3)] [(0, r95)] h96 Q
      refine s_aload_n 426 2 rfl dL_law_425 rfl rfl ?_
      refine s_aload_n 427 0 rfl dL_law_426 rfl rfl ?_
      refine s_iload_n 428 3 rfl dL_law_427 rfl rfl ?_
      refine s_iconst 429 rfl dL_law_428 ⟨by decide, by decide⟩ ?_
      refine s_iadd 430 rfl dL_law_429 c88 ?_
      refine s_xald 431 rfl dL_law_430 (Or.inr (Or.inr (Or.inr (Or.inr rfl)))) (len := X.1) (f := X.2) rfl c89 c90 ?_
      refine s_aload_n 432 0 rfl dL_law_431 rfl rfl ?_
      refine s_iload_n 433 3 rfl dL_law_432 rfl rfl ?_
      refine s_iconst 434 rfl dL_law_433 ⟨by decide, by decide⟩ ?_
      refine s_iadd 435 rfl dL_law_434 c91 ?_
      refine s_xald 436 rfl dL_law_435 (Or.inr (Or.inr (Or.inr (Or.inr rfl)))) (len := X.1) (f := X.2) rfl c92 c93 ?_
      refine s_callV (mj := mX9_sample) (S := [(0, r95)]) 439 [(0, X.2 (x3 + 1)), (0, X.2 (x3 + 2))] [(2, 41), (0, X.2 (x3 + 1)), (0, X.2 (x3 + 2))] 41 rfl dL_law_436 okX9_sample w970 w971 w972 rfl (by decide) rfl rfl rfl rfl npX9_sample (Nat.le_of_ble_eq_true rfl) (by decide) (Nat.le_of_ble_eq_true rfl) rfl (Wd.imp H (fun r97 h98 H => ?_))
      show Wd mL_law X 439 [(2, 1004), (2, 0), (2, 41), (0, x3)] [(0, r97), (0, r95)] h98 Q
      refine s_icmp_eq 442 827 rfl dL_law_439 (by decide) (fun c98 => ?_) (fun c98 => ?_)
      · replace H := H.1 c98
        exact H
      · replace H := H.2 c98
        refine s_iconst 443 rfl dL_law_442 ⟨by decide, by decide⟩ ?_
        exact s_zret (S := []) dL_law_443 rfl (Or.inl rfl) H
    · refine s_tsw 444 dL_law_32 (by omega) (by omega) (by rw [c3]; rfl) (by decide) ?_
      replace H := H.2.2.2.2.2.2.2.2.2.2.2.1 c3
      refine s_aload_n 445 1 rfl dL_law_444 rfl rfl ?_
      refine s_aload_n 446 0 rfl dL_law_445 rfl rfl ?_
      refine s_iload_n 447 3 rfl dL_law_446 rfl rfl ?_
      refine s_iconst 448 rfl dL_law_447 ⟨by decide, by decide⟩ ?_
      have c99 := H.1
      replace H := H.2
      refine s_iadd 449 rfl dL_law_448 c99 ?_
      have c100 := H.1
      replace H := H.2
      have c101 := H.1
      replace H := H.2
      refine s_xald 450 rfl dL_law_449 (Or.inr (Or.inr (Or.inr (Or.inr rfl)))) (len := X.1) (f := X.2) rfl c100 c101 ?_
      refine s_aload_n 451 0 rfl dL_law_450 rfl rfl ?_
      refine s_iload_n 452 3 rfl dL_law_451 rfl rfl ?_
      refine s_iconst 453 rfl dL_law_452 ⟨by decide, by decide⟩ ?_
      have c102 := H.1
      replace H := H.2
      refine s_iadd 454 rfl dL_law_453 c102 ?_
      have c103 := H.1
      replace H := H.2
      have c104 := H.1
      replace H := H.2
      refine s_xald 455 rfl dL_law_454 (Or.inr (Or.inr (Or.inr (Or.inr rfl)))) (len := X.1) (f := X.2) rfl c103 c104 ?_
      refine s_callV (mj := mX8_through) (S := []) 458 [(0, X.2 (x3 + 1)), (0, X.2 (x3 + 2))] [(2, 0), (0, X.2 (x3 + 1)), (0, X.2 (x3 + 2))] 0 rfl dL_law_455 okX8_through w611 w612 w613 rfl (by decide) rfl rfl rfl rfl npX8_through (Nat.le_of_ble_eq_true rfl) (by decide) (Nat.le_of_ble_eq_true rfl) rfl (Wd.imp H (fun r106 h107 H => ?_))
      show Wd mL_law X 458 [(2, 1004), (2, 0), (2, 41), (0, x3)] [(0, r106)] h107 Q
      refine s_aload_n 459 2 rfl dL_law_458 rfl rfl ?_
      refine s_aload_n 460 0 rfl dL_law_459 rfl rfl ?_
      refine s_iload_n 461 3 rfl dL_law_460 rfl rfl ?_
      refine s_iconst 462 rfl dL_law_461 ⟨by decide, by decide⟩ ?_
      refine s_iadd 463 rfl dL_law_462 c99 ?_
      refine s_xald 464 rfl dL_law_463 (Or.inr (Or.inr (Or.inr (Or.inr rfl)))) (len := X.1) (f := X.2) rfl c100 c101 ?_
      refine s_aload_n 465 0 rfl dL_law_464 rfl rfl ?_
      refine s_iload_n 466 3 rfl dL_law_465 rfl rfl ?_
      refine s_iconst 467 rfl dL_law_466 ⟨by decide, by decide⟩ ?_
      refine s_iadd 468 rfl dL_law_467 c102 ?_
      refine s_xald 469 rfl dL_law_468 (Or.inr (Or.inr (Or.inr (Or.inr rfl)))) (len := X.1) (f := X.2) rfl c103 c104 ?_
      refine s_callV (mj := mX9_through) (S := [(0, r106)]) 472 [(0, X.2 (x3 + 1)), (0, X.2 (x3 + 2))] [(2, 41), (0, X.2 (x3 + 1)), (0, X.2 (x3 + 2))] 41 rfl dL_law_469 okX9_through w978 w979 w980 rfl (by decide) rfl rfl rfl rfl npX9_through (Nat.le_of_ble_eq_true rfl) (by decide) (Nat.le_of_ble_eq_true rfl) rfl (Wd.imp H (fun r108 h109 H => ?_))
      show Wd mL_law X 472 [(2, 1004), (2, 0), (2, 41), (0, x3)] [(0, r108), (0, r106)] h109 Q
      refine s_icmp_eq 475 827 rfl dL_law_472 (by decide) (fun c109 => ?_) (fun c109 => ?_)
      · replace H := H.1 c109
        exact H
      · replace H := H.2 c109
        refine s_iconst 476 rfl dL_law_475 ⟨by decide, by decide⟩ ?_
        exact s_zret (S := []) dL_law_476 rfl (Or.inl rfl) H
    · refine s_tsw 477 dL_law_32 (by omega) (by omega) (by rw [c3]; rfl) (by decide) ?_
      replace H := H.2.2.2.2.2.2.2.2.2.2.2.2.1 c3
      refine s_aload_n 478 1 rfl dL_law_477 rfl rfl ?_
      refine s_aload_n 479 0 rfl dL_law_478 rfl rfl ?_
      refine s_iload_n 480 3 rfl dL_law_479 rfl rfl ?_
      refine s_iconst 481 rfl dL_law_480 ⟨by decide, by decide⟩ ?_
      have c110 := H.1
      replace H := H.2
      refine s_iadd 482 rfl dL_law_481 c110 ?_
      have c111 := H.1
      replace H := H.2
      have c112 := H.1
      replace H := H.2
      refine s_xald 483 rfl dL_law_482 (Or.inr (Or.inr (Or.inr (Or.inr rfl)))) (len := X.1) (f := X.2) rfl c111 c112 ?_
      refine s_aload_n 484 0 rfl dL_law_483 rfl rfl ?_
      refine s_iload_n 485 3 rfl dL_law_484 rfl rfl ?_
      refine s_iconst 486 rfl dL_law_485 ⟨by decide, by decide⟩ ?_
      have c113 := H.1
      replace H := H.2
      refine s_iadd 487 rfl dL_law_486 c113 ?_
      have c114 := H.1
      replace H := H.2
      have c115 := H.1
      replace H := H.2
      refine s_xald 488 rfl dL_law_487 (Or.inr (Or.inr (Or.inr (Or.inr rfl)))) (len := X.1) (f := X.2) rfl c114 c115 ?_
      refine s_callV (mj := mX8_stretch) (S := []) 491 [(0, X.2 (x3 + 1)), (0, X.2 (x3 + 2))] [(2, 0), (0, X.2 (x3 + 1)), (0, X.2 (x3 + 2))] 0 rfl dL_law_488 okX8_stretch w615 w616 w617 rfl (by decide) rfl rfl rfl rfl npX8_stretch (Nat.le_of_ble_eq_true rfl) (by decide) (Nat.le_of_ble_eq_true rfl) rfl (Wd.imp H (fun r117 h118 H => ?_))
      show Wd mL_law X 491 [(2, 1004), (2, 0), (2, 41), (0, x3)] [(0, r117)] h118 Q
      refine s_aload_n 492 2 rfl dL_law_491 rfl rfl ?_
      refine s_aload_n 493 0 rfl dL_law_492 rfl rfl ?_
      refine s_iload_n 494 3 rfl dL_law_493 rfl rfl ?_
      refine s_iconst 495 rfl dL_law_494 ⟨by decide, by decide⟩ ?_
      refine s_iadd 496 rfl dL_law_495 c110 ?_
      refine s_xald 497 rfl dL_law_496 (Or.inr (Or.inr (Or.inr (Or.inr rfl)))) (len := X.1) (f := X.2) rfl c111 c112 ?_
      refine s_aload_n 498 0 rfl dL_law_497 rfl rfl ?_
      refine s_iload_n 499 3 rfl dL_law_498 rfl rfl ?_
      refine s_iconst 500 rfl dL_law_499 ⟨by decide, by decide⟩ ?_
      refine s_iadd 501 rfl dL_law_500 c113 ?_
      refine s_xald 502 rfl dL_law_501 (Or.inr (Or.inr (Or.inr (Or.inr rfl)))) (len := X.1) (f := X.2) rfl c114 c115 ?_
      refine s_callV (mj := mX9_stretch) (S := [(0, r117)]) 505 [(0, X.2 (x3 + 1)), (0, X.2 (x3 + 2))] [(2, 41), (0, X.2 (x3 + 1)), (0, X.2 (x3 + 2)), (9, 0), (9, 0)] 41 rfl dL_law_502 okX9_stretch w982 w983 w984 rfl (by decide) rfl rfl rfl rfl npX9_stretch (Nat.le_of_ble_eq_true rfl) (by decide) (Nat.le_of_ble_eq_true rfl) rfl (Wd.imp H (fun r119 h120 H => ?_))
      show Wd mL_law X 505 [(2, 1004), (2, 0), (2, 41), (0, x3)] [(0, r119), (0, r117)] h120 Q
      refine s_icmp_eq 508 827 rfl dL_law_505 (by decide) (fun c120 => ?_) (fun c120 => ?_)
      · replace H := H.1 c120
        exact H
      · replace H := H.2 c120
        refine s_iconst 509 rfl dL_law_508 ⟨by decide, by decide⟩ ?_
        exact s_zret (S := []) dL_law_509 rfl (Or.inl rfl) H
    · refine s_tsw 510 dL_law_32 (by omega) (by omega) (by rw [c3]; rfl) (by decide) ?_
      replace H := H.2.2.2.2.2.2.2.2.2.2.2.2.2.1 c3
      refine s_aload_n 511 1 rfl dL_law_510 rfl rfl ?_
      refine s_aload_n 512 0 rfl dL_law_511 rfl rfl ?_
      refine s_iload_n 513 3 rfl dL_law_512 rfl rfl ?_
      refine s_iconst 514 rfl dL_law_513 ⟨by decide, by decide⟩ ?_
      have c121 := H.1
      replace H := H.2
      refine s_iadd 515 rfl dL_law_514 c121 ?_
      have c122 := H.1
      replace H := H.2
      have c123 := H.1
      replace H := H.2
      refine s_xald 516 rfl dL_law_515 (Or.inr (Or.inr (Or.inr (Or.inr rfl)))) (len := X.1) (f := X.2) rfl c122 c123 ?_
      refine s_aload_n 517 0 rfl dL_law_516 rfl rfl ?_
      refine s_iload_n 518 3 rfl dL_law_517 rfl rfl ?_
      refine s_iconst 519 rfl dL_law_518 ⟨by decide, by decide⟩ ?_
      have c124 := H.1
      replace H := H.2
      refine s_iadd 520 rfl dL_law_519 c124 ?_
      have c125 := H.1
      replace H := H.2
      have c126 := H.1
      replace H := H.2
      refine s_xald 521 rfl dL_law_520 (Or.inr (Or.inr (Or.inr (Or.inr rfl)))) (len := X.1) (f := X.2) rfl c125 c126 ?_
      refine s_callV (mj := mX8_wave) (S := []) 524 [(0, X.2 (x3 + 1)), (0, X.2 (x3 + 2))] [(2, 0), (0, X.2 (x3 + 1)), (0, X.2 (x3 + 2))] 0 rfl dL_law_521 okX8_wave w626 w627 w628 rfl (by decide) rfl rfl rfl rfl npX8_wave (Nat.le_of_ble_eq_true rfl) (by decide) (Nat.le_of_ble_eq_true rfl) rfl (Wd.imp H (fun r128 h129 H => ?_))
      show Wd mL_law X 524 [(2, 1004), (2, 0), (2, 41), (0, x3)] [(0, r128)] h129 Q
      refine s_aload_n 525 2 rfl dL_law_524 rfl rfl ?_
      refine s_aload_n 526 0 rfl dL_law_525 rfl rfl ?_
      refine s_iload_n 527 3 rfl dL_law_526 rfl rfl ?_
      refine s_iconst 528 rfl dL_law_527 ⟨by decide, by decide⟩ ?_
      refine s_iadd 529 rfl dL_law_528 c121 ?_
      refine s_xald 530 rfl dL_law_529 (Or.inr (Or.inr (Or.inr (Or.inr rfl)))) (len := X.1) (f := X.2) rfl c122 c123 ?_
      refine s_aload_n 531 0 rfl dL_law_530 rfl rfl ?_
      refine s_iload_n 532 3 rfl dL_law_531 rfl rfl ?_
      refine s_iconst 533 rfl dL_law_532 ⟨by decide, by decide⟩ ?_
      refine s_iadd 534 rfl dL_law_533 c124 ?_
      refine s_xald 535 rfl dL_law_534 (Or.inr (Or.inr (Or.inr (Or.inr rfl)))) (len := X.1) (f := X.2) rfl c125 c126 ?_
      refine s_callV (mj := mX9_wave_) (S := [(0, r128)]) 538 [(0, X.2 (x3 + 1)), (0, X.2 (x3 + 2))] [(2, 41), (0, X.2 (x3 + 1)), (0, X.2 (x3 + 2))] 41 rfl dL_law_535 okX9_wave_ w990 w991 w992 rfl (by decide) rfl rfl rfl rfl npX9_wave_ (Nat.le_of_ble_eq_true rfl) (by decide) (Nat.le_of_ble_eq_true rfl) rfl (Wd.imp H (fun r130 h131 H => ?_))
      show Wd mL_law X 538 [(2, 1004), (2, 0), (2, 41), (0, x3)] [(0, r130), (0, r128)] h131 Q
      refine s_icmp_eq 541 827 rfl dL_law_538 (by decide) (fun c131 => ?_) (fun c131 => ?_)
      · replace H := H.1 c131
        exact H
      · replace H := H.2 c131
        refine s_iconst 542 rfl dL_law_541 ⟨by decide, by decide⟩ ?_
        exact s_zret (S := []) dL_law_542 rfl (Or.inl rfl) H
    · refine s_tsw 543 dL_law_32 (by omega) (by omega) (by rw [c3]; rfl) (by decide) ?_
      replace H := H.2.2.2.2.2.2.2.2.2.2.2.2.2.2.1 c3
      refine s_aload_n 544 1 rfl dL_law_543 rfl rfl ?_
      refine s_aload_n 545 0 rfl dL_law_544 rfl rfl ?_
      refine s_iload_n 546 3 rfl dL_law_545 rfl rfl ?_
      refine s_iconst 547 rfl dL_law_546 ⟨by decide, by decide⟩ ?_
      have c132 := H.1
      replace H := H.2
      refine s_iadd 548 rfl dL_law_547 c132 ?_
      have c133 := H.1
      replace H := H.2
      have c134 := H.1
      replace H := H.2
      refine s_xald 549 rfl dL_law_548 (Or.inr (Or.inr (Or.inr (Or.inr rfl)))) (len := X.1) (f := X.2) rfl c133 c134 ?_
      refine s_callV (mj := mX8_ranked) (S := []) 552 [(0, X.2 (x3 + 1))] [(2, 0), (0, X.2 (x3 + 1))] 0 rfl dL_law_549 okX8_ranked w644 w645 w646 rfl (by decide) rfl rfl rfl rfl npX8_ranked (Nat.le_of_ble_eq_true rfl) (by decide) (Nat.le_of_ble_eq_true rfl) rfl (Wd.imp H (fun r136 h137 H => ?_))
      show Wd mL_law X 552 [(2, 1004), (2, 0), (2, 41), (0, x3)] [(0, r136)] h137 Q
      refine s_aload_n 553 2 rfl dL_law_552 rfl rfl ?_
      refine s_aload_n 554 0 rfl dL_law_553 rfl rfl ?_
      refine s_iload_n 555 3 rfl dL_law_554 rfl rfl ?_
      refine s_iconst 556 rfl dL_law_555 ⟨by decide, by decide⟩ ?_
      refine s_iadd 557 rfl dL_law_556 c132 ?_
      refine s_xald 558 rfl dL_law_557 (Or.inr (Or.inr (Or.inr (Or.inr rfl)))) (len := X.1) (f := X.2) rfl c133 c134 ?_
      refine s_callV (mj := mX9_ranked) (S := [(0, r136)]) 561 [(0, X.2 (x3 + 1))] [(2, 41), (0, X.2 (x3 + 1)), (9, 0)] 41 rfl dL_law_558 okX9_ranked w1006 w1007 w1008 rfl (by decide) rfl rfl rfl rfl npX9_ranked (Nat.le_of_ble_eq_true rfl) (by decide) (Nat.le_of_ble_eq_true rfl) rfl (Wd.imp H (fun r138 h139 H => ?_))
      show Wd mL_law X 561 [(2, 1004), (2, 0), (2, 41), (0, x3)] [(0, r138), (0, r136)] h139 Q
      refine s_icmp_eq 564 827 rfl dL_law_561 (by decide) (fun c139 => ?_) (fun c139 => ?_)
      · replace H := H.1 c139
        exact H
      · replace H := H.2 c139
        refine s_iconst 565 rfl dL_law_564 ⟨by decide, by decide⟩ ?_
        exact s_zret (S := []) dL_law_565 rfl (Or.inl rfl) H
    · refine s_tsw 566 dL_law_32 (by omega) (by omega) (by rw [c3]; rfl) (by decide) ?_
      replace H := H.2.2.2.2.2.2.2.2.2.2.2.2.2.2.2.1 c3
      refine s_aload_n 567 1 rfl dL_law_566 rfl rfl ?_
      refine s_aload_n 568 0 rfl dL_law_567 rfl rfl ?_
      refine s_iload_n 569 3 rfl dL_law_568 rfl rfl ?_
      refine s_iconst 570 rfl dL_law_569 ⟨by decide, by decide⟩ ?_
      have c140 := H.1
      replace H := H.2
      refine s_iadd 571 rfl dL_law_570 c140 ?_
      have c141 := H.1
      replace H := H.2
      have c142 := H.1
      replace H := H.2
      refine s_xald 572 rfl dL_law_571 (Or.inr (Or.inr (Or.inr (Or.inr rfl)))) (len := X.1) (f := X.2) rfl c141 c142 ?_
      refine s_aload_n 573 0 rfl dL_law_572 rfl rfl ?_
      refine s_iload_n 574 3 rfl dL_law_573 rfl rfl ?_
      refine s_iconst 575 rfl dL_law_574 ⟨by decide, by decide⟩ ?_
      have c143 := H.1
      replace H := H.2
      refine s_iadd 576 rfl dL_law_575 c143 ?_
      have c144 := H.1
      replace H := H.2
      have c145 := H.1
      replace H := H.2
      refine s_xald 577 rfl dL_law_576 (Or.inr (Or.inr (Or.inr (Or.inr rfl)))) (len := X.1) (f := X.2) rfl c144 c145 ?_
      refine s_callV (mj := mX8_highest) (S := []) 580 [(0, X.2 (x3 + 1)), (0, X.2 (x3 + 2))] [(2, 0), (0, X.2 (x3 + 1)), (0, X.2 (x3 + 2)), (9, 0), (9, 0), (9, 0), (9, 0)] 0 rfl dL_law_577 okX8_highest w648 w649 w650 rfl (by decide) rfl rfl rfl rfl npX8_highest (Nat.le_of_ble_eq_true rfl) (by decide) (Nat.le_of_ble_eq_true rfl) rfl (Wd.imp H (fun r147 h148 H => ?_))
      show Wd mL_law X 580 [(2, 1004), (2, 0), (2, 41), (0, x3)] [(0, r147)] h148 Q
      refine s_aload_n 581 2 rfl dL_law_580 rfl rfl ?_
      refine s_aload_n 582 0 rfl dL_law_581 rfl rfl ?_
      refine s_iload_n 583 3 rfl dL_law_582 rfl rfl ?_
      refine s_iconst 584 rfl dL_law_583 ⟨by decide, by decide⟩ ?_
      refine s_iadd 585 rfl dL_law_584 c140 ?_
      refine s_xald 586 rfl dL_law_585 (Or.inr (Or.inr (Or.inr (Or.inr rfl)))) (len := X.1) (f := X.2) rfl c141 c142 ?_
      refine s_aload_n 587 0 rfl dL_law_586 rfl rfl ?_
      refine s_iload_n 588 3 rfl dL_law_587 rfl rfl ?_
      refine s_iconst 589 rfl dL_law_588 ⟨by decide, by decide⟩ ?_
      refine s_iadd 590 rfl dL_law_589 c143 ?_
      refine s_xald 591 rfl dL_law_590 (Or.inr (Or.inr (Or.inr (Or.inr rfl)))) (len := X.1) (f := X.2) rfl c144 c145 ?_
      refine s_callV (mj := mX9_highest) (S := [(0, r147)]) 594 [(0, X.2 (x3 + 1)), (0, X.2 (x3 + 2))] [(2, 41), (0, X.2 (x3 + 1)), (0, X.2 (x3 + 2)), (9, 0), (9, 0), (9, 0)] 41 rfl dL_law_591 okX9_highest w1010 w1011 w1012 rfl (by decide) rfl rfl rfl rfl npX9_highest (Nat.le_of_ble_eq_true rfl) (by decide) (Nat.le_of_ble_eq_true rfl) rfl (Wd.imp H (fun r149 h150 H => ?_))
      show Wd mL_law X 594 [(2, 1004), (2, 0), (2, 41), (0, x3)] [(0, r149), (0, r147)] h150 Q
      refine s_icmp_eq 597 827 rfl dL_law_594 (by decide) (fun c150 => ?_) (fun c150 => ?_)
      · replace H := H.1 c150
        exact H
      · replace H := H.2 c150
        refine s_iconst 598 rfl dL_law_597 ⟨by decide, by decide⟩ ?_
        exact s_zret (S := []) dL_law_598 rfl (Or.inl rfl) H
    · refine s_tsw 599 dL_law_32 (by omega) (by omega) (by rw [c3]; rfl) (by decide) ?_
      replace H := H.2.2.2.2.2.2.2.2.2.2.2.2.2.2.2.2.1 c3
      refine s_aload_n 600 1 rfl dL_law_599 rfl rfl ?_
      refine s_aload_n 601 0 rfl dL_law_600 rfl rfl ?_
      refine s_iload_n 602 3 rfl dL_law_601 rfl rfl ?_
      refine s_iconst 603 rfl dL_law_602 ⟨by decide, by decide⟩ ?_
      have c151 := H.1
      replace H := H.2
      refine s_iadd 604 rfl dL_law_603 c151 ?_
      have c152 := H.1
      replace H := H.2
      have c153 := H.1
      replace H := H.2
      refine s_xald 605 rfl dL_law_604 (Or.inr (Or.inr (Or.inr (Or.inr rfl)))) (len := X.1) (f := X.2) rfl c152 c153 ?_
      refine s_callV (mj := mX8_freak) (S := []) 608 [(0, X.2 (x3 + 1))] [(2, 0), (0, X.2 (x3 + 1))] 0 rfl dL_law_605 okX8_freak w662 w663 w664 rfl (by decide) rfl rfl rfl rfl npX8_freak (Nat.le_of_ble_eq_true rfl) (by decide) (Nat.le_of_ble_eq_true rfl) rfl (Wd.imp H (fun r155 h156 H => ?_))
      show Wd mL_law X 608 [(2, 1004), (2, 0), (2, 41), (0, x3)] [(0, r155)] h156 Q
      refine s_aload_n 609 2 rfl dL_law_608 rfl rfl ?_
      refine s_aload_n 610 0 rfl dL_law_609 rfl rfl ?_
      refine s_iload_n 611 3 rfl dL_law_610 rfl rfl ?_
      refine s_iconst 612 rfl dL_law_611 ⟨by decide, by decide⟩ ?_
      refine s_iadd 613 rfl dL_law_612 c151 ?_
      refine s_xald 614 rfl dL_law_613 (Or.inr (Or.inr (Or.inr (Or.inr rfl)))) (len := X.1) (f := X.2) rfl c152 c153 ?_
      refine s_callV (mj := mX9_freak) (S := [(0, r155)]) 617 [(0, X.2 (x3 + 1))] [(2, 41), (0, X.2 (x3 + 1)), (9, 0), (9, 0), (9, 0)] 41 rfl dL_law_614 okX9_freak w1017 w1018 w1019 rfl (by decide) rfl rfl rfl rfl npX9_freak (Nat.le_of_ble_eq_true rfl) (by decide) (Nat.le_of_ble_eq_true rfl) rfl (Wd.imp H (fun r157 h158 H => ?_))
      show Wd mL_law X 617 [(2, 1004), (2, 0), (2, 41), (0, x3)] [(0, r157), (0, r155)] h158 Q
      refine s_icmp_eq 620 827 rfl dL_law_617 (by decide) (fun c158 => ?_) (fun c158 => ?_)
      · replace H := H.1 c158
        exact H
      · replace H := H.2 c158
        refine s_iconst 621 rfl dL_law_620 ⟨by decide, by decide⟩ ?_
        exact s_zret (S := []) dL_law_621 rfl (Or.inl rfl) H
    · refine s_tsw 622 dL_law_32 (by omega) (by omega) (by rw [c3]; rfl) (by decide) ?_
      replace H := H.2.2.2.2.2.2.2.2.2.2.2.2.2.2.2.2.2.1 c3
      refine s_aload_n 623 1 rfl dL_law_622 rfl rfl ?_
      refine s_aload_n 624 0 rfl dL_law_623 rfl rfl ?_
      refine s_iload_n 625 3 rfl dL_law_624 rfl rfl ?_
      refine s_iconst 626 rfl dL_law_625 ⟨by decide, by decide⟩ ?_
      have c159 := H.1
      replace H := H.2
      refine s_iadd 627 rfl dL_law_626 c159 ?_
      have c160 := H.1
      replace H := H.2
      have c161 := H.1
      replace H := H.2
      refine s_xald 628 rfl dL_law_627 (Or.inr (Or.inr (Or.inr (Or.inr rfl)))) (len := X.1) (f := X.2) rfl c160 c161 ?_
      refine s_aload_n 629 0 rfl dL_law_628 rfl rfl ?_
      refine s_iload_n 630 3 rfl dL_law_629 rfl rfl ?_
      refine s_iconst 631 rfl dL_law_630 ⟨by decide, by decide⟩ ?_
      have c162 := H.1
      replace H := H.2
      refine s_iadd 632 rfl dL_law_631 c162 ?_
      have c163 := H.1
      replace H := H.2
      have c164 := H.1
      replace H := H.2
      refine s_xald 633 rfl dL_law_632 (Or.inr (Or.inr (Or.inr (Or.inr rfl)))) (len := X.1) (f := X.2) rfl c163 c164 ?_
      refine s_callV (mj := mX8_group) (S := []) 636 [(0, X.2 (x3 + 1)), (0, X.2 (x3 + 2))] [(2, 0), (0, X.2 (x3 + 1)), (0, X.2 (x3 + 2)), (9, 0), (9, 0)] 0 rfl dL_law_633 okX8_group w666 w667 w668 rfl (by decide) rfl rfl rfl rfl npX8_group (Nat.le_of_ble_eq_true rfl) (by decide) (Nat.le_of_ble_eq_true rfl) rfl (Wd.imp H (fun r166 h167 H => ?_))
      show Wd mL_law X 636 [(2, 1004), (2, 0), (2, 41), (0, x3)] [(0, r166)] h167 Q
      refine s_aload_n 637 2 rfl dL_law_636 rfl rfl ?_
      refine s_aload_n 638 0 rfl dL_law_637 rfl rfl ?_
      refine s_iload_n 639 3 rfl dL_law_638 rfl rfl ?_
      refine s_iconst 640 rfl dL_law_639 ⟨by decide, by decide⟩ ?_
      refine s_iadd 641 rfl dL_law_640 c159 ?_
      refine s_xald 642 rfl dL_law_641 (Or.inr (Or.inr (Or.inr (Or.inr rfl)))) (len := X.1) (f := X.2) rfl c160 c161 ?_
      refine s_aload_n 643 0 rfl dL_law_642 rfl rfl ?_
      refine s_iload_n 644 3 rfl dL_law_643 rfl rfl ?_
      refine s_iconst 645 rfl dL_law_644 ⟨by decide, by decide⟩ ?_
      refine s_iadd 646 rfl dL_law_645 c162 ?_
      refine s_xald 647 rfl dL_law_646 (Or.inr (Or.inr (Or.inr (Or.inr rfl)))) (len := X.1) (f := X.2) rfl c163 c164 ?_
      refine s_callV (mj := mX9_group) (S := [(0, r166)]) 650 [(0, X.2 (x3 + 1)), (0, X.2 (x3 + 2))] [(2, 41), (0, X.2 (x3 + 1)), (0, X.2 (x3 + 2)), (9, 0), (9, 0), (9, 0), (9, 0), (9, 0)] 41 rfl dL_law_647 okX9_group w1021 w1022 w1023 rfl (by decide) rfl rfl rfl rfl npX9_group (Nat.le_of_ble_eq_true rfl) (by decide) (Nat.le_of_ble_eq_true rfl) rfl (Wd.imp H (fun r168 h169 H => ?_))
      show Wd mL_law X 650 [(2, 1004), (2, 0), (2, 41), (0, x3)] [(0, r168), (0, r166)] h169 Q
      refine s_icmp_eq 653 827 rfl dL_law_650 (by decide) (fun c169 => ?_) (fun c169 => ?_)
      · replace H := H.1 c169
        exact H
      · replace H := H.2 c169
        refine s_iconst 654 rfl dL_law_653 ⟨by decide, by decide⟩ ?_
        exact s_zret (S := []) dL_law_654 rfl (Or.inl rfl) H
    · refine s_tsw 655 dL_law_32 (by omega) (by omega) (by rw [c3]; rfl) (by decide) ?_
      replace H := H.2.2.2.2.2.2.2.2.2.2.2.2.2.2.2.2.2.2.1 c3
      refine s_aload_n 656 1 rfl dL_law_655 rfl rfl ?_
      refine s_aload_n 657 0 rfl dL_law_656 rfl rfl ?_
      refine s_iload_n 658 3 rfl dL_law_657 rfl rfl ?_
      refine s_iconst 659 rfl dL_law_658 ⟨by decide, by decide⟩ ?_
      have c170 := H.1
      replace H := H.2
      refine s_iadd 660 rfl dL_law_659 c170 ?_
      have c171 := H.1
      replace H := H.2
      have c172 := H.1
      replace H := H.2
      refine s_xald 661 rfl dL_law_660 (Or.inr (Or.inr (Or.inr (Or.inr rfl)))) (len := X.1) (f := X.2) rfl c171 c172 ?_
      refine s_callV (mj := mX8_energy) (S := []) 664 [(0, X.2 (x3 + 1))] [(2, 0), (0, X.2 (x3 + 1)), (9, 0)] 0 rfl dL_law_661 okX8_energy w678 w679 w680 rfl (by decide) rfl rfl rfl rfl npX8_energy (Nat.le_of_ble_eq_true rfl) (by decide) (Nat.le_of_ble_eq_true rfl) rfl (Wd.imp H (fun r174 h175 H => ?_))
      show Wd mL_law X 664 [(2, 1004), (2, 0), (2, 41), (0, x3)] [(1, r174)] h175 Q
      refine s_aload_n 665 2 rfl dL_law_664 rfl rfl ?_
      refine s_aload_n 666 0 rfl dL_law_665 rfl rfl ?_
      refine s_iload_n 667 3 rfl dL_law_666 rfl rfl ?_
      refine s_iconst 668 rfl dL_law_667 ⟨by decide, by decide⟩ ?_
      refine s_iadd 669 rfl dL_law_668 c170 ?_
      refine s_xald 670 rfl dL_law_669 (Or.inr (Or.inr (Or.inr (Or.inr rfl)))) (len := X.1) (f := X.2) rfl c171 c172 ?_
      refine s_callV (mj := mX9_energy) (S := [(1, r174)]) 673 [(0, X.2 (x3 + 1))] [(2, 41), (0, X.2 (x3 + 1)), (9, 0), (9, 0), (9, 0), (9, 0), (9, 0)] 41 rfl dL_law_670 okX9_energy w1029 w1030 w1031 rfl (by decide) rfl rfl rfl rfl npX9_energy (Nat.le_of_ble_eq_true rfl) (by decide) (Nat.le_of_ble_eq_true rfl) rfl (Wd.imp H (fun r176 h177 H => ?_))
      show Wd mL_law X 673 [(2, 1004), (2, 0), (2, 41), (0, x3)] [(1, r176), (1, r174)] h177 Q
      refine s_lcmp 674 rfl dL_law_673 ?_
      refine s_if_eq 677 827 rfl dL_law_674 (by decide) (fun c177 => ?_) (fun c177 => ?_)
      · replace H := H.1 (lcz_eq.mp c177)
        exact H
      · replace H := H.2 (fun y => c177 (lcz_eq.mpr y))
        refine s_iconst 678 rfl dL_law_677 ⟨by decide, by decide⟩ ?_
        exact s_zret (S := []) dL_law_678 rfl (Or.inl rfl) H
    · refine s_tsw 679 dL_law_32 (by omega) (by omega) (by rw [c3]; rfl) (by decide) ?_
      replace H := H.2.2.2.2.2.2.2.2.2.2.2.2.2.2.2.2.2.2.2.1 c3
      refine s_aload_n 680 1 rfl dL_law_679 rfl rfl ?_
      refine s_aload_n 681 0 rfl dL_law_680 rfl rfl ?_
      refine s_iload_n 682 3 rfl dL_law_681 rfl rfl ?_
      refine s_iconst 683 rfl dL_law_682 ⟨by decide, by decide⟩ ?_
      have c178 := H.1
      replace H := H.2
      refine s_iadd 684 rfl dL_law_683 c178 ?_
      have c179 := H.1
      replace H := H.2
      have c180 := H.1
      replace H := H.2
      refine s_xald 685 rfl dL_law_684 (Or.inr (Or.inr (Or.inr (Or.inr rfl)))) (len := X.1) (f := X.2) rfl c179 c180 ?_
      refine s_aload_n 686 0 rfl dL_law_685 rfl rfl ?_
      refine s_iload_n 687 3 rfl dL_law_686 rfl rfl ?_
      refine s_iconst 688 rfl dL_law_687 ⟨by decide, by decide⟩ ?_
      have c181 := H.1
      replace H := H.2
      refine s_iadd 689 rfl dL_law_688 c181 ?_
      have c182 := H.1
      replace H := H.2
      have c183 := H.1
      replace H := H.2
      refine s_xald 690 rfl dL_law_689 (Or.inr (Or.inr (Or.inr (Or.inr rfl)))) (len := X.1) (f := X.2) rfl c182 c183 ?_
      refine s_callV (mj := mX8_name) (S := []) 693 [(0, X.2 (x3 + 1)), (0, X.2 (x3 + 2))] [(2, 0), (0, X.2 (x3 + 1)), (0, X.2 (x3 + 2)), (9, 0)] 0 rfl dL_law_690 okX8_name w687 w688 w689 rfl (by decide) rfl rfl rfl rfl npX8_name (Nat.le_of_ble_eq_true rfl) (by decide) (Nat.le_of_ble_eq_true rfl) rfl (Wd.imp H (fun r185 h186 H => ?_))
      show Wd mL_law X 693 [(2, 1004), (2, 0), (2, 41), (0, x3)] [(0, r185)] h186 Q
      refine s_aload_n 694 2 rfl dL_law_693 rfl rfl ?_
      refine s_aload_n 695 0 rfl dL_law_694 rfl rfl ?_
      refine s_iload_n 696 3 rfl dL_law_695 rfl rfl ?_
      refine s_iconst 697 rfl dL_law_696 ⟨by decide, by decide⟩ ?_
      refine s_iadd 698 rfl dL_law_697 c178 ?_
      refine s_xald 699 rfl dL_law_698 (Or.inr (Or.inr (Or.inr (Or.inr rfl)))) (len := X.1) (f := X.2) rfl c179 c180 ?_
      refine s_aload_n 700 0 rfl dL_law_699 rfl rfl ?_
      refine s_iload_n 701 3 rfl dL_law_700 rfl rfl ?_
      refine s_iconst 702 rfl dL_law_701 ⟨by decide, by decide⟩ ?_
      refine s_iadd 703 rfl dL_law_702 c181 ?_
      refine s_xald 704 rfl dL_law_703 (Or.inr (Or.inr (Or.inr (Or.inr rfl)))) (len := X.1) (f := X.2) rfl c182 c183 ?_
      refine s_callV (mj := mX9_name) (S := [(0, r185)]) 707 [(0, X.2 (x3 + 1)), (0, X.2 (x3 + 2))] [(2, 41), (0, X.2 (x3 + 1)), (0, X.2 (x3 + 2))] 41 rfl dL_law_704 okX9_name w1034 w1035 w1036 rfl (by decide) rfl rfl rfl rfl npX9_name (Nat.le_of_ble_eq_true rfl) (by decide) (Nat.le_of_ble_eq_true rfl) rfl (Wd.imp H (fun r187 h188 H => ?_))
      show Wd mL_law X 707 [(2, 1004), (2, 0), (2, 41), (0, x3)] [(0, r187), (0, r185)] h188 Q
      refine s_icmp_eq 710 827 rfl dL_law_707 (by decide) (fun c188 => ?_) (fun c188 => ?_)
      · replace H := H.1 c188
        exact H
      · replace H := H.2 c188
        refine s_iconst 711 rfl dL_law_710 ⟨by decide, by decide⟩ ?_
        exact s_zret (S := []) dL_law_711 rfl (Or.inl rfl) H
    · refine s_tsw 712 dL_law_32 (by omega) (by omega) (by rw [c3]; rfl) (by decide) ?_
      replace H := H.2.2.2.2.2.2.2.2.2.2.2.2.2.2.2.2.2.2.2.2.1 c3
      refine s_aload_n 713 1 rfl dL_law_712 rfl rfl ?_
      refine s_aload_n 714 0 rfl dL_law_713 rfl rfl ?_
      refine s_iload_n 715 3 rfl dL_law_714 rfl rfl ?_
      refine s_iconst 716 rfl dL_law_715 ⟨by decide, by decide⟩ ?_
      have c189 := H.1
      replace H := H.2
      refine s_iadd 717 rfl dL_law_716 c189 ?_
      have c190 := H.1
      replace H := H.2
      have c191 := H.1
      replace H := H.2
      refine s_xald 718 rfl dL_law_717 (Or.inr (Or.inr (Or.inr (Or.inr rfl)))) (len := X.1) (f := X.2) rfl c190 c191 ?_
      refine s_callV (mj := mX8_unname) (S := []) 721 [(0, X.2 (x3 + 1))] [(2, 0), (0, X.2 (x3 + 1)), (9, 0)] 0 rfl dL_law_718 okX8_unname w695 w696 w697 rfl (by decide) rfl rfl rfl rfl npX8_unname (Nat.le_of_ble_eq_true rfl) (by decide) (Nat.le_of_ble_eq_true rfl) rfl (Wd.imp H (fun r193 h194 H => ?_))
      show Wd mL_law X 721 [(2, 1004), (2, 0), (2, 41), (0, x3)] [(0, r193)] h194 Q
      refine s_aload_n 722 2 rfl dL_law_721 rfl rfl ?_
      refine s_aload_n 723 0 rfl dL_law_722 rfl rfl ?_
      refine s_iload_n 724 3 rfl dL_law_723 rfl rfl ?_
      refine s_iconst 725 rfl dL_law_724 ⟨by decide, by decide⟩ ?_
      refine s_iadd 726 rfl dL_law_725 c189 ?_
      refine s_xald 727 rfl dL_law_726 (Or.inr (Or.inr (Or.inr (Or.inr rfl)))) (len := X.1) (f := X.2) rfl c190 c191 ?_
      refine s_callV (mj := mX9_unname) (S := [(0, r193)]) 730 [(0, X.2 (x3 + 1))] [(2, 41), (0, X.2 (x3 + 1)), (9, 0)] 41 rfl dL_law_727 okX9_unname w1042 w1043 w1044 rfl (by decide) rfl rfl rfl rfl npX9_unname (Nat.le_of_ble_eq_true rfl) (by decide) (Nat.le_of_ble_eq_true rfl) rfl (Wd.imp H (fun r195 h196 H => ?_))
      show Wd mL_law X 730 [(2, 1004), (2, 0), (2, 41), (0, x3)] [(0, r195), (0, r193)] h196 Q
      refine s_icmp_eq 733 827 rfl dL_law_730 (by decide) (fun c196 => ?_) (fun c196 => ?_)
      · replace H := H.1 c196
        exact H
      · replace H := H.2 c196
        refine s_iconst 734 rfl dL_law_733 ⟨by decide, by decide⟩ ?_
        exact s_zret (S := []) dL_law_734 rfl (Or.inl rfl) H
    · refine s_tsw 735 dL_law_32 (by omega) (by omega) (by rw [c3]; rfl) (by decide) ?_
      replace H := H.2.2.2.2.2.2.2.2.2.2.2.2.2.2.2.2.2.2.2.2.2.1 c3
      refine s_aload_n 736 1 rfl dL_law_735 rfl rfl ?_
      refine s_aload_n 737 0 rfl dL_law_736 rfl rfl ?_
      refine s_iload_n 738 3 rfl dL_law_737 rfl rfl ?_
      refine s_iconst 739 rfl dL_law_738 ⟨by decide, by decide⟩ ?_
      have c197 := H.1
      replace H := H.2
      refine s_iadd 740 rfl dL_law_739 c197 ?_
      have c198 := H.1
      replace H := H.2
      have c199 := H.1
      replace H := H.2
      refine s_xald 741 rfl dL_law_740 (Or.inr (Or.inr (Or.inr (Or.inr rfl)))) (len := X.1) (f := X.2) rfl c198 c199 ?_
      refine s_callV (mj := mX8_named) (S := []) 744 [(0, X.2 (x3 + 1))] [(2, 0), (0, X.2 (x3 + 1)), (9, 0)] 0 rfl dL_law_741 okX8_named w699 w700 w701 rfl (by decide) rfl rfl rfl rfl npX8_named (Nat.le_of_ble_eq_true rfl) (by decide) (Nat.le_of_ble_eq_true rfl) rfl (Wd.imp H (fun r201 h202 H => ?_))
      show Wd mL_law X 744 [(2, 1004), (2, 0), (2, 41), (0, x3)] [(0, r201)] h202 Q
      refine s_aload_n 745 2 rfl dL_law_744 rfl rfl ?_
      refine s_aload_n 746 0 rfl dL_law_745 rfl rfl ?_
      refine s_iload_n 747 3 rfl dL_law_746 rfl rfl ?_
      refine s_iconst 748 rfl dL_law_747 ⟨by decide, by decide⟩ ?_
      refine s_iadd 749 rfl dL_law_748 c197 ?_
      refine s_xald 750 rfl dL_law_749 (Or.inr (Or.inr (Or.inr (Or.inr rfl)))) (len := X.1) (f := X.2) rfl c198 c199 ?_
      refine s_callV (mj := mX9_named) (S := [(0, r201)]) 753 [(0, X.2 (x3 + 1))] [(2, 41), (0, X.2 (x3 + 1))] 41 rfl dL_law_750 okX9_named w1046 w1047 w1048 rfl (by decide) rfl rfl rfl rfl npX9_named (Nat.le_of_ble_eq_true rfl) (by decide) (Nat.le_of_ble_eq_true rfl) rfl (Wd.imp H (fun r203 h204 H => ?_))
      show Wd mL_law X 753 [(2, 1004), (2, 0), (2, 41), (0, x3)] [(0, r203), (0, r201)] h204 Q
      refine s_icmp_eq 756 827 rfl dL_law_753 (by decide) (fun c204 => ?_) (fun c204 => ?_)
      · replace H := H.1 c204
        exact H
      · replace H := H.2 c204
        refine s_iconst 757 rfl dL_law_756 ⟨by decide, by decide⟩ ?_
        exact s_zret (S := []) dL_law_757 rfl (Or.inl rfl) H
    · refine s_tsw 758 dL_law_32 (by omega) (by omega) (by rw [c3]; rfl) (by decide) ?_
      replace H := H.2.2.2.2.2.2.2.2.2.2.2.2.2.2.2.2.2.2.2.2.2.2.1 c3
      refine s_aload_n 759 1 rfl dL_law_758 rfl rfl ?_
      refine s_aload_n 760 0 rfl dL_law_759 rfl rfl ?_
      refine s_iload_n 761 3 rfl dL_law_760 rfl rfl ?_
      refine s_iconst 762 rfl dL_law_761 ⟨by decide, by decide⟩ ?_
      have c205 := H.1
      replace H := H.2
      refine s_iadd 763 rfl dL_law_762 c205 ?_
      have c206 := H.1
      replace H := H.2
      have c207 := H.1
      replace H := H.2
      refine s_xald 764 rfl dL_law_763 (Or.inr (Or.inr (Or.inr (Or.inr rfl)))) (len := X.1) (f := X.2) rfl c206 c207 ?_
      refine s_callV (mj := mX8_would) (S := []) 767 [(0, X.2 (x3 + 1))] [(2, 0), (0, X.2 (x3 + 1))] 0 rfl dL_law_764 okX8_would w703 w704 w705 rfl (by decide) rfl rfl rfl rfl npX8_would (Nat.le_of_ble_eq_true rfl) (by decide) (Nat.le_of_ble_eq_true rfl) rfl (Wd.imp H (fun r209 h210 H => ?_))
      show Wd mL_law X 767 [(2, 1004), (2, 0), (2, 41), (0, x3)] [(0, r209)] h210 Q
      refine s_aload_n 768 2 rfl dL_law_767 rfl rfl ?_
      refine s_aload_n 769 0 rfl dL_law_768 rfl rfl ?_
      refine s_iload_n 770 3 rfl dL_law_769 rfl rfl ?_
      refine s_iconst 771 rfl dL_law_770 ⟨by decide, by decide⟩ ?_
      refine s_iadd 772 rfl dL_law_771 c205 ?_
      refine s_xald 773 rfl dL_law_772 (Or.inr (Or.inr (Or.inr (Or.inr rfl)))) (len := X.1) (f := X.2) rfl c206 c207 ?_
      refine s_callV (mj := mX9_would) (S := [(0, r209)]) 776 [(0, X.2 (x3 + 1))] [(2, 41), (0, X.2 (x3 + 1))] 41 rfl dL_law_773 okX9_would w1050 w1051 w1052 rfl (by decide) rfl rfl rfl rfl npX9_would (Nat.le_of_ble_eq_true rfl) (by decide) (Nat.le_of_ble_eq_true rfl) rfl (Wd.imp H (fun r211 h212 H => ?_))
      show Wd mL_law X 776 [(2, 1004), (2, 0), (2, 41), (0, x3)] [(0, r211), (0, r209)] h212 Q
      refine s_icmp_eq 779 827 rfl dL_law_776 (by decide) (fun c212 => ?_) (fun c212 => ?_)
      · replace H := H.1 c212
        exact H
      · replace H := H.2 c212
        refine s_iconst 780 rfl dL_law_779 ⟨by decide, by decide⟩ ?_
        exact s_zret (S := []) dL_law_780 rfl (Or.inl rfl) H
    · refine s_tsw 781 dL_law_32 (by omega) (by omega) (by rw [c3]; rfl) (by decide) ?_
      replace H := H.2.2.2.2.2.2.2.2.2.2.2.2.2.2.2.2.2.2.2.2.2.2.2.1 c3
      refine s_aload_n 782 1 rfl dL_law_781 rfl rfl ?_
      refine s_aload_n 783 0 rfl dL_law_782 rfl rfl ?_
      refine s_iload_n 784 3 rfl dL_law_783 rfl rfl ?_
      refine s_iconst 785 rfl dL_law_784 ⟨by decide, by decide⟩ ?_
      have c213 := H.1
      replace H := H.2
      refine s_iadd 786 rfl dL_law_785 c213 ?_
      have c214 := H.1
      replace H := H.2
      have c215 := H.1
      replace H := H.2
      refine s_xald 787 rfl dL_law_786 (Or.inr (Or.inr (Or.inr (Or.inr rfl)))) (len := X.1) (f := X.2) rfl c214 c215 ?_
      refine s_callV (mj := mX8_quiet) (S := []) 790 [(0, X.2 (x3 + 1))] [(2, 0), (0, X.2 (x3 + 1)), (9, 0), (9, 0), (9, 0), (9, 0)] 0 rfl dL_law_787 okX8_quiet w713 w714 w715 rfl (by decide) rfl rfl rfl rfl npX8_quiet (Nat.le_of_ble_eq_true rfl) (by decide) (Nat.le_of_ble_eq_true rfl) rfl (Wd.imp H (fun r217 h218 H => ?_))
      show Wd mL_law X 790 [(2, 1004), (2, 0), (2, 41), (0, x3)] [(0, r217)] h218 Q
      refine s_aload_n 791 2 rfl dL_law_790 rfl rfl ?_
      refine s_aload_n 792 0 rfl dL_law_791 rfl rfl ?_
      refine s_iload_n 793 3 rfl dL_law_792 rfl rfl ?_
      refine s_iconst 794 rfl dL_law_793 ⟨by decide, by decide⟩ ?_
      refine s_iadd 795 rfl dL_law_794 c213 ?_
      refine s_xald 796 rfl dL_law_795 (Or.inr (Or.inr (Or.inr (Or.inr rfl)))) (len := X.1) (f := X.2) rfl c214 c215 ?_
      refine s_callV (mj := mX9_quiet) (S := [(0, r217)]) 799 [(0, X.2 (x3 + 1))] [(2, 41), (0, X.2 (x3 + 1)), (9, 0)] 41 rfl dL_law_796 okX9_quiet w1058 w1059 w1060 rfl (by decide) rfl rfl rfl rfl npX9_quiet (Nat.le_of_ble_eq_true rfl) (by decide) (Nat.le_of_ble_eq_true rfl) rfl (Wd.imp H (fun r219 h220 H => ?_))
      show Wd mL_law X 799 [(2, 1004), (2, 0), (2, 41), (0, x3)] [(0, r219), (0, r217)] h220 Q
      refine s_icmp_eq 802 827 rfl dL_law_799 (by decide) (fun c220 => ?_) (fun c220 => ?_)
      · replace H := H.1 c220
        exact H
      · replace H := H.2 c220
        refine s_iconst 803 rfl dL_law_802 ⟨by decide, by decide⟩ ?_
        exact s_zret (S := []) dL_law_803 rfl (Or.inl rfl) H
    · refine s_tsw 804 dL_law_32 (by omega) (by omega) (by rw [c3]; rfl) (by decide) ?_
      replace H := H.2.2.2.2.2.2.2.2.2.2.2.2.2.2.2.2.2.2.2.2.2.2.2.2 c3
      refine s_aload_n 805 1 rfl dL_law_804 rfl rfl ?_
      refine s_aload_n 806 0 rfl dL_law_805 rfl rfl ?_
      refine s_iload_n 807 3 rfl dL_law_806 rfl rfl ?_
      refine s_iconst 808 rfl dL_law_807 ⟨by decide, by decide⟩ ?_
      have c221 := H.1
      replace H := H.2
      refine s_iadd 809 rfl dL_law_808 c221 ?_
      have c222 := H.1
      replace H := H.2
      have c223 := H.1
      replace H := H.2
      refine s_xald 810 rfl dL_law_809 (Or.inr (Or.inr (Or.inr (Or.inr rfl)))) (len := X.1) (f := X.2) rfl c222 c223 ?_
      refine s_callV (mj := mX8_gone) (S := []) 813 [(0, X.2 (x3 + 1))] [(2, 0), (0, X.2 (x3 + 1)), (9, 0), (9, 0), (9, 0)] 0 rfl dL_law_810 okX8_gone w717 w718 w719 rfl (by decide) rfl rfl rfl rfl npX8_gone (Nat.le_of_ble_eq_true rfl) (by decide) (Nat.le_of_ble_eq_true rfl) rfl (Wd.imp H (fun r225 h226 H => ?_))
      show Wd mL_law X 813 [(2, 1004), (2, 0), (2, 41), (0, x3)] [(0, r225)] h226 Q
      refine s_aload_n 814 2 rfl dL_law_813 rfl rfl ?_
      refine s_aload_n 815 0 rfl dL_law_814 rfl rfl ?_
      refine s_iload_n 816 3 rfl dL_law_815 rfl rfl ?_
      refine s_iconst 817 rfl dL_law_816 ⟨by decide, by decide⟩ ?_
      refine s_iadd 818 rfl dL_law_817 c221 ?_
      refine s_xald 819 rfl dL_law_818 (Or.inr (Or.inr (Or.inr (Or.inr rfl)))) (len := X.1) (f := X.2) rfl c222 c223 ?_
      refine s_callV (mj := mX9_gone) (S := [(0, r225)]) 822 [(0, X.2 (x3 + 1))] [(2, 41), (0, X.2 (x3 + 1)), (9, 0)] 41 rfl dL_law_819 okX9_gone w1062 w1063 w1064 rfl (by decide) rfl rfl rfl rfl npX9_gone (Nat.le_of_ble_eq_true rfl) (by decide) (Nat.le_of_ble_eq_true rfl) rfl (Wd.imp H (fun r227 h228 H => ?_))
      show Wd mL_law X 822 [(2, 1004), (2, 0), (2, 41), (0, x3)] [(0, r227), (0, r225)] h228 Q
      refine s_icmp_eq 825 827 rfl dL_law_822 (by decide) (fun c228 => ?_) (fun c228 => ?_)
      · replace H := H.1 c228
        exact H
      · replace H := H.2 c228
        refine s_iconst 826 rfl dL_law_825 ⟨by decide, by decide⟩ ?_
        exact s_zret (S := []) dL_law_826 rfl (Or.inl rfl) H
