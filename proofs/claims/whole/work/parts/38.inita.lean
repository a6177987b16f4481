/-! the constructors: words, then contracts by the kit's rows -/
theorem wi45 : Cond.initialized RX4 ∈ gtbl := gm 45 (by decide +kernel) rfl
theorem wi46 : Cond.initialized RX1 ∈ gtbl := gm 46 (by decide +kernel) rfl
theorem wi47 : Cond.initialized RX3 ∈ gtbl := gm 47 (by decide +kernel) rfl
theorem wi48 : Cond.initialized RX6 ∈ gtbl := gm 48 (by decide +kernel) rfl
theorem wi49 : Cond.initialized RX7 ∈ gtbl := gm 49 (by decide +kernel) rfl
theorem wi50 : Cond.initialized RX2 ∈ gtbl := gm 50 (by decide +kernel) rfl
theorem wi51 : Cond.initialized RX0 ∈ gtbl := gm 51 (by decide +kernel) rfl
theorem wi52 : Cond.initialized RX5 ∈ gtbl := gm 52 (by decide +kernel) rfl
theorem wi60 : Cond.methodLink RX8 1 Jvm.Lib.objectInit ∈ gtbl := gm 60 (by decide +kernel) rfl
theorem wi61 : Cond.instanceMethod Jvm.Lib.objectInit ∈ gtbl := gm 61 (by decide +kernel) rfl
theorem wi62 : Cond.code Jvm.Lib.objectInit { data := #[177] } 1 none ∈ gtbl := gm 62 (by decide +kernel) rfl
theorem wi63 : Cond.classLink RX8 7 RX4 ∈ gtbl := gm 63 (by decide +kernel) rfl
theorem wi64 : Cond.instantiable RX4 5 ∈ gtbl := gm 64 (by decide +kernel) rfl
theorem wi66 : Cond.instanceMethod yX4_init ∈ gtbl := gm 66 (by decide +kernel) rfl
theorem wi67 : Cond.code yX4_init cX4_init 1 none ∈ gtbl := gm 67 (by decide +kernel) rfl
theorem wi68 : Cond.methodLink RX4 3 Jvm.Lib.objectInit ∈ gtbl := gm 68 (by decide +kernel) rfl
theorem wi69 : Cond.fieldLink RX4 9 "BuoyReader$Settings" "numbers" "[I" ∈ gtbl := gm 69 (by decide +kernel) rfl
theorem wi91 : Cond.arrayClass .int ∈ gtbl := gm 91 (by decide +kernel) rfl
theorem wi92 : Cond.classLink RX8 16 RX1 ∈ gtbl := gm 92 (by decide +kernel) rfl
theorem wi93 : Cond.instantiable RX1 3 ∈ gtbl := gm 93 (by decide +kernel) rfl
theorem wi95 : Cond.instanceMethod yX1_init ∈ gtbl := gm 95 (by decide +kernel) rfl
theorem wi96 : Cond.code yX1_init cX1_init 1 none ∈ gtbl := gm 96 (by decide +kernel) rfl
theorem wi97 : Cond.methodLink RX1 3 Jvm.Lib.objectInit ∈ gtbl := gm 97 (by decide +kernel) rfl
theorem wi98 : Cond.fieldLink RX1 9 "BuoyReader$LensRow" "kinds" "[I" ∈ gtbl := gm 98 (by decide +kernel) rfl
theorem wi99 : Cond.fieldLink RX1 15 "BuoyReader$LensRow" "ns" "[I" ∈ gtbl := gm 99 (by decide +kernel) rfl
theorem wi110 : Cond.classLink RX8 23 RX3 ∈ gtbl := gm 110 (by decide +kernel) rfl
theorem wi111 : Cond.instantiable RX3 3 ∈ gtbl := gm 111 (by decide +kernel) rfl
theorem wi113 : Cond.instanceMethod yX3_init ∈ gtbl := gm 113 (by decide +kernel) rfl
theorem wi114 : Cond.code yX3_init cX3_init 1 none ∈ gtbl := gm 114 (by decide +kernel) rfl
theorem wi115 : Cond.methodLink RX3 3 Jvm.Lib.objectInit ∈ gtbl := gm 115 (by decide +kernel) rfl
theorem wi116 : Cond.fieldLink RX3 9 "BuoyReader$Samples" "came" "[I" ∈ gtbl := gm 116 (by decide +kernel) rfl
theorem wi119 : Cond.fieldLink RX3 15 "BuoyReader$Samples" "names" "[I" ∈ gtbl := gm 119 (by decide +kernel) rfl
theorem wi131 : Cond.classLink RX8 30 RX6 ∈ gtbl := gm 131 (by decide +kernel) rfl
theorem wi132 : Cond.instantiable RX6 9 ∈ gtbl := gm 132 (by decide +kernel) rfl
theorem wi134 : Cond.instanceMethod yX6_init ∈ gtbl := gm 134 (by decide +kernel) rfl
theorem wi135 : Cond.code yX6_init cX6_init 1 none ∈ gtbl := gm 135 (by decide +kernel) rfl
theorem wi136 : Cond.methodLink RX6 3 Jvm.Lib.objectInit ∈ gtbl := gm 136 (by decide +kernel) rfl
theorem wi137 : Cond.classLink RX6 9 "[[I" ∈ gtbl := gm 137 (by decide +kernel) rfl
theorem wi139 : Cond.fieldLink RX6 11 "BuoyReader$Stretches" "shown" "[[I" ∈ gtbl := gm 139 (by decide +kernel) rfl
theorem wi140 : Cond.fieldLink RX6 16 "BuoyReader$Stretches" "seen" "[I" ∈ gtbl := gm 140 (by decide +kernel) rfl
theorem wi143 : Cond.fieldLink RX6 20 "BuoyReader$Stretches" "stretchOf" "[I" ∈ gtbl := gm 143 (by decide +kernel) rfl
theorem wi145 : Cond.fieldLink RX6 23 "BuoyReader$Stretches" "first" "[I" ∈ gtbl := gm 145 (by decide +kernel) rfl
theorem wi148 : Cond.fieldLink RX6 26 "BuoyReader$Stretches" "length" "[I" ∈ gtbl := gm 148 (by decide +kernel) rfl
theorem wi150 : Cond.fieldLink RX6 29 "BuoyReader$Stretches" "levels" "[I" ∈ gtbl := gm 150 (by decide +kernel) rfl
theorem wi179 : Cond.classLink RX8 37 RX7 ∈ gtbl := gm 179 (by decide +kernel) rfl
theorem wi180 : Cond.instantiable RX7 11 ∈ gtbl := gm 180 (by decide +kernel) rfl
theorem wi182 : Cond.instanceMethod yX7_init ∈ gtbl := gm 182 (by decide +kernel) rfl
theorem wi183 : Cond.code yX7_init cX7_init 1 none ∈ gtbl := gm 183 (by decide +kernel) rfl
theorem wi184 : Cond.methodLink RX7 3 Jvm.Lib.objectInit ∈ gtbl := gm 184 (by decide +kernel) rfl
theorem wi185 : Cond.fieldLink RX7 9 "BuoyReader$Waves" "waveOf" "[I" ∈ gtbl := gm 185 (by decide +kernel) rfl
theorem wi187 : Cond.fieldLink RX7 15 "BuoyReader$Waves" "first" "[I" ∈ gtbl := gm 187 (by decide +kernel) rfl
theorem wi189 : Cond.fieldLink RX7 18 "BuoyReader$Waves" "period" "[I" ∈ gtbl := gm 189 (by decide +kernel) rfl
theorem wi192 : Cond.fieldLink RX7 21 "BuoyReader$Waves" "height" "[I" ∈ gtbl := gm 192 (by decide +kernel) rfl
theorem wi195 : Cond.fieldLink RX7 24 "BuoyReader$Waves" "crest" "[I" ∈ gtbl := gm 195 (by decide +kernel) rfl
theorem wi197 : Cond.fieldLink RX7 27 "BuoyReader$Waves" "top" "[I" ∈ gtbl := gm 197 (by decide +kernel) rfl
theorem wi199 : Cond.fieldLink RX7 30 "BuoyReader$Waves" "stretchOf" "[I" ∈ gtbl := gm 199 (by decide +kernel) rfl
theorem wi202 : Cond.fieldLink RX7 33 "BuoyReader$Waves" "wavesIn" "[I" ∈ gtbl := gm 202 (by decide +kernel) rfl
theorem wi204 : Cond.fieldLink RX7 36 "BuoyReader$Waves" "head" "[I" ∈ gtbl := gm 204 (by decide +kernel) rfl
theorem wi206 : Cond.fieldLink RX7 39 "BuoyReader$Waves" "tail" "[I" ∈ gtbl := gm 206 (by decide +kernel) rfl
theorem wi235 : Cond.classLink RX8 44 RX2 ∈ gtbl := gm 235 (by decide +kernel) rfl
theorem wi236 : Cond.instantiable RX2 7 ∈ gtbl := gm 236 (by decide +kernel) rfl
theorem wi238 : Cond.instanceMethod yX2_init ∈ gtbl := gm 238 (by decide +kernel) rfl
theorem wi239 : Cond.code yX2_init cX2_init 1 none ∈ gtbl := gm 239 (by decide +kernel) rfl
theorem wi240 : Cond.methodLink RX2 3 Jvm.Lib.objectInit ∈ gtbl := gm 240 (by decide +kernel) rfl
theorem wi241 : Cond.fieldLink RX2 9 "BuoyReader$Ranking" "order" "[I" ∈ gtbl := gm 241 (by decide +kernel) rfl
theorem wi243 : Cond.fieldLink RX2 15 "BuoyReader$Ranking" "rankOf" "[I" ∈ gtbl := gm 243 (by decide +kernel) rfl
theorem wi266 : Cond.classLink RX8 51 RX0 ∈ gtbl := gm 266 (by decide +kernel) rfl
theorem wi267 : Cond.instantiable RX0 4 ∈ gtbl := gm 267 (by decide +kernel) rfl
theorem wi269 : Cond.instanceMethod yX0_init ∈ gtbl := gm 269 (by decide +kernel) rfl
theorem wi270 : Cond.code yX0_init cX0_init 1 none ∈ gtbl := gm 270 (by decide +kernel) rfl
theorem wi271 : Cond.methodLink RX0 3 Jvm.Lib.objectInit ∈ gtbl := gm 271 (by decide +kernel) rfl
theorem wi272 : Cond.fieldLink RX0 9 "BuoyReader$Groups" "groupOf" "[I" ∈ gtbl := gm 272 (by decide +kernel) rfl
theorem wi274 : Cond.fieldLink RX0 15 "BuoyReader$Groups" "first" "[I" ∈ gtbl := gm 274 (by decide +kernel) rfl
theorem wi276 : Cond.fieldLink RX0 18 "BuoyReader$Groups" "length" "[I" ∈ gtbl := gm 276 (by decide +kernel) rfl
theorem wi289 : Cond.classLink RX8 58 RX5 ∈ gtbl := gm 289 (by decide +kernel) rfl
theorem wi290 : Cond.instantiable RX5 3 ∈ gtbl := gm 290 (by decide +kernel) rfl
theorem wi292 : Cond.instanceMethod yX5_init ∈ gtbl := gm 292 (by decide +kernel) rfl
theorem wi293 : Cond.code yX5_init cX5_init 1 none ∈ gtbl := gm 293 (by decide +kernel) rfl
theorem wi294 : Cond.methodLink RX5 3 Jvm.Lib.objectInit ∈ gtbl := gm 294 (by decide +kernel) rfl
theorem wi295 : Cond.fieldLink RX5 9 "BuoyReader$Sorter" "keys" "[J" ∈ gtbl := gm 295 (by decide +kernel) rfl
theorem wi296 : Cond.fieldLink RX5 15 "BuoyReader$Sorter" "spare" "[J" ∈ gtbl := gm 296 (by decide +kernel) rfl
theorem wi305 : Cond.arrayClass .long ∈ gtbl := gm 305 (by decide +kernel) rfl
theorem wi306 : Cond.fieldLink RX8 10 "BuoyReader" "settings" "LBuoyReader$Settings;" ∈ gtbl := gm 306 (by decide +kernel) rfl
theorem wi307 : Cond.fieldLink RX8 19 "BuoyReader" "lenses" "LBuoyReader$LensRow;" ∈ gtbl := gm 307 (by decide +kernel) rfl
theorem wi308 : Cond.fieldLink RX8 26 "BuoyReader" "samples" "LBuoyReader$Samples;" ∈ gtbl := gm 308 (by decide +kernel) rfl
theorem wi309 : Cond.fieldLink RX8 33 "BuoyReader" "stretches" "LBuoyReader$Stretches;" ∈ gtbl := gm 309 (by decide +kernel) rfl
theorem wi310 : Cond.fieldLink RX8 40 "BuoyReader" "waves" "LBuoyReader$Waves;" ∈ gtbl := gm 310 (by decide +kernel) rfl
theorem wi311 : Cond.fieldLink RX8 47 "BuoyReader" "ranking" "LBuoyReader$Ranking;" ∈ gtbl := gm 311 (by decide +kernel) rfl
theorem wi312 : Cond.fieldLink RX8 54 "BuoyReader" "groups" "LBuoyReader$Groups;" ∈ gtbl := gm 312 (by decide +kernel) rfl
theorem wi313 : Cond.fieldLink RX8 61 "BuoyReader" "sorter" "LBuoyReader$Sorter;" ∈ gtbl := gm 313 (by decide +kernel) rfl
theorem wi314 : Cond.fieldLink RX8 65 "BuoyReader" "stale" "Z" ∈ gtbl := gm 314 (by decide +kernel) rfl
theorem wi734 : Cond.methodLink RX9 1 Jvm.Lib.objectInit ∈ gtbl := gm 734 (by decide +kernel) rfl
theorem wi735 : Cond.fieldLink RX9 7 "BuoyReaderModel" "raw" "[I" ∈ gtbl := gm 735 (by decide +kernel) rfl
theorem wi736 : Cond.fieldLink RX9 13 "BuoyReaderModel" "set" "[I" ∈ gtbl := gm 736 (by decide +kernel) rfl
theorem wi737 : Cond.fieldLink RX9 16 "BuoyReaderModel" "kind" "[I" ∈ gtbl := gm 737 (by decide +kernel) rfl
theorem wi738 : Cond.fieldLink RX9 19 "BuoyReaderModel" "by" "[I" ∈ gtbl := gm 738 (by decide +kernel) rfl
theorem wi739 : Cond.fieldLink RX9 22 "BuoyReaderModel" "nameOf" "[I" ∈ gtbl := gm 739 (by decide +kernel) rfl
theorem wi742 : Cond.fieldLink RX9 25 "BuoyReaderModel" "mended" "[I" ∈ gtbl := gm 742 (by decide +kernel) rfl
theorem wi743 : Cond.fieldLink RX9 28 "BuoyReaderModel" "stretchOf" "[I" ∈ gtbl := gm 743 (by decide +kernel) rfl
theorem wi744 : Cond.fieldLink RX9 31 "BuoyReaderModel" "from" "[I" ∈ gtbl := gm 744 (by decide +kernel) rfl
theorem wi745 : Cond.fieldLink RX9 34 "BuoyReaderModel" "shown" "[I" ∈ gtbl := gm 745 (by decide +kernel) rfl
theorem wi746 : Cond.fieldLink RX9 37 "BuoyReaderModel" "before" "[I" ∈ gtbl := gm 746 (by decide +kernel) rfl
theorem wi750 : Cond.fieldLink RX9 40 "BuoyReaderModel" "levelOf" "[I" ∈ gtbl := gm 750 (by decide +kernel) rfl
theorem wi751 : Cond.fieldLink RX9 43 "BuoyReaderModel" "crossings" "[I" ∈ gtbl := gm 751 (by decide +kernel) rfl
theorem wi752 : Cond.fieldLink RX9 46 "BuoyReaderModel" "firstCrossing" "[I" ∈ gtbl := gm 752 (by decide +kernel) rfl
theorem wi753 : Cond.fieldLink RX9 49 "BuoyReaderModel" "lastCrossing" "[I" ∈ gtbl := gm 753 (by decide +kernel) rfl
theorem wi754 : Cond.fieldLink RX9 52 "BuoyReaderModel" "waveOf" "[I" ∈ gtbl := gm 754 (by decide +kernel) rfl
theorem wi755 : Cond.fieldLink RX9 55 "BuoyReaderModel" "begin" "[I" ∈ gtbl := gm 755 (by decide +kernel) rfl
theorem wi756 : Cond.fieldLink RX9 58 "BuoyReaderModel" "period" "[I" ∈ gtbl := gm 756 (by decide +kernel) rfl
theorem wi757 : Cond.fieldLink RX9 61 "BuoyReaderModel" "most" "[I" ∈ gtbl := gm 757 (by decide +kernel) rfl
theorem wi758 : Cond.fieldLink RX9 64 "BuoyReaderModel" "least" "[I" ∈ gtbl := gm 758 (by decide +kernel) rfl
theorem wi759 : Cond.fieldLink RX9 67 "BuoyReaderModel" "top" "[I" ∈ gtbl := gm 759 (by decide +kernel) rfl
theorem wi760 : Cond.fieldLink RX9 70 "BuoyReaderModel" "of" "[I" ∈ gtbl := gm 760 (by decide +kernel) rfl
theorem wi761 : Cond.fieldLink RX9 73 "BuoyReaderModel" "rank" "[I" ∈ gtbl := gm 761 (by decide +kernel) rfl
theorem wi762 : Cond.fieldLink RX9 76 "BuoyReaderModel" "isHigh" "[Z" ∈ gtbl := gm 762 (by decide +kernel) rfl
theorem wi826 : Cond.arrayClass .boolean ∈ gtbl := gm 826 (by decide +kernel) rfl
theorem good_in {w : Cond} (h : w ∈ gtbl) : GoodIn gtbl (w :: gtbl) := by
  intro w' hw
  have hm : w' ∈ gtbl := (List.mem_cons.mp hw).elim (fun q => q ▸ h) id
  exact ⟨hm, good_of_word (List.mem_filter.mp hm).2⟩
theorem ca_i {D : va_G} {cl : List vw_C} {cI cA : ClassId} {ts : List (ClassId × FieldType)} {s : State} (h : va_K D cl ((cI, .int) :: ts ++ [(cA, .int)]) s) : cA = cI := by
  have h1 := va_nm_int (h.2 0 _ rfl).2
  have h2 := va_nm_int (h.2 (ts.length + 1) (cA, .int) (by simp)).2
  rw [h1] at h2
  exact (Option.some.inj h2).symm
theorem ca_j1 {D : va_G} {cl : List vw_C} {cJ cA : ClassId} {t0 : ClassId × FieldType} {ts : List (ClassId × FieldType)} {s : State} (h : va_K D cl (t0 :: (cJ, .long) :: ts ++ [(cA, .long)]) s) : cA = cJ := by
  have h1 := va_nm_long (h.2 1 _ rfl).2
  have h2 := va_nm_long (h.2 (ts.length + 2) (cA, .long) (by simp)).2
  rw [h1] at h2
  exact (Option.some.inj h2).symm
theorem df0 : ∀ j, j < 4 → defaultValue (tyX0 j) = vp_V [.null, .null, .null, .int 0] j := fun j hj => by
  rcases (show j = 0 ∨ j = 1 ∨ j = 2 ∨ j = 3 by omega) with rfl | rfl | rfl | rfl <;> rfl
theorem df1 : ∀ j, j < 3 → defaultValue (tyX1 j) = vp_V [.null, .null, .int 0] j := fun j hj => by
  rcases (show j = 0 ∨ j = 1 ∨ j = 2 by omega) with rfl | rfl | rfl <;> rfl
theorem df2 : ∀ j, j < 7 → defaultValue (tyX2 j) = vp_V [.null, .null, .int 0, .long 0, .long 0, .int 0, .int 0] j := fun j hj => by
  rcases (show j = 0 ∨ j = 1 ∨ j = 2 ∨ j = 3 ∨ j = 4 ∨ j = 5 ∨ j = 6 by omega) with rfl | rfl | rfl | rfl | rfl | rfl | rfl <;> rfl
theorem df3 : ∀ j, j < 3 → defaultValue (tyX3 j) = vp_V [.null, .null, .int 0] j := fun j hj => by
  rcases (show j = 0 ∨ j = 1 ∨ j = 2 by omega) with rfl | rfl | rfl <;> rfl
theorem df4 : ∀ j, j < 5 → defaultValue (tyX4 j) = vp_V [.null, .int 0, .int 0, .int 0, .int 0] j := fun j hj => by
  rcases (show j = 0 ∨ j = 1 ∨ j = 2 ∨ j = 3 ∨ j = 4 by omega) with rfl | rfl | rfl | rfl | rfl <;> rfl
theorem df5 : ∀ j, j < 3 → defaultValue (tyX5 j) = vp_V [.null, .null, .int 0] j := fun j hj => by
  rcases (show j = 0 ∨ j = 1 ∨ j = 2 by omega) with rfl | rfl | rfl <;> rfl
theorem df6 : ∀ j, j < 9 → defaultValue (tyX6 j) = vp_V [.null, .null, .null, .null, .null, .null, .int 0, .int 0, .int 0] j := fun j hj => by
  rcases (show j = 0 ∨ j = 1 ∨ j = 2 ∨ j = 3 ∨ j = 4 ∨ j = 5 ∨ j = 6 ∨ j = 7 ∨ j = 8 by omega) with rfl | rfl | rfl | rfl | rfl | rfl | rfl | rfl | rfl <;> rfl
theorem df7 : ∀ j, j < 11 → defaultValue (tyX7 j) = vp_V [.null, .null, .null, .null, .null, .null, .null, .null, .null, .null, .int 0] j := fun j hj => by
  rcases (show j = 0 ∨ j = 1 ∨ j = 2 ∨ j = 3 ∨ j = 4 ∨ j = 5 ∨ j = 6 ∨ j = 7 ∨ j = 8 ∨ j = 9 ∨ j = 10 by omega) with rfl | rfl | rfl | rfl | rfl | rfl | rfl | rfl | rfl | rfl | rfl <;> rfl
theorem df8 : ∀ j, j < 9 → defaultValue (tyX8 j) = vp_V [.null, .null, .null, .null, .null, .null, .null, .null, .int 0] j := fun j hj => by
  rcases (show j = 0 ∨ j = 1 ∨ j = 2 ∨ j = 3 ∨ j = 4 ∨ j = 5 ∨ j = 6 ∨ j = 7 ∨ j = 8 by omega) with rfl | rfl | rfl | rfl | rfl | rfl | rfl | rfl | rfl <;> rfl
theorem df9 : ∀ j, j < 30 → defaultValue (tyX9 j) = vp_V [.null, .null, .null, .null, .null, .int 0, .int 0, .null, .null, .null, .null, .null, .int 0, .int 0, .int 0, .null, .null, .null, .null, .null, .null, .null, .null, .null, .null, .null, .null, .null, .int 0, .int 0] j := fun j hj => by
  rcases (show j = 0 ∨ j = 1 ∨ j = 2 ∨ j = 3 ∨ j = 4 ∨ j = 5 ∨ j = 6 ∨ j = 7 ∨ j = 8 ∨ j = 9 ∨ j = 10 ∨ j = 11 ∨ j = 12 ∨ j = 13 ∨ j = 14 ∨ j = 15 ∨ j = 16 ∨ j = 17 ∨ j = 18 ∨ j = 19 ∨ j = 20 ∨ j = 21 ∨ j = 22 ∨ j = 23 ∨ j = 24 ∨ j = 25 ∨ j = 26 ∨ j = 27 ∨ j = 28 ∨ j = 29 by omega) with rfl | rfl | rfl | rfl | rfl | rfl | rfl | rfl | rfl | rfl | rfl | rfl | rfl | rfl | rfl | rfl | rfl | rfl | rfl | rfl | rfl | rfl | rfl | rfl | rfl | rfl | rfl | rfl | rfl | rfl <;> rfl
theorem rows5 {X : va_W} {f : Nat → va_E} {r : Nat → Nat} {e : va_E} : X ++ va_pl ([] ++ (List.range 5).map r) (vr_up f ((List.range 5).map r) e) = X ++ [(r 0, e), (r 1, e), (r 2, e), (r 3, e), (r 4, e)] := by
  congr 1
  show [(r 0, _), (r 1, _), (r 2, _), (r 3, _), (r 4, _)] = _
  rw [vr_up_in (List.mem_map.mpr ⟨0, by decide, rfl⟩), vr_up_in (List.mem_map.mpr ⟨1, by decide, rfl⟩), vr_up_in (List.mem_map.mpr ⟨2, by decide, rfl⟩), vr_up_in (List.mem_map.mpr ⟨3, by decide, rfl⟩), vr_up_in (List.mem_map.mpr ⟨4, by decide, rfl⟩)]
set_option maxHeartbeats 4000000 in
set_option maxRecDepth 100000 in
theorem c_X4_init (l : Launch) (dC : Nat → ClassId) (dI : Nat → Nat → Nat) (h0 sz : Nat) : Met l yX4_init (Cond.code yX4_init cX4_init 1 none :: gtbl) ({ frames := 1, cells := 1, slots := 4, locals := 12 }) (va_Pc [.ref h0] (fun U => U.heap.size = sz ∧ va_P (dC, dI) vwCl [(h0, .inr (4, [.null, .int 0, .int 0, .int 0, .int 0]))] U.heap ∧ va_K (dC, dI) vwCl [] U ∧ va_D (fun _ => True) [(h0, .inr (4, [.null, .int 0, .int 0, .int 0, .int 0]))])) (va_Qv (fun _ : Unit => True) (fun _ U => ∃ (cI : ClassId) (q6 : Nat), va_P (dC, dI) vwCl [(h0, .inr (4, [.ref q6, .int 0, .int 0, .int 0, .int 0])), (q6, .inl (cI, 4, .inl (upd (upd (upd (upd (fun _ => 0) 0 2) 1 0) 2 20) 3 2)))] U.heap ∧ va_K (dC, dI) vwCl [(cI, .int)] U ∧ va_D (va_A [(h0, .inr (4, [.null, .int 0, .int 0, .int 0, .int 0]))] sz) [(h0, .inr (4, [.ref q6, .int 0, .int 0, .int 0, .int 0])), (q6, .inl (cI, 4, .inl (upd (upd (upd (upd (fun _ => 0) 0 2) 1 0) 2 20) 3 2)))]) (va_A [(h0, .inr (4, [.null, .int 0, .int 0, .int 0, .int 0]))] sz)) 1 4 (va_A [(h0, .inr (4, [.null, .int 0, .int 0, .int 0, .int 0]))] sz) := by
  refine Met.ofW (cc := cX4_init) (maxL := 1) (ret := none) (by decide) rfl ?_
  intro p e s m args below meth c s₁ B hml hv
  obtain ⟨rfl, hsz, hP, hK, hD0⟩ := hv
  have hx := B.exec
  have hb := B.bytes
  have hr := B.returns
  have hts := atoms_spec (ws := Cond.code yX4_init cX4_init 1 none :: gtbl) B.pre
  have hg : ∀ w ∈ gtbl, w.before #[Value.ref h0] s = true := fun w h => hts w (List.mem_cons_of_mem _ h)
  have hown : s.vm.findClass RX4 = some m.cls := findClass_of_methodNamed B.named
  have hlocks := B.notSynchronized
  have hin : meth.name = "<init>" := (name_of_methodNamed B.named B.method).1
  subst hsz
  have hD := hD0.self (sz := s.heap.size)
  generalize hAe : va_A [(h0, .inr (4, [.null, .int 0, .int 0, .int 0, .int 0]))] s.heap.size = A at hD ⊢
  have hA : ∀ q : Nat, s.heap.size ≤ q → A q := fun q h => by rw [← hAe]; exact Or.inr h
  have hS : va_S A s.heap s.heap [] := va_S.rf
  have hP : va_P (dC, dI) vwCl [(h0, .inr (4, [.null, .int 0, .int 0, .int 0, .int 0]))] s.heap := hP
  have hl := lv_entry ([.ref h0]) (n := 1) (Nat.le_of_ble_eq_true rfl)
  rw [lg_entry_eq]
  generalize (lg_sl ([.ref h0]) ++ List.replicate (1 - (lg_sl ([.ref h0])).length) Slot.unset).toArray = ls at hl ⊢
  have hl : lv_has ls 1 [(0, .ref h0)] := hl
  refine lv_aload_n hx hb dX4_init_0 rfl (lv_at hl 0 rfl) ?_
  refine W.objInit hx hb hown (hg _ wi68) (hg _ wi61) (hg _ wi62) rfl (by rw [hml]; exact hl.1) rfl dX4_init_1 (Nat.le_of_ble_eq_true rfl) (Nat.le_of_ble_eq_true rfl) ?_
  refine W.eq (g2 := F0 m 4 ls []) rfl ?_
  refine lv_aload_n hx hb dX4_init_4 rfl (lv_at hl 0 rfl) ?_
  refine lv_iconst (v := 4) hx hb dX4_init_5 (by decide) ?_
  have h_0 : 1 ≤ 1 := Nat.le_of_ble_eq_true rfl
  have h_1 : 4 ≤ 4 := Nat.le_of_ble_eq_true rfl
  refine va_newa (atype := .int) (ty := .int) (a0 := (4, .inl (fun _ => 0))) (N' := 4) hx hb (hg _ wi91) rfl hK hP hD hS hA (fun _ => rfl) (by decide) rfl (Nat.le_of_ble_eq_true rfl) h_0 h_1 dX4_init_6 (fun q6 cA H hK2 hP hD hS => ?_)
  obtain ⟨cI, hcA⟩ : ∃ z, z = cA := ⟨_, rfl⟩
  rw [← hcA] at hP hD hK2
  have hK : va_K (dC, dI) vwCl [(cI, .int)] s := hK2
  have hP : va_P (dC, dI) vwCl [(h0, .inr (4, [.null, .int 0, .int 0, .int 0, .int 0])), (q6, .inl (cI, 4, .inl (fun _ => 0)))] H := hP
  have hD : va_D A [(h0, .inr (4, [.null, .int 0, .int 0, .int 0, .int 0])), (q6, .inl (cI, 4, .inl (fun _ => 0)))] := hD
  refine W.widen (k := 1) (n := 4) (Nat.le_of_ble_eq_true rfl) (Nat.le_of_ble_eq_true rfl) ?_
  refine lv_dup hx hb dX4_init_8 rfl ?_
  refine lv_iconst (v := 0) hx hb dX4_init_9 (by decide) ?_
  refine lv_iconst (v := 2) hx hb dX4_init_10 (by decide) ?_
  refine va_iast (i := 0) (x := 2) hx hb hK hP hD hS 1 0 rfl rfl (vp_in_iff.mpr ⟨by decide, by decide⟩) dX4_init_11 (fun H locs hP hD hS => ?_)
  have hP : va_P (dC, dI) vwCl [(h0, .inr (4, [.null, .int 0, .int 0, .int 0, .int 0])), (q6, .inl (cI, 4, .inl (upd (fun _ => 0) 0 2)))] H := hP
  have hD : va_D A [(h0, .inr (4, [.null, .int 0, .int 0, .int 0, .int 0])), (q6, .inl (cI, 4, .inl (upd (fun _ => 0) 0 2)))] := hD
  refine lv_dup hx hb dX4_init_12 rfl ?_
  refine lv_iconst (v := 1) hx hb dX4_init_13 (by decide) ?_
  refine lv_iconst (v := 0) hx hb dX4_init_14 (by decide) ?_
  refine va_iast (i := 1) (x := 0) hx hb hK hP hD hS 1 0 rfl rfl (vp_in_iff.mpr ⟨by decide, by decide⟩) dX4_init_15 (fun H locs hP hD hS => ?_)
  have hP : va_P (dC, dI) vwCl [(h0, .inr (4, [.null, .int 0, .int 0, .int 0, .int 0])), (q6, .inl (cI, 4, .inl (upd (upd (fun _ => 0) 0 2) 1 0)))] H := hP
  have hD : va_D A [(h0, .inr (4, [.null, .int 0, .int 0, .int 0, .int 0])), (q6, .inl (cI, 4, .inl (upd (upd (fun _ => 0) 0 2) 1 0)))] := hD
  refine lv_dup hx hb dX4_init_16 rfl ?_
  refine lv_iconst (v := 2) hx hb dX4_init_17 (by decide) ?_
  refine lv_bipush (v := 20) hx hb dX4_init_18 (by decide) ?_
  refine va_iast (i := 2) (x := 20) hx hb hK hP hD hS 1 0 rfl rfl (vp_in_iff.mpr ⟨by decide, by decide⟩) dX4_init_20 (fun H locs hP hD hS => ?_)
  have hP : va_P (dC, dI) vwCl [(h0, .inr (4, [.null, .int 0, .int 0, .int 0, .int 0])), (q6, .inl (cI, 4, .inl (upd (upd (upd (fun _ => 0) 0 2) 1 0) 2 20)))] H := hP
  have hD : va_D A [(h0, .inr (4, [.null, .int 0, .int 0, .int 0, .int 0])), (q6, .inl (cI, 4, .inl (upd (upd (upd (fun _ => 0) 0 2) 1 0) 2 20)))] := hD
  refine lv_dup hx hb dX4_init_21 rfl ?_
  refine lv_iconst (v := 3) hx hb dX4_init_22 (by decide) ?_
  refine lv_iconst (v := 2) hx hb dX4_init_23 (by decide) ?_
  refine va_iast (i := 3) (x := 2) hx hb hK hP hD hS 1 0 rfl rfl (vp_in_iff.mpr ⟨by decide, by decide⟩) dX4_init_24 (fun H locs hP hD hS => ?_)
  have hP : va_P (dC, dI) vwCl [(h0, .inr (4, [.null, .int 0, .int 0, .int 0, .int 0])), (q6, .inl (cI, 4, .inl (upd (upd (upd (upd (fun _ => 0) 0 2) 1 0) 2 20) 3 2)))] H := hP
  have hD : va_D A [(h0, .inr (4, [.null, .int 0, .int 0, .int 0, .int 0])), (q6, .inl (cI, 4, .inl (upd (upd (upd (upd (fun _ => 0) 0 2) 1 0) 2 20) 3 2)))] := hD
  refine va_putF (D := (dC, dI)) (ci := 4) (v := .ref q6) (ty := .array (.int)) (C := RX4) (T := TX4) (N := 5) hx hb hg ck4.2.1 tyX4 ck4.2.2.1 ck4.2.2.2 hown hK hP hD hS 0 rfl rfl 0 (Nat.le_of_ble_eq_true rfl) (hg _ wi69) (fun _ h9 => h9) rfl hin rfl (by decide +kernel) rfl rfl (Nat.le_of_ble_eq_true rfl) dX4_init_25 (fun H locs hP hD hS => ?_)
  have hP : va_P (dC, dI) vwCl [(h0, .inr (4, [.ref q6, .int 0, .int 0, .int 0, .int 0])), (q6, .inl (cI, 4, .inl (upd (upd (upd (upd (fun _ => 0) 0 2) 1 0) 2 20) 3 2)))] H := hP
  have hD : va_D A [(h0, .inr (4, [.ref q6, .int 0, .int 0, .int 0, .int 0])), (q6, .inl (cI, 4, .inl (upd (upd (upd (upd (fun _ => 0) 0 2) 1 0) 2 20) 3 2)))] := hD
  have hK9 : va_K (dC, dI) vwCl [(cI, .int)] s := hK.sub [0] rfl
  exact W.vret hx hb hr (fun t ht hW => ⟨⟨(), rfl, trivial, cI, q6, by rw [ht]; exact hP, va_K.moved hW.alike hK9, hD⟩, hS.F ht⟩) hS.2.2 dX4_init_28
set_option maxHeartbeats 4000000 in
set_option maxRecDepth 100000 in
theorem c_X1_init (l : Launch) (dC : Nat → ClassId) (dI : Nat → Nat → Nat) (cI : ClassId) (h0 sz : Nat) : Met l yX1_init (Cond.code yX1_init cX1_init 1 none :: gtbl) ({ frames := 1, cells := 2, slots := 8, locals := 12 }) (va_Pc [.ref h0] (fun U => U.heap.size = sz ∧ va_P (dC, dI) vwCl [(h0, .inr (1, [.null, .null, .int 0]))] U.heap ∧ va_K (dC, dI) vwCl [(cI, .int)] U ∧ va_D (fun _ => True) [(h0, .inr (1, [.null, .null, .int 0]))])) (va_Qv (fun _ : Unit => True) (fun _ U => ∃ (q6 : Nat) (q13 : Nat), va_P (dC, dI) vwCl [(h0, .inr (1, [.ref q6, .ref q13, .int 0])), (q6, .inl (cI, 4, .inl (fun _ => 0))), (q13, .inl (cI, 4, .inl (fun _ => 0)))] U.heap ∧ va_D (va_A [(h0, .inr (1, [.null, .null, .int 0]))] sz) [(h0, .inr (1, [.ref q6, .ref q13, .int 0])), (q6, .inl (cI, 4, .inl (fun _ => 0))), (q13, .inl (cI, 4, .inl (fun _ => 0)))]) (va_A [(h0, .inr (1, [.null, .null, .int 0]))] sz)) 2 8 (va_A [(h0, .inr (1, [.null, .null, .int 0]))] sz) := by
  refine Met.ofW (cc := cX1_init) (maxL := 1) (ret := none) (by decide) rfl ?_
  intro p e s m args below meth c s₁ B hml hv
  obtain ⟨rfl, hsz, hP, hK, hD0⟩ := hv
  have hx := B.exec
  have hb := B.bytes
  have hr := B.returns
  have hts := atoms_spec (ws := Cond.code yX1_init cX1_init 1 none :: gtbl) B.pre
  have hg : ∀ w ∈ gtbl, w.before #[Value.ref h0] s = true := fun w h => hts w (List.mem_cons_of_mem _ h)
  have hown : s.vm.findClass RX1 = some m.cls := findClass_of_methodNamed B.named
  have hlocks := B.notSynchronized
  have hin : meth.name = "<init>" := (name_of_methodNamed B.named B.method).1
  subst hsz
  have hD := hD0.self (sz := s.heap.size)
  generalize hAe : va_A [(h0, .inr (1, [.null, .null, .int 0]))] s.heap.size = A at hD ⊢
  have hA : ∀ q : Nat, s.heap.size ≤ q → A q := fun q h => by rw [← hAe]; exact Or.inr h
  have hS : va_S A s.heap s.heap [] := va_S.rf
  have hP : va_P (dC, dI) vwCl [(h0, .inr (1, [.null, .null, .int 0]))] s.heap := hP
  have hl := lv_entry ([.ref h0]) (n := 1) (Nat.le_of_ble_eq_true rfl)
  rw [lg_entry_eq]
  generalize (lg_sl ([.ref h0]) ++ List.replicate (1 - (lg_sl ([.ref h0])).length) Slot.unset).toArray = ls at hl ⊢
  have hl : lv_has ls 1 [(0, .ref h0)] := hl
  refine lv_aload_n hx hb dX1_init_0 rfl (lv_at hl 0 rfl) ?_
  refine W.objInit hx hb hown (hg _ wi97) (hg _ wi61) (hg _ wi62) rfl (by rw [hml]; exact hl.1) rfl dX1_init_1 (Nat.le_of_ble_eq_true rfl) (Nat.le_of_ble_eq_true rfl) ?_
  refine W.eq (g2 := F0 m 4 ls []) rfl ?_
  refine lv_aload_n hx hb dX1_init_4 rfl (lv_at hl 0 rfl) ?_
  refine lv_iconst (v := 4) hx hb dX1_init_5 (by decide) ?_
  have h_0 : 1 ≤ 2 := Nat.le_of_ble_eq_true rfl
  have h_1 : 4 ≤ 8 := Nat.le_of_ble_eq_true rfl
  refine va_newa (atype := .int) (ty := .int) (a0 := (4, .inl (fun _ => 0))) (N' := 4) hx hb (hg _ wi91) rfl hK hP hD hS hA (fun _ => rfl) (by decide) rfl (Nat.le_of_ble_eq_true rfl) h_0 h_1 dX1_init_6 (fun q6 cA H hK2 hP hD hS => ?_)
  rw [ca_i hK2] at hP hD
  have hP : va_P (dC, dI) vwCl [(h0, .inr (1, [.null, .null, .int 0])), (q6, .inl (cI, 4, .inl (fun _ => 0)))] H := hP
  have hD : va_D A [(h0, .inr (1, [.null, .null, .int 0])), (q6, .inl (cI, 4, .inl (fun _ => 0)))] := hD
  refine W.widen (k := 1) (n := 4) (Nat.le_of_ble_eq_true rfl) (Nat.le_of_ble_eq_true rfl) ?_
  refine va_putF (D := (dC, dI)) (ci := 1) (v := .ref q6) (ty := .array (.int)) (C := RX1) (T := TX1) (N := 3) hx hb hg ck1.2.1 tyX1 ck1.2.2.1 ck1.2.2.2 hown hK hP hD hS 0 rfl rfl 0 (Nat.le_of_ble_eq_true rfl) (hg _ wi98) (fun _ h9 => h9) rfl hin rfl (by decide +kernel) rfl rfl (Nat.le_of_ble_eq_true rfl) dX1_init_8 (fun H locs hP hD hS => ?_)
  have hP : va_P (dC, dI) vwCl [(h0, .inr (1, [.ref q6, .null, .int 0])), (q6, .inl (cI, 4, .inl (fun _ => 0)))] H := hP
  have hD : va_D A [(h0, .inr (1, [.ref q6, .null, .int 0])), (q6, .inl (cI, 4, .inl (fun _ => 0)))] := hD
  refine lv_aload_n hx hb dX1_init_11 rfl (lv_at hl 0 rfl) ?_
  refine lv_iconst (v := 4) hx hb dX1_init_12 (by decide) ?_
  have h_2 : 2 ≤ 2 := Nat.le_of_ble_eq_true rfl
  have h_3 : 8 ≤ 8 := Nat.le_of_ble_eq_true rfl
  refine va_newa (atype := .int) (ty := .int) (a0 := (4, .inl (fun _ => 0))) (N' := 4) hx hb (hg _ wi91) rfl hK hP hD hS hA (fun _ => rfl) (by decide) rfl (Nat.le_of_ble_eq_true rfl) h_2 h_3 dX1_init_13 (fun q13 cA H hK2 hP hD hS => ?_)
  rw [ca_i hK2] at hP hD
  have hP : va_P (dC, dI) vwCl [(h0, .inr (1, [.ref q6, .null, .int 0])), (q6, .inl (cI, 4, .inl (fun _ => 0))), (q13, .inl (cI, 4, .inl (fun _ => 0)))] H := hP
  have hD : va_D A [(h0, .inr (1, [.ref q6, .null, .int 0])), (q6, .inl (cI, 4, .inl (fun _ => 0))), (q13, .inl (cI, 4, .inl (fun _ => 0)))] := hD
  refine W.widen (k := 2) (n := 8) (Nat.le_of_ble_eq_true rfl) (Nat.le_of_ble_eq_true rfl) ?_
  refine va_putF (D := (dC, dI)) (ci := 1) (v := .ref q13) (ty := .array (.int)) (C := RX1) (T := TX1) (N := 3) hx hb hg ck1.2.1 tyX1 ck1.2.2.1 ck1.2.2.2 hown hK hP hD hS 0 rfl rfl 1 (Nat.le_of_ble_eq_true rfl) (hg _ wi99) (fun _ h9 => h9) rfl hin rfl (by decide +kernel) rfl rfl (Nat.le_of_ble_eq_true rfl) dX1_init_15 (fun H locs hP hD hS => ?_)
  have hP : va_P (dC, dI) vwCl [(h0, .inr (1, [.ref q6, .ref q13, .int 0])), (q6, .inl (cI, 4, .inl (fun _ => 0))), (q13, .inl (cI, 4, .inl (fun _ => 0)))] H := hP
  have hD : va_D A [(h0, .inr (1, [.ref q6, .ref q13, .int 0])), (q6, .inl (cI, 4, .inl (fun _ => 0))), (q13, .inl (cI, 4, .inl (fun _ => 0)))] := hD
  have hK9 : va_K (dC, dI) vwCl [] s := hK.sub [] rfl
  exact W.vret hx hb hr (fun t ht hW => ⟨⟨(), rfl, trivial, q6, q13, by rw [ht]; exact hP, hD⟩, hS.F ht⟩) hS.2.2 dX1_init_18
set_option maxHeartbeats 4000000 in
set_option maxRecDepth 100000 in
theorem c_X3_init (l : Launch) (dC : Nat → ClassId) (dI : Nat → Nat → Nat) (cI : ClassId) (h0 sz : Nat) : Met l yX3_init (Cond.code yX3_init cX3_init 1 none :: gtbl) ({ frames := 1, cells := 2, slots := 1200, locals := 12 }) (va_Pc [.ref h0] (fun U => U.heap.size = sz ∧ va_P (dC, dI) vwCl [(h0, .inr (3, [.null, .null, .int 0]))] U.heap ∧ va_K (dC, dI) vwCl [(cI, .int)] U ∧ va_D (fun _ => True) [(h0, .inr (3, [.null, .null, .int 0]))])) (va_Qv (fun _ : Unit => True) (fun _ U => ∃ (q8 : Nat) (q17 : Nat), va_P (dC, dI) vwCl [(h0, .inr (3, [.ref q8, .ref q17, .int 0])), (q8, .inl (cI, 600, .inl (fun _ => 0))), (q17, .inl (cI, 600, .inl (fun _ => 0)))] U.heap ∧ va_D (va_A [(h0, .inr (3, [.null, .null, .int 0]))] sz) [(h0, .inr (3, [.ref q8, .ref q17, .int 0])), (q8, .inl (cI, 600, .inl (fun _ => 0))), (q17, .inl (cI, 600, .inl (fun _ => 0)))]) (va_A [(h0, .inr (3, [.null, .null, .int 0]))] sz)) 2 1200 (va_A [(h0, .inr (3, [.null, .null, .int 0]))] sz) := by
  refine Met.ofW (cc := cX3_init) (maxL := 1) (ret := none) (by decide) rfl ?_
  intro p e s m args below meth c s₁ B hml hv
  obtain ⟨rfl, hsz, hP, hK, hD0⟩ := hv
  have hx := B.exec
  have hb := B.bytes
  have hr := B.returns
  have hts := atoms_spec (ws := Cond.code yX3_init cX3_init 1 none :: gtbl) B.pre
  have hg : ∀ w ∈ gtbl, w.before #[Value.ref h0] s = true := fun w h => hts w (List.mem_cons_of_mem _ h)
  have hown : s.vm.findClass RX3 = some m.cls := findClass_of_methodNamed B.named
  have hlocks := B.notSynchronized
  have hin : meth.name = "<init>" := (name_of_methodNamed B.named B.method).1
  subst hsz
  have hD := hD0.self (sz := s.heap.size)
  generalize hAe : va_A [(h0, .inr (3, [.null, .null, .int 0]))] s.heap.size = A at hD ⊢
  have hA : ∀ q : Nat, s.heap.size ≤ q → A q := fun q h => by rw [← hAe]; exact Or.inr h
  have hS : va_S A s.heap s.heap [] := va_S.rf
  have hP : va_P (dC, dI) vwCl [(h0, .inr (3, [.null, .null, .int 0]))] s.heap := hP
  have hl := lv_entry ([.ref h0]) (n := 1) (Nat.le_of_ble_eq_true rfl)
  rw [lg_entry_eq]
  generalize (lg_sl ([.ref h0]) ++ List.replicate (1 - (lg_sl ([.ref h0])).length) Slot.unset).toArray = ls at hl ⊢
  have hl : lv_has ls 1 [(0, .ref h0)] := hl
  refine lv_aload_n hx hb dX3_init_0 rfl (lv_at hl 0 rfl) ?_
  refine W.objInit hx hb hown (hg _ wi115) (hg _ wi61) (hg _ wi62) rfl (by rw [hml]; exact hl.1) rfl dX3_init_1 (Nat.le_of_ble_eq_true rfl) (Nat.le_of_ble_eq_true rfl) ?_
  refine W.eq (g2 := F0 m 4 ls []) rfl ?_
  refine lv_aload_n hx hb dX3_init_4 rfl (lv_at hl 0 rfl) ?_
  refine lv_sipush (v := 600) hx hb dX3_init_5 (by decide) ?_
  have h_0 : 1 ≤ 2 := Nat.le_of_ble_eq_true rfl
  have h_1 : 600 ≤ 1200 := Nat.le_of_ble_eq_true rfl
  refine va_newa (atype := .int) (ty := .int) (a0 := (600, .inl (fun _ => 0))) (N' := 600) hx hb (hg _ wi91) rfl hK hP hD hS hA (fun _ => rfl) (by decide) rfl (Nat.le_of_ble_eq_true rfl) h_0 h_1 dX3_init_8 (fun q8 cA H hK2 hP hD hS => ?_)
  rw [ca_i hK2] at hP hD
  have hP : va_P (dC, dI) vwCl [(h0, .inr (3, [.null, .null, .int 0])), (q8, .inl (cI, 600, .inl (fun _ => 0)))] H := hP
  have hD : va_D A [(h0, .inr (3, [.null, .null, .int 0])), (q8, .inl (cI, 600, .inl (fun _ => 0)))] := hD
  refine W.widen (k := 1) (n := 600) (Nat.le_of_ble_eq_true rfl) (Nat.le_of_ble_eq_true rfl) ?_
  refine va_putF (D := (dC, dI)) (ci := 3) (v := .ref q8) (ty := .array (.int)) (C := RX3) (T := TX3) (N := 3) hx hb hg ck3.2.1 tyX3 ck3.2.2.1 ck3.2.2.2 hown hK hP hD hS 0 rfl rfl 0 (Nat.le_of_ble_eq_true rfl) (hg _ wi116) (fun _ h9 => h9) rfl hin rfl (by decide +kernel) rfl rfl (Nat.le_of_ble_eq_true rfl) dX3_init_10 (fun H locs hP hD hS => ?_)
  have hP : va_P (dC, dI) vwCl [(h0, .inr (3, [.ref q8, .null, .int 0])), (q8, .inl (cI, 600, .inl (fun _ => 0)))] H := hP
  have hD : va_D A [(h0, .inr (3, [.ref q8, .null, .int 0])), (q8, .inl (cI, 600, .inl (fun _ => 0)))] := hD
  refine lv_aload_n hx hb dX3_init_13 rfl (lv_at hl 0 rfl) ?_
  refine lv_sipush (v := 600) hx hb dX3_init_14 (by decide) ?_
  have h_2 : 2 ≤ 2 := Nat.le_of_ble_eq_true rfl
  have h_3 : 1200 ≤ 1200 := Nat.le_of_ble_eq_true rfl
  refine va_newa (atype := .int) (ty := .int) (a0 := (600, .inl (fun _ => 0))) (N' := 600) hx hb (hg _ wi91) rfl hK hP hD hS hA (fun _ => rfl) (by decide) rfl (Nat.le_of_ble_eq_true rfl) h_2 h_3 dX3_init_17 (fun q17 cA H hK2 hP hD hS => ?_)
  rw [ca_i hK2] at hP hD
  have hP : va_P (dC, dI) vwCl [(h0, .inr (3, [.ref q8, .null, .int 0])), (q8, .inl (cI, 600, .inl (fun _ => 0))), (q17, .inl (cI, 600, .inl (fun _ => 0)))] H := hP
  have hD : va_D A [(h0, .inr (3, [.ref q8, .null, .int 0])), (q8, .inl (cI, 600, .inl (fun _ => 0))), (q17, .inl (cI, 600, .inl (fun _ => 0)))] := hD
  refine W.widen (k := 2) (n := 1200) (Nat.le_of_ble_eq_true rfl) (Nat.le_of_ble_eq_true rfl) ?_
  refine va_putF (D := (dC, dI)) (ci := 3) (v := .ref q17) (ty := .array (.int)) (C := RX3) (T := TX3) (N := 3) hx hb hg ck3.2.1 tyX3 ck3.2.2.1 ck3.2.2.2 hown hK hP hD hS 0 rfl rfl 1 (Nat.le_of_ble_eq_true rfl) (hg _ wi119) (fun _ h9 => h9) rfl hin rfl (by decide +kernel) rfl rfl (Nat.le_of_ble_eq_true rfl) dX3_init_19 (fun H locs hP hD hS => ?_)
  have hP : va_P (dC, dI) vwCl [(h0, .inr (3, [.ref q8, .ref q17, .int 0])), (q8, .inl (cI, 600, .inl (fun _ => 0))), (q17, .inl (cI, 600, .inl (fun _ => 0)))] H := hP
  have hD : va_D A [(h0, .inr (3, [.ref q8, .ref q17, .int 0])), (q8, .inl (cI, 600, .inl (fun _ => 0))), (q17, .inl (cI, 600, .inl (fun _ => 0)))] := hD
  have hK9 : va_K (dC, dI) vwCl [] s := hK.sub [] rfl
  exact W.vret hx hb hr (fun t ht hW => ⟨⟨(), rfl, trivial, q8, q17, by rw [ht]; exact hP, hD⟩, hS.F ht⟩) hS.2.2 dX3_init_22
set_option maxHeartbeats 4000000 in
set_option maxRecDepth 100000 in
theorem c_X6_init (l : Launch) (dC : Nat → ClassId) (dI : Nat → Nat → Nat) (cI : ClassId) (h0 sz : Nat) : Met l yX6_init (Cond.code yX6_init cX6_init 1 none :: gtbl) ({ frames := 1, cells := 10, slots := 4505, locals := 12 }) (va_Pc [.ref h0] (fun U => U.heap.size = sz ∧ va_P (dC, dI) vwCl [(h0, .inr (6, [.null, .null, .null, .null, .null, .null, .int 0, .int 0, .int 0]))] U.heap ∧ va_K (dC, dI) vwCl [(cI, .int)] U ∧ va_D (fun _ => True) [(h0, .inr (6, [.null, .null, .null, .null, .null, .null, .int 0, .int 0, .int 0]))] ∧ AOA9 .int U)) (va_Qv (fun _ : Unit => True) (fun _ U => ∃ (cQ : ClassId) (q9 : Nat) (r : Nat → Nat) (q30 : Nat) (q39 : Nat) (q48 : Nat) (q57 : Nat), va_P (dC, dI) vwCl [(h0, .inr (6, [.ref q9, .ref (r 0), .ref q30, .ref q39, .ref q48, .ref q57, .int 0, .int 0, .int 0])), (q9, .inl (cQ, 5, .inr (.inr (.inr (.inr (fun i => if i < 5 then some (r i) else none)))))), (r 0, .inl (cI, 600, .inl (fun _ => 0))), (r 1, .inl (cI, 600, .inl (fun _ => 0))), (r 2, .inl (cI, 600, .inl (fun _ => 0))), (r 3, .inl (cI, 600, .inl (fun _ => 0))), (r 4, .inl (cI, 600, .inl (fun _ => 0))), (q30, .inl (cI, 600, .inl (fun _ => 0))), (q39, .inl (cI, 300, .inl (fun _ => 0))), (q48, .inl (cI, 300, .inl (fun _ => 0))), (q57, .inl (cI, 300, .inl (fun _ => 0)))] U.heap ∧ va_K (dC, dI) vwCl [(cQ, .array .int)] U ∧ va_D (va_A [(h0, .inr (6, [.null, .null, .null, .null, .null, .null, .int 0, .int 0, .int 0]))] sz) [(h0, .inr (6, [.ref q9, .ref (r 0), .ref q30, .ref q39, .ref q48, .ref q57, .int 0, .int 0, .int 0])), (q9, .inl (cQ, 5, .inr (.inr (.inr (.inr (fun i => if i < 5 then some (r i) else none)))))), (r 0, .inl (cI, 600, .inl (fun _ => 0))), (r 1, .inl (cI, 600, .inl (fun _ => 0))), (r 2, .inl (cI, 600, .inl (fun _ => 0))), (r 3, .inl (cI, 600, .inl (fun _ => 0))), (r 4, .inl (cI, 600, .inl (fun _ => 0))), (q30, .inl (cI, 600, .inl (fun _ => 0))), (q39, .inl (cI, 300, .inl (fun _ => 0))), (q48, .inl (cI, 300, .inl (fun _ => 0))), (q57, .inl (cI, 300, .inl (fun _ => 0)))]) (va_A [(h0, .inr (6, [.null, .null, .null, .null, .null, .null, .int 0, .int 0, .int 0]))] sz)) 10 4505 (va_A [(h0, .inr (6, [.null, .null, .null, .null, .null, .null, .int 0, .int 0, .int 0]))] sz) := by
  refine Met.ofW (cc := cX6_init) (maxL := 1) (ret := none) (by decide) rfl ?_
  intro p e s m args below meth c s₁ B hml hv
  obtain ⟨rfl, hsz, hP, hK, hD0, hAO⟩ := hv
  have hx := B.exec
  have hb := B.bytes
  have hr := B.returns
  have hts := atoms_spec (ws := Cond.code yX6_init cX6_init 1 none :: gtbl) B.pre
  have hg : ∀ w ∈ gtbl, w.before #[Value.ref h0] s = true := fun w h => hts w (List.mem_cons_of_mem _ h)
  have hown : s.vm.findClass RX6 = some m.cls := findClass_of_methodNamed B.named
  have hlocks := B.notSynchronized
  have hin : meth.name = "<init>" := (name_of_methodNamed B.named B.method).1
  subst hsz
  have hD := hD0.self (sz := s.heap.size)
  generalize hAe : va_A [(h0, .inr (6, [.null, .null, .null, .null, .null, .null, .int 0, .int 0, .int 0]))] s.heap.size = A at hD ⊢
  have hA : ∀ q : Nat, s.heap.size ≤ q → A q := fun q h => by rw [← hAe]; exact Or.inr h
  have hS : va_S A s.heap s.heap [] := va_S.rf
  have hP : va_P (dC, dI) vwCl [(h0, .inr (6, [.null, .null, .null, .null, .null, .null, .int 0, .int 0, .int 0]))] s.heap := hP
  have hl := lv_entry ([.ref h0]) (n := 1) (Nat.le_of_ble_eq_true rfl)
  rw [lg_entry_eq]
  generalize (lg_sl ([.ref h0]) ++ List.replicate (1 - (lg_sl ([.ref h0])).length) Slot.unset).toArray = ls at hl ⊢
  have hl : lv_has ls 1 [(0, .ref h0)] := hl
  refine lv_aload_n hx hb dX6_init_0 rfl (lv_at hl 0 rfl) ?_
  refine W.objInit hx hb hown (hg _ wi136) (hg _ wi61) (hg _ wi62) rfl (by rw [hml]; exact hl.1) rfl dX6_init_1 (Nat.le_of_ble_eq_true rfl) (Nat.le_of_ble_eq_true rfl) ?_
  refine W.eq (g2 := F0 m 4 ls []) rfl ?_
  refine lv_aload_n hx hb dX6_init_4 rfl (lv_at hl 0 rfl) ?_
  refine lv_iconst (v := 5) hx hb dX6_init_5 (by decide) ?_
  refine lv_sipush (v := 600) hx hb dX6_init_6 (by decide) ?_
  have h_0 : 6 ≤ 10 := Nat.le_of_ble_eq_true rfl
  have h_1 : 3005 ≤ 4505 := Nat.le_of_ble_eq_true rfl
  refine va_mna (X := [(h0, .inr (6, [.null, .null, .null, .null, .null, .null, .int 0, .int 0, .int 0]))]) (L := []) (f := fun _ => .inr (0, [])) (ty := .int) (cy := cI) (N' := 5) (K' := 600) (z := (600, .inl (fun _ => 0))) hx hb hown (hg _ wi137) hAO (hg _ wi91) (va_nm_int (hK.2 0 _ rfl).2) hK hP hD hS hA (by decide) (by decide) rfl rfl (Nat.le_of_ble_eq_true rfl) (Nat.le_of_ble_eq_true rfl) (Nat.le_of_ble_eq_true rfl) rfl rfl h_0 h_1 (fun c => arrV_new c 600 _) dX6_init_9 (fun q9 r cQ H hr1 hr2 hK2 hP hD hS => ?_)
  have hK : va_K (dC, dI) vwCl [(cI, .int), (cQ, .array .int)] s := hK2
  rw [rows5] at hP hD
  have hP : va_P (dC, dI) vwCl [(h0, .inr (6, [.null, .null, .null, .null, .null, .null, .int 0, .int 0, .int 0])), (q9, .inl (cQ, 5, .inr (.inr (.inr (.inr (fun i => if i < 5 then some (r i) else none)))))), (r 0, .inl (cI, 600, .inl (fun _ => 0))), (r 1, .inl (cI, 600, .inl (fun _ => 0))), (r 2, .inl (cI, 600, .inl (fun _ => 0))), (r 3, .inl (cI, 600, .inl (fun _ => 0))), (r 4, .inl (cI, 600, .inl (fun _ => 0)))] H := hP
  have hD : va_D A [(h0, .inr (6, [.null, .null, .null, .null, .null, .null, .int 0, .int 0, .int 0])), (q9, .inl (cQ, 5, .inr (.inr (.inr (.inr (fun i => if i < 5 then some (r i) else none)))))), (r 0, .inl (cI, 600, .inl (fun _ => 0))), (r 1, .inl (cI, 600, .inl (fun _ => 0))), (r 2, .inl (cI, 600, .inl (fun _ => 0))), (r 3, .inl (cI, 600, .inl (fun _ => 0))), (r 4, .inl (cI, 600, .inl (fun _ => 0)))] := hD
  refine W.widen (k := 6) (n := 3005) (Nat.le_of_ble_eq_true rfl) (Nat.le_of_ble_eq_true rfl) ?_
  refine va_putF (D := (dC, dI)) (ci := 6) (v := .ref q9) (ty := .array (.array (.int))) (C := RX6) (T := TX6) (N := 9) hx hb hg ck6.2.1 tyX6 ck6.2.2.1 ck6.2.2.2 hown hK hP hD hS 0 rfl rfl 0 (Nat.le_of_ble_eq_true rfl) (hg _ wi139) (fun _ h9 => h9) rfl hin rfl (by decide +kernel) rfl rfl (Nat.le_of_ble_eq_true rfl) dX6_init_13 (fun H locs hP hD hS => ?_)
  have hP : va_P (dC, dI) vwCl [(h0, .inr (6, [.ref q9, .null, .null, .null, .null, .null, .int 0, .int 0, .int 0])), (q9, .inl (cQ, 5, .inr (.inr (.inr (.inr (fun i => if i < 5 then some (r i) else none)))))), (r 0, .inl (cI, 600, .inl (fun _ => 0))), (r 1, .inl (cI, 600, .inl (fun _ => 0))), (r 2, .inl (cI, 600, .inl (fun _ => 0))), (r 3, .inl (cI, 600, .inl (fun _ => 0))), (r 4, .inl (cI, 600, .inl (fun _ => 0)))] H := hP
  have hD : va_D A [(h0, .inr (6, [.ref q9, .null, .null, .null, .null, .null, .int 0, .int 0, .int 0])), (q9, .inl (cQ, 5, .inr (.inr (.inr (.inr (fun i => if i < 5 then some (r i) else none)))))), (r 0, .inl (cI, 600, .inl (fun _ => 0))), (r 1, .inl (cI, 600, .inl (fun _ => 0))), (r 2, .inl (cI, 600, .inl (fun _ => 0))), (r 3, .inl (cI, 600, .inl (fun _ => 0))), (r 4, .inl (cI, 600, .inl (fun _ => 0)))] := hD
  refine lv_aload_n hx hb dX6_init_16 rfl (lv_at hl 0 rfl) ?_
  refine lv_aload_n hx hb dX6_init_17 rfl (lv_at hl 0 rfl) ?_
  refine va_get (D := (dC, dI)) (ci := 6) (v := .ref q9) (C := RX6) (T := TX6) (N := 9) hx hb hg ck6.2.1 hown hK hP 0 rfl rfl 0 (Nat.le_of_ble_eq_true rfl) (hg _ wi139) (fun _ h9 => h9) rfl dX6_init_18 ?_
  refine lv_iconst (v := 0) hx hb dX6_init_21 (by decide) ?_
  refine W.aald (v := .ref (r 0)) (ty := .array .int) hx hb (hP 1 _ rfl) ((hK.2 1 _ rfl).1 5 (fun j => va_rf (if j < 5 then some (r j) else none))) rfl (fun q => by cases q) (by show ¬ ((0 : Int32) < 0 ∨ (arrV _ _ _).slots.size ≤ _); rw [arrV_size]; show ¬ ((0 : Int32) < 0 ∨ 5 ≤ (0 : Int32).toNatClampNeg); decide) (by show (arrV _ _ _).slots[_]? = _; rw [show (0 : Int32).toNatClampNeg = 0 from rfl, arrV_read _ _ (by decide : (0 : Nat) < 5)]; rfl) rfl rfl dX6_init_22 ?_
  refine va_put (D := (dC, dI)) (ci := 6) (v := .ref (r 0)) (ty := .array (.int)) (C := RX6) (T := TX6) (N := 9) hx hb hg ck6.2.1 tyX6 ck6.2.2.1 ck6.2.2.2 hown hK hP hD hS 0 rfl rfl 1 (Nat.le_of_ble_eq_true rfl) (hg _ wi140) (fun _ h9 => h9) rfl (by decide +kernel) rfl rfl (Nat.le_of_ble_eq_true rfl) dX6_init_23 (fun H locs hP hD hS => ?_)
  have hP : va_P (dC, dI) vwCl [(h0, .inr (6, [.ref q9, .ref (r 0), .null, .null, .null, .null, .int 0, .int 0, .int 0])), (q9, .inl (cQ, 5, .inr (.inr (.inr (.inr (fun i => if i < 5 then some (r i) else none)))))), (r 0, .inl (cI, 600, .inl (fun _ => 0))), (r 1, .inl (cI, 600, .inl (fun _ => 0))), (r 2, .inl (cI, 600, .inl (fun _ => 0))), (r 3, .inl (cI, 600, .inl (fun _ => 0))), (r 4, .inl (cI, 600, .inl (fun _ => 0)))] H := hP
  have hD : va_D A [(h0, .inr (6, [.ref q9, .ref (r 0), .null, .null, .null, .null, .int 0, .int 0, .int 0])), (q9, .inl (cQ, 5, .inr (.inr (.inr (.inr (fun i => if i < 5 then some (r i) else none)))))), (r 0, .inl (cI, 600, .inl (fun _ => 0))), (r 1, .inl (cI, 600, .inl (fun _ => 0))), (r 2, .inl (cI, 600, .inl (fun _ => 0))), (r 3, .inl (cI, 600, .inl (fun _ => 0))), (r 4, .inl (cI, 600, .inl (fun _ => 0)))] := hD
  refine lv_aload_n hx hb dX6_init_26 rfl (lv_at hl 0 rfl) ?_
  refine lv_sipush (v := 600) hx hb dX6_init_27 (by decide) ?_
  have h_2 : 7 ≤ 10 := Nat.le_of_ble_eq_true rfl
  have h_3 : 3605 ≤ 4505 := Nat.le_of_ble_eq_true rfl
  refine va_newa (atype := .int) (ty := .int) (a0 := (600, .inl (fun _ => 0))) (N' := 600) hx hb (hg _ wi91) rfl hK hP hD hS hA (fun _ => rfl) (by decide) rfl (Nat.le_of_ble_eq_true rfl) h_2 h_3 dX6_init_30 (fun q30 cA H hK2 hP hD hS => ?_)
  rw [ca_i hK2] at hP hD
  have hP : va_P (dC, dI) vwCl [(h0, .inr (6, [.ref q9, .ref (r 0), .null, .null, .null, .null, .int 0, .int 0, .int 0])), (q9, .inl (cQ, 5, .inr (.inr (.inr (.inr (fun i => if i < 5 then some (r i) else none)))))), (r 0, .inl (cI, 600, .inl (fun _ => 0))), (r 1, .inl (cI, 600, .inl (fun _ => 0))), (r 2, .inl (cI, 600, .inl (fun _ => 0))), (r 3, .inl (cI, 600, .inl (fun _ => 0))), (r 4, .inl (cI, 600, .inl (fun _ => 0))), (q30, .inl (cI, 600, .inl (fun _ => 0)))] H := hP
  have hD : va_D A [(h0, .inr (6, [.ref q9, .ref (r 0), .null, .null, .null, .null, .int 0, .int 0, .int 0])), (q9, .inl (cQ, 5, .inr (.inr (.inr (.inr (fun i => if i < 5 then some (r i) else none)))))), (r 0, .inl (cI, 600, .inl (fun _ => 0))), (r 1, .inl (cI, 600, .inl (fun _ => 0))), (r 2, .inl (cI, 600, .inl (fun _ => 0))), (r 3, .inl (cI, 600, .inl (fun _ => 0))), (r 4, .inl (cI, 600, .inl (fun _ => 0))), (q30, .inl (cI, 600, .inl (fun _ => 0)))] := hD
  refine W.widen (k := 7) (n := 3605) (Nat.le_of_ble_eq_true rfl) (Nat.le_of_ble_eq_true rfl) ?_
  refine va_putF (D := (dC, dI)) (ci := 6) (v := .ref q30) (ty := .array (.int)) (C := RX6) (T := TX6) (N := 9) hx hb hg ck6.2.1 tyX6 ck6.2.2.1 ck6.2.2.2 hown hK hP hD hS 0 rfl rfl 2 (Nat.le_of_ble_eq_true rfl) (hg _ wi143) (fun _ h9 => h9) rfl hin rfl (by decide +kernel) rfl rfl (Nat.le_of_ble_eq_true rfl) dX6_init_32 (fun H locs hP hD hS => ?_)
  have hP : va_P (dC, dI) vwCl [(h0, .inr (6, [.ref q9, .ref (r 0), .ref q30, .null, .null, .null, .int 0, .int 0, .int 0])), (q9, .inl (cQ, 5, .inr (.inr (.inr (.inr (fun i => if i < 5 then some (r i) else none)))))), (r 0, .inl (cI, 600, .inl (fun _ => 0))), (r 1, .inl (cI, 600, .inl (fun _ => 0))), (r 2, .inl (cI, 600, .inl (fun _ => 0))), (r 3, .inl (cI, 600, .inl (fun _ => 0))), (r 4, .inl (cI, 600, .inl (fun _ => 0))), (q30, .inl (cI, 600, .inl (fun _ => 0)))] H := hP
  have hD : va_D A [(h0, .inr (6, [.ref q9, .ref (r 0), .ref q30, .null, .null, .null, .int 0, .int 0, .int 0])), (q9, .inl (cQ, 5, .inr (.inr (.inr (.inr (fun i => if i < 5 then some (r i) else none)))))), (r 0, .inl (cI, 600, .inl (fun _ => 0))), (r 1, .inl (cI, 600, .inl (fun _ => 0))), (r 2, .inl (cI, 600, .inl (fun _ => 0))), (r 3, .inl (cI, 600, .inl (fun _ => 0))), (r 4, .inl (cI, 600, .inl (fun _ => 0))), (q30, .inl (cI, 600, .inl (fun _ => 0)))] := hD
  refine lv_aload_n hx hb dX6_init_35 rfl (lv_at hl 0 rfl) ?_
  refine lv_sipush (v := 300) hx hb dX6_init_36 (by decide) ?_
  have h_4 : 8 ≤ 10 := Nat.le_of_ble_eq_true rfl
  have h_5 : 3905 ≤ 4505 := Nat.le_of_ble_eq_true rfl
  refine va_newa (atype := .int) (ty := .int) (a0 := (300, .inl (fun _ => 0))) (N' := 300) hx hb (hg _ wi91) rfl hK hP hD hS hA (fun _ => rfl) (by decide) rfl (Nat.le_of_ble_eq_true rfl) h_4 h_5 dX6_init_39 (fun q39 cA H hK2 hP hD hS => ?_)
  rw [ca_i hK2] at hP hD
  have hP : va_P (dC, dI) vwCl [(h0, .inr (6, [.ref q9, .ref (r 0), .ref q30, .null, .null, .null, .int 0, .int 0, .int 0])), (q9, .inl (cQ, 5, .inr (.inr (.inr (.inr (fun i => if i < 5 then some (r i) else none)))))), (r 0, .inl (cI, 600, .inl (fun _ => 0))), (r 1, .inl (cI, 600, .inl (fun _ => 0))), (r 2, .inl (cI, 600, .inl (fun _ => 0))), (r 3, .inl (cI, 600, .inl (fun _ => 0))), (r 4, .inl (cI, 600, .inl (fun _ => 0))), (q30, .inl (cI, 600, .inl (fun _ => 0))), (q39, .inl (cI, 300, .inl (fun _ => 0)))] H := hP
  have hD : va_D A [(h0, .inr (6, [.ref q9, .ref (r 0), .ref q30, .null, .null, .null, .int 0, .int 0, .int 0])), (q9, .inl (cQ, 5, .inr (.inr (.inr (.inr (fun i => if i < 5 then some (r i) else none)))))), (r 0, .inl (cI, 600, .inl (fun _ => 0))), (r 1, .inl (cI, 600, .inl (fun _ => 0))), (r 2, .inl (cI, 600, .inl (fun _ => 0))), (r 3, .inl (cI, 600, .inl (fun _ => 0))), (r 4, .inl (cI, 600, .inl (fun _ => 0))), (q30, .inl (cI, 600, .inl (fun _ => 0))), (q39, .inl (cI, 300, .inl (fun _ => 0)))] := hD
  refine W.widen (k := 8) (n := 3905) (Nat.le_of_ble_eq_true rfl) (Nat.le_of_ble_eq_true rfl) ?_
  refine va_putF (D := (dC, dI)) (ci := 6) (v := .ref q39) (ty := .array (.int)) (C := RX6) (T := TX6) (N := 9) hx hb hg ck6.2.1 tyX6 ck6.2.2.1 ck6.2.2.2 hown hK hP hD hS 0 rfl rfl 3 (Nat.le_of_ble_eq_true rfl) (hg _ wi145) (fun _ h9 => h9) rfl hin rfl (by decide +kernel) rfl rfl (Nat.le_of_ble_eq_true rfl) dX6_init_41 (fun H locs hP hD hS => ?_)
  have hP : va_P (dC, dI) vwCl [(h0, .inr (6, [.ref q9, .ref (r 0), .ref q30, .ref q39, .null, .null, .int 0, .int 0, .int 0])), (q9, .inl (cQ, 5, .inr (.inr (.inr (.inr (fun i => if i < 5 then some (r i) else none)))))), (r 0, .inl (cI, 600, .inl (fun _ => 0))), (r 1, .inl (cI, 600, .inl (fun _ => 0))), (r 2, .inl (cI, 600, .inl (fun _ => 0))), (r 3, .inl (cI, 600, .inl (fun _ => 0))), (r 4, .inl (cI, 600, .inl (fun _ => 0))), (q30, .inl (cI, 600, .inl (fun _ => 0))), (q39, .inl (cI, 300, .inl (fun _ => 0)))] H := hP
  have hD : va_D A [(h0, .inr (6, [.ref q9, .ref (r 0), .ref q30, .ref q39, .null, .null, .int 0, .int 0, .int 0])), (q9, .inl (cQ, 5, .inr (.inr (.inr (.inr (fun i => if i < 5 then some (r i) else none)))))), (r 0, .inl (cI, 600, .inl (fun _ => 0))), (r 1, .inl (cI, 600, .inl (fun _ => 0))), (r 2, .inl (cI, 600, .inl (fun _ => 0))), (r 3, .inl (cI, 600, .inl (fun _ => 0))), (r 4, .inl (cI, 600, .inl (fun _ => 0))), (q30, .inl (cI, 600, .inl (fun _ => 0))), (q39, .inl (cI, 300, .inl (fun _ => 0)))] := hD
  refine lv_aload_n hx hb dX6_init_44 rfl (lv_at hl 0 rfl) ?_
  refine lv_sipush (v := 300) hx hb dX6_init_45 (by decide) ?_
  have h_6 : 9 ≤ 10 := Nat.le_of_ble_eq_true rfl
  have h_7 : 4205 ≤ 4505 := Nat.le_of_ble_eq_true rfl
  refine va_newa (atype := .int) (ty := .int) (a0 := (300, .inl (fun _ => 0))) (N' := 300) hx hb (hg _ wi91) rfl hK hP hD hS hA (fun _ => rfl) (by decide) rfl (Nat.le_of_ble_eq_true rfl) h_6 h_7 dX6_init_48 (fun q48 cA H hK2 hP hD hS => ?_)
  rw [ca_i hK2] at hP hD
  have hP : va_P (dC, dI) vwCl [(h0, .inr (6, [.ref q9, .ref (r 0), .ref q30, .ref q39, .null, .null, .int 0, .int 0, .int 0])), (q9, .inl (cQ, 5, .inr (.inr (.inr (.inr (fun i => if i < 5 then some (r i) else none)))))), (r 0, .inl (cI, 600, .inl (fun _ => 0))), (r 1, .inl (cI, 600, .inl (fun _ => 0))), (r 2, .inl (cI, 600, .inl (fun _ => 0))), (r 3, .inl (cI, 600, .inl (fun _ => 0))), (r 4, .inl (cI, 600, .inl (fun _ => 0))), (q30, .inl (cI, 600, .inl (fun _ => 0))), (q39, .inl (cI, 300, .inl (fun _ => 0))), (q48, .inl (cI, 300, .inl (fun _ => 0)))] H := hP
  have hD : va_D A [(h0, .inr (6, [.ref q9, .ref (r 0), .ref q30, .ref q39, .null, .null, .int 0, .int 0, .int 0])), (q9, .inl (cQ, 5, .inr (.inr (.inr (.inr (fun i => if i < 5 then some (r i) else none)))))), (r 0, .inl (cI, 600, .inl (fun _ => 0))), (r 1, .inl (cI, 600, .inl (fun _ => 0))), (r 2, .inl (cI, 600, .inl (fun _ => 0))), (r 3, .inl (cI, 600, .inl (fun _ => 0))), (r 4, .inl (cI, 600, .inl (fun _ => 0))), (q30, .inl (cI, 600, .inl (fun _ => 0))), (q39, .inl (cI, 300, .inl (fun _ => 0))), (q48, .inl (cI, 300, .inl (fun _ => 0)))] := hD
  refine W.widen (k := 9) (n := 4205) (Nat.le_of_ble_eq_true rfl) (Nat.le_of_ble_eq_true rfl) ?_
  refine va_putF (D := (dC, dI)) (ci := 6) (v := .ref q48) (ty := .array (.int)) (C := RX6) (T := TX6) (N := 9) hx hb hg ck6.2.1 tyX6 ck6.2.2.1 ck6.2.2.2 hown hK hP hD hS 0 rfl rfl 4 (Nat.le_of_ble_eq_true rfl) (hg _ wi148) (fun _ h9 => h9) rfl hin rfl (by decide +kernel) rfl rfl (Nat.le_of_ble_eq_true rfl) dX6_init_50 (fun H locs hP hD hS => ?_)
  have hP : va_P (dC, dI) vwCl [(h0, .inr (6, [.ref q9, .ref (r 0), .ref q30, .ref q39, .ref q48, .null, .int 0, .int 0, .int 0])), (q9, .inl (cQ, 5, .inr (.inr (.inr (.inr (fun i => if i < 5 then some (r i) else none)))))), (r 0, .inl (cI, 600, .inl (fun _ => 0))), (r 1, .inl (cI, 600, .inl (fun _ => 0))), (r 2, .inl (cI, 600, .inl (fun _ => 0))), (r 3, .inl (cI, 600, .inl (fun _ => 0))), (r 4, .inl (cI, 600, .inl (fun _ => 0))), (q30, .inl (cI, 600, .inl (fun _ => 0))), (q39, .inl (cI, 300, .inl (fun _ => 0))), (q48, .inl (cI, 300, .inl (fun _ => 0)))] H := hP
  have hD : va_D A [(h0, .inr (6, [.ref q9, .ref (r 0), .ref q30, .ref q39, .ref q48, .null, .int 0, .int 0, .int 0])), (q9, .inl (cQ, 5, .inr (.inr (.inr (.inr (fun i => if i < 5 then some (r i) else none)))))), (r 0, .inl (cI, 600, .inl (fun _ => 0))), (r 1, .inl (cI, 600, .inl (fun _ => 0))), (r 2, .inl (cI, 600, .inl (fun _ => 0))), (r 3, .inl (cI, 600, .inl (fun _ => 0))), (r 4, .inl (cI, 600, .inl (fun _ => 0))), (q30, .inl (cI, 600, .inl (fun _ => 0))), (q39, .inl (cI, 300, .inl (fun _ => 0))), (q48, .inl (cI, 300, .inl (fun _ => 0)))] := hD
  refine lv_aload_n hx hb dX6_init_53 rfl (lv_at hl 0 rfl) ?_
  refine lv_sipush (v := 300) hx hb dX6_init_54 (by decide) ?_
  have h_8 : 10 ≤ 10 := Nat.le_of_ble_eq_true rfl
  have h_9 : 4505 ≤ 4505 := Nat.le_of_ble_eq_true rfl
  refine va_newa (atype := .int) (ty := .int) (a0 := (300, .inl (fun _ => 0))) (N' := 300) hx hb (hg _ wi91) rfl hK hP hD hS hA (fun _ => rfl) (by decide) rfl (Nat.le_of_ble_eq_true rfl) h_8 h_9 dX6_init_57 (fun q57 cA H hK2 hP hD hS => ?_)
  rw [ca_i hK2] at hP hD
  have hP : va_P (dC, dI) vwCl [(h0, .inr (6, [.ref q9, .ref (r 0), .ref q30, .ref q39, .ref q48, .null, .int 0, .int 0, .int 0])), (q9, .inl (cQ, 5, .inr (.inr (.inr (.inr (fun i => if i < 5 then some (r i) else none)))))), (r 0, .inl (cI, 600, .inl (fun _ => 0))), (r 1, .inl (cI, 600, .inl (fun _ => 0))), (r 2, .inl (cI, 600, .inl (fun _ => 0))), (r 3, .inl (cI, 600, .inl (fun _ => 0))), (r 4, .inl (cI, 600, .inl (fun _ => 0))), (q30, .inl (cI, 600, .inl (fun _ => 0))), (q39, .inl (cI, 300, .inl (fun _ => 0))), (q48, .inl (cI, 300, .inl (fun _ => 0))), (q57, .inl (cI, 300, .inl (fun _ => 0)))] H := hP
  have hD : va_D A [(h0, .inr (6, [.ref q9, .ref (r 0), .ref q30, .ref q39, .ref q48, .null, .int 0, .int 0, .int 0])), (q9, .inl (cQ, 5, .inr (.inr (.inr (.inr (fun i => if i < 5 then some (r i) else none)))))), (r 0, .inl (cI, 600, .inl (fun _ => 0))), (r 1, .inl (cI, 600, .inl (fun _ => 0))), (r 2, .inl (cI, 600, .inl (fun _ => 0))), (r 3, .inl (cI, 600, .inl (fun _ => 0))), (r 4, .inl (cI, 600, .inl (fun _ => 0))), (q30, .inl (cI, 600, .inl (fun _ => 0))), (q39, .inl (cI, 300, .inl (fun _ => 0))), (q48, .inl (cI, 300, .inl (fun _ => 0))), (q57, .inl (cI, 300, .inl (fun _ => 0)))] := hD
  refine W.widen (k := 10) (n := 4505) (Nat.le_of_ble_eq_true rfl) (Nat.le_of_ble_eq_true rfl) ?_
  refine va_putF (D := (dC, dI)) (ci := 6) (v := .ref q57) (ty := .array (.int)) (C := RX6) (T := TX6) (N := 9) hx hb hg ck6.2.1 tyX6 ck6.2.2.1 ck6.2.2.2 hown hK hP hD hS 0 rfl rfl 5 (Nat.le_of_ble_eq_true rfl) (hg _ wi150) (fun _ h9 => h9) rfl hin rfl (by decide +kernel) rfl rfl (Nat.le_of_ble_eq_true rfl) dX6_init_59 (fun H locs hP hD hS => ?_)
  have hP : va_P (dC, dI) vwCl [(h0, .inr (6, [.ref q9, .ref (r 0), .ref q30, .ref q39, .ref q48, .ref q57, .int 0, .int 0, .int 0])), (q9, .inl (cQ, 5, .inr (.inr (.inr (.inr (fun i => if i < 5 then some (r i) else none)))))), (r 0, .inl (cI, 600, .inl (fun _ => 0))), (r 1, .inl (cI, 600, .inl (fun _ => 0))), (r 2, .inl (cI, 600, .inl (fun _ => 0))), (r 3, .inl (cI, 600, .inl (fun _ => 0))), (r 4, .inl (cI, 600, .inl (fun _ => 0))), (q30, .inl (cI, 600, .inl (fun _ => 0))), (q39, .inl (cI, 300, .inl (fun _ => 0))), (q48, .inl (cI, 300, .inl (fun _ => 0))), (q57, .inl (cI, 300, .inl (fun _ => 0)))] H := hP
  have hD : va_D A [(h0, .inr (6, [.ref q9, .ref (r 0), .ref q30, .ref q39, .ref q48, .ref q57, .int 0, .int 0, .int 0])), (q9, .inl (cQ, 5, .inr (.inr (.inr (.inr (fun i => if i < 5 then some (r i) else none)))))), (r 0, .inl (cI, 600, .inl (fun _ => 0))), (r 1, .inl (cI, 600, .inl (fun _ => 0))), (r 2, .inl (cI, 600, .inl (fun _ => 0))), (r 3, .inl (cI, 600, .inl (fun _ => 0))), (r 4, .inl (cI, 600, .inl (fun _ => 0))), (q30, .inl (cI, 600, .inl (fun _ => 0))), (q39, .inl (cI, 300, .inl (fun _ => 0))), (q48, .inl (cI, 300, .inl (fun _ => 0))), (q57, .inl (cI, 300, .inl (fun _ => 0)))] := hD
  have hK9 : va_K (dC, dI) vwCl [(cQ, .array .int)] s := hK.sub [1] rfl
  exact W.vret hx hb hr (fun t ht hW => ⟨⟨(), rfl, trivial, cQ, q9, r, q30, q39, q48, q57, by rw [ht]; exact hP, va_K.moved hW.alike hK9, hD⟩, hS.F ht⟩) hS.2.2 dX6_init_62
set_option maxHeartbeats 4000000 in
set_option maxRecDepth 100000 in
theorem c_X7_init (l : Launch) (dC : Nat → ClassId) (dI : Nat → Nat → Nat) (cI : ClassId) (h0 sz : Nat) : Met l yX7_init (Cond.code yX7_init cX7_init 1 none :: gtbl) ({ frames := 1, cells := 10, slots := 3300, locals := 12 }) (va_Pc [.ref h0] (fun U => U.heap.size = sz ∧ va_P (dC, dI) vwCl [(h0, .inr (7, [.null, .null, .null, .null, .null, .null, .null, .null, .null, .null, .int 0]))] U.heap ∧ va_K (dC, dI) vwCl [(cI, .int)] U ∧ va_D (fun _ => True) [(h0, .inr (7, [.null, .null, .null, .null, .null, .null, .null, .null, .null, .null, .int 0]))])) (va_Qv (fun _ : Unit => True) (fun _ U => ∃ (q8 : Nat) (q17 : Nat) (q26 : Nat) (q35 : Nat) (q44 : Nat) (q53 : Nat) (q62 : Nat) (q71 : Nat) (q80 : Nat) (q89 : Nat), va_P (dC, dI) vwCl [(h0, .inr (7, [.ref q8, .ref q17, .ref q26, .ref q35, .ref q44, .ref q53, .ref q62, .ref q71, .ref q80, .ref q89, .int 0])), (q8, .inl (cI, 600, .inl (fun _ => 0))), (q17, .inl (cI, 300, .inl (fun _ => 0))), (q26, .inl (cI, 300, .inl (fun _ => 0))), (q35, .inl (cI, 300, .inl (fun _ => 0))), (q44, .inl (cI, 300, .inl (fun _ => 0))), (q53, .inl (cI, 300, .inl (fun _ => 0))), (q62, .inl (cI, 300, .inl (fun _ => 0))), (q71, .inl (cI, 300, .inl (fun _ => 0))), (q80, .inl (cI, 300, .inl (fun _ => 0))), (q89, .inl (cI, 300, .inl (fun _ => 0)))] U.heap ∧ va_D (va_A [(h0, .inr (7, [.null, .null, .null, .null, .null, .null, .null, .null, .null, .null, .int 0]))] sz) [(h0, .inr (7, [.ref q8, .ref q17, .ref q26, .ref q35, .ref q44, .ref q53, .ref q62, .ref q71, .ref q80, .ref q89, .int 0])), (q8, .inl (cI, 600, .inl (fun _ => 0))), (q17, .inl (cI, 300, .inl (fun _ => 0))), (q26, .inl (cI, 300, .inl (fun _ => 0))), (q35, .inl (cI, 300, .inl (fun _ => 0))), (q44, .inl (cI, 300, .inl (fun _ => 0))), (q53, .inl (cI, 300, .inl (fun _ => 0))), (q62, .inl (cI, 300, .inl (fun _ => 0))), (q71, .inl (cI, 300, .inl (fun _ => 0))), (q80, .inl (cI, 300, .inl (fun _ => 0))), (q89, .inl (cI, 300, .inl (fun _ => 0)))]) (va_A [(h0, .inr (7, [.null, .null, .null, .null, .null, .null, .null, .null, .null, .null, .int 0]))] sz)) 10 3300 (va_A [(h0, .inr (7, [.null, .null, .null, .null, .null, .null, .null, .null, .null, .null, .int 0]))] sz) := by
  refine Met.ofW (cc := cX7_init) (maxL := 1) (ret := none) (by decide) rfl ?_
  intro p e s m args below meth c s₁ B hml hv
  obtain ⟨rfl, hsz, hP, hK, hD0⟩ := hv
  have hx := B.exec
  have hb := B.bytes
  have hr := B.returns
  have hts := atoms_spec (ws := Cond.code yX7_init cX7_init 1 none :: gtbl) B.pre
  have hg : ∀ w ∈ gtbl, w.before #[Value.ref h0] s = true := fun w h => hts w (List.mem_cons_of_mem _ h)
  have hown : s.vm.findClass RX7 = some m.cls := findClass_of_methodNamed B.named
  have hlocks := B.notSynchronized
  have hin : meth.name = "<init>" := (name_of_methodNamed B.named B.method).1
  subst hsz
  have hD := hD0.self (sz := s.heap.size)
  generalize hAe : va_A [(h0, .inr (7, [.null, .null, .null, .null, .null, .null, .null, .null, .null, .null, .int 0]))] s.heap.size = A at hD ⊢
  have hA : ∀ q : Nat, s.heap.size ≤ q → A q := fun q h => by rw [← hAe]; exact Or.inr h
  have hS : va_S A s.heap s.heap [] := va_S.rf
  have hP : va_P (dC, dI) vwCl [(h0, .inr (7, [.null, .null, .null, .null, .null, .null, .null, .null, .null, .null, .int 0]))] s.heap := hP
  have hl := lv_entry ([.ref h0]) (n := 1) (Nat.le_of_ble_eq_true rfl)
  rw [lg_entry_eq]
  generalize (lg_sl ([.ref h0]) ++ List.replicate (1 - (lg_sl ([.ref h0])).length) Slot.unset).toArray = ls at hl ⊢
  have hl : lv_has ls 1 [(0, .ref h0)] := hl
  refine lv_aload_n hx hb dX7_init_0 rfl (lv_at hl 0 rfl) ?_
  refine W.objInit hx hb hown (hg _ wi184) (hg _ wi61) (hg _ wi62) rfl (by rw [hml]; exact hl.1) rfl dX7_init_1 (Nat.le_of_ble_eq_true rfl) (Nat.le_of_ble_eq_true rfl) ?_
  refine W.eq (g2 := F0 m 4 ls []) rfl ?_
  refine lv_aload_n hx hb dX7_init_4 rfl (lv_at hl 0 rfl) ?_
  refine lv_sipush (v := 600) hx hb dX7_init_5 (by decide) ?_
  have h_0 : 1 ≤ 10 := Nat.le_of_ble_eq_true rfl
  have h_1 : 600 ≤ 3300 := Nat.le_of_ble_eq_true rfl
  refine va_newa (atype := .int) (ty := .int) (a0 := (600, .inl (fun _ => 0))) (N' := 600) hx hb (hg _ wi91) rfl hK hP hD hS hA (fun _ => rfl) (by decide) rfl (Nat.le_of_ble_eq_true rfl) h_0 h_1 dX7_init_8 (fun q8 cA H hK2 hP hD hS => ?_)
  rw [ca_i hK2] at hP hD
  have hP : va_P (dC, dI) vwCl [(h0, .inr (7, [.null, .null, .null, .null, .null, .null, .null, .null, .null, .null, .int 0])), (q8, .inl (cI, 600, .inl (fun _ => 0)))] H := hP
  have hD : va_D A [(h0, .inr (7, [.null, .null, .null, .null, .null, .null, .null, .null, .null, .null, .int 0])), (q8, .inl (cI, 600, .inl (fun _ => 0)))] := hD
  refine W.widen (k := 1) (n := 600) (Nat.le_of_ble_eq_true rfl) (Nat.le_of_ble_eq_true rfl) ?_
  refine va_putF (D := (dC, dI)) (ci := 7) (v := .ref q8) (ty := .array (.int)) (C := RX7) (T := TX7) (N := 11) hx hb hg ck7.2.1 tyX7 ck7.2.2.1 ck7.2.2.2 hown hK hP hD hS 0 rfl rfl 0 (Nat.le_of_ble_eq_true rfl) (hg _ wi185) (fun _ h9 => h9) rfl hin rfl (by decide +kernel) rfl rfl (Nat.le_of_ble_eq_true rfl) dX7_init_10 (fun H locs hP hD hS => ?_)
  have hP : va_P (dC, dI) vwCl [(h0, .inr (7, [.ref q8, .null, .null, .null, .null, .null, .null, .null, .null, .null, .int 0])), (q8, .inl (cI, 600, .inl (fun _ => 0)))] H := hP
  have hD : va_D A [(h0, .inr (7, [.ref q8, .null, .null, .null, .null, .null, .null, .null, .null, .null, .int 0])), (q8, .inl (cI, 600, .inl (fun _ => 0)))] := hD
  refine lv_aload_n hx hb dX7_init_13 rfl (lv_at hl 0 rfl) ?_
  refine lv_sipush (v := 300) hx hb dX7_init_14 (by decide) ?_
  have h_2 : 2 ≤ 10 := Nat.le_of_ble_eq_true rfl
  have h_3 : 900 ≤ 3300 := Nat.le_of_ble_eq_true rfl
  refine va_newa (atype := .int) (ty := .int) (a0 := (300, .inl (fun _ => 0))) (N' := 300) hx hb (hg _ wi91) rfl hK hP hD hS hA (fun _ => rfl) (by decide) rfl (Nat.le_of_ble_eq_true rfl) h_2 h_3 dX7_init_17 (fun q17 cA H hK2 hP hD hS => ?_)
  rw [ca_i hK2] at hP hD
  have hP : va_P (dC, dI) vwCl [(h0, .inr (7, [.ref q8, .null, .null, .null, .null, .null, .null, .null, .null, .null, .int 0])), (q8, .inl (cI, 600, .inl (fun _ => 0))), (q17, .inl (cI, 300, .inl (fun _ => 0)))] H := hP
  have hD : va_D A [(h0, .inr (7, [.ref q8, .null, .null, .null, .null, .null, .null, .null, .null, .null, .int 0])), (q8, .inl (cI, 600, .inl (fun _ => 0))), (q17, .inl (cI, 300, .inl (fun _ => 0)))] := hD
  refine W.widen (k := 2) (n := 900) (Nat.le_of_ble_eq_true rfl) (Nat.le_of_ble_eq_true rfl) ?_
  refine va_putF (D := (dC, dI)) (ci := 7) (v := .ref q17) (ty := .array (.int)) (C := RX7) (T := TX7) (N := 11) hx hb hg ck7.2.1 tyX7 ck7.2.2.1 ck7.2.2.2 hown hK hP hD hS 0 rfl rfl 1 (Nat.le_of_ble_eq_true rfl) (hg _ wi187) (fun _ h9 => h9) rfl hin rfl (by decide +kernel) rfl rfl (Nat.le_of_ble_eq_true rfl) dX7_init_19 (fun H locs hP hD hS => ?_)
  have hP : va_P (dC, dI) vwCl [(h0, .inr (7, [.ref q8, .ref q17, .null, .null, .null, .null, .null, .null, .null, .null, .int 0])), (q8, .inl (cI, 600, .inl (fun _ => 0))), (q17, .inl (cI, 300, .inl (fun _ => 0)))] H := hP
  have hD : va_D A [(h0, .inr (7, [.ref q8, .ref q17, .null, .null, .null, .null, .null, .null, .null, .null, .int 0])), (q8, .inl (cI, 600, .inl (fun _ => 0))), (q17, .inl (cI, 300, .inl (fun _ => 0)))] := hD
  refine lv_aload_n hx hb dX7_init_22 rfl (lv_at hl 0 rfl) ?_
  refine lv_sipush (v := 300) hx hb dX7_init_23 (by decide) ?_
  have h_4 : 3 ≤ 10 := Nat.le_of_ble_eq_true rfl
  have h_5 : 1200 ≤ 3300 := Nat.le_of_ble_eq_true rfl
  refine va_newa (atype := .int) (ty := .int) (a0 := (300, .inl (fun _ => 0))) (N' := 300) hx hb (hg _ wi91) rfl hK hP hD hS hA (fun _ => rfl) (by decide) rfl (Nat.le_of_ble_eq_true rfl) h_4 h_5 dX7_init_26 (fun q26 cA H hK2 hP hD hS => ?_)
  rw [ca_i hK2] at hP hD
  have hP : va_P (dC, dI) vwCl [(h0, .inr (7, [.ref q8, .ref q17, .null, .null, .null, .null, .null, .null, .null, .null, .int 0])), (q8, .inl (cI, 600, .inl (fun _ => 0))), (q17, .inl (cI, 300, .inl (fun _ => 0))), (q26, .inl (cI, 300, .inl (fun _ => 0)))] H := hP
  have hD : va_D A [(h0, .inr (7, [.ref q8, .ref q17, .null, .null, .null, .null, .null, .null, .null, .null, .int 0])), (q8, .inl (cI, 600, .inl (fun _ => 0))), (q17, .inl (cI, 300, .inl (fun _ => 0))), (q26, .inl (cI, 300, .inl (fun _ => 0)))] := hD
  refine W.widen (k := 3) (n := 1200) (Nat.le_of_ble_eq_true rfl) (Nat.le_of_ble_eq_true rfl) ?_
  refine va_putF (D := (dC, dI)) (ci := 7) (v := .ref q26) (ty := .array (.int)) (C := RX7) (T := TX7) (N := 11) hx hb hg ck7.2.1 tyX7 ck7.2.2.1 ck7.2.2.2 hown hK hP hD hS 0 rfl rfl 2 (Nat.le_of_ble_eq_true rfl) (hg _ wi189) (fun _ h9 => h9) rfl hin rfl (by decide +kernel) rfl rfl (Nat.le_of_ble_eq_true rfl) dX7_init_28 (fun H locs hP hD hS => ?_)
  have hP : va_P (dC, dI) vwCl [(h0, .inr (7, [.ref q8, .ref q17, .ref q26, .null, .null, .null, .null, .null, .null, .null, .int 0])), (q8, .inl (cI, 600, .inl (fun _ => 0))), (q17, .inl (cI, 300, .inl (fun _ => 0))), (q26, .inl (cI, 300, .inl (fun _ => 0)))] H := hP
  have hD : va_D A [(h0, .inr (7, [.ref q8, .ref q17, .ref q26, .null, .null, .null, .null, .null, .null, .null, .int 0])), (q8, .inl (cI, 600, .inl (fun _ => 0))), (q17, .inl (cI, 300, .inl (fun _ => 0))), (q26, .inl (cI, 300, .inl (fun _ => 0)))] := hD
  refine lv_aload_n hx hb dX7_init_31 rfl (lv_at hl 0 rfl) ?_
  refine lv_sipush (v := 300) hx hb dX7_init_32 (by decide) ?_
  have h_6 : 4 ≤ 10 := Nat.le_of_ble_eq_true rfl
  have h_7 : 1500 ≤ 3300 := Nat.le_of_ble_eq_true rfl
  refine va_newa (atype := .int) (ty := .int) (a0 := (300, .inl (fun _ => 0))) (N' := 300) hx hb (hg _ wi91) rfl hK hP hD hS hA (fun _ => rfl) (by decide) rfl (Nat.le_of_ble_eq_true rfl) h_6 h_7 dX7_init_35 (fun q35 cA H hK2 hP hD hS => ?_)
  rw [ca_i hK2] at hP hD
  have hP : va_P (dC, dI) vwCl [(h0, .inr (7, [.ref q8, .ref q17, .ref q26, .null, .null, .null, .null, .null, .null, .null, .int 0])), (q8, .inl (cI, 600, .inl (fun _ => 0))), (q17, .inl (cI, 300, .inl (fun _ => 0))), (q26, .inl (cI, 300, .inl (fun _ => 0))), (q35, .inl (cI, 300, .inl (fun _ => 0)))] H := hP
  have hD : va_D A [(h0, .inr (7, [.ref q8, .ref q17, .ref q26, .null, .null, .null, .null, .null, .null, .null, .int 0])), (q8, .inl (cI, 600, .inl (fun _ => 0))), (q17, .inl (cI, 300, .inl (fun _ => 0))), (q26, .inl (cI, 300, .inl (fun _ => 0))), (q35, .inl (cI, 300, .inl (fun _ => 0)))] := hD
  refine W.widen (k := 4) (n := 1500) (Nat.le_of_ble_eq_true rfl) (Nat.le_of_ble_eq_true rfl) ?_
  refine va_putF (D := (dC, dI)) (ci := 7) (v := .ref q35) (ty := .array (.int)) (C := RX7) (T := TX7) (N := 11) hx hb hg ck7.2.1 tyX7 ck7.2.2.1 ck7.2.2.2 hown hK hP hD hS 0 rfl rfl 3 (Nat.le_of_ble_eq_true rfl) (hg _ wi192) (fun _ h9 => h9) rfl hin rfl (by decide +kernel) rfl rfl (Nat.le_of_ble_eq_true rfl) dX7_init_37 (fun H locs hP hD hS => ?_)
  have hP : va_P (dC, dI) vwCl [(h0, .inr (7, [.ref q8, .ref q17, .ref q26, .ref q35, .null, .null, .null, .null, .null, .null, .int 0])), (q8, .inl (cI, 600, .inl (fun _ => 0))), (q17, .inl (cI, 300, .inl (fun _ => 0))), (q26, .inl (cI, 300, .inl (fun _ => 0))), (q35, .inl (cI, 300, .inl (fun _ => 0)))] H := hP
  have hD : va_D A [(h0, .inr (7, [.ref q8, .ref q17, .ref q26, .ref q35, .null, .null, .null, .null, .null, .null, .int 0])), (q8, .inl (cI, 600, .inl (fun _ => 0))), (q17, .inl (cI, 300, .inl (fun _ => 0))), (q26, .inl (cI, 300, .inl (fun _ => 0))), (q35, .inl (cI, 300, .inl (fun _ => 0)))] := hD
  refine lv_aload_n hx hb dX7_init_40 rfl (lv_at hl 0 rfl) ?_
  refine lv_sipush (v := 300) hx hb dX7_init_41 (by decide) ?_
  have h_8 : 5 ≤ 10 := Nat.le_of_ble_eq_true rfl
  have h_9 : 1800 ≤ 3300 := Nat.le_of_ble_eq_true rfl
  refine va_newa (atype := .int) (ty := .int) (a0 := (300, .inl (fun _ => 0))) (N' := 300) hx hb (hg _ wi91) rfl hK hP hD hS hA (fun _ => rfl) (by decide) rfl (Nat.le_of_ble_eq_true rfl) h_8 h_9 dX7_init_44 (fun q44 cA H hK2 hP hD hS => ?_)
  rw [ca_i hK2] at hP hD
  have hP : va_P (dC, dI) vwCl [(h0, .inr (7, [.ref q8, .ref q17, .ref q26, .ref q35, .null, .null, .null, .null, .null, .null, .int 0])), (q8, .inl (cI, 600, .inl (fun _ => 0))), (q17, .inl (cI, 300, .inl (fun _ => 0))), (q26, .inl (cI, 300, .inl (fun _ => 0))), (q35, .inl (cI, 300, .inl (fun _ => 0))), (q44, .inl (cI, 300, .inl (fun _ => 0)))] H := hP
  have hD : va_D A [(h0, .inr (7, [.ref q8, .ref q17, .ref q26, .ref q35, .null, .null, .null, .null, .null, .null, .int 0])), (q8, .inl (cI, 600, .inl (fun _ => 0))), (q17, .inl (cI, 300, .inl (fun _ => 0))), (q26, .inl (cI, 300, .inl (fun _ => 0))), (q35, .inl (cI, 300, .inl (fun _ => 0))), (q44, .inl (cI, 300, .inl (fun _ => 0)))] := hD
  refine W.widen (k := 5) (n := 1800) (Nat.le_of_ble_eq_true rfl) (Nat.le_of_ble_eq_true rfl) ?_
  refine va_putF (D := (dC, dI)) (ci := 7) (v := .ref q44) (ty := .array (.int)) (C := RX7) (T := TX7) (N := 11) hx hb hg ck7.2.1 tyX7 ck7.2.2.1 ck7.2.2.2 hown hK hP hD hS 0 rfl rfl 4 (Nat.le_of_ble_eq_true rfl) (hg _ wi195) (fun _ h9 => h9) rfl hin rfl (by decide +kernel) rfl rfl (Nat.le_of_ble_eq_true rfl) dX7_init_46 (fun H locs hP hD hS => ?_)
  have hP : va_P (dC, dI) vwCl [(h0, .inr (7, [.ref q8, .ref q17, .ref q26, .ref q35, .ref q44, .null, .null, .null, .null, .null, .int 0])), (q8, .inl (cI, 600, .inl (fun _ => 0))), (q17, .inl (cI, 300, .inl (fun _ => 0))), (q26, .inl (cI, 300, .inl (fun _ => 0))), (q35, .inl (cI, 300, .inl (fun _ => 0))), (q44, .inl (cI, 300, .inl (fun _ => 0)))] H := hP
  have hD : va_D A [(h0, .inr (7, [.ref q8, .ref q17, .ref q26, .ref q35, .ref q44, .null, .null, .null, .null, .null, .int 0])), (q8, .inl (cI, 600, .inl (fun _ => 0))), (q17, .inl (cI, 300, .inl (fun _ => 0))), (q26, .inl (cI, 300, .inl (fun _ => 0))), (q35, .inl (cI, 300, .inl (fun _ => 0))), (q44, .inl (cI, 300, .inl (fun _ => 0)))] := hD
  refine lv_aload_n hx hb dX7_init_49 rfl (lv_at hl 0 rfl) ?_
  refine lv_sipush (v := 300) hx hb dX7_init_50 (by decide) ?_
  have h_10 : 6 ≤ 10 := Nat.le_of_ble_eq_true rfl
  have h_11 : 2100 ≤ 3300 := Nat.le_of_ble_eq_true rfl
  refine va_newa (atype := .int) (ty := .int) (a0 := (300, .inl (fun _ => 0))) (N' := 300) hx hb (hg _ wi91) rfl hK hP hD hS hA (fun _ => rfl) (by decide) rfl (Nat.le_of_ble_eq_true rfl) h_10 h_11 dX7_init_53 (fun q53 cA H hK2 hP hD hS => ?_)
  rw [ca_i hK2] at hP hD
  have hP : va_P (dC, dI) vwCl [(h0, .inr (7, [.ref q8, .ref q17, .ref q26, .ref q35, .ref q44, .null, .null, .null, .null, .null, .int 0])), (q8, .inl (cI, 600, .inl (fun _ => 0))), (q17, .inl (cI, 300, .inl (fun _ => 0))), (q26, .inl (cI, 300, .inl (fun _ => 0))), (q35, .inl (cI, 300, .inl (fun _ => 0))), (q44, .inl (cI, 300, .inl (fun _ => 0))), (q53, .inl (cI, 300, .inl (fun _ => 0)))] H := hP
  have hD : va_D A [(h0, .inr (7, [.ref q8, .ref q17, .ref q26, .ref q35, .ref q44, .null, .null, .null, .null, .null, .int 0])), (q8, .inl (cI, 600, .inl (fun _ => 0))), (q17, .inl (cI, 300, .inl (fun _ => 0))), (q26, .inl (cI, 300, .inl (fun _ => 0))), (q35, .inl (cI, 300, .inl (fun _ => 0))), (q44, .inl (cI, 300, .inl (fun _ => 0))), (q53, .inl (cI, 300, .inl (fun _ => 0)))] := hD
  refine W.widen (k := 6) (n := 2100) (Nat.le_of_ble_eq_true rfl) (Nat.le_of_ble_eq_true rfl) ?_
  refine va_putF (D := (dC, dI)) (ci := 7) (v := .ref q53) (ty := .array (.int)) (C := RX7) (T := TX7) (N := 11) hx hb hg ck7.2.1 tyX7 ck7.2.2.1 ck7.2.2.2 hown hK hP hD hS 0 rfl rfl 5 (Nat.le_of_ble_eq_true rfl) (hg _ wi197) (fun _ h9 => h9) rfl hin rfl (by decide +kernel) rfl rfl (Nat.le_of_ble_eq_true rfl) dX7_init_55 (fun H locs hP hD hS => ?_)
  have hP : va_P (dC, dI) vwCl [(h0, .inr (7, [.ref q8, .ref q17, .ref q26, .ref q35, .ref q44, .ref q53, .null, .null, .null, .null, .int 0])), (q8, .inl (cI, 600, .inl (fun _ => 0))), (q17, .inl (cI, 300, .inl (fun _ => 0))), (q26, .inl (cI, 300, .inl (fun _ => 0))), (q35, .inl (cI, 300, .inl (fun _ => 0))), (q44, .inl (cI, 300, .inl (fun _ => 0))), (q53, .inl (cI, 300, .inl (fun _ => 0)))] H := hP
  have hD : va_D A [(h0, .inr (7, [.ref q8, .ref q17, .ref q26, .ref q35, .ref q44, .ref q53, .null, .null, .null, .null, .int 0])), (q8, .inl (cI, 600, .inl (fun _ => 0))), (q17, .inl (cI, 300, .inl (fun _ => 0))), (q26, .inl (cI, 300, .inl (fun _ => 0))), (q35, .inl (cI, 300, .inl (fun _ => 0))), (q44, .inl (cI, 300, .inl (fun _ => 0))), (q53, .inl (cI, 300, .inl (fun _ => 0)))] := hD
  refine lv_aload_n hx hb dX7_init_58 rfl (lv_at hl 0 rfl) ?_
  refine lv_sipush (v := 300) hx hb dX7_init_59 (by decide) ?_
  have h_12 : 7 ≤ 10 := Nat.le_of_ble_eq_true rfl
  have h_13 : 2400 ≤ 3300 := Nat.le_of_ble_eq_true rfl
  refine va_newa (atype := .int) (ty := .int) (a0 := (300, .inl (fun _ => 0))) (N' := 300) hx hb (hg _ wi91) rfl hK hP hD hS hA (fun _ => rfl) (by decide) rfl (Nat.le_of_ble_eq_true rfl) h_12 h_13 dX7_init_62 (fun q62 cA H hK2 hP hD hS => ?_)
  rw [ca_i hK2] at hP hD
  have hP : va_P (dC, dI) vwCl [(h0, .inr (7, [.ref q8, .ref q17, .ref q26, .ref q35, .ref q44, .ref q53, .null, .null, .null, .null, .int 0])), (q8, .inl (cI, 600, .inl (fun _ => 0))), (q17, .inl (cI, 300, .inl (fun _ => 0))), (q26, .inl (cI, 300, .inl (fun _ => 0))), (q35, .inl (cI, 300, .inl (fun _ => 0))), (q44, .inl (cI, 300, .inl (fun _ => 0))), (q53, .inl (cI, 300, .inl (fun _ => 0))), (q62, .inl (cI, 300, .inl (fun _ => 0)))] H := hP
  have hD : va_D A [(h0, .inr (7, [.ref q8, .ref q17, .ref q26, .ref q35, .ref q44, .ref q53, .null, .null, .null, .null, .int 0])), (q8, .inl (cI, 600, .inl (fun _ => 0))), (q17, .inl (cI, 300, .inl (fun _ => 0))), (q26, .inl (cI, 300, .inl (fun _ => 0))), (q35, .inl (cI, 300, .inl (fun _ => 0))), (q44, .inl (cI, 300, .inl (fun _ => 0))), (q53, .inl (cI, 300, .inl (fun _ => 0))), (q62, .inl (cI, 300, .inl (fun _ => 0)))] := hD
  refine W.widen (k := 7) (n := 2400) (Nat.le_of_ble_eq_true rfl) (Nat.le_of_ble_eq_true rfl) ?_
  refine va_putF (D := (dC, dI)) (ci := 7) (v := .ref q62) (ty := .array (.int)) (C := RX7) (T := TX7) (N := 11) hx hb hg ck7.2.1 tyX7 ck7.2.2.1 ck7.2.2.2 hown hK hP hD hS 0 rfl rfl 6 (Nat.le_of_ble_eq_true rfl) (hg _ wi199) (fun _ h9 => h9) rfl hin rfl (by decide +kernel) rfl rfl (Nat.le_of_ble_eq_true rfl) dX7_init_64 (fun H locs hP hD hS => ?_)
  have hP : va_P (dC, dI) vwCl [(h0, .inr (7, [.ref q8, .ref q17, .ref q26, .ref q35, .ref q44, .ref q53, .ref q62, .null, .null, .null, .int 0])), (q8, .inl (cI, 600, .inl (fun _ => 0))), (q17, .inl (cI, 300, .inl (fun _ => 0))), (q26, .inl (cI, 300, .inl (fun _ => 0))), (q35, .inl (cI, 300, .inl (fun _ => 0))), (q44, .inl (cI, 300, .inl (fun _ => 0))), (q53, .inl (cI, 300, .inl (fun _ => 0))), (q62, .inl (cI, 300, .inl (fun _ => 0)))] H := hP
  have hD : va_D A [(h0, .inr (7, [.ref q8, .ref q17, .ref q26, .ref q35, .ref q44, .ref q53, .ref q62, .null, .null, .null, .int 0])), (q8, .inl (cI, 600, .inl (fun _ => 0))), (q17, .inl (cI, 300, .inl (fun _ => 0))), (q26, .inl (cI, 300, .inl (fun _ => 0))), (q35, .inl (cI, 300, .inl (fun _ => 0))), (q44, .inl (cI, 300, .inl (fun _ => 0))), (q53, .inl (cI, 300, .inl (fun _ => 0))), (q62, .inl (cI, 300, .inl (fun _ => 0)))] := hD
  refine lv_aload_n hx hb dX7_init_67 rfl (lv_at hl 0 rfl) ?_
  refine lv_sipush (v := 300) hx hb dX7_init_68 (by decide) ?_
  have h_14 : 8 ≤ 10 := Nat.le_of_ble_eq_true rfl
  have h_15 : 2700 ≤ 3300 := Nat.le_of_ble_eq_true rfl
  refine va_newa (atype := .int) (ty := .int) (a0 := (300, .inl (fun _ => 0))) (N' := 300) hx hb (hg _ wi91) rfl hK hP hD hS hA (fun _ => rfl) (by decide) rfl (Nat.le_of_ble_eq_true rfl) h_14 h_15 dX7_init_71 (fun q71 cA H hK2 hP hD hS => ?_)
  rw [ca_i hK2] at hP hD
  have hP : va_P (dC, dI) vwCl [(h0, .inr (7, [.ref q8, .ref q17, .ref q26, .ref q35, .ref q44, .ref q53, .ref q62, .null, .null, .null, .int 0])), (q8, .inl (cI, 600, .inl (fun _ => 0))), (q17, .inl (cI, 300, .inl (fun _ => 0))), (q26, .inl (cI, 300, .inl (fun _ => 0))), (q35, .inl (cI, 300, .inl (fun _ => 0))), (q44, .inl (cI, 300, .inl (fun _ => 0))), (q53, .inl (cI, 300, .inl (fun _ => 0))), (q62, .inl (cI, 300, .inl (fun _ => 0))), (q71, .inl (cI, 300, .inl (fun _ => 0)))] H := hP
  have hD : va_D A [(h0, .inr (7, [.ref q8, .ref q17, .ref q26, .ref q35, .ref q44, .ref q53, .ref q62, .null, .null, .null, .int 0])), (q8, .inl (cI, 600, .inl (fun _ => 0))), (q17, .inl (cI, 300, .inl (fun _ => 0))), (q26, .inl (cI, 300, .inl (fun _ => 0))), (q35, .inl (cI, 300, .inl (fun _ => 0))), (q44, .inl (cI, 300, .inl (fun _ => 0))), (q53, .inl (cI, 300, .inl (fun _ => 0))), (q62, .inl (cI, 300, .inl (fun _ => 0))), (q71, .inl (cI, 300, .inl (fun _ => 0)))] := hD
  refine W.widen (k := 8) (n := 2700) (Nat.le_of_ble_eq_true rfl) (Nat.le_of_ble_eq_true rfl) ?_
  refine va_putF (D := (dC, dI)) (ci := 7) (v := .ref q71) (ty := .array (.int)) (C := RX7) (T := TX7) (N := 11) hx hb hg ck7.2.1 tyX7 ck7.2.2.1 ck7.2.2.2 hown hK hP hD hS 0 rfl rfl 7 (Nat.le_of_ble_eq_true rfl) (hg _ wi202) (fun _ h9 => h9) rfl hin rfl (by decide +kernel) rfl rfl (Nat.le_of_ble_eq_true rfl) dX7_init_73 (fun H locs hP hD hS => ?_)
  have hP : va_P (dC, dI) vwCl [(h0, .inr (7, [.ref q8, .ref q17, .ref q26, .ref q35, .ref q44, .ref q53, .ref q62, .ref q71, .null, .null, .int 0])), (q8, .inl (cI, 600, .inl (fun _ => 0))), (q17, .inl (cI, 300, .inl (fun _ => 0))), (q26, .inl (cI, 300, .inl (fun _ => 0))), (q35, .inl (cI, 300, .inl (fun _ => 0))), (q44, .inl (cI, 300, .inl (fun _ => 0))), (q53, .inl (cI, 300, .inl (fun _ => 0))), (q62, .inl (cI, 300, .inl (fun _ => 0))), (q71, .inl (cI, 300, .inl (fun _ => 0)))] H := hP
  have hD : va_D A [(h0, .inr (7, [.ref q8, .ref q17, .ref q26, .ref q35, .ref q44, .ref q53, .ref q62, .ref q71, .null, .null, .int 0])), (q8, .inl (cI, 600, .inl (fun _ => 0))), (q17, .inl (cI, 300, .inl (fun _ => 0))), (q26, .inl (cI, 300, .inl (fun _ => 0))), (q35, .inl (cI, 300, .inl (fun _ => 0))), (q44, .inl (cI, 300, .inl (fun _ => 0))), (q53, .inl (cI, 300, .inl (fun _ => 0))), (q62, .inl (cI, 300, .inl (fun _ => 0))), (q71, .inl (cI, 300, .inl (fun _ => 0)))] := hD
  refine lv_aload_n hx hb dX7_init_76 rfl (lv_at hl 0 rfl) ?_
  refine lv_sipush (v := 300) hx hb dX7_init_77 (by decide) ?_
  have h_16 : 9 ≤ 10 := Nat.le_of_ble_eq_true rfl
  have h_17 : 3000 ≤ 3300 := Nat.le_of_ble_eq_true rfl
  refine va_newa (atype := .int) (ty := .int) (a0 := (300, .inl (fun _ => 0))) (N' := 300) hx hb (hg _ wi91) rfl hK hP hD hS hA (fun _ => rfl) (by decide) rfl (Nat.le_of_ble_eq_true rfl) h_16 h_17 dX7_init_80 (fun q80 cA H hK2 hP hD hS => ?_)
  rw [ca_i hK2] at hP hD
  have hP : va_P (dC, dI) vwCl [(h0, .inr (7, [.ref q8, .ref q17, .ref q26, .ref q35, .ref q44, .ref q53, .ref q62, .ref q71, .null, .null, .int 0])), (q8, .inl (cI, 600, .inl (fun _ => 0))), (q17, .inl (cI, 300, .inl (fun _ => 0))), (q26, .inl (cI, 300, .inl (fun _ => 0))), (q35, .inl (cI, 300, .inl (fun _ => 0))), (q44, .inl (cI, 300, .inl (fun _ => 0))), (q53, .inl (cI, 300, .inl (fun _ => 0))), (q62, .inl (cI, 300, .inl (fun _ => 0))), (q71, .inl (cI, 300, .inl (fun _ => 0))), (q80, .inl (cI, 300, .inl (fun _ => 0)))] H := hP
  have hD : va_D A [(h0, .inr (7, [.ref q8, .ref q17, .ref q26, .ref q35, .ref q44, .ref q53, .ref q62, .ref q71, .null, .null, .int 0])), (q8, .inl (cI, 600, .inl (fun _ => 0))), (q17, .inl (cI, 300, .inl (fun _ => 0))), (q26, .inl (cI, 300, .inl (fun _ => 0))), (q35, .inl (cI, 300, .inl (fun _ => 0))), (q44, .inl (cI, 300, .inl (fun _ => 0))), (q53, .inl (cI, 300, .inl (fun _ => 0))), (q62, .inl (cI, 300, .inl (fun _ => 0))), (q71, .inl (cI, 300, .inl (fun _ => 0))), (q80, .inl (cI, 300, .inl (fun _ => 0)))] := hD
  refine W.widen (k := 9) (n := 3000) (Nat.le_of_ble_eq_true rfl) (Nat.le_of_ble_eq_true rfl) ?_
  refine va_putF (D := (dC, dI)) (ci := 7) (v := .ref q80) (ty := .array (.int)) (C := RX7) (T := TX7) (N := 11) hx hb hg ck7.2.1 tyX7 ck7.2.2.1 ck7.2.2.2 hown hK hP hD hS 0 rfl rfl 8 (Nat.le_of_ble_eq_true rfl) (hg _ wi204) (fun _ h9 => h9) rfl hin rfl (by decide +kernel) rfl rfl (Nat.le_of_ble_eq_true rfl) dX7_init_82 (fun H locs hP hD hS => ?_)
  have hP : va_P (dC, dI) vwCl [(h0, .inr (7, [.ref q8, .ref q17, .ref q26, .ref q35, .ref q44, .ref q53, .ref q62, .ref q71, .ref q80, .null, .int 0])), (q8, .inl (cI, 600, .inl (fun _ => 0))), (q17, .inl (cI, 300, .inl (fun _ => 0))), (q26, .inl (cI, 300, .inl (fun _ => 0))), (q35, .inl (cI, 300, .inl (fun _ => 0))), (q44, .inl (cI, 300, .inl (fun _ => 0))), (q53, .inl (cI, 300, .inl (fun _ => 0))), (q62, .inl (cI, 300, .inl (fun _ => 0))), (q71, .inl (cI, 300, .inl (fun _ => 0))), (q80, .inl (cI, 300, .inl (fun _ => 0)))] H := hP
  have hD : va_D A [(h0, .inr (7, [.ref q8, .ref q17, .ref q26, .ref q35, .ref q44, .ref q53, .ref q62, .ref q71, .ref q80, .null, .int 0])), (q8, .inl (cI, 600, .inl (fun _ => 0))), (q17, .inl (cI, 300, .inl (fun _ => 0))), (q26, .inl (cI, 300, .inl (fun _ => 0))), (q35, .inl (cI, 300, .inl (fun _ => 0))), (q44, .inl (cI, 300, .inl (fun _ => 0))), (q53, .inl (cI, 300, .inl (fun _ => 0))), (q62, .inl (cI, 300, .inl (fun _ => 0))), (q71, .inl (cI, 300, .inl (fun _ => 0))), (q80, .inl (cI, 300, .inl (fun _ => 0)))] := hD
  refine lv_aload_n hx hb dX7_init_85 rfl (lv_at hl 0 rfl) ?_
  refine lv_sipush (v := 300) hx hb dX7_init_86 (by decide) ?_
  have h_18 : 10 ≤ 10 := Nat.le_of_ble_eq_true rfl
  have h_19 : 3300 ≤ 3300 := Nat.le_of_ble_eq_true rfl
  refine va_newa (atype := .int) (ty := .int) (a0 := (300, .inl (fun _ => 0))) (N' := 300) hx hb (hg _ wi91) rfl hK hP hD hS hA (fun _ => rfl) (by decide) rfl (Nat.le_of_ble_eq_true rfl) h_18 h_19 dX7_init_89 (fun q89 cA H hK2 hP hD hS => ?_)
  rw [ca_i hK2] at hP hD
  have hP : va_P (dC, dI) vwCl [(h0, .inr (7, [.ref q8, .ref q17, .ref q26, .ref q35, .ref q44, .ref q53, .ref q62, .ref q71, .ref q80, .null, .int 0])), (q8, .inl (cI, 600, .inl (fun _ => 0))), (q17, .inl (cI, 300, .inl (fun _ => 0))), (q26, .inl (cI, 300, .inl (fun _ => 0))), (q35, .inl (cI, 300, .inl (fun _ => 0))), (q44, .inl (cI, 300, .inl (fun _ => 0))), (q53, .inl (cI, 300, .inl (fun _ => 0))), (q62, .inl (cI, 300, .inl (fun _ => 0))), (q71, .inl (cI, 300, .inl (fun _ => 0))), (q80, .inl (cI, 300, .inl (fun _ => 0))), (q89, .inl (cI, 300, .inl (fun _ => 0)))] H := hP
  have hD : va_D A [(h0, .inr (7, [.ref q8, .ref q17, .ref q26, .ref q35, .ref q44, .ref q53, .ref q62, .ref q71, .ref q80, .null, .int 0])), (q8, .inl (cI, 600, .inl (fun _ => 0))), (q17, .inl (cI, 300, .inl (fun _ => 0))), (q26, .inl (cI, 300, .inl (fun _ => 0))), (q35, .inl (cI, 300, .inl (fun _ => 0))), (q44, .inl (cI, 300, .inl (fun _ => 0))), (q53, .inl (cI, 300, .inl (fun _ => 0))), (q62, .inl (cI, 300, .inl (fun _ => 0))), (q71, .inl (cI, 300, .inl (fun _ => 0))), (q80, .inl (cI, 300, .inl (fun _ => 0))), (q89, .inl (cI, 300, .inl (fun _ => 0)))] := hD
  refine W.widen (k := 10) (n := 3300) (Nat.le_of_ble_eq_true rfl) (Nat.le_of_ble_eq_true rfl) ?_
  refine va_putF (D := (dC, dI)) (ci := 7) (v := .ref q89) (ty := .array (.int)) (C := RX7) (T := TX7) (N := 11) hx hb hg ck7.2.1 tyX7 ck7.2.2.1 ck7.2.2.2 hown hK hP hD hS 0 rfl rfl 9 (Nat.le_of_ble_eq_true rfl) (hg _ wi206) (fun _ h9 => h9) rfl hin rfl (by decide +kernel) rfl rfl (Nat.le_of_ble_eq_true rfl) dX7_init_91 (fun H locs hP hD hS => ?_)
  have hP : va_P (dC, dI) vwCl [(h0, .inr (7, [.ref q8, .ref q17, .ref q26, .ref q35, .ref q44, .ref q53, .ref q62, .ref q71, .ref q80, .ref q89, .int 0])), (q8, .inl (cI, 600, .inl (fun _ => 0))), (q17, .inl (cI, 300, .inl (fun _ => 0))), (q26, .inl (cI, 300, .inl (fun _ => 0))), (q35, .inl (cI, 300, .inl (fun _ => 0))), (q44, .inl (cI, 300, .inl (fun _ => 0))), (q53, .inl (cI, 300, .inl (fun _ => 0))), (q62, .inl (cI, 300, .inl (fun _ => 0))), (q71, .inl (cI, 300, .inl (fun _ => 0))), (q80, .inl (cI, 300, .inl (fun _ => 0))), (q89, .inl (cI, 300, .inl (fun _ => 0)))] H := hP
  have hD : va_D A [(h0, .inr (7, [.ref q8, .ref q17, .ref q26, .ref q35, .ref q44, .ref q53, .ref q62, .ref q71, .ref q80, .ref q89, .int 0])), (q8, .inl (cI, 600, .inl (fun _ => 0))), (q17, .inl (cI, 300, .inl (fun _ => 0))), (q26, .inl (cI, 300, .inl (fun _ => 0))), (q35, .inl (cI, 300, .inl (fun _ => 0))), (q44, .inl (cI, 300, .inl (fun _ => 0))), (q53, .inl (cI, 300, .inl (fun _ => 0))), (q62, .inl (cI, 300, .inl (fun _ => 0))), (q71, .inl (cI, 300, .inl (fun _ => 0))), (q80, .inl (cI, 300, .inl (fun _ => 0))), (q89, .inl (cI, 300, .inl (fun _ => 0)))] := hD
  have hK9 : va_K (dC, dI) vwCl [] s := hK.sub [] rfl
  exact W.vret hx hb hr (fun t ht hW => ⟨⟨(), rfl, trivial, q8, q17, q26, q35, q44, q53, q62, q71, q80, q89, by rw [ht]; exact hP, hD⟩, hS.F ht⟩) hS.2.2 dX7_init_94
set_option maxHeartbeats 4000000 in
set_option maxRecDepth 100000 in
theorem c_X2_init (l : Launch) (dC : Nat → ClassId) (dI : Nat → Nat → Nat) (cI : ClassId) (h0 sz : Nat) : Met l yX2_init (Cond.code yX2_init cX2_init 1 none :: gtbl) ({ frames := 1, cells := 2, slots := 600, locals := 12 }) (va_Pc [.ref h0] (fun U => U.heap.size = sz ∧ va_P (dC, dI) vwCl [(h0, .inr (2, [.null, .null, .int 0, .long 0, .long 0, .int 0, .int 0]))] U.heap ∧ va_K (dC, dI) vwCl [(cI, .int)] U ∧ va_D (fun _ => True) [(h0, .inr (2, [.null, .null, .int 0, .long 0, .long 0, .int 0, .int 0]))])) (va_Qv (fun _ : Unit => True) (fun _ U => ∃ (q8 : Nat) (q17 : Nat), va_P (dC, dI) vwCl [(h0, .inr (2, [.ref q8, .ref q17, .int 0, .long 0, .long 0, .int 0, .int 0])), (q8, .inl (cI, 300, .inl (fun _ => 0))), (q17, .inl (cI, 300, .inl (fun _ => 0)))] U.heap ∧ va_D (va_A [(h0, .inr (2, [.null, .null, .int 0, .long 0, .long 0, .int 0, .int 0]))] sz) [(h0, .inr (2, [.ref q8, .ref q17, .int 0, .long 0, .long 0, .int 0, .int 0])), (q8, .inl (cI, 300, .inl (fun _ => 0))), (q17, .inl (cI, 300, .inl (fun _ => 0)))]) (va_A [(h0, .inr (2, [.null, .null, .int 0, .long 0, .long 0, .int 0, .int 0]))] sz)) 2 600 (va_A [(h0, .inr (2, [.null, .null, .int 0, .long 0, .long 0, .int 0, .int 0]))] sz) := by
  refine Met.ofW (cc := cX2_init) (maxL := 1) (ret := none) (by decide) rfl ?_
  intro p e s m args below meth c s₁ B hml hv
  obtain ⟨rfl, hsz, hP, hK, hD0⟩ := hv
  have hx := B.exec
  have hb := B.bytes
  have hr := B.returns
  have hts := atoms_spec (ws := Cond.code yX2_init cX2_init 1 none :: gtbl) B.pre
  have hg : ∀ w ∈ gtbl, w.before #[Value.ref h0] s = true := fun w h => hts w (List.mem_cons_of_mem _ h)
  have hown : s.vm.findClass RX2 = some m.cls := findClass_of_methodNamed B.named
  have hlocks := B.notSynchronized
  have hin : meth.name = "<init>" := (name_of_methodNamed B.named B.method).1
  subst hsz
  have hD := hD0.self (sz := s.heap.size)
  generalize hAe : va_A [(h0, .inr (2, [.null, .null, .int 0, .long 0, .long 0, .int 0, .int 0]))] s.heap.size = A at hD ⊢
  have hA : ∀ q : Nat, s.heap.size ≤ q → A q := fun q h => by rw [← hAe]; exact Or.inr h
  have hS : va_S A s.heap s.heap [] := va_S.rf
  have hP : va_P (dC, dI) vwCl [(h0, .inr (2, [.null, .null, .int 0, .long 0, .long 0, .int 0, .int 0]))] s.heap := hP
  have hl := lv_entry ([.ref h0]) (n := 1) (Nat.le_of_ble_eq_true rfl)
  rw [lg_entry_eq]
  generalize (lg_sl ([.ref h0]) ++ List.replicate (1 - (lg_sl ([.ref h0])).length) Slot.unset).toArray = ls at hl ⊢
  have hl : lv_has ls 1 [(0, .ref h0)] := hl
  refine lv_aload_n hx hb dX2_init_0 rfl (lv_at hl 0 rfl) ?_
  refine W.objInit hx hb hown (hg _ wi240) (hg _ wi61) (hg _ wi62) rfl (by rw [hml]; exact hl.1) rfl dX2_init_1 (Nat.le_of_ble_eq_true rfl) (Nat.le_of_ble_eq_true rfl) ?_
  refine W.eq (g2 := F0 m 4 ls []) rfl ?_
  refine lv_aload_n hx hb dX2_init_4 rfl (lv_at hl 0 rfl) ?_
  refine lv_sipush (v := 300) hx hb dX2_init_5 (by decide) ?_
  have h_0 : 1 ≤ 2 := Nat.le_of_ble_eq_true rfl
  have h_1 : 300 ≤ 600 := Nat.le_of_ble_eq_true rfl
  refine va_newa (atype := .int) (ty := .int) (a0 := (300, .inl (fun _ => 0))) (N' := 300) hx hb (hg _ wi91) rfl hK hP hD hS hA (fun _ => rfl) (by decide) rfl (Nat.le_of_ble_eq_true rfl) h_0 h_1 dX2_init_8 (fun q8 cA H hK2 hP hD hS => ?_)
  rw [ca_i hK2] at hP hD
  have hP : va_P (dC, dI) vwCl [(h0, .inr (2, [.null, .null, .int 0, .long 0, .long 0, .int 0, .int 0])), (q8, .inl (cI, 300, .inl (fun _ => 0)))] H := hP
  have hD : va_D A [(h0, .inr (2, [.null, .null, .int 0, .long 0, .long 0, .int 0, .int 0])), (q8, .inl (cI, 300, .inl (fun _ => 0)))] := hD
  refine W.widen (k := 1) (n := 300) (Nat.le_of_ble_eq_true rfl) (Nat.le_of_ble_eq_true rfl) ?_
  refine va_putF (D := (dC, dI)) (ci := 2) (v := .ref q8) (ty := .array (.int)) (C := RX2) (T := TX2) (N := 7) hx hb hg ck2.2.1 tyX2 ck2.2.2.1 ck2.2.2.2 hown hK hP hD hS 0 rfl rfl 0 (Nat.le_of_ble_eq_true rfl) (hg _ wi241) (fun _ h9 => h9) rfl hin rfl (by decide +kernel) rfl rfl (Nat.le_of_ble_eq_true rfl) dX2_init_10 (fun H locs hP hD hS => ?_)
  have hP : va_P (dC, dI) vwCl [(h0, .inr (2, [.ref q8, .null, .int 0, .long 0, .long 0, .int 0, .int 0])), (q8, .inl (cI, 300, .inl (fun _ => 0)))] H := hP
  have hD : va_D A [(h0, .inr (2, [.ref q8, .null, .int 0, .long 0, .long 0, .int 0, .int 0])), (q8, .inl (cI, 300, .inl (fun _ => 0)))] := hD
  refine lv_aload_n hx hb dX2_init_13 rfl (lv_at hl 0 rfl) ?_
  refine lv_sipush (v := 300) hx hb dX2_init_14 (by decide) ?_
  have h_2 : 2 ≤ 2 := Nat.le_of_ble_eq_true rfl
  have h_3 : 600 ≤ 600 := Nat.le_of_ble_eq_true rfl
  refine va_newa (atype := .int) (ty := .int) (a0 := (300, .inl (fun _ => 0))) (N' := 300) hx hb (hg _ wi91) rfl hK hP hD hS hA (fun _ => rfl) (by decide) rfl (Nat.le_of_ble_eq_true rfl) h_2 h_3 dX2_init_17 (fun q17 cA H hK2 hP hD hS => ?_)
  rw [ca_i hK2] at hP hD
  have hP : va_P (dC, dI) vwCl [(h0, .inr (2, [.ref q8, .null, .int 0, .long 0, .long 0, .int 0, .int 0])), (q8, .inl (cI, 300, .inl (fun _ => 0))), (q17, .inl (cI, 300, .inl (fun _ => 0)))] H := hP
  have hD : va_D A [(h0, .inr (2, [.ref q8, .null, .int 0, .long 0, .long 0, .int 0, .int 0])), (q8, .inl (cI, 300, .inl (fun _ => 0))), (q17, .inl (cI, 300, .inl (fun _ => 0)))] := hD
  refine W.widen (k := 2) (n := 600) (Nat.le_of_ble_eq_true rfl) (Nat.le_of_ble_eq_true rfl) ?_
  refine va_putF (D := (dC, dI)) (ci := 2) (v := .ref q17) (ty := .array (.int)) (C := RX2) (T := TX2) (N := 7) hx hb hg ck2.2.1 tyX2 ck2.2.2.1 ck2.2.2.2 hown hK hP hD hS 0 rfl rfl 1 (Nat.le_of_ble_eq_true rfl) (hg _ wi243) (fun _ h9 => h9) rfl hin rfl (by decide +kernel) rfl rfl (Nat.le_of_ble_eq_true rfl) dX2_init_19 (fun H locs hP hD hS => ?_)
  have hP : va_P (dC, dI) vwCl [(h0, .inr (2, [.ref q8, .ref q17, .int 0, .long 0, .long 0, .int 0, .int 0])), (q8, .inl (cI, 300, .inl (fun _ => 0))), (q17, .inl (cI, 300, .inl (fun _ => 0)))] H := hP
  have hD : va_D A [(h0, .inr (2, [.ref q8, .ref q17, .int 0, .long 0, .long 0, .int 0, .int 0])), (q8, .inl (cI, 300, .inl (fun _ => 0))), (q17, .inl (cI, 300, .inl (fun _ => 0)))] := hD
  have hK9 : va_K (dC, dI) vwCl [] s := hK.sub [] rfl
  exact W.vret hx hb hr (fun t ht hW => ⟨⟨(), rfl, trivial, q8, q17, by rw [ht]; exact hP, hD⟩, hS.F ht⟩) hS.2.2 dX2_init_22
set_option maxHeartbeats 4000000 in
set_option maxRecDepth 100000 in
theorem c_X0_init (l : Launch) (dC : Nat → ClassId) (dI : Nat → Nat → Nat) (cI : ClassId) (h0 sz : Nat) : Met l yX0_init (Cond.code yX0_init cX0_init 1 none :: gtbl) ({ frames := 1, cells := 3, slots := 900, locals := 12 }) (va_Pc [.ref h0] (fun U => U.heap.size = sz ∧ va_P (dC, dI) vwCl [(h0, .inr (0, [.null, .null, .null, .int 0]))] U.heap ∧ va_K (dC, dI) vwCl [(cI, .int)] U ∧ va_D (fun _ => True) [(h0, .inr (0, [.null, .null, .null, .int 0]))])) (va_Qv (fun _ : Unit => True) (fun _ U => ∃ (q8 : Nat) (q17 : Nat) (q26 : Nat), va_P (dC, dI) vwCl [(h0, .inr (0, [.ref q8, .ref q17, .ref q26, .int 0])), (q8, .inl (cI, 300, .inl (fun _ => 0))), (q17, .inl (cI, 300, .inl (fun _ => 0))), (q26, .inl (cI, 300, .inl (fun _ => 0)))] U.heap ∧ va_D (va_A [(h0, .inr (0, [.null, .null, .null, .int 0]))] sz) [(h0, .inr (0, [.ref q8, .ref q17, .ref q26, .int 0])), (q8, .inl (cI, 300, .inl (fun _ => 0))), (q17, .inl (cI, 300, .inl (fun _ => 0))), (q26, .inl (cI, 300, .inl (fun _ => 0)))]) (va_A [(h0, .inr (0, [.null, .null, .null, .int 0]))] sz)) 3 900 (va_A [(h0, .inr (0, [.null, .null, .null, .int 0]))] sz) := by
  refine Met.ofW (cc := cX0_init) (maxL := 1) (ret := none) (by decide) rfl ?_
  intro p e s m args below meth c s₁ B hml hv
  obtain ⟨rfl, hsz, hP, hK, hD0⟩ := hv
  have hx := B.exec
  have hb := B.bytes
  have hr := B.returns
  have hts := atoms_spec (ws := Cond.code yX0_init cX0_init 1 none :: gtbl) B.pre
  have hg : ∀ w ∈ gtbl, w.before #[Value.ref h0] s = true := fun w h => hts w (List.mem_cons_of_mem _ h)
  have hown : s.vm.findClass RX0 = some m.cls := findClass_of_methodNamed B.named
  have hlocks := B.notSynchronized
  have hin : meth.name = "<init>" := (name_of_methodNamed B.named B.method).1
  subst hsz
  have hD := hD0.self (sz := s.heap.size)
  generalize hAe : va_A [(h0, .inr (0, [.null, .null, .null, .int 0]))] s.heap.size = A at hD ⊢
  have hA : ∀ q : Nat, s.heap.size ≤ q → A q := fun q h => by rw [← hAe]; exact Or.inr h
  have hS : va_S A s.heap s.heap [] := va_S.rf
  have hP : va_P (dC, dI) vwCl [(h0, .inr (0, [.null, .null, .null, .int 0]))] s.heap := hP
  have hl := lv_entry ([.ref h0]) (n := 1) (Nat.le_of_ble_eq_true rfl)
  rw [lg_entry_eq]
  generalize (lg_sl ([.ref h0]) ++ List.replicate (1 - (lg_sl ([.ref h0])).length) Slot.unset).toArray = ls at hl ⊢
  have hl : lv_has ls 1 [(0, .ref h0)] := hl
  refine lv_aload_n hx hb dX0_init_0 rfl (lv_at hl 0 rfl) ?_
  refine W.objInit hx hb hown (hg _ wi271) (hg _ wi61) (hg _ wi62) rfl (by rw [hml]; exact hl.1) rfl dX0_init_1 (Nat.le_of_ble_eq_true rfl) (Nat.le_of_ble_eq_true rfl) ?_
  refine W.eq (g2 := F0 m 4 ls []) rfl ?_
  refine lv_aload_n hx hb dX0_init_4 rfl (lv_at hl 0 rfl) ?_
  refine lv_sipush (v := 300) hx hb dX0_init_5 (by decide) ?_
  have h_0 : 1 ≤ 3 := Nat.le_of_ble_eq_true rfl
  have h_1 : 300 ≤ 900 := Nat.le_of_ble_eq_true rfl
  refine va_newa (atype := .int) (ty := .int) (a0 := (300, .inl (fun _ => 0))) (N' := 300) hx hb (hg _ wi91) rfl hK hP hD hS hA (fun _ => rfl) (by decide) rfl (Nat.le_of_ble_eq_true rfl) h_0 h_1 dX0_init_8 (fun q8 cA H hK2 hP hD hS => ?_)
  rw [ca_i hK2] at hP hD
  have hP : va_P (dC, dI) vwCl [(h0, .inr (0, [.null, .null, .null, .int 0])), (q8, .inl (cI, 300, .inl (fun _ => 0)))] H := hP
  have hD : va_D A [(h0, .inr (0, [.null, .null, .null, .int 0])), (q8, .inl (cI, 300, .inl (fun _ => 0)))] := hD
  refine W.widen (k := 1) (n := 300) (Nat.le_of_ble_eq_true rfl) (Nat.le_of_ble_eq_true rfl) ?_
  refine va_putF (D := (dC, dI)) (ci := 0) (v := .ref q8) (ty := .array (.int)) (C := RX0) (T := TX0) (N := 4) hx hb hg ck0.2.1 tyX0 ck0.2.2.1 ck0.2.2.2 hown hK hP hD hS 0 rfl rfl 0 (Nat.le_of_ble_eq_true rfl) (hg _ wi272) (fun _ h9 => h9) rfl hin rfl (by decide +kernel) rfl rfl (Nat.le_of_ble_eq_true rfl) dX0_init_10 (fun H locs hP hD hS => ?_)
  have hP : va_P (dC, dI) vwCl [(h0, .inr (0, [.ref q8, .null, .null, .int 0])), (q8, .inl (cI, 300, .inl (fun _ => 0)))] H := hP
  have hD : va_D A [(h0, .inr (0, [.ref q8, .null, .null, .int 0])), (q8, .inl (cI, 300, .inl (fun _ => 0)))] := hD
  refine lv_aload_n hx hb dX0_init_13 rfl (lv_at hl 0 rfl) ?_
  refine lv_sipush (v := 300) hx hb dX0_init_14 (by decide) ?_
  have h_2 : 2 ≤ 3 := Nat.le_of_ble_eq_true rfl
  have h_3 : 600 ≤ 900 := Nat.le_of_ble_eq_true rfl
  refine va_newa (atype := .int) (ty := .int) (a0 := (300, .inl (fun _ => 0))) (N' := 300) hx hb (hg _ wi91) rfl hK hP hD hS hA (fun _ => rfl) (by decide) rfl (Nat.le_of_ble_eq_true rfl) h_2 h_3 dX0_init_17 (fun q17 cA H hK2 hP hD hS => ?_)
  rw [ca_i hK2] at hP hD
  have hP : va_P (dC, dI) vwCl [(h0, .inr (0, [.ref q8, .null, .null, .int 0])), (q8, .inl (cI, 300, .inl (fun _ => 0))), (q17, .inl (cI, 300, .inl (fun _ => 0)))] H := hP
  have hD : va_D A [(h0, .inr (0, [.ref q8, .null, .null, .int 0])), (q8, .inl (cI, 300, .inl (fun _ => 0))), (q17, .inl (cI, 300, .inl (fun _ => 0)))] := hD
  refine W.widen (k := 2) (n := 600) (Nat.le_of_ble_eq_true rfl) (Nat.le_of_ble_eq_true rfl) ?_
  refine va_putF (D := (dC, dI)) (ci := 0) (v := .ref q17) (ty := .array (.int)) (C := RX0) (T := TX0) (N := 4) hx hb hg ck0.2.1 tyX0 ck0.2.2.1 ck0.2.2.2 hown hK hP hD hS 0 rfl rfl 1 (Nat.le_of_ble_eq_true rfl) (hg _ wi274) (fun _ h9 => h9) rfl hin rfl (by decide +kernel) rfl rfl (Nat.le_of_ble_eq_true rfl) dX0_init_19 (fun H locs hP hD hS => ?_)
  have hP : va_P (dC, dI) vwCl [(h0, .inr (0, [.ref q8, .ref q17, .null, .int 0])), (q8, .inl (cI, 300, .inl (fun _ => 0))), (q17, .inl (cI, 300, .inl (fun _ => 0)))] H := hP
  have hD : va_D A [(h0, .inr (0, [.ref q8, .ref q17, .null, .int 0])), (q8, .inl (cI, 300, .inl (fun _ => 0))), (q17, .inl (cI, 300, .inl (fun _ => 0)))] := hD
  refine lv_aload_n hx hb dX0_init_22 rfl (lv_at hl 0 rfl) ?_
  refine lv_sipush (v := 300) hx hb dX0_init_23 (by decide) ?_
  have h_4 : 3 ≤ 3 := Nat.le_of_ble_eq_true rfl
  have h_5 : 900 ≤ 900 := Nat.le_of_ble_eq_true rfl
  refine va_newa (atype := .int) (ty := .int) (a0 := (300, .inl (fun _ => 0))) (N' := 300) hx hb (hg _ wi91) rfl hK hP hD hS hA (fun _ => rfl) (by decide) rfl (Nat.le_of_ble_eq_true rfl) h_4 h_5 dX0_init_26 (fun q26 cA H hK2 hP hD hS => ?_)
  rw [ca_i hK2] at hP hD
  have hP : va_P (dC, dI) vwCl [(h0, .inr (0, [.ref q8, .ref q17, .null, .int 0])), (q8, .inl (cI, 300, .inl (fun _ => 0))), (q17, .inl (cI, 300, .inl (fun _ => 0))), (q26, .inl (cI, 300, .inl (fun _ => 0)))] H := hP
  have hD : va_D A [(h0, .inr (0, [.ref q8, .ref q17, .null, .int 0])), (q8, .inl (cI, 300, .inl (fun _ => 0))), (q17, .inl (cI, 300, .inl (fun _ => 0))), (q26, .inl (cI, 300, .inl (fun _ => 0)))] := hD
  refine W.widen (k := 3) (n := 900) (Nat.le_of_ble_eq_true rfl) (Nat.le_of_ble_eq_true rfl) ?_
  refine va_putF (D := (dC, dI)) (ci := 0) (v := .ref q26) (ty := .array (.int)) (C := RX0) (T := TX0) (N := 4) hx hb hg ck0.2.1 tyX0 ck0.2.2.1 ck0.2.2.2 hown hK hP hD hS 0 rfl rfl 2 (Nat.le_of_ble_eq_true rfl) (hg _ wi276) (fun _ h9 => h9) rfl hin rfl (by decide +kernel) rfl rfl (Nat.le_of_ble_eq_true rfl) dX0_init_28 (fun H locs hP hD hS => ?_)
  have hP : va_P (dC, dI) vwCl [(h0, .inr (0, [.ref q8, .ref q17, .ref q26, .int 0])), (q8, .inl (cI, 300, .inl (fun _ => 0))), (q17, .inl (cI, 300, .inl (fun _ => 0))), (q26, .inl (cI, 300, .inl (fun _ => 0)))] H := hP
  have hD : va_D A [(h0, .inr (0, [.ref q8, .ref q17, .ref q26, .int 0])), (q8, .inl (cI, 300, .inl (fun _ => 0))), (q17, .inl (cI, 300, .inl (fun _ => 0))), (q26, .inl (cI, 300, .inl (fun _ => 0)))] := hD
  have hK9 : va_K (dC, dI) vwCl [] s := hK.sub [] rfl
  exact W.vret hx hb hr (fun t ht hW => ⟨⟨(), rfl, trivial, q8, q17, q26, by rw [ht]; exact hP, hD⟩, hS.F ht⟩) hS.2.2 dX0_init_31
set_option maxHeartbeats 4000000 in
set_option maxRecDepth 100000 in
theorem c_X5_init (l : Launch) (dC : Nat → ClassId) (dI : Nat → Nat → Nat) (cI : ClassId) (h0 sz : Nat) : Met l yX5_init (Cond.code yX5_init cX5_init 1 none :: gtbl) ({ frames := 1, cells := 2, slots := 1200, locals := 12 }) (va_Pc [.ref h0] (fun U => U.heap.size = sz ∧ va_P (dC, dI) vwCl [(h0, .inr (5, [.null, .null, .int 0]))] U.heap ∧ va_K (dC, dI) vwCl [(cI, .int)] U ∧ va_D (fun _ => True) [(h0, .inr (5, [.null, .null, .int 0]))])) (va_Qv (fun _ : Unit => True) (fun _ U => ∃ (cJ : ClassId) (q8 : Nat) (q17 : Nat), va_P (dC, dI) vwCl [(h0, .inr (5, [.ref q8, .ref q17, .int 0])), (q8, .inl (cJ, 600, .inr (.inl (fun _ => 0)))), (q17, .inl (cJ, 600, .inr (.inl (fun _ => 0))))] U.heap ∧ va_K (dC, dI) vwCl [(cJ, .long)] U ∧ va_D (va_A [(h0, .inr (5, [.null, .null, .int 0]))] sz) [(h0, .inr (5, [.ref q8, .ref q17, .int 0])), (q8, .inl (cJ, 600, .inr (.inl (fun _ => 0)))), (q17, .inl (cJ, 600, .inr (.inl (fun _ => 0))))]) (va_A [(h0, .inr (5, [.null, .null, .int 0]))] sz)) 2 1200 (va_A [(h0, .inr (5, [.null, .null, .int 0]))] sz) := by
  refine Met.ofW (cc := cX5_init) (maxL := 1) (ret := none) (by decide) rfl ?_
  intro p e s m args below meth c s₁ B hml hv
  obtain ⟨rfl, hsz, hP, hK, hD0⟩ := hv
  have hx := B.exec
  have hb := B.bytes
  have hr := B.returns
  have hts := atoms_spec (ws := Cond.code yX5_init cX5_init 1 none :: gtbl) B.pre
  have hg : ∀ w ∈ gtbl, w.before #[Value.ref h0] s = true := fun w h => hts w (List.mem_cons_of_mem _ h)
  have hown : s.vm.findClass RX5 = some m.cls := findClass_of_methodNamed B.named
  have hlocks := B.notSynchronized
  have hin : meth.name = "<init>" := (name_of_methodNamed B.named B.method).1
  subst hsz
  have hD := hD0.self (sz := s.heap.size)
  generalize hAe : va_A [(h0, .inr (5, [.null, .null, .int 0]))] s.heap.size = A at hD ⊢
  have hA : ∀ q : Nat, s.heap.size ≤ q → A q := fun q h => by rw [← hAe]; exact Or.inr h
  have hS : va_S A s.heap s.heap [] := va_S.rf
  have hP : va_P (dC, dI) vwCl [(h0, .inr (5, [.null, .null, .int 0]))] s.heap := hP
  have hl := lv_entry ([.ref h0]) (n := 1) (Nat.le_of_ble_eq_true rfl)
  rw [lg_entry_eq]
  generalize (lg_sl ([.ref h0]) ++ List.replicate (1 - (lg_sl ([.ref h0])).length) Slot.unset).toArray = ls at hl ⊢
  have hl : lv_has ls 1 [(0, .ref h0)] := hl
  refine lv_aload_n hx hb dX5_init_0 rfl (lv_at hl 0 rfl) ?_
  refine W.objInit hx hb hown (hg _ wi294) (hg _ wi61) (hg _ wi62) rfl (by rw [hml]; exact hl.1) rfl dX5_init_1 (Nat.le_of_ble_eq_true rfl) (Nat.le_of_ble_eq_true rfl) ?_
  refine W.eq (g2 := F0 m 4 ls []) rfl ?_
  refine lv_aload_n hx hb dX5_init_4 rfl (lv_at hl 0 rfl) ?_
  refine lv_sipush (v := 600) hx hb dX5_init_5 (by decide) ?_
  have h_0 : 1 ≤ 2 := Nat.le_of_ble_eq_true rfl
  have h_1 : 600 ≤ 1200 := Nat.le_of_ble_eq_true rfl
  refine va_newa (atype := .long) (ty := .long) (a0 := (600, .inr (.inl (fun _ => 0)))) (N' := 600) hx hb (hg _ wi305) rfl hK hP hD hS hA (fun _ => rfl) (by decide) rfl (Nat.le_of_ble_eq_true rfl) h_0 h_1 dX5_init_8 (fun q8 cA H hK2 hP hD hS => ?_)
  obtain ⟨cJ, hcA⟩ : ∃ z, z = cA := ⟨_, rfl⟩
  rw [← hcA] at hP hD hK2
  have hK : va_K (dC, dI) vwCl [(cI, .int), (cJ, .long)] s := hK2
  have hP : va_P (dC, dI) vwCl [(h0, .inr (5, [.null, .null, .int 0])), (q8, .inl (cJ, 600, .inr (.inl (fun _ => 0))))] H := hP
  have hD : va_D A [(h0, .inr (5, [.null, .null, .int 0])), (q8, .inl (cJ, 600, .inr (.inl (fun _ => 0))))] := hD
  refine W.widen (k := 1) (n := 600) (Nat.le_of_ble_eq_true rfl) (Nat.le_of_ble_eq_true rfl) ?_
  refine va_put (D := (dC, dI)) (ci := 5) (v := .ref q8) (ty := .array (.long)) (C := RX5) (T := TX5) (N := 3) hx hb hg ck5.2.1 tyX5 ck5.2.2.1 ck5.2.2.2 hown hK hP hD hS 0 rfl rfl 0 (Nat.le_of_ble_eq_true rfl) (hg _ wi295) (fun _ h9 => h9) rfl (by decide +kernel) rfl rfl (Nat.le_of_ble_eq_true rfl) dX5_init_10 (fun H locs hP hD hS => ?_)
  have hP : va_P (dC, dI) vwCl [(h0, .inr (5, [.ref q8, .null, .int 0])), (q8, .inl (cJ, 600, .inr (.inl (fun _ => 0))))] H := hP
  have hD : va_D A [(h0, .inr (5, [.ref q8, .null, .int 0])), (q8, .inl (cJ, 600, .inr (.inl (fun _ => 0))))] := hD
  refine lv_aload_n hx hb dX5_init_13 rfl (lv_at hl 0 rfl) ?_
  refine lv_sipush (v := 600) hx hb dX5_init_14 (by decide) ?_
  have h_2 : 2 ≤ 2 := Nat.le_of_ble_eq_true rfl
  have h_3 : 1200 ≤ 1200 := Nat.le_of_ble_eq_true rfl
  refine va_newa (atype := .long) (ty := .long) (a0 := (600, .inr (.inl (fun _ => 0)))) (N' := 600) hx hb (hg _ wi305) rfl hK hP hD hS hA (fun _ => rfl) (by decide) rfl (Nat.le_of_ble_eq_true rfl) h_2 h_3 dX5_init_17 (fun q17 cA H hK2 hP hD hS => ?_)
  rw [ca_j1 hK2] at hP hD
  have hP : va_P (dC, dI) vwCl [(h0, .inr (5, [.ref q8, .null, .int 0])), (q8, .inl (cJ, 600, .inr (.inl (fun _ => 0)))), (q17, .inl (cJ, 600, .inr (.inl (fun _ => 0))))] H := hP
  have hD : va_D A [(h0, .inr (5, [.ref q8, .null, .int 0])), (q8, .inl (cJ, 600, .inr (.inl (fun _ => 0)))), (q17, .inl (cJ, 600, .inr (.inl (fun _ => 0))))] := hD
  refine W.widen (k := 2) (n := 1200) (Nat.le_of_ble_eq_true rfl) (Nat.le_of_ble_eq_true rfl) ?_
  refine va_put (D := (dC, dI)) (ci := 5) (v := .ref q17) (ty := .array (.long)) (C := RX5) (T := TX5) (N := 3) hx hb hg ck5.2.1 tyX5 ck5.2.2.1 ck5.2.2.2 hown hK hP hD hS 0 rfl rfl 1 (Nat.le_of_ble_eq_true rfl) (hg _ wi296) (fun _ h9 => h9) rfl (by decide +kernel) rfl rfl (Nat.le_of_ble_eq_true rfl) dX5_init_19 (fun H locs hP hD hS => ?_)
  have hP : va_P (dC, dI) vwCl [(h0, .inr (5, [.ref q8, .ref q17, .int 0])), (q8, .inl (cJ, 600, .inr (.inl (fun _ => 0)))), (q17, .inl (cJ, 600, .inr (.inl (fun _ => 0))))] H := hP
  have hD : va_D A [(h0, .inr (5, [.ref q8, .ref q17, .int 0])), (q8, .inl (cJ, 600, .inr (.inl (fun _ => 0)))), (q17, .inl (cJ, 600, .inr (.inl (fun _ => 0))))] := hD
  have hK9 : va_K (dC, dI) vwCl [(cJ, .long)] s := hK.sub [1] rfl
  exact W.vret hx hb hr (fun t ht hW => ⟨⟨(), rfl, trivial, cJ, q8, q17, by rw [ht]; exact hP, va_K.moved hW.alike hK9, hD⟩, hS.F ht⟩) hS.2.2 dX5_init_22
