/-! ===== what makes an instruction's operation sound: checks over the tables ===== -/
def am_used : List Nat := [0, 1, 2, 3, 4, 5, 6, 7, 8, 9, 10, 11, 12, 13, 14, 15, 16, 17, 18, 19, 20, 21, 22, 23, 24, 25, 26, 27, 28, 29, 30, 31, 32, 33, 34, 35, 36, 37, 38, 39, 40, 41, 42, 43, 44, 45, 46, 48, 49, 50, 51, 52, 53, 54, 55, 56, 57, 58, 59, 60, 61, 62, 63, 64, 65, 66, 70, 71, 72, 73, 74, 75, 76, 77, 79, 80, 83, 84, 85, 86, 87, 88, 89, 90, 91, 92, 93, 94, 95, 97, 98, 99, 104, 105, 107, 108, 109, 110, 111, 112, 113, 114, 115, 116, 117, 118, 119, 121, 122, 123, 124]
theorem am_hw0 : am_head am_m0 ∈ am_ws := List.mem_filter.mpr ⟨am_atw_in (i := 51) rfl, rfl⟩
theorem am_hw1 : am_head am_m1 ∈ am_ws := List.mem_filter.mpr ⟨am_atw_in (i := 63) rfl, rfl⟩
theorem am_hw2 : am_head am_m2 ∈ am_ws := List.mem_filter.mpr ⟨am_atw_in (i := 70) rfl, rfl⟩
theorem am_hw3 : am_head am_m3 ∈ am_ws := List.mem_filter.mpr ⟨am_atw_in (i := 139) rfl, rfl⟩
theorem am_hw4 : am_head am_m4 ∈ am_ws := List.mem_filter.mpr ⟨am_atw_in (i := 158) rfl, rfl⟩
theorem am_hw5 : am_head am_m5 ∈ am_ws := List.mem_filter.mpr ⟨am_atw_in (i := 193) rfl, rfl⟩
theorem am_hw6 : am_head am_m6 ∈ am_ws := List.mem_filter.mpr ⟨am_atw_in (i := 245) rfl, rfl⟩
theorem am_hw7 : am_head am_m7 ∈ am_ws := List.mem_filter.mpr ⟨am_atw_in (i := 294) rfl, rfl⟩
theorem am_hw8 : am_head am_m8 ∈ am_ws := List.mem_filter.mpr ⟨am_atw_in (i := 298) rfl, rfl⟩
theorem am_hw9 : am_head am_m9 ∈ am_ws := List.mem_filter.mpr ⟨am_atw_in (i := 302) rfl, rfl⟩
theorem am_hw10 : am_head am_m10 ∈ am_ws := List.mem_filter.mpr ⟨am_atw_in (i := 305) rfl, rfl⟩
theorem am_hw11 : am_head am_m11 ∈ am_ws := List.mem_filter.mpr ⟨am_atw_in (i := 310) rfl, rfl⟩
theorem am_hw12 : am_head am_m12 ∈ am_ws := List.mem_filter.mpr ⟨am_atw_in (i := 314) rfl, rfl⟩
theorem am_hw13 : am_head am_m13 ∈ am_ws := List.mem_filter.mpr ⟨am_atw_in (i := 326) rfl, rfl⟩
theorem am_hw14 : am_head am_m14 ∈ am_ws := List.mem_filter.mpr ⟨am_atw_in (i := 330) rfl, rfl⟩
theorem am_hw15 : am_head am_m15 ∈ am_ws := List.mem_filter.mpr ⟨am_atw_in (i := 334) rfl, rfl⟩
theorem am_hw16 : am_head am_m16 ∈ am_ws := List.mem_filter.mpr ⟨am_atw_in (i := 338) rfl, rfl⟩
theorem am_hw17 : am_head am_m17 ∈ am_ws := List.mem_filter.mpr ⟨am_atw_in (i := 342) rfl, rfl⟩
theorem am_hw18 : am_head am_m18 ∈ am_ws := List.mem_filter.mpr ⟨am_atw_in (i := 349) rfl, rfl⟩
theorem am_hw19 : am_head am_m19 ∈ am_ws := List.mem_filter.mpr ⟨am_atw_in (i := 356) rfl, rfl⟩
theorem am_hw20 : am_head am_m20 ∈ am_ws := List.mem_filter.mpr ⟨am_atw_in (i := 363) rfl, rfl⟩
theorem am_hw21 : am_head am_m21 ∈ am_ws := List.mem_filter.mpr ⟨am_atw_in (i := 367) rfl, rfl⟩
theorem am_hw22 : am_head am_m22 ∈ am_ws := List.mem_filter.mpr ⟨am_atw_in (i := 370) rfl, rfl⟩
theorem am_hw23 : am_head am_m23 ∈ am_ws := List.mem_filter.mpr ⟨am_atw_in (i := 374) rfl, rfl⟩
theorem am_hw24 : am_head am_m24 ∈ am_ws := List.mem_filter.mpr ⟨am_atw_in (i := 378) rfl, rfl⟩
theorem am_hw25 : am_head am_m25 ∈ am_ws := List.mem_filter.mpr ⟨am_atw_in (i := 383) rfl, rfl⟩
theorem am_hw26 : am_head am_m26 ∈ am_ws := List.mem_filter.mpr ⟨am_atw_in (i := 389) rfl, rfl⟩
theorem am_hw27 : am_head am_m27 ∈ am_ws := List.mem_filter.mpr ⟨am_atw_in (i := 477) rfl, rfl⟩
theorem am_hw28 : am_head am_m28 ∈ am_ws := List.mem_filter.mpr ⟨am_atw_in (i := 480) rfl, rfl⟩
theorem am_hw29 : am_head am_m29 ∈ am_ws := List.mem_filter.mpr ⟨am_atw_in (i := 500) rfl, rfl⟩
theorem am_hw30 : am_head am_m30 ∈ am_ws := List.mem_filter.mpr ⟨am_atw_in (i := 504) rfl, rfl⟩
theorem am_hw31 : am_head am_m31 ∈ am_ws := List.mem_filter.mpr ⟨am_atw_in (i := 507) rfl, rfl⟩
theorem am_hw32 : am_head am_m32 ∈ am_ws := List.mem_filter.mpr ⟨am_atw_in (i := 540) rfl, rfl⟩
theorem am_hw33 : am_head am_m33 ∈ am_ws := List.mem_filter.mpr ⟨am_atw_in (i := 544) rfl, rfl⟩
theorem am_hw34 : am_head am_m34 ∈ am_ws := List.mem_filter.mpr ⟨am_atw_in (i := 548) rfl, rfl⟩
theorem am_hw35 : am_head am_m35 ∈ am_ws := List.mem_filter.mpr ⟨am_atw_in (i := 553) rfl, rfl⟩
theorem am_hw36 : am_head am_m36 ∈ am_ws := List.mem_filter.mpr ⟨am_atw_in (i := 557) rfl, rfl⟩
theorem am_hw37 : am_head am_m37 ∈ am_ws := List.mem_filter.mpr ⟨am_atw_in (i := 577) rfl, rfl⟩
theorem am_hw38 : am_head am_m38 ∈ am_ws := List.mem_filter.mpr ⟨am_atw_in (i := 582) rfl, rfl⟩
theorem am_hw39 : am_head am_m39 ∈ am_ws := List.mem_filter.mpr ⟨am_atw_in (i := 586) rfl, rfl⟩
theorem am_hw40 : am_head am_m40 ∈ am_ws := List.mem_filter.mpr ⟨am_atw_in (i := 591) rfl, rfl⟩
theorem am_hw41 : am_head am_m41 ∈ am_ws := List.mem_filter.mpr ⟨am_atw_in (i := 595) rfl, rfl⟩
theorem am_hw42 : am_head am_m42 ∈ am_ws := List.mem_filter.mpr ⟨am_atw_in (i := 601) rfl, rfl⟩
theorem am_hw43 : am_head am_m43 ∈ am_ws := List.mem_filter.mpr ⟨am_atw_in (i := 606) rfl, rfl⟩
theorem am_hw44 : am_head am_m44 ∈ am_ws := List.mem_filter.mpr ⟨am_atw_in (i := 610) rfl, rfl⟩
theorem am_hw45 : am_head am_m45 ∈ am_ws := List.mem_filter.mpr ⟨am_atw_in (i := 615) rfl, rfl⟩
theorem am_hw46 : am_head am_m46 ∈ am_ws := List.mem_filter.mpr ⟨am_atw_in (i := 620) rfl, rfl⟩
theorem am_hw48 : am_head am_m48 ∈ am_ws := List.mem_filter.mpr ⟨am_atw_in (i := 628) rfl, rfl⟩
theorem am_hw49 : am_head am_m49 ∈ am_ws := List.mem_filter.mpr ⟨am_atw_in (i := 648) rfl, rfl⟩
theorem am_hw50 : am_head am_m50 ∈ am_ws := List.mem_filter.mpr ⟨am_atw_in (i := 652) rfl, rfl⟩
theorem am_hw51 : am_head am_m51 ∈ am_ws := List.mem_filter.mpr ⟨am_atw_in (i := 656) rfl, rfl⟩
theorem am_hw52 : am_head am_m52 ∈ am_ws := List.mem_filter.mpr ⟨am_atw_in (i := 660) rfl, rfl⟩
theorem am_hw53 : am_head am_m53 ∈ am_ws := List.mem_filter.mpr ⟨am_atw_in (i := 664) rfl, rfl⟩
theorem am_hw54 : am_head am_m54 ∈ am_ws := List.mem_filter.mpr ⟨am_atw_in (i := 668) rfl, rfl⟩
theorem am_hw55 : am_head am_m55 ∈ am_ws := List.mem_filter.mpr ⟨am_atw_in (i := 672) rfl, rfl⟩
theorem am_hw56 : am_head am_m56 ∈ am_ws := List.mem_filter.mpr ⟨am_atw_in (i := 677) rfl, rfl⟩
theorem am_hw57 : am_head am_m57 ∈ am_ws := List.mem_filter.mpr ⟨am_atw_in (i := 683) rfl, rfl⟩
theorem am_hw58 : am_head am_m58 ∈ am_ws := List.mem_filter.mpr ⟨am_atw_in (i := 688) rfl, rfl⟩
theorem am_hw59 : am_head am_m59 ∈ am_ws := List.mem_filter.mpr ⟨am_atw_in (i := 692) rfl, rfl⟩
theorem am_hw60 : am_head am_m60 ∈ am_ws := List.mem_filter.mpr ⟨am_atw_in (i := 696) rfl, rfl⟩
theorem am_hw61 : am_head am_m61 ∈ am_ws := List.mem_filter.mpr ⟨am_atw_in (i := 701) rfl, rfl⟩
theorem am_hw62 : am_head am_m62 ∈ am_ws := List.mem_filter.mpr ⟨am_atw_in (i := 704) rfl, rfl⟩
theorem am_hw63 : am_head am_m63 ∈ am_ws := List.mem_filter.mpr ⟨am_atw_in (i := 708) rfl, rfl⟩
theorem am_hw64 : am_head am_m64 ∈ am_ws := List.mem_filter.mpr ⟨am_atw_in (i := 712) rfl, rfl⟩
theorem am_hw65 : am_head am_m65 ∈ am_ws := List.mem_filter.mpr ⟨am_atw_in (i := 716) rfl, rfl⟩
theorem am_hw66 : am_head am_m66 ∈ am_ws := List.mem_filter.mpr ⟨am_atw_in (i := 720) rfl, rfl⟩
theorem am_hw70 : am_head am_m70 ∈ am_ws := List.mem_filter.mpr ⟨am_atw_in (i := 737) rfl, rfl⟩
theorem am_hw71 : am_head am_m71 ∈ am_ws := List.mem_filter.mpr ⟨am_atw_in (i := 741) rfl, rfl⟩
theorem am_hw72 : am_head am_m72 ∈ am_ws := List.mem_filter.mpr ⟨am_atw_in (i := 745) rfl, rfl⟩
theorem am_hw73 : am_head am_m73 ∈ am_ws := List.mem_filter.mpr ⟨am_atw_in (i := 750) rfl, rfl⟩
theorem am_hw74 : am_head am_m74 ∈ am_ws := List.mem_filter.mpr ⟨am_atw_in (i := 754) rfl, rfl⟩
theorem am_hw75 : am_head am_m75 ∈ am_ws := List.mem_filter.mpr ⟨am_atw_in (i := 758) rfl, rfl⟩
theorem am_hw76 : am_head am_m76 ∈ am_ws := List.mem_filter.mpr ⟨am_atw_in (i := 762) rfl, rfl⟩
theorem am_hw77 : am_head am_m77 ∈ am_ws := List.mem_filter.mpr ⟨am_atw_in (i := 767) rfl, rfl⟩
theorem am_hw79 : am_head am_m79 ∈ am_ws := List.mem_filter.mpr ⟨am_atw_in (i := 776) rfl, rfl⟩
theorem am_hw80 : am_head am_m80 ∈ am_ws := List.mem_filter.mpr ⟨am_atw_in (i := 780) rfl, rfl⟩
theorem am_hw83 : am_head am_m83 ∈ am_ws := List.mem_filter.mpr ⟨am_atw_in (i := 792) rfl, rfl⟩
theorem am_hw84 : am_head am_m84 ∈ am_ws := List.mem_filter.mpr ⟨am_atw_in (i := 796) rfl, rfl⟩
theorem am_hw85 : am_head am_m85 ∈ am_ws := List.mem_filter.mpr ⟨am_atw_in (i := 800) rfl, rfl⟩
theorem am_hw86 : am_head am_m86 ∈ am_ws := List.mem_filter.mpr ⟨am_atw_in (i := 804) rfl, rfl⟩
theorem am_hw87 : am_head am_m87 ∈ am_ws := List.mem_filter.mpr ⟨am_atw_in (i := 809) rfl, rfl⟩
theorem am_hw88 : am_head am_m88 ∈ am_ws := List.mem_filter.mpr ⟨am_atw_in (i := 813) rfl, rfl⟩
theorem am_hw89 : am_head am_m89 ∈ am_ws := List.mem_filter.mpr ⟨am_atw_in (i := 817) rfl, rfl⟩
theorem am_hw90 : am_head am_m90 ∈ am_ws := List.mem_filter.mpr ⟨am_atw_in (i := 821) rfl, rfl⟩
theorem am_hw91 : am_head am_m91 ∈ am_ws := List.mem_filter.mpr ⟨am_atw_in (i := 825) rfl, rfl⟩
theorem am_hw92 : am_head am_m92 ∈ am_ws := List.mem_filter.mpr ⟨am_atw_in (i := 830) rfl, rfl⟩
theorem am_hw93 : am_head am_m93 ∈ am_ws := List.mem_filter.mpr ⟨am_atw_in (i := 834) rfl, rfl⟩
theorem am_hw94 : am_head am_m94 ∈ am_ws := List.mem_filter.mpr ⟨am_atw_in (i := 838) rfl, rfl⟩
theorem am_hw95 : am_head am_m95 ∈ am_ws := List.mem_filter.mpr ⟨am_atw_in (i := 842) rfl, rfl⟩
theorem am_hw97 : am_head am_m97 ∈ am_ws := List.mem_filter.mpr ⟨am_atw_in (i := 850) rfl, rfl⟩
theorem am_hw98 : am_head am_m98 ∈ am_ws := List.mem_filter.mpr ⟨am_atw_in (i := 854) rfl, rfl⟩
theorem am_hw99 : am_head am_m99 ∈ am_ws := List.mem_filter.mpr ⟨am_atw_in (i := 858) rfl, rfl⟩
theorem am_hw104 : am_head am_m104 ∈ am_ws := List.mem_filter.mpr ⟨am_atw_in (i := 878) rfl, rfl⟩
theorem am_hw105 : am_head am_m105 ∈ am_ws := List.mem_filter.mpr ⟨am_atw_in (i := 882) rfl, rfl⟩
theorem am_hw107 : am_head am_m107 ∈ am_ws := List.mem_filter.mpr ⟨am_atw_in (i := 890) rfl, rfl⟩
theorem am_hw108 : am_head am_m108 ∈ am_ws := List.mem_filter.mpr ⟨am_atw_in (i := 894) rfl, rfl⟩
theorem am_hw109 : am_head am_m109 ∈ am_ws := List.mem_filter.mpr ⟨am_atw_in (i := 899) rfl, rfl⟩
theorem am_hw110 : am_head am_m110 ∈ am_ws := List.mem_filter.mpr ⟨am_atw_in (i := 903) rfl, rfl⟩
theorem am_hw111 : am_head am_m111 ∈ am_ws := List.mem_filter.mpr ⟨am_atw_in (i := 913) rfl, rfl⟩
theorem am_hw112 : am_head am_m112 ∈ am_ws := List.mem_filter.mpr ⟨am_atw_in (i := 931) rfl, rfl⟩
theorem am_hw113 : am_head am_m113 ∈ am_ws := List.mem_filter.mpr ⟨am_atw_in (i := 937) rfl, rfl⟩
theorem am_hw114 : am_head am_m114 ∈ am_ws := List.mem_filter.mpr ⟨am_atw_in (i := 941) rfl, rfl⟩
theorem am_hw115 : am_head am_m115 ∈ am_ws := List.mem_filter.mpr ⟨am_atw_in (i := 945) rfl, rfl⟩
theorem am_hw116 : am_head am_m116 ∈ am_ws := List.mem_filter.mpr ⟨am_atw_in (i := 948) rfl, rfl⟩
theorem am_hw117 : am_head am_m117 ∈ am_ws := List.mem_filter.mpr ⟨am_atw_in (i := 962) rfl, rfl⟩
theorem am_hw118 : am_head am_m118 ∈ am_ws := List.mem_filter.mpr ⟨am_atw_in (i := 966) rfl, rfl⟩
theorem am_hw119 : am_head am_m119 ∈ am_ws := List.mem_filter.mpr ⟨am_atw_in (i := 973) rfl, rfl⟩
theorem am_hw121 : am_head am_m121 ∈ am_ws := List.mem_filter.mpr ⟨am_atw_in (i := 976) rfl, rfl⟩
theorem am_hw122 : am_head am_m122 ∈ am_ws := List.mem_filter.mpr ⟨am_atw_in (i := 979) rfl, rfl⟩
theorem am_hw123 : am_head am_m123 ∈ am_ws := List.mem_filter.mpr ⟨am_atw_in (i := 952) rfl, rfl⟩
theorem am_hw124 : am_head am_m124 ∈ am_ws := List.mem_filter.mpr ⟨am_atw_in (i := 955) rfl, rfl⟩
theorem am_heads : ∀ mi ∈ am_used, ∀ M : am_M, am_db[mi]? = some M → am_head M ∈ am_ws := by
  refine List.forall_mem_cons.mpr ⟨fun M hM => (Option.some.inj (show some am_m0 = some M from hM)) ▸ am_hw0, ?_⟩
  refine List.forall_mem_cons.mpr ⟨fun M hM => (Option.some.inj (show some am_m1 = some M from hM)) ▸ am_hw1, ?_⟩
  refine List.forall_mem_cons.mpr ⟨fun M hM => (Option.some.inj (show some am_m2 = some M from hM)) ▸ am_hw2, ?_⟩
  refine List.forall_mem_cons.mpr ⟨fun M hM => (Option.some.inj (show some am_m3 = some M from hM)) ▸ am_hw3, ?_⟩
  refine List.forall_mem_cons.mpr ⟨fun M hM => (Option.some.inj (show some am_m4 = some M from hM)) ▸ am_hw4, ?_⟩
  refine List.forall_mem_cons.mpr ⟨fun M hM => (Option.some.inj (show some am_m5 = some M from hM)) ▸ am_hw5, ?_⟩
  refine List.forall_mem_cons.mpr ⟨fun M hM => (Option.some.inj (show some am_m6 = some M from hM)) ▸ am_hw6, ?_⟩
  refine List.forall_mem_cons.mpr ⟨fun M hM => (Option.some.inj (show some am_m7 = some M from hM)) ▸ am_hw7, ?_⟩
  refine List.forall_mem_cons.mpr ⟨fun M hM => (Option.some.inj (show some am_m8 = some M from hM)) ▸ am_hw8, ?_⟩
  refine List.forall_mem_cons.mpr ⟨fun M hM => (Option.some.inj (show some am_m9 = some M from hM)) ▸ am_hw9, ?_⟩
  refine List.forall_mem_cons.mpr ⟨fun M hM => (Option.some.inj (show some am_m10 = some M from hM)) ▸ am_hw10, ?_⟩
  refine List.forall_mem_cons.mpr ⟨fun M hM => (Option.some.inj (show some am_m11 = some M from hM)) ▸ am_hw11, ?_⟩
  refine List.forall_mem_cons.mpr ⟨fun M hM => (Option.some.inj (show some am_m12 = some M from hM)) ▸ am_hw12, ?_⟩
  refine List.forall_mem_cons.mpr ⟨fun M hM => (Option.some.inj (show some am_m13 = some M from hM)) ▸ am_hw13, ?_⟩
  refine List.forall_mem_cons.mpr ⟨fun M hM => (Option.some.inj (show some am_m14 = some M from hM)) ▸ am_hw14, ?_⟩
  refine List.forall_mem_cons.mpr ⟨fun M hM => (Option.some.inj (show some am_m15 = some M from hM)) ▸ am_hw15, ?_⟩
  refine List.forall_mem_cons.mpr ⟨fun M hM => (Option.some.inj (show some am_m16 = some M from hM)) ▸ am_hw16, ?_⟩
  refine List.forall_mem_cons.mpr ⟨fun M hM => (Option.some.inj (show some am_m17 = some M from hM)) ▸ am_hw17, ?_⟩
  refine List.forall_mem_cons.mpr ⟨fun M hM => (Option.some.inj (show some am_m18 = some M from hM)) ▸ am_hw18, ?_⟩
  refine List.forall_mem_cons.mpr ⟨fun M hM => (Option.some.inj (show some am_m19 = some M from hM)) ▸ am_hw19, ?_⟩
  refine List.forall_mem_cons.mpr ⟨fun M hM => (Option.some.inj (show some am_m20 = some M from hM)) ▸ am_hw20, ?_⟩
  refine List.forall_mem_cons.mpr ⟨fun M hM => (Option.some.inj (show some am_m21 = some M from hM)) ▸ am_hw21, ?_⟩
  refine List.forall_mem_cons.mpr ⟨fun M hM => (Option.some.inj (show some am_m22 = some M from hM)) ▸ am_hw22, ?_⟩
  refine List.forall_mem_cons.mpr ⟨fun M hM => (Option.some.inj (show some am_m23 = some M from hM)) ▸ am_hw23, ?_⟩
  refine List.forall_mem_cons.mpr ⟨fun M hM => (Option.some.inj (show some am_m24 = some M from hM)) ▸ am_hw24, ?_⟩
  refine List.forall_mem_cons.mpr ⟨fun M hM => (Option.some.inj (show some am_m25 = some M from hM)) ▸ am_hw25, ?_⟩
  refine List.forall_mem_cons.mpr ⟨fun M hM => (Option.some.inj (show some am_m26 = some M from hM)) ▸ am_hw26, ?_⟩
  refine List.forall_mem_cons.mpr ⟨fun M hM => (Option.some.inj (show some am_m27 = some M from hM)) ▸ am_hw27, ?_⟩
  refine List.forall_mem_cons.mpr ⟨fun M hM => (Option.some.inj (show some am_m28 = some M from hM)) ▸ am_hw28, ?_⟩
  refine List.forall_mem_cons.mpr ⟨fun M hM => (Option.some.inj (show some am_m29 = some M from hM)) ▸ am_hw29, ?_⟩
  refine List.forall_mem_cons.mpr ⟨fun M hM => (Option.some.inj (show some am_m30 = some M from hM)) ▸ am_hw30, ?_⟩
  refine List.forall_mem_cons.mpr ⟨fun M hM => (Option.some.inj (show some am_m31 = some M from hM)) ▸ am_hw31, ?_⟩
  refine List.forall_mem_cons.mpr ⟨fun M hM => (Option.some.inj (show some am_m32 = some M from hM)) ▸ am_hw32, ?_⟩
  refine List.forall_mem_cons.mpr ⟨fun M hM => (Option.some.inj (show some am_m33 = some M from hM)) ▸ am_hw33, ?_⟩
  refine List.forall_mem_cons.mpr ⟨fun M hM => (Option.some.inj (show some am_m34 = some M from hM)) ▸ am_hw34, ?_⟩
  refine List.forall_mem_cons.mpr ⟨fun M hM => (Option.some.inj (show some am_m35 = some M from hM)) ▸ am_hw35, ?_⟩
  refine List.forall_mem_cons.mpr ⟨fun M hM => (Option.some.inj (show some am_m36 = some M from hM)) ▸ am_hw36, ?_⟩
  refine List.forall_mem_cons.mpr ⟨fun M hM => (Option.some.inj (show some am_m37 = some M from hM)) ▸ am_hw37, ?_⟩
  refine List.forall_mem_cons.mpr ⟨fun M hM => (Option.some.inj (show some am_m38 = some M from hM)) ▸ am_hw38, ?_⟩
  refine List.forall_mem_cons.mpr ⟨fun M hM => (Option.some.inj (show some am_m39 = some M from hM)) ▸ am_hw39, ?_⟩
  refine List.forall_mem_cons.mpr ⟨fun M hM => (Option.some.inj (show some am_m40 = some M from hM)) ▸ am_hw40, ?_⟩
  refine List.forall_mem_cons.mpr ⟨fun M hM => (Option.some.inj (show some am_m41 = some M from hM)) ▸ am_hw41, ?_⟩
  refine List.forall_mem_cons.mpr ⟨fun M hM => (Option.some.inj (show some am_m42 = some M from hM)) ▸ am_hw42, ?_⟩
  refine List.forall_mem_cons.mpr ⟨fun M hM => (Option.some.inj (show some am_m43 = some M from hM)) ▸ am_hw43, ?_⟩
  refine List.forall_mem_cons.mpr ⟨fun M hM => (Option.some.inj (show some am_m44 = some M from hM)) ▸ am_hw44, ?_⟩
  refine List.forall_mem_cons.mpr ⟨fun M hM => (Option.some.inj (show some am_m45 = some M from hM)) ▸ am_hw45, ?_⟩
  refine List.forall_mem_cons.mpr ⟨fun M hM => (Option.some.inj (show some am_m46 = some M from hM)) ▸ am_hw46, ?_⟩
  refine List.forall_mem_cons.mpr ⟨fun M hM => (Option.some.inj (show some am_m48 = some M from hM)) ▸ am_hw48, ?_⟩
  refine List.forall_mem_cons.mpr ⟨fun M hM => (Option.some.inj (show some am_m49 = some M from hM)) ▸ am_hw49, ?_⟩
  refine List.forall_mem_cons.mpr ⟨fun M hM => (Option.some.inj (show some am_m50 = some M from hM)) ▸ am_hw50, ?_⟩
  refine List.forall_mem_cons.mpr ⟨fun M hM => (Option.some.inj (show some am_m51 = some M from hM)) ▸ am_hw51, ?_⟩
  refine List.forall_mem_cons.mpr ⟨fun M hM => (Option.some.inj (show some am_m52 = some M from hM)) ▸ am_hw52, ?_⟩
  refine List.forall_mem_cons.mpr ⟨fun M hM => (Option.some.inj (show some am_m53 = some M from hM)) ▸ am_hw53, ?_⟩
  refine List.forall_mem_cons.mpr ⟨fun M hM => (Option.some.inj (show some am_m54 = some M from hM)) ▸ am_hw54, ?_⟩
  refine List.forall_mem_cons.mpr ⟨fun M hM => (Option.some.inj (show some am_m55 = some M from hM)) ▸ am_hw55, ?_⟩
  refine List.forall_mem_cons.mpr ⟨fun M hM => (Option.some.inj (show some am_m56 = some M from hM)) ▸ am_hw56, ?_⟩
  refine List.forall_mem_cons.mpr ⟨fun M hM => (Option.some.inj (show some am_m57 = some M from hM)) ▸ am_hw57, ?_⟩
  refine List.forall_mem_cons.mpr ⟨fun M hM => (Option.some.inj (show some am_m58 = some M from hM)) ▸ am_hw58, ?_⟩
  refine List.forall_mem_cons.mpr ⟨fun M hM => (Option.some.inj (show some am_m59 = some M from hM)) ▸ am_hw59, ?_⟩
  refine List.forall_mem_cons.mpr ⟨fun M hM => (Option.some.inj (show some am_m60 = some M from hM)) ▸ am_hw60, ?_⟩
  refine List.forall_mem_cons.mpr ⟨fun M hM => (Option.some.inj (show some am_m61 = some M from hM)) ▸ am_hw61, ?_⟩
  refine List.forall_mem_cons.mpr ⟨fun M hM => (Option.some.inj (show some am_m62 = some M from hM)) ▸ am_hw62, ?_⟩
  refine List.forall_mem_cons.mpr ⟨fun M hM => (Option.some.inj (show some am_m63 = some M from hM)) ▸ am_hw63, ?_⟩
  refine List.forall_mem_cons.mpr ⟨fun M hM => (Option.some.inj (show some am_m64 = some M from hM)) ▸ am_hw64, ?_⟩
  refine List.forall_mem_cons.mpr ⟨fun M hM => (Option.some.inj (show some am_m65 = some M from hM)) ▸ am_hw65, ?_⟩
  refine List.forall_mem_cons.mpr ⟨fun M hM => (Option.some.inj (show some am_m66 = some M from hM)) ▸ am_hw66, ?_⟩
  refine List.forall_mem_cons.mpr ⟨fun M hM => (Option.some.inj (show some am_m70 = some M from hM)) ▸ am_hw70, ?_⟩
  refine List.forall_mem_cons.mpr ⟨fun M hM => (Option.some.inj (show some am_m71 = some M from hM)) ▸ am_hw71, ?_⟩
  refine List.forall_mem_cons.mpr ⟨fun M hM => (Option.some.inj (show some am_m72 = some M from hM)) ▸ am_hw72, ?_⟩
  refine List.forall_mem_cons.mpr ⟨fun M hM => (Option.some.inj (show some am_m73 = some M from hM)) ▸ am_hw73, ?_⟩
  refine List.forall_mem_cons.mpr ⟨fun M hM => (Option.some.inj (show some am_m74 = some M from hM)) ▸ am_hw74, ?_⟩
  refine List.forall_mem_cons.mpr ⟨fun M hM => (Option.some.inj (show some am_m75 = some M from hM)) ▸ am_hw75, ?_⟩
  refine List.forall_mem_cons.mpr ⟨fun M hM => (Option.some.inj (show some am_m76 = some M from hM)) ▸ am_hw76, ?_⟩
  refine List.forall_mem_cons.mpr ⟨fun M hM => (Option.some.inj (show some am_m77 = some M from hM)) ▸ am_hw77, ?_⟩
  refine List.forall_mem_cons.mpr ⟨fun M hM => (Option.some.inj (show some am_m79 = some M from hM)) ▸ am_hw79, ?_⟩
  refine List.forall_mem_cons.mpr ⟨fun M hM => (Option.some.inj (show some am_m80 = some M from hM)) ▸ am_hw80, ?_⟩
  refine List.forall_mem_cons.mpr ⟨fun M hM => (Option.some.inj (show some am_m83 = some M from hM)) ▸ am_hw83, ?_⟩
  refine List.forall_mem_cons.mpr ⟨fun M hM => (Option.some.inj (show some am_m84 = some M from hM)) ▸ am_hw84, ?_⟩
  refine List.forall_mem_cons.mpr ⟨fun M hM => (Option.some.inj (show some am_m85 = some M from hM)) ▸ am_hw85, ?_⟩
  refine List.forall_mem_cons.mpr ⟨fun M hM => (Option.some.inj (show some am_m86 = some M from hM)) ▸ am_hw86, ?_⟩
  refine List.forall_mem_cons.mpr ⟨fun M hM => (Option.some.inj (show some am_m87 = some M from hM)) ▸ am_hw87, ?_⟩
  refine List.forall_mem_cons.mpr ⟨fun M hM => (Option.some.inj (show some am_m88 = some M from hM)) ▸ am_hw88, ?_⟩
  refine List.forall_mem_cons.mpr ⟨fun M hM => (Option.some.inj (show some am_m89 = some M from hM)) ▸ am_hw89, ?_⟩
  refine List.forall_mem_cons.mpr ⟨fun M hM => (Option.some.inj (show some am_m90 = some M from hM)) ▸ am_hw90, ?_⟩
  refine List.forall_mem_cons.mpr ⟨fun M hM => (Option.some.inj (show some am_m91 = some M from hM)) ▸ am_hw91, ?_⟩
  refine List.forall_mem_cons.mpr ⟨fun M hM => (Option.some.inj (show some am_m92 = some M from hM)) ▸ am_hw92, ?_⟩
  refine List.forall_mem_cons.mpr ⟨fun M hM => (Option.some.inj (show some am_m93 = some M from hM)) ▸ am_hw93, ?_⟩
  refine List.forall_mem_cons.mpr ⟨fun M hM => (Option.some.inj (show some am_m94 = some M from hM)) ▸ am_hw94, ?_⟩
  refine List.forall_mem_cons.mpr ⟨fun M hM => (Option.some.inj (show some am_m95 = some M from hM)) ▸ am_hw95, ?_⟩
  refine List.forall_mem_cons.mpr ⟨fun M hM => (Option.some.inj (show some am_m97 = some M from hM)) ▸ am_hw97, ?_⟩
  refine List.forall_mem_cons.mpr ⟨fun M hM => (Option.some.inj (show some am_m98 = some M from hM)) ▸ am_hw98, ?_⟩
  refine List.forall_mem_cons.mpr ⟨fun M hM => (Option.some.inj (show some am_m99 = some M from hM)) ▸ am_hw99, ?_⟩
  refine List.forall_mem_cons.mpr ⟨fun M hM => (Option.some.inj (show some am_m104 = some M from hM)) ▸ am_hw104, ?_⟩
  refine List.forall_mem_cons.mpr ⟨fun M hM => (Option.some.inj (show some am_m105 = some M from hM)) ▸ am_hw105, ?_⟩
  refine List.forall_mem_cons.mpr ⟨fun M hM => (Option.some.inj (show some am_m107 = some M from hM)) ▸ am_hw107, ?_⟩
  refine List.forall_mem_cons.mpr ⟨fun M hM => (Option.some.inj (show some am_m108 = some M from hM)) ▸ am_hw108, ?_⟩
  refine List.forall_mem_cons.mpr ⟨fun M hM => (Option.some.inj (show some am_m109 = some M from hM)) ▸ am_hw109, ?_⟩
  refine List.forall_mem_cons.mpr ⟨fun M hM => (Option.some.inj (show some am_m110 = some M from hM)) ▸ am_hw110, ?_⟩
  refine List.forall_mem_cons.mpr ⟨fun M hM => (Option.some.inj (show some am_m111 = some M from hM)) ▸ am_hw111, ?_⟩
  refine List.forall_mem_cons.mpr ⟨fun M hM => (Option.some.inj (show some am_m112 = some M from hM)) ▸ am_hw112, ?_⟩
  refine List.forall_mem_cons.mpr ⟨fun M hM => (Option.some.inj (show some am_m113 = some M from hM)) ▸ am_hw113, ?_⟩
  refine List.forall_mem_cons.mpr ⟨fun M hM => (Option.some.inj (show some am_m114 = some M from hM)) ▸ am_hw114, ?_⟩
  refine List.forall_mem_cons.mpr ⟨fun M hM => (Option.some.inj (show some am_m115 = some M from hM)) ▸ am_hw115, ?_⟩
  refine List.forall_mem_cons.mpr ⟨fun M hM => (Option.some.inj (show some am_m116 = some M from hM)) ▸ am_hw116, ?_⟩
  refine List.forall_mem_cons.mpr ⟨fun M hM => (Option.some.inj (show some am_m117 = some M from hM)) ▸ am_hw117, ?_⟩
  refine List.forall_mem_cons.mpr ⟨fun M hM => (Option.some.inj (show some am_m118 = some M from hM)) ▸ am_hw118, ?_⟩
  refine List.forall_mem_cons.mpr ⟨fun M hM => (Option.some.inj (show some am_m119 = some M from hM)) ▸ am_hw119, ?_⟩
  refine List.forall_mem_cons.mpr ⟨fun M hM => (Option.some.inj (show some am_m121 = some M from hM)) ▸ am_hw121, ?_⟩
  refine List.forall_mem_cons.mpr ⟨fun M hM => (Option.some.inj (show some am_m122 = some M from hM)) ▸ am_hw122, ?_⟩
  refine List.forall_mem_cons.mpr ⟨fun M hM => (Option.some.inj (show some am_m123 = some M from hM)) ▸ am_hw123, ?_⟩
  refine List.forall_mem_cons.mpr ⟨fun M hM => (Option.some.inj (show some am_m124 = some M from hM)) ▸ am_hw124, ?_⟩
  intro mi h
  cases h
def am_cLdc (own : String) (idx : Nat) (ln : List Nat) : Bool := match ln with
  | [] => true
  | [t, n, w] => (Nat.beq t 0 && am_w w (Cond.constant own idx (Int32.ofNat n))) || (Nat.beq t 2 && am_w w (Cond.constantFloat own idx (UInt32.ofNat n)))
  | _ => false
def am_cLdcW (own : String) (idx : Nat) (ln : List Nat) : Bool := match ln with
  | [] => true
  | [t, n, w] => (Nat.beq t 0 && am_w w (Cond.constant own idx (Int32.ofNat n))) || (Nat.beq t 2 && am_w w (Cond.constantFloat own idx (UInt32.ofNat n)))
  | _ => false
def am_cLdc2 (own : String) (idx : Nat) (ln : List Nat) : Bool := match ln with
  | [] => true
  | [t, n, w] => (Nat.beq t 1 && am_w w (Cond.constantLong own idx (Int64.ofNat n))) || (Nat.beq t 3 && am_w w (Cond.constantDouble own idx (UInt64.ofNat n)))
  | _ => false
def am_cFld (M : am_M) (put : Bool) (idx : Nat) (ln : List Nat) : Bool := match ln with
  | [] => true
  | [ci, k, w] => (match am_cl[ci]? with
    | some q => decide (k < q.2.2) && am_w w (Cond.fieldLink M.1.cls idx (q.2.1 k).1 (q.2.1 k).2.1 (q.2.1 k).2.2.1) && (!put || (!(q.2.1 k).2.2.2 || (decide (M.1.name = "<init>") && decide ((q.2.1 k).1 = M.1.cls))))
    | none => false)
  | _ => false
def am_txt (own : String) (is : Nat) : Option String := (am_strs.find? (fun q => decide (q.1 = own) && Nat.beq q.2.1 is)).map (fun q => q.2.2)
def am_cThr (M : am_M) (pc idx ei : Nat) : Bool := match am_ex[ei]? with
  | none => false
  | some E => decide (decode M.2.1 (pc + 3) = .ok (.dup, 1)) && (match decode M.2.1 (pc + 4) with
    | .ok (.ldc is, 2) => (match decode M.2.1 (pc + 6) with
      | .ok (.invokespecial ic, 3) => decide (decode M.2.1 (pc + 9) = .ok (.athrow, 1)) && (match am_txt M.1.cls is with
        | some text => am_tw M.1.cls idx is ic E text
        | none => false)
      | _ => false)
    | .ok (.ldc_w is, 3) => (match decode M.2.1 (pc + 7) with
      | .ok (.invokespecial ic, 3) => decide (decode M.2.1 (pc + 10) = .ok (.athrow, 1)) && (match am_txt M.1.cls is with
        | some text => am_tw M.1.cls idx is ic E text
        | none => false)
      | _ => false)
    | _ => false)
def am_cNew (M : am_M) (pc idx : Nat) (ln : List Nat) : Bool := match ln with
  | [] => true
  | [9, ei] => !(M.2.2.2.2.1.isEmpty) || am_cThr M pc idx ei
  | [ci, w1, w2, w3] => (match am_cl[ci]? with
    | some q => am_w w1 (Cond.classLink M.1.cls idx q.1) && am_w w2 (Cond.instantiable q.1 q.2.2) && am_w w3 (Cond.initialized q.1)
    | none => false)
  | _ => false
def am_cAna (own : String) (idx : Nat) (ln : List Nat) : Bool := match ln with
  | [] => true
  | k :: w :: _ => (Nat.beq k 101 && am_w w (Cond.classLink own idx RX5)) || (Nat.beq k 102 && am_w w (Cond.classLink own idx RX2)) || (Nat.beq k 103 && am_w w (Cond.classLink own idx RX1)) || (Nat.beq k 104 && am_w w (Cond.classLink own idx "[I"))
  | _ => false
def am_lib (own : String) (idx : Nat) (y : MethodName) (w1 w2 w3 w4 : Nat) (w : Cond) : Bool := am_w w1 (Cond.methodLink own idx y) && am_w w2 (Cond.static y) && am_w w3 (Cond.initialized y.cls) && am_w w4 w
def am_lib3 (own : String) (idx : Nat) (y : MethodName) (w1 w2 w3 : Nat) : Bool := am_w w1 (Cond.methodLink own idx y) && am_w w2 (Cond.static y) && am_w w3 (Cond.initialized y.cls)
def am_isu2 (mi : Nat) : Bool := am_used.any (fun k => Nat.beq k mi)
def am_cSt (b9 : Bool) (own : String) (idx : Nat) (ln : List Nat) : Bool := match ln with
  | [] => true
  | [0, mi, n, w1, w2, w3, w4] => (match am_db[mi]? with
    | some M1 => am_lib3 own idx M1.1 w1 w2 w3 && am_d M1 n && am_isu2 mi
    | none => false)
  | [3, w1, w2, w3, w4] => am_lib own idx Lib.Math.abs.name w1 w2 w3 w4 (Cond.code Lib.Math.abs.name Lib.Math.abs.code 1 (some .int))
  | [4, w1, w2, w3, w4] => am_lib own idx Lib.Math.min.name w1 w2 w3 w4 (Cond.code Lib.Math.min.name Lib.Math.min.code 2 (some .int))
  | [5, w1, w2, w3, w4] => am_lib own idx Lib.MathLoose.min_long.x w1 w2 w3 w4 (Cond.code Lib.MathLoose.min_long.x Lib.MathLoose.min_long.code 4 (some .long))
  | [6, w1, w2, w3, w4] => am_lib own idx Lib.MathLoose.max_long.x w1 w2 w3 w4 (Cond.code Lib.MathLoose.max_long.x Lib.MathLoose.max_long.code 4 (some .long))
  | [7, w1, w2, w3, w4] => am_lib own idx ⟨"java/lang/Float", "floatToRawIntBits", "(F)I"⟩ w1 w2 w3 w4 (Cond.native ⟨"java/lang/Float", "floatToRawIntBits", "(F)I"⟩)
  | [8, w1, w2, w3, w4] => am_lib own idx ⟨"java/lang/Double", "doubleToRawLongBits", "(D)J"⟩ w1 w2 w3 w4 (Cond.native ⟨"java/lang/Double", "doubleToRawLongBits", "(D)J"⟩)
  | [9, mi, n, w1, w2, w3, w4] => b9 && Nat.beq mi 18 && Nat.beq n 1 && am_lib3 own idx am_m18.1 w1 w2 w3 && am_d am_m18 1
  | _ => false
def am_cVi (own : String) (idx : Nat) (ln : List Nat) : Bool := match ln with
  | [] => true
  | [1, mi, n, ci, w1, w2, w3, w4, w5] => (match am_db[mi]?, am_cl[ci]? with
    | some M1, some q => decide (0 < n) && am_d M1 (n - 1) && M1.2.2.2.2.1.isEmpty && decide (q.1 = M1.1.cls) && am_w w1 (Cond.methodLink own idx M1.1) && am_w w2 (Cond.instanceMethod M1.1) && am_w w3 (Cond.selects M1.1.cls M1.1 M1.1) && am_w w4 (Cond.initialized M1.1.cls) && am_isu2 mi
    | _, _ => false)
  | _ => false
def am_cSp (own : String) (idx : Nat) (ln : List Nat) : Bool := match ln with
  | [] => true
  | [0, mi, n, w1, w2, w3, w4] => (match am_db[mi]? with
    | some M1 => decide (0 < n) && am_d M1 (n - 1) && M1.2.2.2.2.1.isEmpty && M1.2.2.2.1.isNone && decide (M1.1.name = "<init>") && (am_w w1 (Cond.methodLink own idx M1.1) || decide (am_atw w1 = some (Cond.methodLinkNest own idx M1.1 "CombCylinder"))) && am_w w2 (Cond.instanceMethod M1.1) && am_w w3 (Cond.initialized M1.1.cls) && am_isu2 mi
    | none => false)
  | [2, w1, w2, w3] => am_w w1 (Cond.methodLink own idx Lib.objectInit) && am_w w2 (Cond.instanceMethod Lib.objectInit) && am_w w3 (Cond.code Lib.objectInit ⟨#[0xb1]⟩ 1 none)
  | _ => false
