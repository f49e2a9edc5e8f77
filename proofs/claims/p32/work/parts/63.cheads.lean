/-! CONSTRUCTORS: heads, decode rows, words (laid by a program) -/
def h_Rm_init : Hd := (⟨"NurseryPlaces$Room", "<init>", "()V"⟩, prog_7_method_1_code, 1, none, 1, 12, 1)
set_option maxRecDepth 100000 in
theorem hk_Rm_init : HdOk h_Rm_init 0 := ⟨InT.of 37 rfl rfl, InT.of 3 rfl rfl, by decide, by decide, by decide +kernel⟩
set_option maxRecDepth 100000 in
theorem hi_Rm_init : InT (.instanceMethod (hY h_Rm_init)) := InT.of 36 rfl rfl
def h_Ca_init : Hd := (⟨"NurseryPlaces$Carer", "<init>", "()V"⟩, prog_3_method_1_code, 1, none, 1, 12, 1)
set_option maxRecDepth 100000 in
theorem hk_Ca_init : HdOk h_Ca_init 0 := ⟨InT.of 64 rfl rfl, InT.of 4 rfl rfl, by decide, by decide, by decide +kernel⟩
set_option maxRecDepth 100000 in
theorem hi_Ca_init : InT (.instanceMethod (hY h_Ca_init)) := InT.of 63 rfl rfl
def h_Ch_init : Hd := (⟨"NurseryPlaces$Child", "<init>", "()V"⟩, prog_4_method_1_code, 1, none, 1, 12, 1)
set_option maxRecDepth 100000 in
theorem hk_Ch_init : HdOk h_Ch_init 0 := ⟨InT.of 96 rfl rfl, InT.of 5 rfl rfl, by decide, by decide, by decide +kernel⟩
set_option maxRecDepth 100000 in
theorem hi_Ch_init : InT (.instanceMethod (hY h_Ch_init)) := InT.of 95 rfl rfl
def h_St_init : Hd := (⟨"NurseryPlaces$State", "<init>", "()V"⟩, prog_9_method_1_code, 2, none, 2, 32, 1)
set_option maxRecDepth 100000 in
theorem hk_St_init : HdOk h_St_init 0 := ⟨InT.of 26 rfl rfl, InT.of 2 rfl rfl, by decide, by decide, by decide +kernel⟩
set_option maxRecDepth 100000 in
theorem hi_St_init : InT (.instanceMethod (hY h_St_init)) := InT.of 25 rfl rfl
def h_Hi_init : Hd := (⟨"NurseryPlaces$History", "<init>", "()V"⟩, prog_5_method_1_code, 2, none, 3, 53, 1)
set_option maxRecDepth 100000 in
theorem hk_Hi_init : HdOk h_Hi_init 0 := ⟨InT.of 254 rfl rfl, InT.of 6 rfl rfl, by decide, by decide, by decide +kernel⟩
set_option maxRecDepth 100000 in
theorem hi_Hi_init : InT (.instanceMethod (hY h_Hi_init)) := InT.of 253 rfl rfl
def h_Pd_init : Hd := (⟨"NurseryPlaces$Pad", "<init>", "()V"⟩, prog_6_method_1_code, 1, none, 1, 12, 1)
set_option maxRecDepth 100000 in
theorem hk_Pd_init : HdOk h_Pd_init 0 := ⟨InT.of 274 rfl rfl, InT.of 7 rfl rfl, by decide, by decide, by decide +kernel⟩
set_option maxRecDepth 100000 in
theorem hi_Pd_init : InT (.instanceMethod (hY h_Pd_init)) := InT.of 273 rfl rfl
def h_N_init : Hd := (⟨"NurseryPlaces", "<init>", "()V"⟩, prog_1_method_1_code, 1, none, 4, 74, 1)
set_option maxRecDepth 100000 in
theorem hk_N_init : HdOk h_N_init 0 := ⟨InT.of 18 rfl rfl, InT.of 1 rfl rfl, by decide, by decide, by decide +kernel⟩
set_option maxRecDepth 100000 in
theorem hi_N_init : InT (.instanceMethod (hY h_N_init)) := InT.of 17 rfl rfl
set_option maxRecDepth 100000 in
theorem ho_Rm_init : InT (.methodLink (hY h_Rm_init).cls 1 Lib.objectInit) := InT.of 38 rfl rfl
set_option maxRecDepth 100000 in
theorem ho_Ca_init : InT (.methodLink (hY h_Ca_init).cls 1 Lib.objectInit) := InT.of 65 rfl rfl
set_option maxRecDepth 100000 in
theorem ho_Ch_init : InT (.methodLink (hY h_Ch_init).cls 3 Lib.objectInit) := InT.of 97 rfl rfl
set_option maxRecDepth 100000 in
theorem ho_St_init : InT (.methodLink (hY h_St_init).cls 3 Lib.objectInit) := InT.of 27 rfl rfl
set_option maxRecDepth 100000 in
theorem ho_Hi_init : InT (.methodLink (hY h_Hi_init).cls 3 Lib.objectInit) := InT.of 255 rfl rfl
set_option maxRecDepth 100000 in
theorem ho_Pd_init : InT (.methodLink (hY h_Pd_init).cls 3 Lib.objectInit) := InT.of 275 rfl rfl
set_option maxRecDepth 100000 in
theorem ho_N_init : InT (.methodLink (hY h_N_init).cls 1 Lib.objectInit) := InT.of 19 rfl rfl
set_option maxRecDepth 100000 in
theorem cn_0 : InT (.instantiable (clsN 0) (nfO 0)) := InT.of 15 rfl rfl
set_option maxRecDepth 100000 in
theorem cz_0 : InT (.initialized (clsN 0)) := InT.of 1 rfl rfl
abbrev df_0 : List Value := [.null, .null, .null, .null, .null, .null]
theorem dv_0 : ∀ j, j < nfO 0 → defaultValue (clsF 0 j) = vp_V df_0 j := by
  intro j hj
  have hj : j < 6 := hj
  rcases (show j = 0 ∨ j = 1 ∨ j = 2 ∨ j = 3 ∨ j = 4 ∨ j = 5 by omega) with rfl | rfl | rfl | rfl | rfl | rfl <;> rfl
set_option maxRecDepth 100000 in
theorem cn_1 : InT (.instantiable (clsN 1) (nfO 1)) := InT.of 23 rfl rfl
set_option maxRecDepth 100000 in
theorem cz_1 : InT (.initialized (clsN 1)) := InT.of 2 rfl rfl
abbrev df_1 : List Value := [.null, .null, .null, .null, .int 0, .int 0, .int 0, .int 0, .int 0, .int 0, .int 0, .int 0]
theorem dv_1 : ∀ j, j < nfO 1 → defaultValue (clsF 1 j) = vp_V df_1 j := by
  intro j hj
  have hj : j < 12 := hj
  rcases (show j = 0 ∨ j = 1 ∨ j = 2 ∨ j = 3 ∨ j = 4 ∨ j = 5 ∨ j = 6 ∨ j = 7 ∨ j = 8 ∨ j = 9 ∨ j = 10 ∨ j = 11 by omega) with rfl | rfl | rfl | rfl | rfl | rfl | rfl | rfl | rfl | rfl | rfl | rfl <;> rfl
set_option maxRecDepth 100000 in
theorem cn_2 : InT (.instantiable (clsN 2) (nfO 2)) := InT.of 34 rfl rfl
set_option maxRecDepth 100000 in
theorem cz_2 : InT (.initialized (clsN 2)) := InT.of 3 rfl rfl
abbrev df_2 : List Value := [.int 0, .int 0, .int 0, .int 0]
theorem dv_2 : ∀ j, j < nfO 2 → defaultValue (clsF 2 j) = vp_V df_2 j := by
  intro j hj
  have hj : j < 4 := hj
  rcases (show j = 0 ∨ j = 1 ∨ j = 2 ∨ j = 3 by omega) with rfl | rfl | rfl | rfl <;> rfl
set_option maxRecDepth 100000 in
theorem cn_3 : InT (.instantiable (clsN 3) (nfO 3)) := InT.of 61 rfl rfl
set_option maxRecDepth 100000 in
theorem cz_3 : InT (.initialized (clsN 3)) := InT.of 4 rfl rfl
abbrev df_3 : List Value := [.int 0, .int 0, .int 0, .int 0, .int 0]
theorem dv_3 : ∀ j, j < nfO 3 → defaultValue (clsF 3 j) = vp_V df_3 j := by
  intro j hj
  have hj : j < 5 := hj
  rcases (show j = 0 ∨ j = 1 ∨ j = 2 ∨ j = 3 ∨ j = 4 by omega) with rfl | rfl | rfl | rfl | rfl <;> rfl
set_option maxRecDepth 100000 in
theorem cn_4 : InT (.instantiable (clsN 4) (nfO 4)) := InT.of 93 rfl rfl
set_option maxRecDepth 100000 in
theorem cz_4 : InT (.initialized (clsN 4)) := InT.of 5 rfl rfl
abbrev df_4 : List Value := [.int 0, .int 0, .int 0, .int 0, .int 0, .int 0, .int 0, .int 0, .int 0, .int 0, .int 0, .int 0, .int 0, .int 0]
theorem dv_4 : ∀ j, j < nfO 4 → defaultValue (clsF 4 j) = vp_V df_4 j := by
  intro j hj
  have hj : j < 14 := hj
  rcases (show j = 0 ∨ j = 1 ∨ j = 2 ∨ j = 3 ∨ j = 4 ∨ j = 5 ∨ j = 6 ∨ j = 7 ∨ j = 8 ∨ j = 9 ∨ j = 10 ∨ j = 11 ∨ j = 12 ∨ j = 13 by omega) with rfl | rfl | rfl | rfl | rfl | rfl | rfl | rfl | rfl | rfl | rfl | rfl | rfl | rfl <;> rfl
set_option maxRecDepth 100000 in
theorem cn_5 : InT (.instantiable (clsN 5) (nfO 5)) := InT.of 251 rfl rfl
set_option maxRecDepth 100000 in
theorem cz_5 : InT (.initialized (clsN 5)) := InT.of 6 rfl rfl
abbrev df_5 : List Value := [.null, .int 0, .int 0]
theorem dv_5 : ∀ j, j < nfO 5 → defaultValue (clsF 5 j) = vp_V df_5 j := by
  intro j hj
  have hj : j < 3 := hj
  rcases (show j = 0 ∨ j = 1 ∨ j = 2 by omega) with rfl | rfl | rfl <;> rfl
set_option maxRecDepth 100000 in
theorem cn_6 : InT (.instantiable (clsN 6) (nfO 6)) := InT.of 271 rfl rfl
set_option maxRecDepth 100000 in
theorem cz_6 : InT (.initialized (clsN 6)) := InT.of 7 rfl rfl
abbrev df_6 : List Value := [.null, .int 0, .int 0, .int 0, .null, .int 0]
theorem dv_6 : ∀ j, j < nfO 6 → defaultValue (clsF 6 j) = vp_V df_6 j := by
  intro j hj
  have hj : j < 6 := hj
  rcases (show j = 0 ∨ j = 1 ∨ j = 2 ∨ j = 3 ∨ j = 4 ∨ j = 5 by omega) with rfl | rfl | rfl | rfl | rfl | rfl <;> rfl
theorem dn_Rm_0 : decode (hB h_Rm_init) 0 = .ok (.aload_n 0, 1) := by decide +kernel
theorem dn_Rm_1 : decode (hB h_Rm_init) 1 = .ok (.invokespecial 1, 3) := by decide +kernel
theorem dn_Rm_4 : decode (hB h_Rm_init) 4 = .ok (.return_, 1) := by decide +kernel
theorem dn_Ca_0 : decode (hB h_Ca_init) 0 = .ok (.aload_n 0, 1) := by decide +kernel
theorem dn_Ca_1 : decode (hB h_Ca_init) 1 = .ok (.invokespecial 1, 3) := by decide +kernel
theorem dn_Ca_4 : decode (hB h_Ca_init) 4 = .ok (.return_, 1) := by decide +kernel
theorem dn_Ch_0 : decode (hB h_Ch_init) 0 = .ok (.aload_n 0, 1) := by decide +kernel
theorem dn_Ch_1 : decode (hB h_Ch_init) 1 = .ok (.invokespecial 3, 3) := by decide +kernel
theorem dn_Ch_4 : decode (hB h_Ch_init) 4 = .ok (.return_, 1) := by decide +kernel
theorem dn_St_0 : decode (hB h_St_init) 0 = .ok (.aload_n 0, 1) := by decide +kernel
theorem dn_St_1 : decode (hB h_St_init) 1 = .ok (.invokespecial 3, 3) := by decide +kernel
theorem dn_St_4 : decode (hB h_St_init) 4 = .ok (.aload_n 0, 1) := by decide +kernel
theorem dn_St_5 : decode (hB h_St_init) 5 = .ok (.iconst 5, 1) := by decide +kernel
theorem dn_St_6 : decode (hB h_St_init) 6 = .ok (.newarray .int, 2) := by decide +kernel
theorem dn_St_8 : decode (hB h_St_init) 8 = .ok (.dup, 1) := by decide +kernel
theorem dn_St_9 : decode (hB h_St_init) 9 = .ok (.iconst 0, 1) := by decide +kernel
theorem dn_St_10 : decode (hB h_St_init) 10 = .ok (.sipush 3000, 3) := by decide +kernel
theorem dn_St_13 : decode (hB h_St_init) 13 = .ok (.iastore, 1) := by decide +kernel
theorem dn_St_14 : decode (hB h_St_init) 14 = .ok (.dup, 1) := by decide +kernel
theorem dn_St_15 : decode (hB h_St_init) 15 = .ok (.iconst 1, 1) := by decide +kernel
theorem dn_St_16 : decode (hB h_St_init) 16 = .ok (.bipush 20, 2) := by decide +kernel
theorem dn_St_18 : decode (hB h_St_init) 18 = .ok (.iastore, 1) := by decide +kernel
theorem dn_St_19 : decode (hB h_St_init) 19 = .ok (.dup, 1) := by decide +kernel
theorem dn_St_20 : decode (hB h_St_init) 20 = .ok (.iconst 2, 1) := by decide +kernel
theorem dn_St_21 : decode (hB h_St_init) 21 = .ok (.iconst 2, 1) := by decide +kernel
theorem dn_St_22 : decode (hB h_St_init) 22 = .ok (.iastore, 1) := by decide +kernel
theorem dn_St_23 : decode (hB h_St_init) 23 = .ok (.dup, 1) := by decide +kernel
theorem dn_St_24 : decode (hB h_St_init) 24 = .ok (.iconst 3, 1) := by decide +kernel
theorem dn_St_25 : decode (hB h_St_init) 25 = .ok (.iconst 3, 1) := by decide +kernel
theorem dn_St_26 : decode (hB h_St_init) 26 = .ok (.iastore, 1) := by decide +kernel
theorem dn_St_27 : decode (hB h_St_init) 27 = .ok (.dup, 1) := by decide +kernel
theorem dn_St_28 : decode (hB h_St_init) 28 = .ok (.iconst 4, 1) := by decide +kernel
theorem dn_St_29 : decode (hB h_St_init) 29 = .ok (.bipush 12, 2) := by decide +kernel
theorem dn_St_31 : decode (hB h_St_init) 31 = .ok (.iastore, 1) := by decide +kernel
theorem dn_St_32 : decode (hB h_St_init) 32 = .ok (.putfield 9, 3) := by decide +kernel
set_option maxRecDepth 100000 in
theorem ln_St_9 : LkF (hY h_St_init).cls 9 1 0 := InT.of 184 rfl rfl
theorem dn_St_35 : decode (hB h_St_init) 35 = .ok (.aload_n 0, 1) := by decide +kernel
theorem dn_St_36 : decode (hB h_St_init) 36 = .ok (.iconst 5, 1) := by decide +kernel
theorem dn_St_37 : decode (hB h_St_init) 37 = .ok (.anewarray 15, 3) := by decide +kernel
set_option maxRecDepth 100000 in
theorem ln_St_15 : InT (.classLink (hY h_St_init).cls 15 "NurseryPlaces$Room") := InT.of 28 rfl rfl
theorem dn_St_40 : decode (hB h_St_init) 40 = .ok (.putfield 17, 3) := by decide +kernel
set_option maxRecDepth 100000 in
theorem ln_St_17 : LkF (hY h_St_init).cls 17 1 1 := InT.of 189 rfl rfl
theorem dn_St_43 : decode (hB h_St_init) 43 = .ok (.aload_n 0, 1) := by decide +kernel
theorem dn_St_44 : decode (hB h_St_init) 44 = .ok (.bipush 13, 2) := by decide +kernel
theorem dn_St_46 : decode (hB h_St_init) 46 = .ok (.anewarray 21, 3) := by decide +kernel
set_option maxRecDepth 100000 in
theorem ln_St_21 : InT (.classLink (hY h_St_init).cls 21 "NurseryPlaces$Carer") := InT.of 30 rfl rfl
theorem dn_St_49 : decode (hB h_St_init) 49 = .ok (.putfield 23, 3) := by decide +kernel
set_option maxRecDepth 100000 in
theorem ln_St_23 : LkF (hY h_St_init).cls 23 1 2 := InT.of 192 rfl rfl
theorem dn_St_52 : decode (hB h_St_init) 52 = .ok (.aload_n 0, 1) := by decide +kernel
theorem dn_St_53 : decode (hB h_St_init) 53 = .ok (.bipush 24, 2) := by decide +kernel
theorem dn_St_55 : decode (hB h_St_init) 55 = .ok (.anewarray 27, 3) := by decide +kernel
set_option maxRecDepth 100000 in
theorem ln_St_27 : InT (.classLink (hY h_St_init).cls 27 "NurseryPlaces$Child") := InT.of 32 rfl rfl
theorem dn_St_58 : decode (hB h_St_init) 58 = .ok (.putfield 29, 3) := by decide +kernel
set_option maxRecDepth 100000 in
theorem ln_St_29 : LkF (hY h_St_init).cls 29 1 3 := InT.of 195 rfl rfl
theorem dn_St_61 : decode (hB h_St_init) 61 = .ok (.iconst 0, 1) := by decide +kernel
theorem dn_St_62 : decode (hB h_St_init) 62 = .ok (.istore_n 1, 1) := by decide +kernel
theorem dn_St_63 : decode (hB h_St_init) 63 = .ok (.iload_n 1, 1) := by decide +kernel
theorem dn_St_64 : decode (hB h_St_init) 64 = .ok (.iconst 5, 1) := by decide +kernel
theorem dn_St_65 : decode (hB h_St_init) 65 = .ok (.if_icmp .ge 22, 3) := by decide +kernel
theorem dn_St_68 : decode (hB h_St_init) 68 = .ok (.aload_n 0, 1) := by decide +kernel
theorem dn_St_69 : decode (hB h_St_init) 69 = .ok (.getfield 17, 3) := by decide +kernel
theorem dn_St_72 : decode (hB h_St_init) 72 = .ok (.iload_n 1, 1) := by decide +kernel
theorem dn_St_73 : decode (hB h_St_init) 73 = .ok (.new 15, 3) := by decide +kernel
theorem dn_St_76 : decode (hB h_St_init) 76 = .ok (.dup, 1) := by decide +kernel
theorem dn_St_77 : decode (hB h_St_init) 77 = .ok (.invokespecial 33, 3) := by decide +kernel
set_option maxRecDepth 100000 in
theorem ln_St_33 : InT (.methodLink (hY h_St_init).cls 33 (hY h_Rm_init)) ∨ ∃ host, InT (.methodLinkNest (hY h_St_init).cls 33 (hY h_Rm_init) host) := Or.inr ⟨_, InT.of 35 rfl rfl⟩
theorem dn_St_80 : decode (hB h_St_init) 80 = .ok (.aastore, 1) := by decide +kernel
theorem dn_St_81 : decode (hB h_St_init) 81 = .ok (.iinc 1 1, 3) := by decide +kernel
theorem dn_St_84 : decode (hB h_St_init) 84 = .ok (.goto (-21), 3) := by decide +kernel
theorem dn_St_87 : decode (hB h_St_init) 87 = .ok (.iconst 0, 1) := by decide +kernel
theorem dn_St_88 : decode (hB h_St_init) 88 = .ok (.istore_n 1, 1) := by decide +kernel
theorem dn_St_89 : decode (hB h_St_init) 89 = .ok (.iload_n 1, 1) := by decide +kernel
theorem dn_St_90 : decode (hB h_St_init) 90 = .ok (.bipush 12, 2) := by decide +kernel
theorem dn_St_92 : decode (hB h_St_init) 92 = .ok (.if_icmp .gt 22, 3) := by decide +kernel
theorem dn_St_95 : decode (hB h_St_init) 95 = .ok (.aload_n 0, 1) := by decide +kernel
theorem dn_St_96 : decode (hB h_St_init) 96 = .ok (.getfield 23, 3) := by decide +kernel
theorem dn_St_99 : decode (hB h_St_init) 99 = .ok (.iload_n 1, 1) := by decide +kernel
theorem dn_St_100 : decode (hB h_St_init) 100 = .ok (.new 21, 3) := by decide +kernel
theorem dn_St_103 : decode (hB h_St_init) 103 = .ok (.dup, 1) := by decide +kernel
theorem dn_St_104 : decode (hB h_St_init) 104 = .ok (.invokespecial 34, 3) := by decide +kernel
set_option maxRecDepth 100000 in
theorem ln_St_34 : InT (.methodLink (hY h_St_init).cls 34 (hY h_Ca_init)) ∨ ∃ host, InT (.methodLinkNest (hY h_St_init).cls 34 (hY h_Ca_init) host) := Or.inr ⟨_, InT.of 62 rfl rfl⟩
theorem dn_St_107 : decode (hB h_St_init) 107 = .ok (.aastore, 1) := by decide +kernel
theorem dn_St_108 : decode (hB h_St_init) 108 = .ok (.iinc 1 1, 3) := by decide +kernel
theorem dn_St_111 : decode (hB h_St_init) 111 = .ok (.goto (-22), 3) := by decide +kernel
theorem dn_St_114 : decode (hB h_St_init) 114 = .ok (.iconst 0, 1) := by decide +kernel
theorem dn_St_115 : decode (hB h_St_init) 115 = .ok (.istore_n 1, 1) := by decide +kernel
theorem dn_St_116 : decode (hB h_St_init) 116 = .ok (.iload_n 1, 1) := by decide +kernel
theorem dn_St_117 : decode (hB h_St_init) 117 = .ok (.bipush 24, 2) := by decide +kernel
theorem dn_St_119 : decode (hB h_St_init) 119 = .ok (.if_icmp .ge 22, 3) := by decide +kernel
theorem dn_St_122 : decode (hB h_St_init) 122 = .ok (.aload_n 0, 1) := by decide +kernel
theorem dn_St_123 : decode (hB h_St_init) 123 = .ok (.getfield 29, 3) := by decide +kernel
theorem dn_St_126 : decode (hB h_St_init) 126 = .ok (.iload_n 1, 1) := by decide +kernel
theorem dn_St_127 : decode (hB h_St_init) 127 = .ok (.new 27, 3) := by decide +kernel
theorem dn_St_130 : decode (hB h_St_init) 130 = .ok (.dup, 1) := by decide +kernel
theorem dn_St_131 : decode (hB h_St_init) 131 = .ok (.invokespecial 35, 3) := by decide +kernel
set_option maxRecDepth 100000 in
theorem ln_St_35 : InT (.methodLink (hY h_St_init).cls 35 (hY h_Ch_init)) ∨ ∃ host, InT (.methodLinkNest (hY h_St_init).cls 35 (hY h_Ch_init) host) := Or.inr ⟨_, InT.of 94 rfl rfl⟩
theorem dn_St_134 : decode (hB h_St_init) 134 = .ok (.aastore, 1) := by decide +kernel
theorem dn_St_135 : decode (hB h_St_init) 135 = .ok (.iinc 1 1, 3) := by decide +kernel
theorem dn_St_138 : decode (hB h_St_init) 138 = .ok (.goto (-22), 3) := by decide +kernel
theorem dn_St_141 : decode (hB h_St_init) 141 = .ok (.return_, 1) := by decide +kernel
theorem dn_Hi_0 : decode (hB h_Hi_init) 0 = .ok (.aload_n 0, 1) := by decide +kernel
theorem dn_Hi_1 : decode (hB h_Hi_init) 1 = .ok (.invokespecial 3, 3) := by decide +kernel
theorem dn_Hi_4 : decode (hB h_Hi_init) 4 = .ok (.aload_n 0, 1) := by decide +kernel
theorem dn_Hi_5 : decode (hB h_Hi_init) 5 = .ok (.bipush 7, 2) := by decide +kernel
theorem dn_Hi_7 : decode (hB h_Hi_init) 7 = .ok (.anewarray 11, 3) := by decide +kernel
set_option maxRecDepth 100000 in
theorem ln_Hi_11 : InT (.classLink (hY h_Hi_init).cls 11 "NurseryPlaces$State") := InT.of 256 rfl rfl
theorem dn_Hi_10 : decode (hB h_Hi_init) 10 = .ok (.putfield 13, 3) := by decide +kernel
set_option maxRecDepth 100000 in
theorem ln_Hi_13 : LkF (hY h_Hi_init).cls 13 5 0 := InT.of 259 rfl rfl
theorem dn_Hi_13 : decode (hB h_Hi_init) 13 = .ok (.iconst 0, 1) := by decide +kernel
theorem dn_Hi_14 : decode (hB h_Hi_init) 14 = .ok (.istore_n 1, 1) := by decide +kernel
theorem dn_Hi_15 : decode (hB h_Hi_init) 15 = .ok (.iload_n 1, 1) := by decide +kernel
theorem dn_Hi_16 : decode (hB h_Hi_init) 16 = .ok (.bipush 7, 2) := by decide +kernel
theorem dn_Hi_18 : decode (hB h_Hi_init) 18 = .ok (.if_icmp .ge 22, 3) := by decide +kernel
theorem dn_Hi_21 : decode (hB h_Hi_init) 21 = .ok (.aload_n 0, 1) := by decide +kernel
theorem dn_Hi_22 : decode (hB h_Hi_init) 22 = .ok (.getfield 13, 3) := by decide +kernel
theorem dn_Hi_25 : decode (hB h_Hi_init) 25 = .ok (.iload_n 1, 1) := by decide +kernel
theorem dn_Hi_26 : decode (hB h_Hi_init) 26 = .ok (.new 11, 3) := by decide +kernel
theorem dn_Hi_29 : decode (hB h_Hi_init) 29 = .ok (.dup, 1) := by decide +kernel
theorem dn_Hi_30 : decode (hB h_Hi_init) 30 = .ok (.invokespecial 17, 3) := by decide +kernel
set_option maxRecDepth 100000 in
theorem ln_Hi_17 : InT (.methodLink (hY h_Hi_init).cls 17 (hY h_St_init)) ∨ ∃ host, InT (.methodLinkNest (hY h_Hi_init).cls 17 (hY h_St_init) host) := Or.inl (InT.of 258 rfl rfl)
theorem dn_Hi_33 : decode (hB h_Hi_init) 33 = .ok (.aastore, 1) := by decide +kernel
theorem dn_Hi_34 : decode (hB h_Hi_init) 34 = .ok (.iinc 1 1, 3) := by decide +kernel
theorem dn_Hi_37 : decode (hB h_Hi_init) 37 = .ok (.goto (-22), 3) := by decide +kernel
theorem dn_Hi_40 : decode (hB h_Hi_init) 40 = .ok (.return_, 1) := by decide +kernel
theorem dn_Pd_0 : decode (hB h_Pd_init) 0 = .ok (.aload_n 0, 1) := by decide +kernel
theorem dn_Pd_1 : decode (hB h_Pd_init) 1 = .ok (.invokespecial 3, 3) := by decide +kernel
theorem dn_Pd_4 : decode (hB h_Pd_init) 4 = .ok (.aload_n 0, 1) := by decide +kernel
theorem dn_Pd_5 : decode (hB h_Pd_init) 5 = .ok (.bipush 80, 2) := by decide +kernel
theorem dn_Pd_7 : decode (hB h_Pd_init) 7 = .ok (.newarray .char, 2) := by decide +kernel
theorem dn_Pd_9 : decode (hB h_Pd_init) 9 = .ok (.putfield 9, 3) := by decide +kernel
set_option maxRecDepth 100000 in
theorem ln_Pd_9 : LkF (hY h_Pd_init).cls 9 6 0 := InT.of 276 rfl rfl
theorem dn_Pd_12 : decode (hB h_Pd_init) 12 = .ok (.aload_n 0, 1) := by decide +kernel
theorem dn_Pd_13 : decode (hB h_Pd_init) 13 = .ok (.iconst 4, 1) := by decide +kernel
theorem dn_Pd_14 : decode (hB h_Pd_init) 14 = .ok (.newarray .int, 2) := by decide +kernel
theorem dn_Pd_16 : decode (hB h_Pd_init) 16 = .ok (.putfield 15, 3) := by decide +kernel
set_option maxRecDepth 100000 in
theorem ln_Pd_15 : LkF (hY h_Pd_init).cls 15 6 4 := InT.of 278 rfl rfl
theorem dn_Pd_19 : decode (hB h_Pd_init) 19 = .ok (.return_, 1) := by decide +kernel
theorem dn_N_0 : decode (hB h_N_init) 0 = .ok (.aload_n 0, 1) := by decide +kernel
theorem dn_N_1 : decode (hB h_N_init) 1 = .ok (.invokespecial 1, 3) := by decide +kernel
theorem dn_N_4 : decode (hB h_N_init) 4 = .ok (.aload_n 0, 1) := by decide +kernel
theorem dn_N_5 : decode (hB h_N_init) 5 = .ok (.new 7, 3) := by decide +kernel
set_option maxRecDepth 100000 in
theorem ln_N_7 : InT (.classLink (hY h_N_init).cls 7 "NurseryPlaces$State") := InT.of 22 rfl rfl
theorem dn_N_8 : decode (hB h_N_init) 8 = .ok (.dup, 1) := by decide +kernel
theorem dn_N_9 : decode (hB h_N_init) 9 = .ok (.invokespecial 9, 3) := by decide +kernel
set_option maxRecDepth 100000 in
theorem ln_N_9 : InT (.methodLink (hY h_N_init).cls 9 (hY h_St_init)) ∨ ∃ host, InT (.methodLinkNest (hY h_N_init).cls 9 (hY h_St_init) host) := Or.inl (InT.of 24 rfl rfl)
theorem dn_N_12 : decode (hB h_N_init) 12 = .ok (.putfield 10, 3) := by decide +kernel
set_option maxRecDepth 100000 in
theorem ln_N_10 : LkF (hY h_N_init).cls 10 0 0 := InT.of 294 rfl rfl
theorem dn_N_15 : decode (hB h_N_init) 15 = .ok (.aload_n 0, 1) := by decide +kernel
theorem dn_N_16 : decode (hB h_N_init) 16 = .ok (.new 7, 3) := by decide +kernel
theorem dn_N_19 : decode (hB h_N_init) 19 = .ok (.dup, 1) := by decide +kernel
theorem dn_N_20 : decode (hB h_N_init) 20 = .ok (.invokespecial 9, 3) := by decide +kernel
theorem dn_N_23 : decode (hB h_N_init) 23 = .ok (.putfield 16, 3) := by decide +kernel
set_option maxRecDepth 100000 in
theorem ln_N_16 : LkF (hY h_N_init).cls 16 0 1 := InT.of 295 rfl rfl
theorem dn_N_26 : decode (hB h_N_init) 26 = .ok (.aload_n 0, 1) := by decide +kernel
theorem dn_N_27 : decode (hB h_N_init) 27 = .ok (.new 19, 3) := by decide +kernel
set_option maxRecDepth 100000 in
theorem ln_N_19 : InT (.classLink (hY h_N_init).cls 19 "NurseryPlaces$History") := InT.of 250 rfl rfl
theorem dn_N_30 : decode (hB h_N_init) 30 = .ok (.dup, 1) := by decide +kernel
theorem dn_N_31 : decode (hB h_N_init) 31 = .ok (.invokespecial 21, 3) := by decide +kernel
set_option maxRecDepth 100000 in
theorem ln_N_21 : InT (.methodLink (hY h_N_init).cls 21 (hY h_Hi_init)) ∨ ∃ host, InT (.methodLinkNest (hY h_N_init).cls 21 (hY h_Hi_init) host) := Or.inl (InT.of 252 rfl rfl)
theorem dn_N_34 : decode (hB h_N_init) 34 = .ok (.putfield 22, 3) := by decide +kernel
set_option maxRecDepth 100000 in
theorem ln_N_22 : LkF (hY h_N_init).cls 22 0 2 := InT.of 296 rfl rfl
theorem dn_N_37 : decode (hB h_N_init) 37 = .ok (.aload_n 0, 1) := by decide +kernel
theorem dn_N_38 : decode (hB h_N_init) 38 = .ok (.iconst 2, 1) := by decide +kernel
theorem dn_N_39 : decode (hB h_N_init) 39 = .ok (.anewarray 7, 3) := by decide +kernel
theorem dn_N_42 : decode (hB h_N_init) 42 = .ok (.dup, 1) := by decide +kernel
theorem dn_N_43 : decode (hB h_N_init) 43 = .ok (.iconst 0, 1) := by decide +kernel
theorem dn_N_44 : decode (hB h_N_init) 44 = .ok (.new 7, 3) := by decide +kernel
theorem dn_N_47 : decode (hB h_N_init) 47 = .ok (.dup, 1) := by decide +kernel
theorem dn_N_48 : decode (hB h_N_init) 48 = .ok (.invokespecial 9, 3) := by decide +kernel
theorem dn_N_51 : decode (hB h_N_init) 51 = .ok (.aastore, 1) := by decide +kernel
theorem dn_N_52 : decode (hB h_N_init) 52 = .ok (.dup, 1) := by decide +kernel
theorem dn_N_53 : decode (hB h_N_init) 53 = .ok (.iconst 1, 1) := by decide +kernel
theorem dn_N_54 : decode (hB h_N_init) 54 = .ok (.new 7, 3) := by decide +kernel
theorem dn_N_57 : decode (hB h_N_init) 57 = .ok (.dup, 1) := by decide +kernel
theorem dn_N_58 : decode (hB h_N_init) 58 = .ok (.invokespecial 9, 3) := by decide +kernel
theorem dn_N_61 : decode (hB h_N_init) 61 = .ok (.aastore, 1) := by decide +kernel
theorem dn_N_62 : decode (hB h_N_init) 62 = .ok (.putfield 26, 3) := by decide +kernel
set_option maxRecDepth 100000 in
theorem ln_N_26 : LkF (hY h_N_init).cls 26 0 3 := InT.of 297 rfl rfl
theorem dn_N_65 : decode (hB h_N_init) 65 = .ok (.aload_n 0, 1) := by decide +kernel
theorem dn_N_66 : decode (hB h_N_init) 66 = .ok (.iconst 2, 1) := by decide +kernel
theorem dn_N_67 : decode (hB h_N_init) 67 = .ok (.newarray .boolean, 2) := by decide +kernel
theorem dn_N_69 : decode (hB h_N_init) 69 = .ok (.putfield 30, 3) := by decide +kernel
set_option maxRecDepth 100000 in
theorem ln_N_30 : LkF (hY h_N_init).cls 30 0 4 := InT.of 298 rfl rfl
theorem dn_N_72 : decode (hB h_N_init) 72 = .ok (.aload_n 0, 1) := by decide +kernel
theorem dn_N_73 : decode (hB h_N_init) 73 = .ok (.new 34, 3) := by decide +kernel
set_option maxRecDepth 100000 in
theorem ln_N_34 : InT (.classLink (hY h_N_init).cls 34 "NurseryPlaces$Pad") := InT.of 270 rfl rfl
theorem dn_N_76 : decode (hB h_N_init) 76 = .ok (.dup, 1) := by decide +kernel
theorem dn_N_77 : decode (hB h_N_init) 77 = .ok (.invokespecial 36, 3) := by decide +kernel
set_option maxRecDepth 100000 in
theorem ln_N_36 : InT (.methodLink (hY h_N_init).cls 36 (hY h_Pd_init)) ∨ ∃ host, InT (.methodLinkNest (hY h_N_init).cls 36 (hY h_Pd_init) host) := Or.inr ⟨_, InT.of 272 rfl rfl⟩
theorem dn_N_80 : decode (hB h_N_init) 80 = .ok (.putfield 37, 3) := by decide +kernel
set_option maxRecDepth 100000 in
theorem ln_N_37 : LkF (hY h_N_init).cls 37 0 5 := InT.of 299 rfl rfl
theorem dn_N_83 : decode (hB h_N_init) 83 = .ok (.return_, 1) := by decide +kernel
