/-! the constructors (written by genctor.py) -/
theorem zw27 : lw_tbl[27]? = some (.selects "KeptColoursModel" ⟨"KeptColoursModel", "bareAll", "()V"⟩ ⟨"KeptColoursModel", "bareAll", "()V"⟩) := by decide +kernel
theorem zw67 : lw_tbl[67]? = some (.initialized "KeptColours$Net") := by decide +kernel
theorem zw68 : lw_tbl[68]? = some (.initialized "java/util/Arrays") := by decide +kernel
theorem zw69 : lw_tbl[69]? = some (.initialized "KeptColours$Finder") := by decide +kernel
theorem zw70 : lw_tbl[70]? = some (.initialized "KeptColours$Outward") := by decide +kernel
theorem zw71 : lw_tbl[71]? = some (.initialized "KeptColours$Filling") := by decide +kernel
theorem zw72 : lw_tbl[72]? = some (.initialized "KeptColours$Forms") := by decide +kernel
theorem zw73 : lw_tbl[73]? = some (.initialized "KeptColours$Proof") := by decide +kernel
theorem zw74 : lw_tbl[74]? = some (.initialized "KeptColours$Walker") := by decide +kernel
theorem zw75 : lw_tbl[75]? = some (.initialized "KeptColours$History") := by decide +kernel
theorem zw76 : lw_tbl[76]? = some (.initialized "KeptColoursModel") := by decide +kernel
set_option maxRecDepth 100000 in
theorem zw84 : lw_tbl[84]? = some (.code ⟨"KeptColours", "<init>", "()V"⟩ prog_1_method_1_code 2 none) := rfl
theorem zw85 : lw_tbl[85]? = some (.methodLink "KeptColours" 1 objectInit) := by decide +kernel
theorem zw86 : lw_tbl[86]? = some (.instanceMethod objectInit) := by decide +kernel
set_option maxRecDepth 100000 in
theorem zw87 : lw_tbl[87]? = some (.code objectInit ⟨#[0xb1]⟩ 1 none) := rfl
theorem zw88 : lw_tbl[88]? = some (.classLink "KeptColours" 7 "KeptColours$Net") := by decide +kernel
theorem zw89 : lw_tbl[89]? = some (.instantiable "KeptColours$Net" 6) := by decide +kernel
theorem zw90 : lw_tbl[90]? = some (.methodLink "KeptColours" 9 ⟨"KeptColours$Net", "<init>", "()V"⟩) := by decide +kernel
theorem zw91 : lw_tbl[91]? = some (.instanceMethod ⟨"KeptColours$Net", "<init>", "()V"⟩) := by decide +kernel
set_option maxRecDepth 100000 in
theorem zw92 : lw_tbl[92]? = some (.code ⟨"KeptColours$Net", "<init>", "()V"⟩ prog_6_method_1_code 1 none) := rfl
theorem zw93 : lw_tbl[93]? = some (.methodLink "KeptColours$Net" 3 objectInit) := by decide +kernel
theorem zw94 : lw_tbl[94]? = some (.methodLink "KeptColours$Net" 31 ⟨"java/util/Arrays", "fill", "([II)V"⟩) := by decide +kernel
theorem zw95 : lw_tbl[95]? = some (.static ⟨"java/util/Arrays", "fill", "([II)V"⟩) := by decide +kernel
set_option maxRecDepth 100000 in
theorem zw96 : lw_tbl[96]? = some (.code ⟨"java/util/Arrays", "fill", "([II)V"⟩ prog_15_method_103_code 4 none) := rfl
theorem zw135 : lw_tbl[135]? = some (.arrayClass .int) := by decide +kernel
theorem zw136 : lw_tbl[136]? = some (.classLink "KeptColours" 16 "KeptColours$Finder") := by decide +kernel
theorem zw137 : lw_tbl[137]? = some (.instantiable "KeptColours$Finder" 5) := by decide +kernel
theorem zw138 : lw_tbl[138]? = some (.methodLinkNest "KeptColours" 18 ⟨"KeptColours$Finder", "<init>", "()V"⟩ "KeptColours") := by decide +kernel
theorem zw139 : lw_tbl[139]? = some (.instanceMethod ⟨"KeptColours$Finder", "<init>", "()V"⟩) := by decide +kernel
set_option maxRecDepth 100000 in
theorem zw140 : lw_tbl[140]? = some (.code ⟨"KeptColours$Finder", "<init>", "()V"⟩ prog_3_method_1_code 1 none) := rfl
theorem zw141 : lw_tbl[141]? = some (.methodLink "KeptColours$Finder" 3 objectInit) := by decide +kernel
theorem zw160 : lw_tbl[160]? = some (.classLink "KeptColours" 23 "KeptColours$Outward") := by decide +kernel
theorem zw161 : lw_tbl[161]? = some (.instantiable "KeptColours$Outward" 2) := by decide +kernel
theorem zw162 : lw_tbl[162]? = some (.methodLinkNest "KeptColours" 25 ⟨"KeptColours$Outward", "<init>", "()V"⟩ "KeptColours") := by decide +kernel
theorem zw163 : lw_tbl[163]? = some (.instanceMethod ⟨"KeptColours$Outward", "<init>", "()V"⟩) := by decide +kernel
set_option maxRecDepth 100000 in
theorem zw164 : lw_tbl[164]? = some (.code ⟨"KeptColours$Outward", "<init>", "()V"⟩ prog_7_method_1_code 1 none) := rfl
theorem zw165 : lw_tbl[165]? = some (.methodLink "KeptColours$Outward" 3 objectInit) := by decide +kernel
theorem zw173 : lw_tbl[173]? = some (.classLink "KeptColours" 26 "KeptColours$Filling") := by decide +kernel
theorem zw174 : lw_tbl[174]? = some (.instantiable "KeptColours$Filling" 8) := by decide +kernel
theorem zw175 : lw_tbl[175]? = some (.methodLink "KeptColours" 28 ⟨"KeptColours$Filling", "<init>", "(LKeptColours$Finder;LKeptColours$Outward;)V"⟩) := by decide +kernel
theorem zw176 : lw_tbl[176]? = some (.instanceMethod ⟨"KeptColours$Filling", "<init>", "(LKeptColours$Finder;LKeptColours$Outward;)V"⟩) := by decide +kernel
set_option maxRecDepth 100000 in
theorem zw177 : lw_tbl[177]? = some (.code ⟨"KeptColours$Filling", "<init>", "(LKeptColours$Finder;LKeptColours$Outward;)V"⟩ prog_2_method_1_code 3 none) := rfl
theorem zw178 : lw_tbl[178]? = some (.methodLink "KeptColours$Filling" 3 objectInit) := by decide +kernel
theorem zw179 : lw_tbl[179]? = some (.classLink "KeptColours$Filling" 9 "KeptColours$Net") := by decide +kernel
theorem zw180 : lw_tbl[180]? = some (.methodLink "KeptColours$Filling" 11 ⟨"KeptColours$Net", "<init>", "()V"⟩) := by decide +kernel
theorem zw210 : lw_tbl[210]? = some (.classLink "KeptColours" 35 "KeptColours$Forms") := by decide +kernel
theorem zw211 : lw_tbl[211]? = some (.instantiable "KeptColours$Forms" 8) := by decide +kernel
theorem zw212 : lw_tbl[212]? = some (.methodLinkNest "KeptColours" 37 ⟨"KeptColours$Forms", "<init>", "()V"⟩ "KeptColours") := by decide +kernel
theorem zw213 : lw_tbl[213]? = some (.instanceMethod ⟨"KeptColours$Forms", "<init>", "()V"⟩) := by decide +kernel
set_option maxRecDepth 100000 in
theorem zw214 : lw_tbl[214]? = some (.code ⟨"KeptColours$Forms", "<init>", "()V"⟩ prog_4_method_1_code 1 none) := rfl
theorem zw215 : lw_tbl[215]? = some (.methodLink "KeptColours$Forms" 3 objectInit) := by decide +kernel
theorem zw243 : lw_tbl[243]? = some (.classLink "KeptColours" 42 "KeptColours$Proof") := by decide +kernel
theorem zw244 : lw_tbl[244]? = some (.instantiable "KeptColours$Proof" 6) := by decide +kernel
theorem zw245 : lw_tbl[245]? = some (.methodLink "KeptColours" 44 ⟨"KeptColours$Proof", "<init>", "(LKeptColours$Finder;LKeptColours$Outward;)V"⟩) := by decide +kernel
theorem zw246 : lw_tbl[246]? = some (.instanceMethod ⟨"KeptColours$Proof", "<init>", "(LKeptColours$Finder;LKeptColours$Outward;)V"⟩) := by decide +kernel
set_option maxRecDepth 100000 in
theorem zw247 : lw_tbl[247]? = some (.code ⟨"KeptColours$Proof", "<init>", "(LKeptColours$Finder;LKeptColours$Outward;)V"⟩ prog_8_method_1_code 3 none) := rfl
theorem zw248 : lw_tbl[248]? = some (.methodLink "KeptColours$Proof" 3 objectInit) := by decide +kernel
theorem zw272 : lw_tbl[272]? = some (.classLink "KeptColours" 49 "KeptColours$Walker") := by decide +kernel
theorem zw273 : lw_tbl[273]? = some (.instantiable "KeptColours$Walker" 4) := by decide +kernel
theorem zw274 : lw_tbl[274]? = some (.methodLink "KeptColours" 51 ⟨"KeptColours$Walker", "<init>", "(LKeptColours$Outward;)V"⟩) := by decide +kernel
theorem zw275 : lw_tbl[275]? = some (.instanceMethod ⟨"KeptColours$Walker", "<init>", "(LKeptColours$Outward;)V"⟩) := by decide +kernel
set_option maxRecDepth 100000 in
theorem zw276 : lw_tbl[276]? = some (.code ⟨"KeptColours$Walker", "<init>", "(LKeptColours$Outward;)V"⟩ prog_9_method_1_code 2 none) := rfl
theorem zw277 : lw_tbl[277]? = some (.methodLink "KeptColours$Walker" 1 objectInit) := by decide +kernel
theorem zw291 : lw_tbl[291]? = some (.classLink "KeptColours" 58 "KeptColours$History") := by decide +kernel
theorem zw292 : lw_tbl[292]? = some (.instantiable "KeptColours$History" 3) := by decide +kernel
theorem zw293 : lw_tbl[293]? = some (.methodLink "KeptColours" 60 ⟨"KeptColours$History", "<init>", "()V"⟩) := by decide +kernel
theorem zw294 : lw_tbl[294]? = some (.instanceMethod ⟨"KeptColours$History", "<init>", "()V"⟩) := by decide +kernel
set_option maxRecDepth 100000 in
theorem zw295 : lw_tbl[295]? = some (.code ⟨"KeptColours$History", "<init>", "()V"⟩ prog_5_method_1_code 2 none) := rfl
theorem zw296 : lw_tbl[296]? = some (.methodLink "KeptColours$History" 3 objectInit) := by decide +kernel
theorem zw297 : lw_tbl[297]? = some (.classLink "KeptColours$History" 9 "KeptColours$Net") := by decide +kernel
theorem zw299 : lw_tbl[299]? = some (.methodLink "KeptColours$History" 17 ⟨"KeptColours$Net", "<init>", "()V"⟩) := by decide +kernel
set_option maxRecDepth 100000 in
theorem zw819 : lw_tbl[819]? = some (.code ⟨"KeptColoursModel", "<init>", "()V"⟩ prog_11_method_1_code 1 none) := rfl
theorem zw820 : lw_tbl[820]? = some (.methodLink "KeptColoursModel" 1 objectInit) := by decide +kernel
theorem zw821 : lw_tbl[821]? = some (.constant "KeptColoursModel" 50 60000) := by decide +kernel
theorem zw822 : lw_tbl[822]? = some (.methodLink "KeptColoursModel" 70 ⟨"KeptColoursModel", "bareAll", "()V"⟩) := by decide +kernel
theorem zw824 : lw_tbl[824]? = some (.instanceMethod ⟨"KeptColoursModel", "bareAll", "()V"⟩) := by decide +kernel
set_option maxRecDepth 100000 in
theorem zw825 : lw_tbl[825]? = some (.code ⟨"KeptColoursModel", "bareAll", "()V"⟩ prog_11_method_2_code 2 none) := rfl
theorem zw971 : lw_tbl[971]? = some (.arrayClass .boolean) := by decide +kernel
theorem df0 : ∀ j, j < mN 0 → defaultValue (mTyp 0 j) = vp_V [.null, .int 0, .null, .null, .null, .int 0, .int 0, .int 0] j := by
  intro j hj
  have hj : j < 8 := hj
  rcases (show j = 0 ∨ j = 1 ∨ j = 2 ∨ j = 3 ∨ j = 4 ∨ j = 5 ∨ j = 6 ∨ j = 7 by omega) with rfl | rfl | rfl | rfl | rfl | rfl | rfl | rfl <;> rfl
theorem df1 : ∀ j, j < mN 1 → defaultValue (mTyp 1 j) = vp_V [.null, .int 0, .int 0, .int 0, .null] j := by
  intro j hj
  have hj : j < 5 := hj
  rcases (show j = 0 ∨ j = 1 ∨ j = 2 ∨ j = 3 ∨ j = 4 by omega) with rfl | rfl | rfl | rfl | rfl <;> rfl
theorem df2 : ∀ j, j < mN 2 → defaultValue (mTyp 2 j) = vp_V [.null, .int 0, .int 0, .null, .null, .int 0, .int 0, .int 0] j := by
  intro j hj
  have hj : j < 8 := hj
  rcases (show j = 0 ∨ j = 1 ∨ j = 2 ∨ j = 3 ∨ j = 4 ∨ j = 5 ∨ j = 6 ∨ j = 7 by omega) with rfl | rfl | rfl | rfl | rfl | rfl | rfl | rfl <;> rfl
theorem df3 : ∀ j, j < mN 3 → defaultValue (mTyp 3 j) = vp_V [.int 0, .null, .int 0] j := by
  intro j hj
  have hj : j < 3 := hj
  rcases (show j = 0 ∨ j = 1 ∨ j = 2 by omega) with rfl | rfl | rfl <;> rfl
theorem df4 : ∀ j, j < mN 4 → defaultValue (mTyp 4 j) = vp_V [.int 0, .int 0, .null, .null, .null, .null] j := by
  intro j hj
  have hj : j < 6 := hj
  rcases (show j = 0 ∨ j = 1 ∨ j = 2 ∨ j = 3 ∨ j = 4 ∨ j = 5 by omega) with rfl | rfl | rfl | rfl | rfl | rfl <;> rfl
theorem df5 : ∀ j, j < mN 5 → defaultValue (mTyp 5 j) = vp_V [.int 0, .null] j := by
  intro j hj
  have hj : j < 2 := hj
  rcases (show j = 0 ∨ j = 1 by omega) with rfl | rfl <;> rfl
theorem df6 : ∀ j, j < mN 6 → defaultValue (mTyp 6 j) = vp_V [.null, .null, .null, .int 0, .null, .null] j := by
  intro j hj
  have hj : j < 6 := hj
  rcases (show j = 0 ∨ j = 1 ∨ j = 2 ∨ j = 3 ∨ j = 4 ∨ j = 5 by omega) with rfl | rfl | rfl | rfl | rfl | rfl <;> rfl
theorem df7 : ∀ j, j < mN 7 → defaultValue (mTyp 7 j) = vp_V [.null, .int 0, .int 0, .int 0] j := by
  intro j hj
  have hj : j < 4 := hj
  rcases (show j = 0 ∨ j = 1 ∨ j = 2 ∨ j = 3 by omega) with rfl | rfl | rfl | rfl <;> rfl
theorem df8 : ∀ j, j < mN 8 → defaultValue (mTyp 8 j) = vp_V [.null, .null, .null, .null, .null, .null, .null, .int 0] j := by
  intro j hj
  have hj : j < 8 := hj
  rcases (show j = 0 ∨ j = 1 ∨ j = 2 ∨ j = 3 ∨ j = 4 ∨ j = 5 ∨ j = 6 ∨ j = 7 by omega) with rfl | rfl | rfl | rfl | rfl | rfl | rfl | rfl <;> rfl
theorem df9 : ∀ j, j < mN 9 → defaultValue (mTyp 9 j) = vp_V [.int 0, .int 0, .null, .null, .null, .null, .int 0, .null, .null, .int 0, .int 0, .int 0, .int 0, .int 0, .int 0, .int 0, .null, .int 0, .null, .null, .int 0, .int 0, .null, .int 0, .int 0, .int 0, .null, .int 0, .null, .int 0, .null, .null, .int 0, .int 0, .int 0, .int 0, .int 0, .null, .int 0, .int 0, .int 0, .int 0, .null, .int 0, .int 0, .int 0, .int 0, .null] j := by
  intro j hj
  have hj : j < 48 := hj
  rcases (show j = 0 ∨ j = 1 ∨ j = 2 ∨ j = 3 ∨ j = 4 ∨ j = 5 ∨ j = 6 ∨ j = 7 ∨ j = 8 ∨ j = 9 ∨ j = 10 ∨ j = 11 ∨ j = 12 ∨ j = 13 ∨ j = 14 ∨ j = 15 ∨ j = 16 ∨ j = 17 ∨ j = 18 ∨ j = 19 ∨ j = 20 ∨ j = 21 ∨ j = 22 ∨ j = 23 ∨ j = 24 ∨ j = 25 ∨ j = 26 ∨ j = 27 ∨ j = 28 ∨ j = 29 ∨ j = 30 ∨ j = 31 ∨ j = 32 ∨ j = 33 ∨ j = 34 ∨ j = 35 ∨ j = 36 ∨ j = 37 ∨ j = 38 ∨ j = 39 ∨ j = 40 ∨ j = 41 ∨ j = 42 ∨ j = 43 ∨ j = 44 ∨ j = 45 ∨ j = 46 ∨ j = 47 by omega) with rfl | rfl | rfl | rfl | rfl | rfl | rfl | rfl | rfl | rfl | rfl | rfl | rfl | rfl | rfl | rfl | rfl | rfl | rfl | rfl | rfl | rfl | rfl | rfl | rfl | rfl | rfl | rfl | rfl | rfl | rfl | rfl | rfl | rfl | rfl | rfl | rfl | rfl | rfl | rfl | rfl | rfl | rfl | rfl | rfl | rfl | rfl | rfl <;> rfl
theorem dI4_0 : decode prog_6_method_1_code 0 = .ok (.aload_n 0, 1) := by decide +kernel
theorem dI4_1 : decode prog_6_method_1_code 1 = .ok (.invokespecial 3, 3) := by decide +kernel
theorem dI4_4 : decode prog_6_method_1_code 4 = .ok (.aload_n 0, 1) := by decide +kernel
theorem dI4_5 : decode prog_6_method_1_code 5 = .ok (.bipush 6, 2) := by decide +kernel
theorem dI4_7 : decode prog_6_method_1_code 7 = .ok (.putfield 9, 3) := by decide +kernel
theorem dI4_10 : decode prog_6_method_1_code 10 = .ok (.aload_n 0, 1) := by decide +kernel
theorem dI4_11 : decode prog_6_method_1_code 11 = .ok (.iconst 2, 1) := by decide +kernel
theorem dI4_12 : decode prog_6_method_1_code 12 = .ok (.putfield 15, 3) := by decide +kernel
theorem dI4_15 : decode prog_6_method_1_code 15 = .ok (.aload_n 0, 1) := by decide +kernel
theorem dI4_16 : decode prog_6_method_1_code 16 = .ok (.iconst 3, 1) := by decide +kernel
theorem dI4_17 : decode prog_6_method_1_code 17 = .ok (.newarray .int, 2) := by decide +kernel
theorem dI4_19 : decode prog_6_method_1_code 19 = .ok (.putfield 18, 3) := by decide +kernel
theorem dI4_22 : decode prog_6_method_1_code 22 = .ok (.aload_n 0, 1) := by decide +kernel
theorem dI4_23 : decode prog_6_method_1_code 23 = .ok (.iconst 3, 1) := by decide +kernel
theorem dI4_24 : decode prog_6_method_1_code 24 = .ok (.newarray .int, 2) := by decide +kernel
theorem dI4_26 : decode prog_6_method_1_code 26 = .ok (.putfield 22, 3) := by decide +kernel
theorem dI4_29 : decode prog_6_method_1_code 29 = .ok (.aload_n 0, 1) := by decide +kernel
theorem dI4_30 : decode prog_6_method_1_code 30 = .ok (.bipush 66, 2) := by decide +kernel
theorem dI4_32 : decode prog_6_method_1_code 32 = .ok (.newarray .int, 2) := by decide +kernel
theorem dI4_34 : decode prog_6_method_1_code 34 = .ok (.putfield 25, 3) := by decide +kernel
theorem dI4_37 : decode prog_6_method_1_code 37 = .ok (.aload_n 0, 1) := by decide +kernel
theorem dI4_38 : decode prog_6_method_1_code 38 = .ok (.bipush 36, 2) := by decide +kernel
theorem dI4_40 : decode prog_6_method_1_code 40 = .ok (.newarray .int, 2) := by decide +kernel
theorem dI4_42 : decode prog_6_method_1_code 42 = .ok (.putfield 28, 3) := by decide +kernel
theorem dI4_45 : decode prog_6_method_1_code 45 = .ok (.aload_n 0, 1) := by decide +kernel
theorem dI4_46 : decode prog_6_method_1_code 46 = .ok (.getfield 25, 3) := by decide +kernel
theorem dI4_49 : decode prog_6_method_1_code 49 = .ok (.iconst (-1), 1) := by decide +kernel
theorem dI4_50 : decode prog_6_method_1_code 50 = .ok (.invokestatic 31, 3) := by decide +kernel
theorem dI4_53 : decode prog_6_method_1_code 53 = .ok (.return_, 1) := by decide +kernel
theorem dI1_0 : decode prog_3_method_1_code 0 = .ok (.aload_n 0, 1) := by decide +kernel
theorem dI1_1 : decode prog_3_method_1_code 1 = .ok (.invokespecial 3, 3) := by decide +kernel
theorem dI1_4 : decode prog_3_method_1_code 4 = .ok (.aload_n 0, 1) := by decide +kernel
theorem dI1_5 : decode prog_3_method_1_code 5 = .ok (.bipush 7, 2) := by decide +kernel
theorem dI1_7 : decode prog_3_method_1_code 7 = .ok (.newarray .int, 2) := by decide +kernel
theorem dI1_9 : decode prog_3_method_1_code 9 = .ok (.putfield 9, 3) := by decide +kernel
theorem dI1_12 : decode prog_3_method_1_code 12 = .ok (.aload_n 0, 1) := by decide +kernel
theorem dI1_13 : decode prog_3_method_1_code 13 = .ok (.bipush 12, 2) := by decide +kernel
theorem dI1_15 : decode prog_3_method_1_code 15 = .ok (.newarray .int, 2) := by decide +kernel
theorem dI1_17 : decode prog_3_method_1_code 17 = .ok (.putfield 15, 3) := by decide +kernel
theorem dI1_20 : decode prog_3_method_1_code 20 = .ok (.return_, 1) := by decide +kernel
theorem dI5_0 : decode prog_7_method_1_code 0 = .ok (.aload_n 0, 1) := by decide +kernel
theorem dI5_1 : decode prog_7_method_1_code 1 = .ok (.invokespecial 3, 3) := by decide +kernel
theorem dI5_4 : decode prog_7_method_1_code 4 = .ok (.aload_n 0, 1) := by decide +kernel
theorem dI5_5 : decode prog_7_method_1_code 5 = .ok (.bipush 12, 2) := by decide +kernel
theorem dI5_7 : decode prog_7_method_1_code 7 = .ok (.newarray .int, 2) := by decide +kernel
theorem dI5_9 : decode prog_7_method_1_code 9 = .ok (.putfield 9, 3) := by decide +kernel
theorem dI5_12 : decode prog_7_method_1_code 12 = .ok (.return_, 1) := by decide +kernel
theorem dI0_0 : decode prog_2_method_1_code 0 = .ok (.aload_n 0, 1) := by decide +kernel
theorem dI0_1 : decode prog_2_method_1_code 1 = .ok (.invokespecial 3, 3) := by decide +kernel
theorem dI0_4 : decode prog_2_method_1_code 4 = .ok (.aload_n 0, 1) := by decide +kernel
theorem dI0_5 : decode prog_2_method_1_code 5 = .ok (.new 9, 3) := by decide +kernel
theorem dI0_8 : decode prog_2_method_1_code 8 = .ok (.dup, 1) := by decide +kernel
theorem dI0_9 : decode prog_2_method_1_code 9 = .ok (.invokespecial 11, 3) := by decide +kernel
theorem dI0_12 : decode prog_2_method_1_code 12 = .ok (.putfield 12, 3) := by decide +kernel
theorem dI0_15 : decode prog_2_method_1_code 15 = .ok (.aload_n 0, 1) := by decide +kernel
theorem dI0_16 : decode prog_2_method_1_code 16 = .ok (.bipush 66, 2) := by decide +kernel
theorem dI0_18 : decode prog_2_method_1_code 18 = .ok (.newarray .int, 2) := by decide +kernel
theorem dI0_20 : decode prog_2_method_1_code 20 = .ok (.putfield 18, 3) := by decide +kernel
theorem dI0_23 : decode prog_2_method_1_code 23 = .ok (.aload_n 0, 1) := by decide +kernel
theorem dI0_24 : decode prog_2_method_1_code 24 = .ok (.aload_n 1, 1) := by decide +kernel
theorem dI0_25 : decode prog_2_method_1_code 25 = .ok (.putfield 22, 3) := by decide +kernel
theorem dI0_28 : decode prog_2_method_1_code 28 = .ok (.aload_n 0, 1) := by decide +kernel
theorem dI0_29 : decode prog_2_method_1_code 29 = .ok (.aload_n 2, 1) := by decide +kernel
theorem dI0_30 : decode prog_2_method_1_code 30 = .ok (.putfield 26, 3) := by decide +kernel
theorem dI0_33 : decode prog_2_method_1_code 33 = .ok (.return_, 1) := by decide +kernel
theorem dI2_0 : decode prog_4_method_1_code 0 = .ok (.aload_n 0, 1) := by decide +kernel
theorem dI2_1 : decode prog_4_method_1_code 1 = .ok (.invokespecial 3, 3) := by decide +kernel
theorem dI2_4 : decode prog_4_method_1_code 4 = .ok (.aload_n 0, 1) := by decide +kernel
theorem dI2_5 : decode prog_4_method_1_code 5 = .ok (.bipush 21, 2) := by decide +kernel
theorem dI2_7 : decode prog_4_method_1_code 7 = .ok (.newarray .int, 2) := by decide +kernel
theorem dI2_9 : decode prog_4_method_1_code 9 = .ok (.putfield 9, 3) := by decide +kernel
theorem dI2_12 : decode prog_4_method_1_code 12 = .ok (.aload_n 0, 1) := by decide +kernel
theorem dI2_13 : decode prog_4_method_1_code 13 = .ok (.bipush 21, 2) := by decide +kernel
theorem dI2_15 : decode prog_4_method_1_code 15 = .ok (.newarray .int, 2) := by decide +kernel
theorem dI2_17 : decode prog_4_method_1_code 17 = .ok (.putfield 15, 3) := by decide +kernel
theorem dI2_20 : decode prog_4_method_1_code 20 = .ok (.aload_n 0, 1) := by decide +kernel
theorem dI2_21 : decode prog_4_method_1_code 21 = .ok (.bipush 7, 2) := by decide +kernel
theorem dI2_23 : decode prog_4_method_1_code 23 = .ok (.newarray .int, 2) := by decide +kernel
theorem dI2_25 : decode prog_4_method_1_code 25 = .ok (.putfield 18, 3) := by decide +kernel
theorem dI2_28 : decode prog_4_method_1_code 28 = .ok (.return_, 1) := by decide +kernel
theorem dI6_0 : decode prog_8_method_1_code 0 = .ok (.aload_n 0, 1) := by decide +kernel
theorem dI6_1 : decode prog_8_method_1_code 1 = .ok (.invokespecial 3, 3) := by decide +kernel
theorem dI6_4 : decode prog_8_method_1_code 4 = .ok (.aload_n 0, 1) := by decide +kernel
theorem dI6_5 : decode prog_8_method_1_code 5 = .ok (.sipush 500, 3) := by decide +kernel
theorem dI6_8 : decode prog_8_method_1_code 8 = .ok (.newarray .int, 2) := by decide +kernel
theorem dI6_10 : decode prog_8_method_1_code 10 = .ok (.putfield 9, 3) := by decide +kernel
theorem dI6_13 : decode prog_8_method_1_code 13 = .ok (.aload_n 0, 1) := by decide +kernel
theorem dI6_14 : decode prog_8_method_1_code 14 = .ok (.sipush 500, 3) := by decide +kernel
theorem dI6_17 : decode prog_8_method_1_code 17 = .ok (.newarray .int, 2) := by decide +kernel
theorem dI6_19 : decode prog_8_method_1_code 19 = .ok (.putfield 15, 3) := by decide +kernel
theorem dI6_22 : decode prog_8_method_1_code 22 = .ok (.aload_n 0, 1) := by decide +kernel
theorem dI6_23 : decode prog_8_method_1_code 23 = .ok (.sipush 500, 3) := by decide +kernel
theorem dI6_26 : decode prog_8_method_1_code 26 = .ok (.newarray .int, 2) := by decide +kernel
theorem dI6_28 : decode prog_8_method_1_code 28 = .ok (.putfield 18, 3) := by decide +kernel
theorem dI6_31 : decode prog_8_method_1_code 31 = .ok (.aload_n 0, 1) := by decide +kernel
theorem dI6_32 : decode prog_8_method_1_code 32 = .ok (.aload_n 1, 1) := by decide +kernel
theorem dI6_33 : decode prog_8_method_1_code 33 = .ok (.putfield 21, 3) := by decide +kernel
theorem dI6_36 : decode prog_8_method_1_code 36 = .ok (.aload_n 0, 1) := by decide +kernel
theorem dI6_37 : decode prog_8_method_1_code 37 = .ok (.aload_n 2, 1) := by decide +kernel
theorem dI6_38 : decode prog_8_method_1_code 38 = .ok (.putfield 25, 3) := by decide +kernel
theorem dI6_41 : decode prog_8_method_1_code 41 = .ok (.return_, 1) := by decide +kernel
theorem dI7_0 : decode prog_9_method_1_code 0 = .ok (.aload_n 0, 1) := by decide +kernel
theorem dI7_1 : decode prog_9_method_1_code 1 = .ok (.invokespecial 1, 3) := by decide +kernel
theorem dI7_4 : decode prog_9_method_1_code 4 = .ok (.aload_n 0, 1) := by decide +kernel
theorem dI7_5 : decode prog_9_method_1_code 5 = .ok (.aload_n 1, 1) := by decide +kernel
theorem dI7_6 : decode prog_9_method_1_code 6 = .ok (.putfield 7, 3) := by decide +kernel
theorem dI7_9 : decode prog_9_method_1_code 9 = .ok (.return_, 1) := by decide +kernel
theorem dI3_0 : decode prog_5_method_1_code 0 = .ok (.aload_n 0, 1) := by decide +kernel
theorem dI3_1 : decode prog_5_method_1_code 1 = .ok (.invokespecial 3, 3) := by decide +kernel
theorem dI3_4 : decode prog_5_method_1_code 4 = .ok (.aload_n 0, 1) := by decide +kernel
theorem dI3_5 : decode prog_5_method_1_code 5 = .ok (.bipush 6, 2) := by decide +kernel
theorem dI3_7 : decode prog_5_method_1_code 7 = .ok (.anewarray 9, 3) := by decide +kernel
theorem dI3_10 : decode prog_5_method_1_code 10 = .ok (.putfield 11, 3) := by decide +kernel
theorem dI3_13 : decode prog_5_method_1_code 13 = .ok (.iconst 0, 1) := by decide +kernel
theorem dI3_14 : decode prog_5_method_1_code 14 = .ok (.istore_n 1, 1) := by decide +kernel
theorem dI3_15 : decode prog_5_method_1_code 15 = .ok (.iload_n 1, 1) := by decide +kernel
theorem dI3_16 : decode prog_5_method_1_code 16 = .ok (.bipush 6, 2) := by decide +kernel
theorem dI3_18 : decode prog_5_method_1_code 18 = .ok (.if_icmp .ge 22, 3) := by decide +kernel
theorem dI3_21 : decode prog_5_method_1_code 21 = .ok (.aload_n 0, 1) := by decide +kernel
theorem dI3_22 : decode prog_5_method_1_code 22 = .ok (.getfield 11, 3) := by decide +kernel
theorem dI3_25 : decode prog_5_method_1_code 25 = .ok (.iload_n 1, 1) := by decide +kernel
theorem dI3_26 : decode prog_5_method_1_code 26 = .ok (.new 9, 3) := by decide +kernel
theorem dI3_29 : decode prog_5_method_1_code 29 = .ok (.dup, 1) := by decide +kernel
theorem dI3_30 : decode prog_5_method_1_code 30 = .ok (.invokespecial 17, 3) := by decide +kernel
theorem dI3_33 : decode prog_5_method_1_code 33 = .ok (.aastore, 1) := by decide +kernel
theorem dI3_34 : decode prog_5_method_1_code 34 = .ok (.iinc 1 1, 3) := by decide +kernel
theorem dI3_37 : decode prog_5_method_1_code 37 = .ok (.goto (-22), 3) := by decide +kernel
theorem dI3_40 : decode prog_5_method_1_code 40 = .ok (.return_, 1) := by decide +kernel
theorem dI8_0 : decode prog_1_method_1_code 0 = .ok (.aload_n 0, 1) := by decide +kernel
theorem dI8_1 : decode prog_1_method_1_code 1 = .ok (.invokespecial 1, 3) := by decide +kernel
theorem dI8_4 : decode prog_1_method_1_code 4 = .ok (.aload_n 0, 1) := by decide +kernel
theorem dI8_5 : decode prog_1_method_1_code 5 = .ok (.new 7, 3) := by decide +kernel
theorem dI8_8 : decode prog_1_method_1_code 8 = .ok (.dup, 1) := by decide +kernel
theorem dI8_9 : decode prog_1_method_1_code 9 = .ok (.invokespecial 9, 3) := by decide +kernel
theorem dI8_12 : decode prog_1_method_1_code 12 = .ok (.putfield 10, 3) := by decide +kernel
theorem dI8_15 : decode prog_1_method_1_code 15 = .ok (.aload_n 0, 1) := by decide +kernel
theorem dI8_16 : decode prog_1_method_1_code 16 = .ok (.new 16, 3) := by decide +kernel
theorem dI8_19 : decode prog_1_method_1_code 19 = .ok (.dup, 1) := by decide +kernel
theorem dI8_20 : decode prog_1_method_1_code 20 = .ok (.invokespecial 18, 3) := by decide +kernel
theorem dI8_23 : decode prog_1_method_1_code 23 = .ok (.putfield 19, 3) := by decide +kernel
theorem dI8_26 : decode prog_1_method_1_code 26 = .ok (.new 23, 3) := by decide +kernel
theorem dI8_29 : decode prog_1_method_1_code 29 = .ok (.dup, 1) := by decide +kernel
theorem dI8_30 : decode prog_1_method_1_code 30 = .ok (.invokespecial 25, 3) := by decide +kernel
theorem dI8_33 : decode prog_1_method_1_code 33 = .ok (.astore_n 1, 1) := by decide +kernel
theorem dI8_34 : decode prog_1_method_1_code 34 = .ok (.aload_n 0, 1) := by decide +kernel
theorem dI8_35 : decode prog_1_method_1_code 35 = .ok (.new 26, 3) := by decide +kernel
theorem dI8_38 : decode prog_1_method_1_code 38 = .ok (.dup, 1) := by decide +kernel
theorem dI8_39 : decode prog_1_method_1_code 39 = .ok (.aload_n 0, 1) := by decide +kernel
theorem dI8_40 : decode prog_1_method_1_code 40 = .ok (.getfield 19, 3) := by decide +kernel
theorem dI8_43 : decode prog_1_method_1_code 43 = .ok (.aload_n 1, 1) := by decide +kernel
theorem dI8_44 : decode prog_1_method_1_code 44 = .ok (.invokespecial 28, 3) := by decide +kernel
theorem dI8_47 : decode prog_1_method_1_code 47 = .ok (.putfield 31, 3) := by decide +kernel
theorem dI8_50 : decode prog_1_method_1_code 50 = .ok (.aload_n 0, 1) := by decide +kernel
theorem dI8_51 : decode prog_1_method_1_code 51 = .ok (.new 35, 3) := by decide +kernel
theorem dI8_54 : decode prog_1_method_1_code 54 = .ok (.dup, 1) := by decide +kernel
theorem dI8_55 : decode prog_1_method_1_code 55 = .ok (.invokespecial 37, 3) := by decide +kernel
theorem dI8_58 : decode prog_1_method_1_code 58 = .ok (.putfield 38, 3) := by decide +kernel
theorem dI8_61 : decode prog_1_method_1_code 61 = .ok (.aload_n 0, 1) := by decide +kernel
theorem dI8_62 : decode prog_1_method_1_code 62 = .ok (.new 42, 3) := by decide +kernel
theorem dI8_65 : decode prog_1_method_1_code 65 = .ok (.dup, 1) := by decide +kernel
theorem dI8_66 : decode prog_1_method_1_code 66 = .ok (.aload_n 0, 1) := by decide +kernel
theorem dI8_67 : decode prog_1_method_1_code 67 = .ok (.getfield 19, 3) := by decide +kernel
theorem dI8_70 : decode prog_1_method_1_code 70 = .ok (.aload_n 1, 1) := by decide +kernel
theorem dI8_71 : decode prog_1_method_1_code 71 = .ok (.invokespecial 44, 3) := by decide +kernel
theorem dI8_74 : decode prog_1_method_1_code 74 = .ok (.putfield 45, 3) := by decide +kernel
theorem dI8_77 : decode prog_1_method_1_code 77 = .ok (.aload_n 0, 1) := by decide +kernel
theorem dI8_78 : decode prog_1_method_1_code 78 = .ok (.new 49, 3) := by decide +kernel
theorem dI8_81 : decode prog_1_method_1_code 81 = .ok (.dup, 1) := by decide +kernel
theorem dI8_82 : decode prog_1_method_1_code 82 = .ok (.aload_n 1, 1) := by decide +kernel
theorem dI8_83 : decode prog_1_method_1_code 83 = .ok (.invokespecial 51, 3) := by decide +kernel
theorem dI8_86 : decode prog_1_method_1_code 86 = .ok (.putfield 54, 3) := by decide +kernel
theorem dI8_89 : decode prog_1_method_1_code 89 = .ok (.aload_n 0, 1) := by decide +kernel
theorem dI8_90 : decode prog_1_method_1_code 90 = .ok (.new 58, 3) := by decide +kernel
theorem dI8_93 : decode prog_1_method_1_code 93 = .ok (.dup, 1) := by decide +kernel
theorem dI8_94 : decode prog_1_method_1_code 94 = .ok (.invokespecial 60, 3) := by decide +kernel
theorem dI8_97 : decode prog_1_method_1_code 97 = .ok (.putfield 61, 3) := by decide +kernel
theorem dI8_100 : decode prog_1_method_1_code 100 = .ok (.aload_n 0, 1) := by decide +kernel
theorem dI8_101 : decode prog_1_method_1_code 101 = .ok (.iconst 0, 1) := by decide +kernel
theorem dI8_102 : decode prog_1_method_1_code 102 = .ok (.putfield 65, 3) := by decide +kernel
theorem dI8_105 : decode prog_1_method_1_code 105 = .ok (.return_, 1) := by decide +kernel
theorem dI9_0 : decode prog_11_method_1_code 0 = .ok (.aload_n 0, 1) := by decide +kernel
theorem dI9_1 : decode prog_11_method_1_code 1 = .ok (.invokespecial 1, 3) := by decide +kernel
theorem dI9_4 : decode prog_11_method_1_code 4 = .ok (.aload_n 0, 1) := by decide +kernel
theorem dI9_5 : decode prog_11_method_1_code 5 = .ok (.bipush 6, 2) := by decide +kernel
theorem dI9_7 : decode prog_11_method_1_code 7 = .ok (.putfield 7, 3) := by decide +kernel
theorem dI9_10 : decode prog_11_method_1_code 10 = .ok (.aload_n 0, 1) := by decide +kernel
theorem dI9_11 : decode prog_11_method_1_code 11 = .ok (.iconst 2, 1) := by decide +kernel
theorem dI9_12 : decode prog_11_method_1_code 12 = .ok (.putfield 13, 3) := by decide +kernel
theorem dI9_15 : decode prog_11_method_1_code 15 = .ok (.aload_n 0, 1) := by decide +kernel
theorem dI9_16 : decode prog_11_method_1_code 16 = .ok (.iconst 3, 1) := by decide +kernel
theorem dI9_17 : decode prog_11_method_1_code 17 = .ok (.newarray .int, 2) := by decide +kernel
theorem dI9_19 : decode prog_11_method_1_code 19 = .ok (.putfield 16, 3) := by decide +kernel
theorem dI9_22 : decode prog_11_method_1_code 22 = .ok (.aload_n 0, 1) := by decide +kernel
theorem dI9_23 : decode prog_11_method_1_code 23 = .ok (.iconst 3, 1) := by decide +kernel
theorem dI9_24 : decode prog_11_method_1_code 24 = .ok (.newarray .int, 2) := by decide +kernel
theorem dI9_26 : decode prog_11_method_1_code 26 = .ok (.putfield 20, 3) := by decide +kernel
theorem dI9_29 : decode prog_11_method_1_code 29 = .ok (.aload_n 0, 1) := by decide +kernel
theorem dI9_30 : decode prog_11_method_1_code 30 = .ok (.bipush 66, 2) := by decide +kernel
theorem dI9_32 : decode prog_11_method_1_code 32 = .ok (.newarray .int, 2) := by decide +kernel
theorem dI9_34 : decode prog_11_method_1_code 34 = .ok (.putfield 23, 3) := by decide +kernel
theorem dI9_37 : decode prog_11_method_1_code 37 = .ok (.aload_n 0, 1) := by decide +kernel
theorem dI9_38 : decode prog_11_method_1_code 38 = .ok (.sipush 444, 3) := by decide +kernel
theorem dI9_41 : decode prog_11_method_1_code 41 = .ok (.newarray .int, 2) := by decide +kernel
theorem dI9_43 : decode prog_11_method_1_code 43 = .ok (.putfield 26, 3) := by decide +kernel
theorem dI9_46 : decode prog_11_method_1_code 46 = .ok (.aload_n 0, 1) := by decide +kernel
theorem dI9_47 : decode prog_11_method_1_code 47 = .ok (.bipush 8, 2) := by decide +kernel
theorem dI9_49 : decode prog_11_method_1_code 49 = .ok (.newarray .int, 2) := by decide +kernel
theorem dI9_51 : decode prog_11_method_1_code 51 = .ok (.putfield 29, 3) := by decide +kernel
theorem dI9_54 : decode prog_11_method_1_code 54 = .ok (.aload_n 0, 1) := by decide +kernel
theorem dI9_55 : decode prog_11_method_1_code 55 = .ok (.bipush 20, 2) := by decide +kernel
theorem dI9_57 : decode prog_11_method_1_code 57 = .ok (.newarray .int, 2) := by decide +kernel
theorem dI9_59 : decode prog_11_method_1_code 59 = .ok (.putfield 32, 3) := by decide +kernel
theorem dI9_62 : decode prog_11_method_1_code 62 = .ok (.aload_n 0, 1) := by decide +kernel
theorem dI9_63 : decode prog_11_method_1_code 63 = .ok (.bipush 8, 2) := by decide +kernel
theorem dI9_65 : decode prog_11_method_1_code 65 = .ok (.newarray .int, 2) := by decide +kernel
theorem dI9_67 : decode prog_11_method_1_code 67 = .ok (.putfield 35, 3) := by decide +kernel
theorem dI9_70 : decode prog_11_method_1_code 70 = .ok (.aload_n 0, 1) := by decide +kernel
theorem dI9_71 : decode prog_11_method_1_code 71 = .ok (.bipush 66, 2) := by decide +kernel
theorem dI9_73 : decode prog_11_method_1_code 73 = .ok (.newarray .int, 2) := by decide +kernel
theorem dI9_75 : decode prog_11_method_1_code 75 = .ok (.putfield 38, 3) := by decide +kernel
theorem dI9_78 : decode prog_11_method_1_code 78 = .ok (.aload_n 0, 1) := by decide +kernel
theorem dI9_79 : decode prog_11_method_1_code 79 = .ok (.bipush 66, 2) := by decide +kernel
theorem dI9_81 : decode prog_11_method_1_code 81 = .ok (.newarray .int, 2) := by decide +kernel
theorem dI9_83 : decode prog_11_method_1_code 83 = .ok (.putfield 41, 3) := by decide +kernel
theorem dI9_86 : decode prog_11_method_1_code 86 = .ok (.aload_n 0, 1) := by decide +kernel
theorem dI9_87 : decode prog_11_method_1_code 87 = .ok (.bipush 66, 2) := by decide +kernel
theorem dI9_89 : decode prog_11_method_1_code 89 = .ok (.newarray .int, 2) := by decide +kernel
theorem dI9_91 : decode prog_11_method_1_code 91 = .ok (.putfield 44, 3) := by decide +kernel
theorem dI9_94 : decode prog_11_method_1_code 94 = .ok (.aload_n 0, 1) := by decide +kernel
theorem dI9_95 : decode prog_11_method_1_code 95 = .ok (.bipush 66, 2) := by decide +kernel
theorem dI9_97 : decode prog_11_method_1_code 97 = .ok (.newarray .int, 2) := by decide +kernel
theorem dI9_99 : decode prog_11_method_1_code 99 = .ok (.putfield 47, 3) := by decide +kernel
theorem dI9_102 : decode prog_11_method_1_code 102 = .ok (.aload_n 0, 1) := by decide +kernel
theorem dI9_103 : decode prog_11_method_1_code 103 = .ok (.ldc 50, 2) := by decide +kernel
theorem dI9_105 : decode prog_11_method_1_code 105 = .ok (.newarray .boolean, 2) := by decide +kernel
theorem dI9_107 : decode prog_11_method_1_code 107 = .ok (.putfield 51, 3) := by decide +kernel
theorem dI9_110 : decode prog_11_method_1_code 110 = .ok (.aload_n 0, 1) := by decide +kernel
theorem dI9_111 : decode prog_11_method_1_code 111 = .ok (.bipush 12, 2) := by decide +kernel
theorem dI9_113 : decode prog_11_method_1_code 113 = .ok (.newarray .int, 2) := by decide +kernel
theorem dI9_115 : decode prog_11_method_1_code 115 = .ok (.putfield 55, 3) := by decide +kernel
theorem dI9_118 : decode prog_11_method_1_code 118 = .ok (.aload_n 0, 1) := by decide +kernel
theorem dI9_119 : decode prog_11_method_1_code 119 = .ok (.bipush 66, 2) := by decide +kernel
theorem dI9_121 : decode prog_11_method_1_code 121 = .ok (.newarray .int, 2) := by decide +kernel
theorem dI9_123 : decode prog_11_method_1_code 123 = .ok (.putfield 58, 3) := by decide +kernel
theorem dI9_126 : decode prog_11_method_1_code 126 = .ok (.aload_n 0, 1) := by decide +kernel
theorem dI9_127 : decode prog_11_method_1_code 127 = .ok (.bipush 12, 2) := by decide +kernel
theorem dI9_129 : decode prog_11_method_1_code 129 = .ok (.newarray .int, 2) := by decide +kernel
theorem dI9_131 : decode prog_11_method_1_code 131 = .ok (.putfield 61, 3) := by decide +kernel
theorem dI9_134 : decode prog_11_method_1_code 134 = .ok (.aload_n 0, 1) := by decide +kernel
theorem dI9_135 : decode prog_11_method_1_code 135 = .ok (.sipush 1500, 3) := by decide +kernel
theorem dI9_138 : decode prog_11_method_1_code 138 = .ok (.newarray .int, 2) := by decide +kernel
theorem dI9_140 : decode prog_11_method_1_code 140 = .ok (.putfield 64, 3) := by decide +kernel
theorem dI9_143 : decode prog_11_method_1_code 143 = .ok (.aload_n 0, 1) := by decide +kernel
theorem dI9_144 : decode prog_11_method_1_code 144 = .ok (.sipush 198, 3) := by decide +kernel
theorem dI9_147 : decode prog_11_method_1_code 147 = .ok (.newarray .int, 2) := by decide +kernel
theorem dI9_149 : decode prog_11_method_1_code 149 = .ok (.putfield 67, 3) := by decide +kernel
theorem dI9_152 : decode prog_11_method_1_code 152 = .ok (.aload_n 0, 1) := by decide +kernel
theorem dI9_153 : decode prog_11_method_1_code 153 = .ok (.invokevirtual 70, 3) := by decide +kernel
theorem dI9_156 : decode prog_11_method_1_code 156 = .ok (.return_, 1) := by decide +kernel
