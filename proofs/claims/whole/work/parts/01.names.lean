-- ===== PART A: goes FIRST, ahead of the names: the tables' words, and 'selects' of the private methods out of them =====
/-- a private method of a class that the tables say can be made, by its rows of tables_1 -/
def lw_okq (q : MethodName × Nat) : Prop := (q.1.cls ≠ "java/lang/invoke/MethodHandle" ∧ q.1.cls ≠ "java/lang/invoke/VarHandle") ∧ Cond.instantiable q.1.cls q.2 ∈ tables_1 ∧ Cond.privateMethod q.1 ∈ tables_1 ∧ Cond.instanceMethod q.1 ∈ tables_1
theorem lw_p0 : lw_okq (⟨"BlockVault", "commit", "()Z"⟩, 5) := ⟨⟨by decide +kernel, by decide +kernel⟩, List.mem_of_getElem? (i := 12) (by decide +kernel), List.mem_of_getElem? (i := 163) (by decide +kernel), List.mem_of_getElem? (i := 164) (by decide +kernel)⟩
theorem lw_p1 : lw_okq (⟨"BlockVault$Log", "copyHeld", "(LBlockVault$Cache;LBlockVault$Disk;)Z"⟩, 3) := ⟨⟨by decide +kernel, by decide +kernel⟩, List.mem_of_getElem? (i := 109) (by decide +kernel), List.mem_of_getElem? (i := 171) (by decide +kernel), List.mem_of_getElem? (i := 172) (by decide +kernel)⟩
theorem lw_p2 : lw_okq (⟨"BlockVault", "isBlock", "(I)Z"⟩, 5) := ⟨⟨by decide +kernel, by decide +kernel⟩, List.mem_of_getElem? (i := 12) (by decide +kernel), List.mem_of_getElem? (i := 234) (by decide +kernel), List.mem_of_getElem? (i := 235) (by decide +kernel)⟩
theorem lw_p3 : lw_okq (⟨"BlockVault$Cache", "rowToGive", "()LBlockVault$Row;"⟩, 3) := ⟨⟨by decide +kernel, by decide +kernel⟩, List.mem_of_getElem? (i := 56) (by decide +kernel), List.mem_of_getElem? (i := 246) (by decide +kernel), List.mem_of_getElem? (i := 247) (by decide +kernel)⟩
theorem lw_p4 : lw_okq (⟨"BlockVault", "stepTakes", "(I)Z"⟩, 5) := ⟨⟨by decide +kernel, by decide +kernel⟩, List.mem_of_getElem? (i := 12) (by decide +kernel), List.mem_of_getElem? (i := 261) (by decide +kernel), List.mem_of_getElem? (i := 262) (by decide +kernel)⟩
theorem lw_p5 : lw_okq (⟨"BlockVaultModel", "commit", "()Z"⟩, 15) := ⟨⟨by decide +kernel, by decide +kernel⟩, List.mem_of_getElem? (i := 315) (by decide +kernel), List.mem_of_getElem? (i := 381) (by decide +kernel), List.mem_of_getElem? (i := 382) (by decide +kernel)⟩
theorem lw_p6 : lw_okq (⟨"BlockVaultModel", "written", "(I)Z"⟩, 15) := ⟨⟨by decide +kernel, by decide +kernel⟩, List.mem_of_getElem? (i := 315) (by decide +kernel), List.mem_of_getElem? (i := 385) (by decide +kernel), List.mem_of_getElem? (i := 386) (by decide +kernel)⟩
theorem lw_p7 : lw_okq (⟨"BlockVaultModel", "ended", "()Z"⟩, 15) := ⟨⟨by decide +kernel, by decide +kernel⟩, List.mem_of_getElem? (i := 315) (by decide +kernel), List.mem_of_getElem? (i := 389) (by decide +kernel), List.mem_of_getElem? (i := 390) (by decide +kernel)⟩
theorem lw_p8 : lw_okq (⟨"BlockVaultModel", "isBlock", "(I)Z"⟩, 15) := ⟨⟨by decide +kernel, by decide +kernel⟩, List.mem_of_getElem? (i := 315) (by decide +kernel), List.mem_of_getElem? (i := 401) (by decide +kernel), List.mem_of_getElem? (i := 402) (by decide +kernel)⟩
theorem lw_p9 : lw_okq (⟨"BlockVaultModel", "look", "(I)V"⟩, 15) := ⟨⟨by decide +kernel, by decide +kernel⟩, List.mem_of_getElem? (i := 315) (by decide +kernel), List.mem_of_getElem? (i := 405) (by decide +kernel), List.mem_of_getElem? (i := 406) (by decide +kernel)⟩
def lw_privs_1 : List (MethodName × Nat) := [(⟨"BlockVault", "commit", "()Z"⟩, 5), (⟨"BlockVault$Log", "copyHeld", "(LBlockVault$Cache;LBlockVault$Disk;)Z"⟩, 3), (⟨"BlockVault", "isBlock", "(I)Z"⟩, 5), (⟨"BlockVault$Cache", "rowToGive", "()LBlockVault$Row;"⟩, 3), (⟨"BlockVault", "stepTakes", "(I)Z"⟩, 5), (⟨"BlockVaultModel", "commit", "()Z"⟩, 15), (⟨"BlockVaultModel", "written", "(I)Z"⟩, 15), (⟨"BlockVaultModel", "ended", "()Z"⟩, 15), (⟨"BlockVaultModel", "isBlock", "(I)Z"⟩, 15), (⟨"BlockVaultModel", "look", "(I)V"⟩, 15)]
theorem lw_r1 : ∀ q ∈ lw_privs_1, lw_okq q := List.forall_mem_cons.mpr ⟨lw_p0, List.forall_mem_cons.mpr ⟨lw_p1, List.forall_mem_cons.mpr ⟨lw_p2, List.forall_mem_cons.mpr ⟨lw_p3, List.forall_mem_cons.mpr ⟨lw_p4, List.forall_mem_cons.mpr ⟨lw_p5, List.forall_mem_cons.mpr ⟨lw_p6, List.forall_mem_cons.mpr ⟨lw_p7, List.forall_mem_cons.mpr ⟨lw_p8, List.forall_mem_cons.mpr ⟨lw_p9, fun _ h => absurd h List.not_mem_nil⟩⟩⟩⟩⟩⟩⟩⟩⟩⟩
def lw_privs : List (MethodName × Nat) := lw_privs_1
def lw_tbl : List Cond := k2_sels lw_privs ++ tables_1
theorem lw_privs_ok : ∀ q ∈ lw_privs, lw_okq q := lw_r1
/-! the words that stay good: one list for every method -/
def WG : List Cond := lw_tbl.filter goodWord
theorem mg {w : Cond} (i : Nat) (h : lw_tbl[i]? = some w) (g : goodWord w = true) : w ∈ WG := List.mem_filter.mpr ⟨List.mem_of_getElem? h, g⟩
theorem mgs {ws : List Cond} (h : ws.all (fun w => decide (w ∈ lw_tbl) && goodWord w) = true) : ∀ w ∈ ws, w ∈ WG := fun w hw => by
  have h1 := List.all_eq_true.mp h w hw
  rw [Bool.and_eq_true] at h1
  exact List.mem_filter.mpr ⟨of_decide_eq_true h1.1, h1.2⟩
theorem WG_good {w : Cond} (h : w ∈ WG) : (w.onTables && w.keeps) = true ∨ ∃ ty, w = .arrayClass ty := good_of_word (List.mem_filter.mp h).2
theorem gI {c : Cond} (hc : c ∈ WG) : GoodIn WG (c :: WG) := fun w h => (List.mem_cons.mp h).elim (fun e => by rw [e]; exact ⟨hc, WG_good hc⟩) (fun h => ⟨h, WG_good h⟩)
theorem gA {a b : List Cond} (ha : ∀ w ∈ a, w ∈ WG) (hb : GoodIn WG b) : GoodIn WG (a ++ b) := fun w h => (List.mem_append.mp h).elim (fun h => ⟨ha w h, WG_good (ha w h)⟩) (hb w)
theorem gV {own C : String} {idx : Nat} {y : MethodName} {c : Cond} (h1 : Cond.methodLink own idx y ∈ WG) (h2 : Cond.instanceMethod y ∈ WG) (h3 : Cond.selects C y y ∈ WG) (h4 : Cond.initialized C ∈ WG) (hc : c ∈ WG) : GoodIn WG (wsV own idx C y (c :: WG)) := gA (fun w h => by
  simp only [List.mem_cons, List.not_mem_nil, or_false] at h
  rcases h with rfl | rfl | rfl | rfl
  · exact h1
  · exact h2
  · exact h3
  · exact h4) (gI hc)
theorem gS {own : String} {idx : Nat} {y : MethodName} {c : Cond} (h1 : Cond.methodLink own idx y ∈ WG) (h2 : Cond.static y ∈ WG) (h4 : Cond.initialized y.cls ∈ WG) (hc : c ∈ WG) : GoodIn WG (va_wsS own idx y (c :: WG)) := gA (fun w h => by
  simp only [List.mem_cons, List.not_mem_nil, or_false] at h
  rcases h with rfl | rfl | rfl
  · exact h1
  · exact h2
  · exact h4) (gI hc)
def T_C : u_T := fun k => match k with
  | 0 => ("BlockVault$Cache", "rows", "[LBlockVault$Row;", true)
  | 1 => ("BlockVault$Cache", "uses", "I", false)
  | _ => ("BlockVault$Cache", "reads", "I", false)
def t_C : Nat → FieldType := fun k => match k with
  | 0 => .array (.object "BlockVault$Row")
  | 1 => .int
  | _ => .int
theorem n_C : ∀ a, a < 3 → ∀ b, b < 3 → a ≠ b → (T_C a).2.1 ≠ (T_C b).2.1 := by decide +kernel
theorem t_C_ok : ∀ k, k < 3 → parseFieldDescriptor (T_C k).2.2.1 = some (t_C k) := by decide +kernel
set_option maxRecDepth 20000 in
theorem in_C : ∀ w ∈ u_ws "BlockVault$Cache" T_C 3, w ∈ WG := mgs (by decide +kernel)
def T_D : u_T := fun k => match k with
  | 0 => ("BlockVault$Disk", "pages", "[LBlockVault$Page;", true)
  | 1 => ("BlockVault$Disk", "on", "Z", false)
  | 2 => ("BlockVault$Disk", "writesLeft", "I", false)
  | _ => ("BlockVault$Disk", "writes", "I", false)
def t_D : Nat → FieldType := fun k => match k with
  | 0 => .array (.object "BlockVault$Page")
  | 1 => .boolean
  | 2 => .int
  | _ => .int
theorem n_D : ∀ a, a < 4 → ∀ b, b < 4 → a ≠ b → (T_D a).2.1 ≠ (T_D b).2.1 := by decide +kernel
theorem t_D_ok : ∀ k, k < 4 → parseFieldDescriptor (T_D k).2.2.1 = some (t_D k) := by decide +kernel
set_option maxRecDepth 20000 in
theorem in_D : ∀ w ∈ u_ws "BlockVault$Disk" T_D 4, w ∈ WG := mgs (by decide +kernel)
def T_L : u_T := fun k => match k with
  | 0 => ("BlockVault$Log", "head", "LBlockVault$Page;", true)
  | 1 => ("BlockVault$Log", "carried", "LBlockVault$Page;", true)
  | _ => ("BlockVault$Log", "commits", "I", false)
def t_L : Nat → FieldType := fun k => match k with
  | 0 => .object "BlockVault$Page"
  | 1 => .object "BlockVault$Page"
  | _ => .int
theorem n_L : ∀ a, a < 3 → ∀ b, b < 3 → a ≠ b → (T_L a).2.1 ≠ (T_L b).2.1 := by decide +kernel
theorem t_L_ok : ∀ k, k < 3 → parseFieldDescriptor (T_L k).2.2.1 = some (t_L k) := by decide +kernel
set_option maxRecDepth 20000 in
theorem in_L : ∀ w ∈ u_ws "BlockVault$Log" T_L 3, w ∈ WG := mgs (by decide +kernel)
def T_P : u_T := fun k => match k with
  | _ => ("BlockVault$Page", "bytes", "[B", false)
def t_P : Nat → FieldType := fun k => match k with
  | _ => .array .byte
theorem n_P : ∀ a, a < 1 → ∀ b, b < 1 → a ≠ b → (T_P a).2.1 ≠ (T_P b).2.1 := by decide +kernel
theorem t_P_ok : ∀ k, k < 1 → parseFieldDescriptor (T_P k).2.2.1 = some (t_P k) := by decide +kernel
set_option maxRecDepth 20000 in
theorem in_P : ∀ w ∈ u_ws "BlockVault$Page" T_P 1, w ∈ WG := mgs (by decide +kernel)
def T_R : u_T := fun k => match k with
  | 0 => ("BlockVault$Row", "page", "LBlockVault$Page;", true)
  | 1 => ("BlockVault$Row", "block", "I", false)
  | 2 => ("BlockVault$Row", "lastUse", "I", false)
  | 3 => ("BlockVault$Row", "held", "Z", false)
  | _ => ("BlockVault$Row", "inStep", "Z", false)
def t_R : Nat → FieldType := fun k => match k with
  | 0 => .object "BlockVault$Page"
  | 1 => .int
  | 2 => .int
  | 3 => .boolean
  | _ => .boolean
theorem n_R : ∀ a, a < 5 → ∀ b, b < 5 → a ≠ b → (T_R a).2.1 ≠ (T_R b).2.1 := by decide +kernel
theorem t_R_ok : ∀ k, k < 5 → parseFieldDescriptor (T_R k).2.2.1 = some (t_R k) := by decide +kernel
set_option maxRecDepth 20000 in
theorem in_R : ∀ w ∈ u_ws "BlockVault$Row" T_R 5, w ∈ WG := mgs (by decide +kernel)
def T_V : u_T := fun k => match k with
  | 0 => ("BlockVault", "blocks", "I", true)
  | 1 => ("BlockVault", "disk", "LBlockVault$Disk;", true)
  | 2 => ("BlockVault", "cache", "LBlockVault$Cache;", true)
  | 3 => ("BlockVault", "log", "LBlockVault$Log;", true)
  | _ => ("BlockVault", "stepOpen", "Z", false)
def t_V : Nat → FieldType := fun k => match k with
  | 0 => .int
  | 1 => .object "BlockVault$Disk"
  | 2 => .object "BlockVault$Cache"
  | 3 => .object "BlockVault$Log"
  | _ => .boolean
theorem n_V : ∀ a, a < 5 → ∀ b, b < 5 → a ≠ b → (T_V a).2.1 ≠ (T_V b).2.1 := by decide +kernel
theorem t_V_ok : ∀ k, k < 5 → parseFieldDescriptor (T_V k).2.2.1 = some (t_V k) := by decide +kernel
set_option maxRecDepth 20000 in
theorem in_V : ∀ w ∈ u_ws "BlockVault" T_V 5, w ∈ WG := mgs (by decide +kernel)
def T_M : u_T := fun k => match k with
  | 0 => ("BlockVaultModel", "thrown", "I", false)
  | 1 => ("BlockVaultModel", "blocks", "I", true)
  | 2 => ("BlockVaultModel", "safe", "[B", true)
  | 3 => ("BlockVaultModel", "now", "[B", true)
  | 4 => ("BlockVaultModel", "held", "[Z", true)
  | 5 => ("BlockVaultModel", "changed", "[Z", true)
  | 6 => ("BlockVaultModel", "stamp", "[I", true)
  | 7 => ("BlockVaultModel", "time", "I", false)
  | 8 => ("BlockVaultModel", "on", "Z", false)
  | 9 => ("BlockVaultModel", "open", "Z", false)
  | 10 => ("BlockVaultModel", "left", "I", false)
  | 11 => ("BlockVaultModel", "writes", "I", false)
  | 12 => ("BlockVaultModel", "reads", "I", false)
  | 13 => ("BlockVaultModel", "commits", "I", false)
  | _ => ("BlockVaultModel", "unended", "I", false)
def t_M : Nat → FieldType := fun k => match k with
  | 0 => .int
  | 1 => .int
  | 2 => .array .byte
  | 3 => .array .byte
  | 4 => .array .boolean
  | 5 => .array .boolean
  | 6 => .array .int
  | 7 => .int
  | 8 => .boolean
  | 9 => .boolean
  | 10 => .int
  | 11 => .int
  | 12 => .int
  | 13 => .int
  | _ => .int
theorem n_M : ∀ a, a < 15 → ∀ b, b < 15 → a ≠ b → (T_M a).2.1 ≠ (T_M b).2.1 := by decide +kernel
theorem t_M_ok : ∀ k, k < 15 → parseFieldDescriptor (T_M k).2.2.1 = some (t_M k) := by decide +kernel
set_option maxRecDepth 20000 in
theorem in_M : ∀ w ∈ u_ws "BlockVaultModel" T_M 15, w ∈ WG := mgs (by decide +kernel)
abbrev vwCl : List vw_C := [("BlockVault$Cache", T_C, 3), ("BlockVault$Disk", T_D, 4), ("BlockVault$Log", T_L, 3), ("BlockVault$Page", T_P, 1), ("BlockVault$Row", T_R, 5), ("BlockVault", T_V, 5), ("BlockVaultModel", T_M, 15)]
abbrev c_V_init : ByteArray := prog_1_method_1_code
def y_V_init : MethodName := ⟨"BlockVault", "<init>", "(I)V"⟩
abbrev w_V_init : List Cond := Cond.code y_V_init c_V_init 2 none :: WG
set_option maxRecDepth 20000 in
theorem kc_V_init : Cond.code y_V_init c_V_init 2 none ∈ WG := mg 25 (by decide +kernel) (by decide +kernel)
abbrev c_D_init : ByteArray := prog_3_method_1_code
def y_D_init : MethodName := ⟨"BlockVault$Disk", "<init>", "()V"⟩
abbrev w_D_init : List Cond := Cond.code y_D_init c_D_init 2 none :: WG
set_option maxRecDepth 20000 in
theorem kc_D_init : Cond.code y_D_init c_D_init 2 none ∈ WG := mg 39 (by decide +kernel) (by decide +kernel)
abbrev c_P_init : ByteArray := prog_5_method_1_code
def y_P_init : MethodName := ⟨"BlockVault$Page", "<init>", "()V"⟩
abbrev w_P_init : List Cond := Cond.code y_P_init c_P_init 1 none :: WG
set_option maxRecDepth 20000 in
theorem kc_P_init : Cond.code y_P_init c_P_init 1 none ∈ WG := mg 46 (by decide +kernel) (by decide +kernel)
abbrev c_C_init : ByteArray := prog_2_method_1_code
def y_C_init : MethodName := ⟨"BlockVault$Cache", "<init>", "()V"⟩
abbrev w_C_init : List Cond := Cond.code y_C_init c_C_init 2 none :: WG
set_option maxRecDepth 20000 in
theorem kc_C_init : Cond.code y_C_init c_C_init 2 none ∈ WG := mg 69 (by decide +kernel) (by decide +kernel)
abbrev c_R_init : ByteArray := prog_6_method_1_code
def y_R_init : MethodName := ⟨"BlockVault$Row", "<init>", "()V"⟩
abbrev w_R_init : List Cond := Cond.code y_R_init c_R_init 1 none :: WG
set_option maxRecDepth 20000 in
theorem kc_R_init : Cond.code y_R_init c_R_init 1 none ∈ WG := mg 76 (by decide +kernel) (by decide +kernel)
abbrev c_L_init : ByteArray := prog_4_method_1_code
def y_L_init : MethodName := ⟨"BlockVault$Log", "<init>", "()V"⟩
abbrev w_L_init : List Cond := Cond.code y_L_init c_L_init 1 none :: WG
set_option maxRecDepth 20000 in
theorem kc_L_init : Cond.code y_L_init c_L_init 1 none ∈ WG := mg 122 (by decide +kernel) (by decide +kernel)
abbrev c_V_begin : ByteArray := prog_1_method_2_code
def y_V_begin : MethodName := ⟨"BlockVault", "begin", "()Z"⟩
abbrev w_V_begin : List Cond := Cond.code y_V_begin c_V_begin 1 (some FieldType.boolean) :: WG
set_option maxRecDepth 20000 in
theorem kc_V_begin : Cond.code y_V_begin c_V_begin 1 (some FieldType.boolean) ∈ WG := mg 155 (by decide +kernel) (by decide +kernel)
abbrev c_D_isOn : ByteArray := prog_3_method_2_code
def y_D_isOn : MethodName := ⟨"BlockVault$Disk", "isOn", "()Z"⟩
abbrev w_D_isOn : List Cond := Cond.code y_D_isOn c_D_isOn 1 (some FieldType.boolean) :: WG
set_option maxRecDepth 20000 in
theorem kc_D_isOn : Cond.code y_D_isOn c_D_isOn 1 (some FieldType.boolean) ∈ WG := mg 159 (by decide +kernel) (by decide +kernel)
abbrev c_V_end : ByteArray := prog_1_method_3_code
def y_V_end : MethodName := ⟨"BlockVault", "end", "()I"⟩
abbrev w_V_end : List Cond := Cond.code y_V_end c_V_end 2 (some FieldType.int) :: WG
set_option maxRecDepth 20000 in
theorem kc_V_end : Cond.code y_V_end c_V_end 2 (some FieldType.int) ∈ WG := mg 163 (by decide +kernel) (by decide +kernel)
abbrev c_C_closeStep : ByteArray := prog_2_method_8_code
def y_C_closeStep : MethodName := ⟨"BlockVault$Cache", "closeStep", "()V"⟩
abbrev w_C_closeStep : List Cond := Cond.code y_C_closeStep c_C_closeStep 5 none :: WG
set_option maxRecDepth 20000 in
theorem kc_C_closeStep : Cond.code y_C_closeStep c_C_closeStep 5 none ∈ WG := mg 167 (by decide +kernel) (by decide +kernel)
abbrev c_C_heldRows : ByteArray := prog_2_method_6_code
def y_C_heldRows : MethodName := ⟨"BlockVault$Cache", "heldRows", "()I"⟩
abbrev w_C_heldRows : List Cond := Cond.code y_C_heldRows c_C_heldRows 6 (some FieldType.int) :: WG
set_option maxRecDepth 20000 in
theorem kc_C_heldRows : Cond.code y_C_heldRows c_C_heldRows 6 (some FieldType.int) ∈ WG := mg 171 (by decide +kernel) (by decide +kernel)
abbrev c_V_commit : ByteArray := prog_1_method_15_code
def y_V_commit : MethodName := ⟨"BlockVault", "commit", "()Z"⟩
abbrev w_V_commit : List Cond := Cond.code y_V_commit c_V_commit 1 (some FieldType.boolean) :: WG
set_option maxRecDepth 20000 in
theorem kc_V_commit : Cond.code y_V_commit c_V_commit 1 (some FieldType.boolean) ∈ WG := mg 175 (by decide +kernel) (by decide +kernel)
abbrev c_L_bringOut : ByteArray := prog_4_method_3_code
def y_L_bringOut : MethodName := ⟨"BlockVault$Log", "bringOut", "(LBlockVault$Cache;LBlockVault$Disk;)Z"⟩
abbrev w_L_bringOut : List Cond := Cond.code y_L_bringOut c_L_bringOut 3 (some FieldType.boolean) :: WG
set_option maxRecDepth 20000 in
theorem kc_L_bringOut : Cond.code y_L_bringOut c_L_bringOut 3 (some FieldType.boolean) ∈ WG := mg 179 (by decide +kernel) (by decide +kernel)
abbrev c_L_copyHeld : ByteArray := prog_4_method_4_code
def y_L_copyHeld : MethodName := ⟨"BlockVault$Log", "copyHeld", "(LBlockVault$Cache;LBlockVault$Disk;)Z"⟩
abbrev w_L_copyHeld : List Cond := Cond.code y_L_copyHeld c_L_copyHeld 8 (some FieldType.boolean) :: WG
set_option maxRecDepth 20000 in
theorem kc_L_copyHeld : Cond.code y_L_copyHeld c_L_copyHeld 8 (some FieldType.boolean) ∈ WG := mg 183 (by decide +kernel) (by decide +kernel)
abbrev c_P_putRun : ByteArray := prog_5_method_3_code
def y_P_putRun : MethodName := ⟨"BlockVault$Page", "putRun", "(III)V"⟩
abbrev w_P_putRun : List Cond := Cond.code y_P_putRun c_P_putRun 5 none :: WG
set_option maxRecDepth 20000 in
theorem kc_P_putRun : Cond.code y_P_putRun c_P_putRun 5 none ∈ WG := mg 187 (by decide +kernel) (by decide +kernel)
abbrev c_V_isRun : ByteArray := prog_1_method_13_code
def y_V_isRun : MethodName := ⟨"BlockVault", "isRun", "(II)Z"⟩
abbrev w_V_isRun : List Cond := Cond.code y_V_isRun c_V_isRun 2 (some FieldType.boolean) :: WG
set_option maxRecDepth 20000 in
theorem kc_V_isRun : Cond.code y_V_isRun c_V_isRun 2 (some FieldType.boolean) ∈ WG := mg 190 (by decide +kernel) (by decide +kernel)
abbrev c_D_write : ByteArray := prog_3_method_7_code
def y_D_write : MethodName := ⟨"BlockVault$Disk", "write", "(ILBlockVault$Page;)Z"⟩
abbrev w_D_write : List Cond := Cond.code y_D_write c_D_write 3 (some FieldType.boolean) :: WG
set_option maxRecDepth 20000 in
theorem kc_D_write : Cond.code y_D_write c_D_write 3 (some FieldType.boolean) ∈ WG := mg 194 (by decide +kernel) (by decide +kernel)
abbrev c_P_copyFrom : ByteArray := prog_5_method_4_code
def y_P_copyFrom : MethodName := ⟨"BlockVault$Page", "copyFrom", "(LBlockVault$Page;)V"⟩
abbrev w_P_copyFrom : List Cond := Cond.code y_P_copyFrom c_P_copyFrom 2 none :: WG
set_option maxRecDepth 20000 in
theorem kc_P_copyFrom : Cond.code y_P_copyFrom c_P_copyFrom 2 none ∈ WG := mg 198 (by decide +kernel) (by decide +kernel)
abbrev c_P_makeZero : ByteArray := prog_5_method_5_code
def y_P_makeZero : MethodName := ⟨"BlockVault$Page", "makeZero", "()V"⟩
abbrev w_P_makeZero : List Cond := Cond.code y_P_makeZero c_P_makeZero 1 none :: WG
set_option maxRecDepth 20000 in
theorem kc_P_makeZero : Cond.code y_P_makeZero c_P_makeZero 1 none ∈ WG := mg 202 (by decide +kernel) (by decide +kernel)
abbrev c_A_fill : ByteArray := prog_11_method_109_code
def y_A_fill : MethodName := ⟨"java/util/Arrays", "fill", "([BB)V"⟩
abbrev w_A_fill : List Cond := Cond.code y_A_fill c_A_fill 4 none :: WG
set_option maxRecDepth 20000 in
theorem kc_A_fill : Cond.code y_A_fill c_A_fill 4 none ∈ WG := mg 205 (by decide +kernel) (by decide +kernel)
abbrev c_L_bringHome : ByteArray := prog_4_method_5_code
def y_L_bringHome : MethodName := ⟨"BlockVault$Log", "bringHome", "(LBlockVault$Disk;)I"⟩
abbrev w_L_bringHome : List Cond := Cond.code y_L_bringHome c_L_bringHome 4 (some FieldType.int) :: WG
set_option maxRecDepth 20000 in
theorem kc_L_bringHome : Cond.code y_L_bringHome c_L_bringHome 4 (some FieldType.int) ∈ WG := mg 212 (by decide +kernel) (by decide +kernel)
abbrev c_D_read : ByteArray := prog_3_method_6_code
def y_D_read : MethodName := ⟨"BlockVault$Disk", "read", "(ILBlockVault$Page;)V"⟩
abbrev w_D_read : List Cond := Cond.code y_D_read c_D_read 3 none :: WG
set_option maxRecDepth 20000 in
theorem kc_D_read : Cond.code y_D_read c_D_read 3 none ∈ WG := mg 216 (by decide +kernel) (by decide +kernel)
abbrev c_P_byteAt : ByteArray := prog_5_method_2_code
def y_P_byteAt : MethodName := ⟨"BlockVault$Page", "byteAt", "(I)I"⟩
abbrev w_P_byteAt : List Cond := Cond.code y_P_byteAt c_P_byteAt 2 (some FieldType.int) :: WG
set_option maxRecDepth 20000 in
theorem kc_P_byteAt : Cond.code y_P_byteAt c_P_byteAt 2 (some FieldType.int) ∈ WG := mg 220 (by decide +kernel) (by decide +kernel)
abbrev c_C_releaseHeld : ByteArray := prog_2_method_9_code
def y_C_releaseHeld : MethodName := ⟨"BlockVault$Cache", "releaseHeld", "()V"⟩
abbrev w_C_releaseHeld : List Cond := Cond.code y_C_releaseHeld c_C_releaseHeld 5 none :: WG
set_option maxRecDepth 20000 in
theorem kc_C_releaseHeld : Cond.code y_C_releaseHeld c_C_releaseHeld 5 none ∈ WG := mg 225 (by decide +kernel) (by decide +kernel)
abbrev c_C_makeEmpty : ByteArray := prog_2_method_10_code
def y_C_makeEmpty : MethodName := ⟨"BlockVault$Cache", "makeEmpty", "()V"⟩
abbrev w_C_makeEmpty : List Cond := Cond.code y_C_makeEmpty c_C_makeEmpty 5 none :: WG
set_option maxRecDepth 20000 in
theorem kc_C_makeEmpty : Cond.code y_C_makeEmpty c_C_makeEmpty 5 none ∈ WG := mg 229 (by decide +kernel) (by decide +kernel)
abbrev c_R_makeEmpty : ByteArray := prog_6_method_2_code
def y_R_makeEmpty : MethodName := ⟨"BlockVault$Row", "makeEmpty", "()V"⟩
abbrev w_R_makeEmpty : List Cond := Cond.code y_R_makeEmpty c_R_makeEmpty 1 none :: WG
set_option maxRecDepth 20000 in
theorem kc_R_makeEmpty : Cond.code y_R_makeEmpty c_R_makeEmpty 1 none ∈ WG := mg 233 (by decide +kernel) (by decide +kernel)
abbrev c_V_flush : ByteArray := prog_1_method_4_code
def y_V_flush : MethodName := ⟨"BlockVault", "flush", "()I"⟩
abbrev w_V_flush : List Cond := Cond.code y_V_flush c_V_flush 2 (some FieldType.int) :: WG
set_option maxRecDepth 20000 in
theorem kc_V_flush : Cond.code y_V_flush c_V_flush 2 (some FieldType.int) ∈ WG := mg 238 (by decide +kernel) (by decide +kernel)
abbrev c_V_get : ByteArray := prog_1_method_5_code
def y_V_get : MethodName := ⟨"BlockVault", "get", "(II)I"⟩
abbrev w_V_get : List Cond := Cond.code y_V_get c_V_get 3 (some FieldType.int) :: WG
set_option maxRecDepth 20000 in
theorem kc_V_get : Cond.code y_V_get c_V_get 3 (some FieldType.int) ∈ WG := mg 242 (by decide +kernel) (by decide +kernel)
abbrev c_V_isBlock : ByteArray := prog_1_method_12_code
def y_V_isBlock : MethodName := ⟨"BlockVault", "isBlock", "(I)Z"⟩
abbrev w_V_isBlock : List Cond := Cond.code y_V_isBlock c_V_isBlock 3 (some FieldType.boolean) :: WG
set_option maxRecDepth 20000 in
theorem kc_V_isBlock : Cond.code y_V_isBlock c_V_isBlock 3 (some FieldType.boolean) ∈ WG := mg 246 (by decide +kernel) (by decide +kernel)
abbrev c_C_lookAt : ByteArray := prog_2_method_3_code
def y_C_lookAt : MethodName := ⟨"BlockVault$Cache", "lookAt", "(ILBlockVault$Disk;)LBlockVault$Row;"⟩
abbrev w_C_lookAt : List Cond := Cond.code y_C_lookAt c_C_lookAt 4 (some (FieldType.object "BlockVault$Row")) :: WG
set_option maxRecDepth 20000 in
theorem kc_C_lookAt : Cond.code y_C_lookAt c_C_lookAt 4 (some (FieldType.object "BlockVault$Row")) ∈ WG := mg 250 (by decide +kernel) (by decide +kernel)
abbrev c_C_rowOf : ByteArray := prog_2_method_2_code
def y_C_rowOf : MethodName := ⟨"BlockVault$Cache", "rowOf", "(I)LBlockVault$Row;"⟩
abbrev w_C_rowOf : List Cond := Cond.code y_C_rowOf c_C_rowOf 6 (some (FieldType.object "BlockVault$Row")) :: WG
set_option maxRecDepth 20000 in
theorem kc_C_rowOf : Cond.code y_C_rowOf c_C_rowOf 6 (some (FieldType.object "BlockVault$Row")) ∈ WG := mg 254 (by decide +kernel) (by decide +kernel)
abbrev c_C_rowToGive : ByteArray := prog_2_method_4_code
def y_C_rowToGive : MethodName := ⟨"BlockVault$Cache", "rowToGive", "()LBlockVault$Row;"⟩
abbrev w_C_rowToGive : List Cond := Cond.code y_C_rowToGive c_C_rowToGive 6 (some (FieldType.object "BlockVault$Row")) :: WG
set_option maxRecDepth 20000 in
theorem kc_C_rowToGive : Cond.code y_C_rowToGive c_C_rowToGive 6 (some (FieldType.object "BlockVault$Row")) ∈ WG := mg 258 (by decide +kernel) (by decide +kernel)
abbrev c_R_givesWayBefore : ByteArray := prog_6_method_3_code
def y_R_givesWayBefore : MethodName := ⟨"BlockVault$Row", "givesWayBefore", "(LBlockVault$Row;)Z"⟩
abbrev w_R_givesWayBefore : List Cond := Cond.code y_R_givesWayBefore c_R_givesWayBefore 2 (some FieldType.boolean) :: WG
set_option maxRecDepth 20000 in
theorem kc_R_givesWayBefore : Cond.code y_R_givesWayBefore c_R_givesWayBefore 2 (some FieldType.boolean) ∈ WG := mg 262 (by decide +kernel) (by decide +kernel)
abbrev c_V_fill : ByteArray := prog_1_method_6_code
def y_V_fill : MethodName := ⟨"BlockVault", "fill", "(IIII)Z"⟩
abbrev w_V_fill : List Cond := Cond.code y_V_fill c_V_fill 6 (some FieldType.boolean) :: WG
set_option maxRecDepth 20000 in
theorem kc_V_fill : Cond.code y_V_fill c_V_fill 6 (some FieldType.boolean) ∈ WG := mg 268 (by decide +kernel) (by decide +kernel)
abbrev c_V_stepTakes : ByteArray := prog_1_method_14_code
def y_V_stepTakes : MethodName := ⟨"BlockVault", "stepTakes", "(I)Z"⟩
abbrev w_V_stepTakes : List Cond := Cond.code y_V_stepTakes c_V_stepTakes 4 (some FieldType.boolean) :: WG
set_option maxRecDepth 20000 in
theorem kc_V_stepTakes : Cond.code y_V_stepTakes c_V_stepTakes 4 (some FieldType.boolean) ∈ WG := mg 273 (by decide +kernel) (by decide +kernel)
abbrev c_C_stepRows : ByteArray := prog_2_method_7_code
def y_C_stepRows : MethodName := ⟨"BlockVault$Cache", "stepRows", "()I"⟩
abbrev w_C_stepRows : List Cond := Cond.code y_C_stepRows c_C_stepRows 6 (some FieldType.int) :: WG
set_option maxRecDepth 20000 in
theorem kc_C_stepRows : Cond.code y_C_stepRows c_C_stepRows 6 (some FieldType.int) ∈ WG := mg 278 (by decide +kernel) (by decide +kernel)
abbrev c_V_cut : ByteArray := prog_1_method_7_code
def y_V_cut : MethodName := ⟨"BlockVault", "cut", "(I)Z"⟩
abbrev w_V_cut : List Cond := Cond.code y_V_cut c_V_cut 2 (some FieldType.boolean) :: WG
set_option maxRecDepth 20000 in
theorem kc_V_cut : Cond.code y_V_cut c_V_cut 2 (some FieldType.boolean) ∈ WG := mg 283 (by decide +kernel) (by decide +kernel)
abbrev c_D_goAfter : ByteArray := prog_3_method_4_code
def y_D_goAfter : MethodName := ⟨"BlockVault$Disk", "goAfter", "(I)V"⟩
abbrev w_D_goAfter : List Cond := Cond.code y_D_goAfter c_D_goAfter 2 none :: WG
set_option maxRecDepth 20000 in
theorem kc_D_goAfter : Cond.code y_D_goAfter c_D_goAfter 2 none ∈ WG := mg 287 (by decide +kernel) (by decide +kernel)
abbrev c_V_power : ByteArray := prog_1_method_8_code
def y_V_power : MethodName := ⟨"BlockVault", "power", "(I)I"⟩
abbrev w_V_power : List Cond := Cond.code y_V_power c_V_power 2 (some FieldType.int) :: WG
set_option maxRecDepth 20000 in
theorem kc_V_power : Cond.code y_V_power c_V_power 2 (some FieldType.int) ∈ WG := mg 291 (by decide +kernel) (by decide +kernel)
abbrev c_D_comeBack : ByteArray := prog_3_method_3_code
def y_D_comeBack : MethodName := ⟨"BlockVault$Disk", "comeBack", "()V"⟩
abbrev w_D_comeBack : List Cond := Cond.code y_D_comeBack c_D_comeBack 1 none :: WG
set_option maxRecDepth 20000 in
theorem kc_D_comeBack : Cond.code y_D_comeBack c_D_comeBack 1 none ∈ WG := mg 295 (by decide +kernel) (by decide +kernel)
abbrev c_V_count : ByteArray := prog_1_method_9_code
def y_V_count : MethodName := ⟨"BlockVault", "count", "(I)I"⟩
abbrev w_V_count : List Cond := Cond.code y_V_count c_V_count 2 (some FieldType.int) :: WG
set_option maxRecDepth 20000 in
theorem kc_V_count : Cond.code y_V_count c_V_count 2 (some FieldType.int) ∈ WG := mg 300 (by decide +kernel) (by decide +kernel)
abbrev c_D_writesMade : ByteArray := prog_3_method_5_code
def y_D_writesMade : MethodName := ⟨"BlockVault$Disk", "writesMade", "()I"⟩
abbrev w_D_writesMade : List Cond := Cond.code y_D_writesMade c_D_writesMade 1 (some FieldType.int) :: WG
set_option maxRecDepth 20000 in
theorem kc_D_writesMade : Cond.code y_D_writesMade c_D_writesMade 1 (some FieldType.int) ∈ WG := mg 304 (by decide +kernel) (by decide +kernel)
abbrev c_C_readsMade : ByteArray := prog_2_method_5_code
def y_C_readsMade : MethodName := ⟨"BlockVault$Cache", "readsMade", "()I"⟩
abbrev w_C_readsMade : List Cond := Cond.code y_C_readsMade c_C_readsMade 1 (some FieldType.int) :: WG
set_option maxRecDepth 20000 in
theorem kc_C_readsMade : Cond.code y_C_readsMade c_C_readsMade 1 (some FieldType.int) ∈ WG := mg 308 (by decide +kernel) (by decide +kernel)
abbrev c_L_commitsCounted : ByteArray := prog_4_method_2_code
def y_L_commitsCounted : MethodName := ⟨"BlockVault$Log", "commitsCounted", "()I"⟩
abbrev w_L_commitsCounted : List Cond := Cond.code y_L_commitsCounted c_L_commitsCounted 1 (some FieldType.int) :: WG
set_option maxRecDepth 20000 in
theorem kc_L_commitsCounted : Cond.code y_L_commitsCounted c_L_commitsCounted 1 (some FieldType.int) ∈ WG := mg 312 (by decide +kernel) (by decide +kernel)
abbrev c_V_held : ByteArray := prog_1_method_10_code
def y_V_held : MethodName := ⟨"BlockVault", "held", "(I)Z"⟩
abbrev w_V_held : List Cond := Cond.code y_V_held c_V_held 3 (some FieldType.boolean) :: WG
set_option maxRecDepth 20000 in
theorem kc_V_held : Cond.code y_V_held c_V_held 3 (some FieldType.boolean) ∈ WG := mg 316 (by decide +kernel) (by decide +kernel)
abbrev c_V_cached : ByteArray := prog_1_method_11_code
def y_V_cached : MethodName := ⟨"BlockVault", "cached", "(I)Z"⟩
abbrev w_V_cached : List Cond := Cond.code y_V_cached c_V_cached 2 (some FieldType.boolean) :: WG
set_option maxRecDepth 20000 in
theorem kc_V_cached : Cond.code y_V_cached c_V_cached 2 (some FieldType.boolean) ∈ WG := mg 320 (by decide +kernel) (by decide +kernel)
abbrev c_W_cell : ByteArray := method_2_code
def y_W_cell : MethodName := ⟨"BlockVaultLaw", "cell", "([II)I"⟩
abbrev w_W_cell : List Cond := Cond.code y_W_cell c_W_cell 2 (some FieldType.int) :: WG
set_option maxRecDepth 20000 in
theorem kc_W_cell : Cond.code y_W_cell c_W_cell 2 (some FieldType.int) ∈ WG := mg 323 (by decide +kernel) (by decide +kernel)
abbrev c_M_init : ByteArray := prog_8_method_1_code
def y_M_init : MethodName := ⟨"BlockVaultModel", "<init>", "(I)V"⟩
abbrev w_M_init : List Cond := Cond.code y_M_init c_M_init 2 none :: WG
set_option maxRecDepth 20000 in
theorem kc_M_init : Cond.code y_M_init c_M_init 2 none ∈ WG := mg 328 (by decide +kernel) (by decide +kernel)
abbrev c_M_begin : ByteArray := prog_8_method_5_code
def y_M_begin : MethodName := ⟨"BlockVaultModel", "begin", "()Z"⟩
abbrev w_M_begin : List Cond := Cond.code y_M_begin c_M_begin 2 (some FieldType.boolean) :: WG
set_option maxRecDepth 20000 in
theorem kc_M_begin : Cond.code y_M_begin c_M_begin 2 (some FieldType.boolean) ∈ WG := mg 382 (by decide +kernel) (by decide +kernel)
abbrev c_M_end : ByteArray := prog_8_method_9_code
def y_M_end : MethodName := ⟨"BlockVaultModel", "end", "()I"⟩
abbrev w_M_end : List Cond := Cond.code y_M_end c_M_end 2 (some FieldType.int) :: WG
set_option maxRecDepth 20000 in
theorem kc_M_end : Cond.code y_M_end c_M_end 2 (some FieldType.int) ∈ WG := mg 386 (by decide +kernel) (by decide +kernel)
abbrev c_M_many : ByteArray := prog_8_method_4_code
def y_M_many : MethodName := ⟨"BlockVaultModel", "many", "([Z)I"⟩
abbrev w_M_many : List Cond := Cond.code y_M_many c_M_many 3 (some FieldType.int) :: WG
set_option maxRecDepth 20000 in
theorem kc_M_many : Cond.code y_M_many c_M_many 3 (some FieldType.int) ∈ WG := mg 389 (by decide +kernel) (by decide +kernel)
abbrev c_M_commit : ByteArray := prog_8_method_7_code
def y_M_commit : MethodName := ⟨"BlockVaultModel", "commit", "()Z"⟩
abbrev w_M_commit : List Cond := Cond.code y_M_commit c_M_commit 4 (some FieldType.boolean) :: WG
set_option maxRecDepth 20000 in
theorem kc_M_commit : Cond.code y_M_commit c_M_commit 4 (some FieldType.boolean) ∈ WG := mg 393 (by decide +kernel) (by decide +kernel)
abbrev c_M_written : ByteArray := prog_8_method_6_code
def y_M_written : MethodName := ⟨"BlockVaultModel", "written", "(I)Z"⟩
abbrev w_M_written : List Cond := Cond.code y_M_written c_M_written 2 (some FieldType.boolean) :: WG
set_option maxRecDepth 20000 in
theorem kc_M_written : Cond.code y_M_written c_M_written 2 (some FieldType.boolean) ∈ WG := mg 397 (by decide +kernel) (by decide +kernel)
abbrev c_M_ended : ByteArray := prog_8_method_8_code
def y_M_ended : MethodName := ⟨"BlockVaultModel", "ended", "()Z"⟩
abbrev w_M_ended : List Cond := Cond.code y_M_ended c_M_ended 2 (some FieldType.boolean) :: WG
set_option maxRecDepth 20000 in
theorem kc_M_ended : Cond.code y_M_ended c_M_ended 2 (some FieldType.boolean) ∈ WG := mg 401 (by decide +kernel) (by decide +kernel)
abbrev c_M_flush : ByteArray := prog_8_method_10_code
def y_M_flush : MethodName := ⟨"BlockVaultModel", "flush", "()I"⟩
abbrev w_M_flush : List Cond := Cond.code y_M_flush c_M_flush 2 (some FieldType.int) :: WG
set_option maxRecDepth 20000 in
theorem kc_M_flush : Cond.code y_M_flush c_M_flush 2 (some FieldType.int) ∈ WG := mg 405 (by decide +kernel) (by decide +kernel)
abbrev c_M_get : ByteArray := prog_8_method_12_code
def y_M_get : MethodName := ⟨"BlockVaultModel", "get", "(II)I"⟩
abbrev w_M_get : List Cond := Cond.code y_M_get c_M_get 3 (some FieldType.int) :: WG
set_option maxRecDepth 20000 in
theorem kc_M_get : Cond.code y_M_get c_M_get 3 (some FieldType.int) ∈ WG := mg 409 (by decide +kernel) (by decide +kernel)
abbrev c_M_isBlock : ByteArray := prog_8_method_3_code
def y_M_isBlock : MethodName := ⟨"BlockVaultModel", "isBlock", "(I)Z"⟩
abbrev w_M_isBlock : List Cond := Cond.code y_M_isBlock c_M_isBlock 2 (some FieldType.boolean) :: WG
set_option maxRecDepth 20000 in
theorem kc_M_isBlock : Cond.code y_M_isBlock c_M_isBlock 2 (some FieldType.boolean) ∈ WG := mg 413 (by decide +kernel) (by decide +kernel)
abbrev c_M_look : ByteArray := prog_8_method_11_code
def y_M_look : MethodName := ⟨"BlockVaultModel", "look", "(I)V"⟩
abbrev w_M_look : List Cond := Cond.code y_M_look c_M_look 5 none :: WG
set_option maxRecDepth 20000 in
theorem kc_M_look : Cond.code y_M_look c_M_look 5 none ∈ WG := mg 417 (by decide +kernel) (by decide +kernel)
abbrev c_M_fill : ByteArray := prog_8_method_13_code
def y_M_fill : MethodName := ⟨"BlockVaultModel", "fill", "(IIII)Z"⟩
abbrev w_M_fill : List Cond := Cond.code y_M_fill c_M_fill 6 (some FieldType.boolean) :: WG
set_option maxRecDepth 20000 in
theorem kc_M_fill : Cond.code y_M_fill c_M_fill 6 (some FieldType.boolean) ∈ WG := mg 421 (by decide +kernel) (by decide +kernel)
abbrev c_M_cut : ByteArray := prog_8_method_14_code
def y_M_cut : MethodName := ⟨"BlockVaultModel", "cut", "(I)Z"⟩
abbrev w_M_cut : List Cond := Cond.code y_M_cut c_M_cut 2 (some FieldType.boolean) :: WG
set_option maxRecDepth 20000 in
theorem kc_M_cut : Cond.code y_M_cut c_M_cut 2 (some FieldType.boolean) ∈ WG := mg 425 (by decide +kernel) (by decide +kernel)
abbrev c_M_power : ByteArray := prog_8_method_15_code
def y_M_power : MethodName := ⟨"BlockVaultModel", "power", "(I)I"⟩
abbrev w_M_power : List Cond := Cond.code y_M_power c_M_power 3 (some FieldType.int) :: WG
set_option maxRecDepth 20000 in
theorem kc_M_power : Cond.code y_M_power c_M_power 3 (some FieldType.int) ∈ WG := mg 429 (by decide +kernel) (by decide +kernel)
abbrev c_M_count : ByteArray := prog_8_method_16_code
def y_M_count : MethodName := ⟨"BlockVaultModel", "count", "(I)I"⟩
abbrev w_M_count : List Cond := Cond.code y_M_count c_M_count 2 (some FieldType.int) :: WG
set_option maxRecDepth 20000 in
theorem kc_M_count : Cond.code y_M_count c_M_count 2 (some FieldType.int) ∈ WG := mg 433 (by decide +kernel) (by decide +kernel)
abbrev c_M_held : ByteArray := prog_8_method_17_code
def y_M_held : MethodName := ⟨"BlockVaultModel", "held", "(I)Z"⟩
abbrev w_M_held : List Cond := Cond.code y_M_held c_M_held 2 (some FieldType.boolean) :: WG
set_option maxRecDepth 20000 in
theorem kc_M_held : Cond.code y_M_held c_M_held 2 (some FieldType.boolean) ∈ WG := mg 437 (by decide +kernel) (by decide +kernel)
abbrev c_M_cached : ByteArray := prog_8_method_18_code
def y_M_cached : MethodName := ⟨"BlockVaultModel", "cached", "(I)Z"⟩
abbrev w_M_cached : List Cond := Cond.code y_M_cached c_M_cached 2 (some FieldType.boolean) :: WG
set_option maxRecDepth 20000 in
theorem kc_M_cached : Cond.code y_M_cached c_M_cached 2 (some FieldType.boolean) ∈ WG := mg 441 (by decide +kernel) (by decide +kernel)
abbrev c_W_law : ByteArray := code
def y_W_law : MethodName := ⟨"BlockVaultLaw", "law", "([I)Z"⟩
set_option maxRecDepth 20000 in
theorem k0 : Cond.initialized "BlockVaultLaw" ∈ WG := mg 10 (by decide +kernel) (by decide +kernel)
set_option maxRecDepth 20000 in
theorem k1 : Cond.initialized "BlockVault" ∈ WG := mg 11 (by decide +kernel) (by decide +kernel)
set_option maxRecDepth 20000 in
theorem k2 : Cond.initialized "java/lang/Math" ∈ WG := mg 12 (by decide +kernel) (by decide +kernel)
set_option maxRecDepth 20000 in
theorem k3 : Cond.initialized "BlockVault$Disk" ∈ WG := mg 13 (by decide +kernel) (by decide +kernel)
set_option maxRecDepth 20000 in
theorem k4 : Cond.initialized "BlockVault$Page" ∈ WG := mg 14 (by decide +kernel) (by decide +kernel)
set_option maxRecDepth 20000 in
theorem k5 : Cond.initialized "BlockVault$Cache" ∈ WG := mg 15 (by decide +kernel) (by decide +kernel)
set_option maxRecDepth 20000 in
theorem k6 : Cond.initialized "BlockVault$Row" ∈ WG := mg 16 (by decide +kernel) (by decide +kernel)
set_option maxRecDepth 20000 in
theorem k7 : Cond.initialized "BlockVault$Log" ∈ WG := mg 17 (by decide +kernel) (by decide +kernel)
set_option maxRecDepth 20000 in
theorem k8 : Cond.initialized "BlockVaultModel" ∈ WG := mg 18 (by decide +kernel) (by decide +kernel)
set_option maxRecDepth 20000 in
theorem k9 : Cond.initialized "java/util/Arrays" ∈ WG := mg 19 (by decide +kernel) (by decide +kernel)
set_option maxRecDepth 20000 in
theorem k10 : Cond.initialized "java/lang/System" ∈ WG := mg 20 (by decide +kernel) (by decide +kernel)
set_option maxRecDepth 20000 in
theorem k11 : Cond.classLink "BlockVaultLaw" 7 "BlockVault" ∈ WG := mg 21 (by decide +kernel) (by decide +kernel)
set_option maxRecDepth 20000 in
theorem k12 : Cond.instantiable "BlockVault" 5 ∈ WG := mg 22 (by decide +kernel) (by decide +kernel)
set_option maxRecDepth 20000 in
theorem k13 : Cond.methodLink "BlockVaultLaw" 15 ⟨"BlockVault", "<init>", "(I)V"⟩ ∈ WG := mg 23 (by decide +kernel) (by decide +kernel)
set_option maxRecDepth 20000 in
theorem k14 : Cond.instanceMethod ⟨"BlockVault", "<init>", "(I)V"⟩ ∈ WG := mg 24 (by decide +kernel) (by decide +kernel)
set_option maxRecDepth 20000 in
theorem k16 : Cond.methodLink "BlockVault" 3 ⟨"java/lang/Object", "<init>", "()V"⟩ ∈ WG := mg 26 (by decide +kernel) (by decide +kernel)
set_option maxRecDepth 20000 in
theorem k17 : Cond.instanceMethod ⟨"java/lang/Object", "<init>", "()V"⟩ ∈ WG := mg 27 (by decide +kernel) (by decide +kernel)
set_option maxRecDepth 20000 in
theorem k18 : Cond.code ⟨"java/lang/Object", "<init>", "()V"⟩ object_method_1_code 1 none ∈ WG := mg 28 (by decide +kernel) (by decide +kernel)
set_option maxRecDepth 20000 in
theorem k19 : Cond.methodLink "BlockVault" 9 ⟨"java/lang/Math", "min", "(II)I"⟩ ∈ WG := mg 29 (by decide +kernel) (by decide +kernel)
set_option maxRecDepth 20000 in
theorem k20 : Cond.static ⟨"java/lang/Math", "min", "(II)I"⟩ ∈ WG := mg 30 (by decide +kernel) (by decide +kernel)
set_option maxRecDepth 20000 in
theorem k21 : Cond.code ⟨"java/lang/Math", "min", "(II)I"⟩ prog_9_method_69_code 2 (some FieldType.int) ∈ WG := mg 31 (by decide +kernel) (by decide +kernel)
set_option maxRecDepth 20000 in
theorem k22 : Cond.methodLink "BlockVault" 15 ⟨"java/lang/Math", "max", "(II)I"⟩ ∈ WG := mg 32 (by decide +kernel) (by decide +kernel)
set_option maxRecDepth 20000 in
theorem k23 : Cond.static ⟨"java/lang/Math", "max", "(II)I"⟩ ∈ WG := mg 33 (by decide +kernel) (by decide +kernel)
set_option maxRecDepth 20000 in
theorem k24 : Cond.code ⟨"java/lang/Math", "max", "(II)I"⟩ prog_9_method_65_code 2 (some FieldType.int) ∈ WG := mg 34 (by decide +kernel) (by decide +kernel)
set_option maxRecDepth 20000 in
theorem k25 : Cond.classLink "BlockVault" 22 "BlockVault$Disk" ∈ WG := mg 35 (by decide +kernel) (by decide +kernel)
set_option maxRecDepth 20000 in
theorem k26 : Cond.instantiable "BlockVault$Disk" 4 ∈ WG := mg 36 (by decide +kernel) (by decide +kernel)
set_option maxRecDepth 20000 in
theorem k27 : Cond.methodLink "BlockVault" 24 ⟨"BlockVault$Disk", "<init>", "()V"⟩ ∈ WG := mg 37 (by decide +kernel) (by decide +kernel)
set_option maxRecDepth 20000 in
theorem k28 : Cond.instanceMethod ⟨"BlockVault$Disk", "<init>", "()V"⟩ ∈ WG := mg 38 (by decide +kernel) (by decide +kernel)
set_option maxRecDepth 20000 in
theorem k30 : Cond.methodLink "BlockVault$Disk" 3 ⟨"java/lang/Object", "<init>", "()V"⟩ ∈ WG := mg 40 (by decide +kernel) (by decide +kernel)
set_option maxRecDepth 20000 in
theorem k31 : Cond.classLink "BlockVault$Disk" 9 "BlockVault$Page" ∈ WG := mg 41 (by decide +kernel) (by decide +kernel)
set_option maxRecDepth 20000 in
theorem k33 : Cond.instantiable "BlockVault$Page" 1 ∈ WG := mg 43 (by decide +kernel) (by decide +kernel)
set_option maxRecDepth 20000 in
theorem k35 : Cond.instanceMethod ⟨"BlockVault$Page", "<init>", "()V"⟩ ∈ WG := mg 45 (by decide +kernel) (by decide +kernel)
set_option maxRecDepth 20000 in
theorem k37 : Cond.methodLink "BlockVault$Page" 3 ⟨"java/lang/Object", "<init>", "()V"⟩ ∈ WG := mg 47 (by decide +kernel) (by decide +kernel)
set_option maxRecDepth 20000 in
theorem k38 : Cond.fieldLink "BlockVault$Page" 9 "BlockVault$Page" "bytes" "[B" ∈ WG := mg 48 (by decide +kernel) (by decide +kernel)
set_option maxRecDepth 20000 in
theorem k42 : Cond.fieldLink "BlockVault$Disk" 11 "BlockVault$Disk" "pages" "[LBlockVault$Page;" ∈ WG := mg 52 (by decide +kernel) (by decide +kernel)
set_option maxRecDepth 20000 in
theorem k43 : Cond.fieldLink "BlockVault$Disk" 18 "BlockVault$Disk" "on" "Z" ∈ WG := mg 53 (by decide +kernel) (by decide +kernel)
set_option maxRecDepth 20000 in
theorem k44 : Cond.fieldLink "BlockVault$Disk" 22 "BlockVault$Disk" "writesLeft" "I" ∈ WG := mg 54 (by decide +kernel) (by decide +kernel)
set_option maxRecDepth 20000 in
theorem k45 : Cond.fieldLink "BlockVault$Disk" 26 "BlockVault$Disk" "writes" "I" ∈ WG := mg 55 (by decide +kernel) (by decide +kernel)
set_option maxRecDepth 20000 in
theorem k55 : Cond.classLink "BlockVault" 29 "BlockVault$Cache" ∈ WG := mg 65 (by decide +kernel) (by decide +kernel)
set_option maxRecDepth 20000 in
theorem k56 : Cond.instantiable "BlockVault$Cache" 3 ∈ WG := mg 66 (by decide +kernel) (by decide +kernel)
set_option maxRecDepth 20000 in
theorem k57 : Cond.methodLink "BlockVault" 31 ⟨"BlockVault$Cache", "<init>", "()V"⟩ ∈ WG := mg 67 (by decide +kernel) (by decide +kernel)
set_option maxRecDepth 20000 in
theorem k58 : Cond.instanceMethod ⟨"BlockVault$Cache", "<init>", "()V"⟩ ∈ WG := mg 68 (by decide +kernel) (by decide +kernel)
set_option maxRecDepth 20000 in
theorem k60 : Cond.methodLink "BlockVault$Cache" 3 ⟨"java/lang/Object", "<init>", "()V"⟩ ∈ WG := mg 70 (by decide +kernel) (by decide +kernel)
set_option maxRecDepth 20000 in
theorem k61 : Cond.classLink "BlockVault$Cache" 9 "BlockVault$Row" ∈ WG := mg 71 (by decide +kernel) (by decide +kernel)
set_option maxRecDepth 20000 in
theorem k63 : Cond.instantiable "BlockVault$Row" 5 ∈ WG := mg 73 (by decide +kernel) (by decide +kernel)
set_option maxRecDepth 20000 in
theorem k64 : Cond.methodLink "BlockVault$Cache" 17 ⟨"BlockVault$Row", "<init>", "()V"⟩ ∈ WG := mg 74 (by decide +kernel) (by decide +kernel)
set_option maxRecDepth 20000 in
theorem k65 : Cond.instanceMethod ⟨"BlockVault$Row", "<init>", "()V"⟩ ∈ WG := mg 75 (by decide +kernel) (by decide +kernel)
set_option maxRecDepth 20000 in
theorem k67 : Cond.methodLink "BlockVault$Row" 3 ⟨"java/lang/Object", "<init>", "()V"⟩ ∈ WG := mg 77 (by decide +kernel) (by decide +kernel)
set_option maxRecDepth 20000 in
theorem k68 : Cond.classLink "BlockVault$Row" 9 "BlockVault$Page" ∈ WG := mg 78 (by decide +kernel) (by decide +kernel)
set_option maxRecDepth 20000 in
theorem k70 : Cond.fieldLink "BlockVault$Row" 12 "BlockVault$Row" "page" "LBlockVault$Page;" ∈ WG := mg 80 (by decide +kernel) (by decide +kernel)
set_option maxRecDepth 20000 in
theorem k74 : Cond.fieldLink "BlockVault$Row" 18 "BlockVault$Row" "block" "I" ∈ WG := mg 84 (by decide +kernel) (by decide +kernel)
set_option maxRecDepth 20000 in
theorem k77 : Cond.fieldLink "BlockVault$Row" 22 "BlockVault$Row" "lastUse" "I" ∈ WG := mg 87 (by decide +kernel) (by decide +kernel)
set_option maxRecDepth 20000 in
theorem k79 : Cond.fieldLink "BlockVault$Row" 25 "BlockVault$Row" "held" "Z" ∈ WG := mg 89 (by decide +kernel) (by decide +kernel)
set_option maxRecDepth 20000 in
theorem k83 : Cond.fieldLink "BlockVault$Row" 29 "BlockVault$Row" "inStep" "Z" ∈ WG := mg 93 (by decide +kernel) (by decide +kernel)
set_option maxRecDepth 20000 in
theorem k97 : Cond.fieldLink "BlockVault$Cache" 11 "BlockVault$Cache" "rows" "[LBlockVault$Row;" ∈ WG := mg 107 (by decide +kernel) (by decide +kernel)
set_option maxRecDepth 20000 in
theorem k99 : Cond.fieldLink "BlockVault$Cache" 18 "BlockVault$Cache" "uses" "I" ∈ WG := mg 109 (by decide +kernel) (by decide +kernel)
set_option maxRecDepth 20000 in
theorem k100 : Cond.fieldLink "BlockVault$Cache" 22 "BlockVault$Cache" "reads" "I" ∈ WG := mg 110 (by decide +kernel) (by decide +kernel)
set_option maxRecDepth 20000 in
theorem k108 : Cond.classLink "BlockVault" 36 "BlockVault$Log" ∈ WG := mg 118 (by decide +kernel) (by decide +kernel)
set_option maxRecDepth 20000 in
theorem k109 : Cond.instantiable "BlockVault$Log" 3 ∈ WG := mg 119 (by decide +kernel) (by decide +kernel)
set_option maxRecDepth 20000 in
theorem k110 : Cond.methodLink "BlockVault" 38 ⟨"BlockVault$Log", "<init>", "()V"⟩ ∈ WG := mg 120 (by decide +kernel) (by decide +kernel)
set_option maxRecDepth 20000 in
theorem k111 : Cond.instanceMethod ⟨"BlockVault$Log", "<init>", "()V"⟩ ∈ WG := mg 121 (by decide +kernel) (by decide +kernel)
set_option maxRecDepth 20000 in
theorem k113 : Cond.methodLink "BlockVault$Log" 3 ⟨"java/lang/Object", "<init>", "()V"⟩ ∈ WG := mg 123 (by decide +kernel) (by decide +kernel)
set_option maxRecDepth 20000 in
theorem k114 : Cond.classLink "BlockVault$Log" 9 "BlockVault$Page" ∈ WG := mg 124 (by decide +kernel) (by decide +kernel)
set_option maxRecDepth 20000 in
theorem k116 : Cond.fieldLink "BlockVault$Log" 12 "BlockVault$Log" "head" "LBlockVault$Page;" ∈ WG := mg 126 (by decide +kernel) (by decide +kernel)
set_option maxRecDepth 20000 in
theorem k117 : Cond.fieldLink "BlockVault$Log" 18 "BlockVault$Log" "carried" "LBlockVault$Page;" ∈ WG := mg 127 (by decide +kernel) (by decide +kernel)
set_option maxRecDepth 20000 in
theorem k118 : Cond.fieldLink "BlockVault$Log" 21 "BlockVault$Log" "commits" "I" ∈ WG := mg 128 (by decide +kernel) (by decide +kernel)
set_option maxRecDepth 20000 in
theorem k126 : Cond.fieldLink "BlockVault" 18 "BlockVault" "blocks" "I" ∈ WG := mg 136 (by decide +kernel) (by decide +kernel)
set_option maxRecDepth 20000 in
theorem k127 : Cond.fieldLink "BlockVault" 25 "BlockVault" "disk" "LBlockVault$Disk;" ∈ WG := mg 137 (by decide +kernel) (by decide +kernel)
set_option maxRecDepth 20000 in
theorem k128 : Cond.fieldLink "BlockVault" 32 "BlockVault" "cache" "LBlockVault$Cache;" ∈ WG := mg 138 (by decide +kernel) (by decide +kernel)
set_option maxRecDepth 20000 in
theorem k129 : Cond.fieldLink "BlockVault" 39 "BlockVault" "log" "LBlockVault$Log;" ∈ WG := mg 139 (by decide +kernel) (by decide +kernel)
set_option maxRecDepth 20000 in
theorem k130 : Cond.fieldLink "BlockVault" 43 "BlockVault" "stepOpen" "Z" ∈ WG := mg 140 (by decide +kernel) (by decide +kernel)
set_option maxRecDepth 20000 in
theorem k142 : Cond.methodLink "BlockVaultLaw" 21 ⟨"BlockVault", "begin", "()Z"⟩ ∈ WG := mg 152 (by decide +kernel) (by decide +kernel)
set_option maxRecDepth 20000 in
theorem k143 : Cond.instanceMethod ⟨"BlockVault", "begin", "()Z"⟩ ∈ WG := mg 153 (by decide +kernel) (by decide +kernel)
set_option maxRecDepth 20000 in
theorem k144 : Cond.selects "BlockVault" ⟨"BlockVault", "begin", "()Z"⟩ ⟨"BlockVault", "begin", "()Z"⟩ ∈ WG := mg 154 (by decide +kernel) (by decide +kernel)
set_option maxRecDepth 20000 in
theorem k146 : Cond.methodLink "BlockVault" 47 ⟨"BlockVault$Disk", "isOn", "()Z"⟩ ∈ WG := mg 156 (by decide +kernel) (by decide +kernel)
set_option maxRecDepth 20000 in
theorem k147 : Cond.instanceMethod ⟨"BlockVault$Disk", "isOn", "()Z"⟩ ∈ WG := mg 157 (by decide +kernel) (by decide +kernel)
set_option maxRecDepth 20000 in
theorem k148 : Cond.selects "BlockVault$Disk" ⟨"BlockVault$Disk", "isOn", "()Z"⟩ ⟨"BlockVault$Disk", "isOn", "()Z"⟩ ∈ WG := mg 158 (by decide +kernel) (by decide +kernel)
set_option maxRecDepth 20000 in
theorem k150 : Cond.methodLink "BlockVaultLaw" 26 ⟨"BlockVault", "end", "()I"⟩ ∈ WG := mg 160 (by decide +kernel) (by decide +kernel)
set_option maxRecDepth 20000 in
theorem k151 : Cond.instanceMethod ⟨"BlockVault", "end", "()I"⟩ ∈ WG := mg 161 (by decide +kernel) (by decide +kernel)
set_option maxRecDepth 20000 in
theorem k152 : Cond.selects "BlockVault" ⟨"BlockVault", "end", "()I"⟩ ⟨"BlockVault", "end", "()I"⟩ ∈ WG := mg 162 (by decide +kernel) (by decide +kernel)
set_option maxRecDepth 20000 in
theorem k154 : Cond.methodLink "BlockVault" 51 ⟨"BlockVault$Cache", "closeStep", "()V"⟩ ∈ WG := mg 164 (by decide +kernel) (by decide +kernel)
set_option maxRecDepth 20000 in
theorem k155 : Cond.instanceMethod ⟨"BlockVault$Cache", "closeStep", "()V"⟩ ∈ WG := mg 165 (by decide +kernel) (by decide +kernel)
set_option maxRecDepth 20000 in
theorem k156 : Cond.selects "BlockVault$Cache" ⟨"BlockVault$Cache", "closeStep", "()V"⟩ ⟨"BlockVault$Cache", "closeStep", "()V"⟩ ∈ WG := mg 166 (by decide +kernel) (by decide +kernel)
set_option maxRecDepth 20000 in
theorem k158 : Cond.methodLink "BlockVault" 54 ⟨"BlockVault$Cache", "heldRows", "()I"⟩ ∈ WG := mg 168 (by decide +kernel) (by decide +kernel)
set_option maxRecDepth 20000 in
theorem k159 : Cond.instanceMethod ⟨"BlockVault$Cache", "heldRows", "()I"⟩ ∈ WG := mg 169 (by decide +kernel) (by decide +kernel)
set_option maxRecDepth 20000 in
theorem k160 : Cond.selects "BlockVault$Cache" ⟨"BlockVault$Cache", "heldRows", "()I"⟩ ⟨"BlockVault$Cache", "heldRows", "()I"⟩ ∈ WG := mg 170 (by decide +kernel) (by decide +kernel)
set_option maxRecDepth 20000 in
theorem k162 : Cond.methodLink "BlockVault" 58 ⟨"BlockVault", "commit", "()Z"⟩ ∈ WG := mg 172 (by decide +kernel) (by decide +kernel)
set_option maxRecDepth 20000 in
theorem k164 : Cond.instanceMethod ⟨"BlockVault", "commit", "()Z"⟩ ∈ WG := mg 174 (by decide +kernel) (by decide +kernel)
set_option maxRecDepth 20000 in
theorem k166 : Cond.methodLink "BlockVault" 125 ⟨"BlockVault$Log", "bringOut", "(LBlockVault$Cache;LBlockVault$Disk;)Z"⟩ ∈ WG := mg 176 (by decide +kernel) (by decide +kernel)
set_option maxRecDepth 20000 in
theorem k167 : Cond.instanceMethod ⟨"BlockVault$Log", "bringOut", "(LBlockVault$Cache;LBlockVault$Disk;)Z"⟩ ∈ WG := mg 177 (by decide +kernel) (by decide +kernel)
set_option maxRecDepth 20000 in
theorem k168 : Cond.selects "BlockVault$Log" ⟨"BlockVault$Log", "bringOut", "(LBlockVault$Cache;LBlockVault$Disk;)Z"⟩ ⟨"BlockVault$Log", "bringOut", "(LBlockVault$Cache;LBlockVault$Disk;)Z"⟩ ∈ WG := mg 178 (by decide +kernel) (by decide +kernel)
set_option maxRecDepth 20000 in
theorem k170 : Cond.methodLink "BlockVault$Log" 25 ⟨"BlockVault$Log", "copyHeld", "(LBlockVault$Cache;LBlockVault$Disk;)Z"⟩ ∈ WG := mg 180 (by decide +kernel) (by decide +kernel)
set_option maxRecDepth 20000 in
theorem k172 : Cond.instanceMethod ⟨"BlockVault$Log", "copyHeld", "(LBlockVault$Cache;LBlockVault$Disk;)Z"⟩ ∈ WG := mg 182 (by decide +kernel) (by decide +kernel)
set_option maxRecDepth 20000 in
theorem k174 : Cond.methodLink "BlockVault$Log" 54 ⟨"BlockVault$Page", "putRun", "(III)V"⟩ ∈ WG := mg 184 (by decide +kernel) (by decide +kernel)
set_option maxRecDepth 20000 in
theorem k175 : Cond.instanceMethod ⟨"BlockVault$Page", "putRun", "(III)V"⟩ ∈ WG := mg 185 (by decide +kernel) (by decide +kernel)
set_option maxRecDepth 20000 in
theorem k176 : Cond.selects "BlockVault$Page" ⟨"BlockVault$Page", "putRun", "(III)V"⟩ ⟨"BlockVault$Page", "putRun", "(III)V"⟩ ∈ WG := mg 186 (by decide +kernel) (by decide +kernel)
set_option maxRecDepth 20000 in
theorem k179 : Cond.static ⟨"BlockVault", "isRun", "(II)Z"⟩ ∈ WG := mg 189 (by decide +kernel) (by decide +kernel)
set_option maxRecDepth 20000 in
theorem k181 : Cond.methodLink "BlockVault$Log" 29 ⟨"BlockVault$Disk", "write", "(ILBlockVault$Page;)Z"⟩ ∈ WG := mg 191 (by decide +kernel) (by decide +kernel)
set_option maxRecDepth 20000 in
theorem k182 : Cond.instanceMethod ⟨"BlockVault$Disk", "write", "(ILBlockVault$Page;)Z"⟩ ∈ WG := mg 192 (by decide +kernel) (by decide +kernel)
set_option maxRecDepth 20000 in
theorem k183 : Cond.selects "BlockVault$Disk" ⟨"BlockVault$Disk", "write", "(ILBlockVault$Page;)Z"⟩ ⟨"BlockVault$Disk", "write", "(ILBlockVault$Page;)Z"⟩ ∈ WG := mg 193 (by decide +kernel) (by decide +kernel)
set_option maxRecDepth 20000 in
theorem k185 : Cond.methodLink "BlockVault$Disk" 29 ⟨"BlockVault$Page", "copyFrom", "(LBlockVault$Page;)V"⟩ ∈ WG := mg 195 (by decide +kernel) (by decide +kernel)
set_option maxRecDepth 20000 in
theorem k186 : Cond.instanceMethod ⟨"BlockVault$Page", "copyFrom", "(LBlockVault$Page;)V"⟩ ∈ WG := mg 196 (by decide +kernel) (by decide +kernel)
set_option maxRecDepth 20000 in
theorem k187 : Cond.selects "BlockVault$Page" ⟨"BlockVault$Page", "copyFrom", "(LBlockVault$Page;)V"⟩ ⟨"BlockVault$Page", "copyFrom", "(LBlockVault$Page;)V"⟩ ∈ WG := mg 197 (by decide +kernel) (by decide +kernel)
set_option maxRecDepth 20000 in
theorem k189 : Cond.methodLink "BlockVault$Page" 19 ⟨"BlockVault$Page", "makeZero", "()V"⟩ ∈ WG := mg 199 (by decide +kernel) (by decide +kernel)
set_option maxRecDepth 20000 in
theorem k190 : Cond.instanceMethod ⟨"BlockVault$Page", "makeZero", "()V"⟩ ∈ WG := mg 200 (by decide +kernel) (by decide +kernel)
set_option maxRecDepth 20000 in
theorem k191 : Cond.selects "BlockVault$Page" ⟨"BlockVault$Page", "makeZero", "()V"⟩ ⟨"BlockVault$Page", "makeZero", "()V"⟩ ∈ WG := mg 201 (by decide +kernel) (by decide +kernel)
set_option maxRecDepth 20000 in
theorem k193 : Cond.methodLink "BlockVault$Page" 28 ⟨"java/util/Arrays", "fill", "([BB)V"⟩ ∈ WG := mg 203 (by decide +kernel) (by decide +kernel)
set_option maxRecDepth 20000 in
theorem k194 : Cond.static ⟨"java/util/Arrays", "fill", "([BB)V"⟩ ∈ WG := mg 204 (by decide +kernel) (by decide +kernel)
set_option maxRecDepth 20000 in
theorem k196 : Cond.methodLink "BlockVault$Page" 22 ⟨"java/lang/System", "arraycopy", "(Ljava/lang/Object;ILjava/lang/Object;II)V"⟩ ∈ WG := mg 206 (by decide +kernel) (by decide +kernel)
set_option maxRecDepth 20000 in
theorem k197 : Cond.static ⟨"java/lang/System", "arraycopy", "(Ljava/lang/Object;ILjava/lang/Object;II)V"⟩ ∈ WG := mg 207 (by decide +kernel) (by decide +kernel)
set_option maxRecDepth 20000 in
theorem k198 : Cond.native ⟨"java/lang/System", "arraycopy", "(Ljava/lang/Object;ILjava/lang/Object;II)V"⟩ ∈ WG := mg 208 (by decide +kernel) (by decide +kernel)
set_option maxRecDepth 20000 in
theorem k199 : Cond.methodLink "BlockVault$Log" 35 ⟨"BlockVault$Log", "bringHome", "(LBlockVault$Disk;)I"⟩ ∈ WG := mg 209 (by decide +kernel) (by decide +kernel)
set_option maxRecDepth 20000 in
theorem k200 : Cond.instanceMethod ⟨"BlockVault$Log", "bringHome", "(LBlockVault$Disk;)I"⟩ ∈ WG := mg 210 (by decide +kernel) (by decide +kernel)
set_option maxRecDepth 20000 in
theorem k201 : Cond.selects "BlockVault$Log" ⟨"BlockVault$Log", "bringHome", "(LBlockVault$Disk;)I"⟩ ⟨"BlockVault$Log", "bringHome", "(LBlockVault$Disk;)I"⟩ ∈ WG := mg 211 (by decide +kernel) (by decide +kernel)
set_option maxRecDepth 20000 in
theorem k203 : Cond.methodLink "BlockVault$Log" 61 ⟨"BlockVault$Disk", "read", "(ILBlockVault$Page;)V"⟩ ∈ WG := mg 213 (by decide +kernel) (by decide +kernel)
set_option maxRecDepth 20000 in
theorem k204 : Cond.instanceMethod ⟨"BlockVault$Disk", "read", "(ILBlockVault$Page;)V"⟩ ∈ WG := mg 214 (by decide +kernel) (by decide +kernel)
set_option maxRecDepth 20000 in
theorem k205 : Cond.selects "BlockVault$Disk" ⟨"BlockVault$Disk", "read", "(ILBlockVault$Page;)V"⟩ ⟨"BlockVault$Disk", "read", "(ILBlockVault$Page;)V"⟩ ∈ WG := mg 215 (by decide +kernel) (by decide +kernel)
set_option maxRecDepth 20000 in
theorem k207 : Cond.methodLink "BlockVault$Log" 65 ⟨"BlockVault$Page", "byteAt", "(I)I"⟩ ∈ WG := mg 217 (by decide +kernel) (by decide +kernel)
set_option maxRecDepth 20000 in
theorem k208 : Cond.instanceMethod ⟨"BlockVault$Page", "byteAt", "(I)I"⟩ ∈ WG := mg 218 (by decide +kernel) (by decide +kernel)
set_option maxRecDepth 20000 in
theorem k209 : Cond.selects "BlockVault$Page" ⟨"BlockVault$Page", "byteAt", "(I)I"⟩ ⟨"BlockVault$Page", "byteAt", "(I)I"⟩ ∈ WG := mg 219 (by decide +kernel) (by decide +kernel)
set_option maxRecDepth 20000 in
theorem k211 : Cond.methodLink "BlockVault$Log" 69 ⟨"java/lang/Math", "min", "(II)I"⟩ ∈ WG := mg 221 (by decide +kernel) (by decide +kernel)
set_option maxRecDepth 20000 in
theorem k212 : Cond.methodLink "BlockVault" 129 ⟨"BlockVault$Cache", "releaseHeld", "()V"⟩ ∈ WG := mg 222 (by decide +kernel) (by decide +kernel)
set_option maxRecDepth 20000 in
theorem k213 : Cond.instanceMethod ⟨"BlockVault$Cache", "releaseHeld", "()V"⟩ ∈ WG := mg 223 (by decide +kernel) (by decide +kernel)
set_option maxRecDepth 20000 in
theorem k214 : Cond.selects "BlockVault$Cache" ⟨"BlockVault$Cache", "releaseHeld", "()V"⟩ ⟨"BlockVault$Cache", "releaseHeld", "()V"⟩ ∈ WG := mg 224 (by decide +kernel) (by decide +kernel)
set_option maxRecDepth 20000 in
theorem k216 : Cond.methodLink "BlockVault" 132 ⟨"BlockVault$Cache", "makeEmpty", "()V"⟩ ∈ WG := mg 226 (by decide +kernel) (by decide +kernel)
set_option maxRecDepth 20000 in
theorem k217 : Cond.instanceMethod ⟨"BlockVault$Cache", "makeEmpty", "()V"⟩ ∈ WG := mg 227 (by decide +kernel) (by decide +kernel)
set_option maxRecDepth 20000 in
theorem k218 : Cond.selects "BlockVault$Cache" ⟨"BlockVault$Cache", "makeEmpty", "()V"⟩ ⟨"BlockVault$Cache", "makeEmpty", "()V"⟩ ∈ WG := mg 228 (by decide +kernel) (by decide +kernel)
set_option maxRecDepth 20000 in
theorem k220 : Cond.methodLink "BlockVault$Cache" 60 ⟨"BlockVault$Row", "makeEmpty", "()V"⟩ ∈ WG := mg 230 (by decide +kernel) (by decide +kernel)
set_option maxRecDepth 20000 in
theorem k221 : Cond.instanceMethod ⟨"BlockVault$Row", "makeEmpty", "()V"⟩ ∈ WG := mg 231 (by decide +kernel) (by decide +kernel)
set_option maxRecDepth 20000 in
theorem k222 : Cond.selects "BlockVault$Row" ⟨"BlockVault$Row", "makeEmpty", "()V"⟩ ⟨"BlockVault$Row", "makeEmpty", "()V"⟩ ∈ WG := mg 232 (by decide +kernel) (by decide +kernel)
set_option maxRecDepth 20000 in
theorem k224 : Cond.arrayClass FieldType.byte ∈ WG := mg 234 (by decide +kernel) (by decide +kernel)
set_option maxRecDepth 20000 in
theorem k225 : Cond.methodLink "BlockVaultLaw" 31 ⟨"BlockVault", "flush", "()I"⟩ ∈ WG := mg 235 (by decide +kernel) (by decide +kernel)
set_option maxRecDepth 20000 in
theorem k226 : Cond.instanceMethod ⟨"BlockVault", "flush", "()I"⟩ ∈ WG := mg 236 (by decide +kernel) (by decide +kernel)
set_option maxRecDepth 20000 in
theorem k227 : Cond.selects "BlockVault" ⟨"BlockVault", "flush", "()I"⟩ ⟨"BlockVault", "flush", "()I"⟩ ∈ WG := mg 237 (by decide +kernel) (by decide +kernel)
set_option maxRecDepth 20000 in
theorem k229 : Cond.methodLink "BlockVaultLaw" 35 ⟨"BlockVault", "get", "(II)I"⟩ ∈ WG := mg 239 (by decide +kernel) (by decide +kernel)
set_option maxRecDepth 20000 in
theorem k230 : Cond.instanceMethod ⟨"BlockVault", "get", "(II)I"⟩ ∈ WG := mg 240 (by decide +kernel) (by decide +kernel)
set_option maxRecDepth 20000 in
theorem k231 : Cond.selects "BlockVault" ⟨"BlockVault", "get", "(II)I"⟩ ⟨"BlockVault", "get", "(II)I"⟩ ∈ WG := mg 241 (by decide +kernel) (by decide +kernel)
set_option maxRecDepth 20000 in
theorem k233 : Cond.methodLink "BlockVault" 61 ⟨"BlockVault", "isBlock", "(I)Z"⟩ ∈ WG := mg 243 (by decide +kernel) (by decide +kernel)
set_option maxRecDepth 20000 in
theorem k235 : Cond.instanceMethod ⟨"BlockVault", "isBlock", "(I)Z"⟩ ∈ WG := mg 245 (by decide +kernel) (by decide +kernel)
set_option maxRecDepth 20000 in
theorem k237 : Cond.methodLink "BlockVault" 65 ⟨"BlockVault$Cache", "lookAt", "(ILBlockVault$Disk;)LBlockVault$Row;"⟩ ∈ WG := mg 247 (by decide +kernel) (by decide +kernel)
set_option maxRecDepth 20000 in
theorem k238 : Cond.instanceMethod ⟨"BlockVault$Cache", "lookAt", "(ILBlockVault$Disk;)LBlockVault$Row;"⟩ ∈ WG := mg 248 (by decide +kernel) (by decide +kernel)
set_option maxRecDepth 20000 in
theorem k239 : Cond.selects "BlockVault$Cache" ⟨"BlockVault$Cache", "lookAt", "(ILBlockVault$Disk;)LBlockVault$Row;"⟩ ⟨"BlockVault$Cache", "lookAt", "(ILBlockVault$Disk;)LBlockVault$Row;"⟩ ∈ WG := mg 249 (by decide +kernel) (by decide +kernel)
set_option maxRecDepth 20000 in
theorem k241 : Cond.methodLink "BlockVault$Cache" 28 ⟨"BlockVault$Cache", "rowOf", "(I)LBlockVault$Row;"⟩ ∈ WG := mg 251 (by decide +kernel) (by decide +kernel)
set_option maxRecDepth 20000 in
theorem k242 : Cond.instanceMethod ⟨"BlockVault$Cache", "rowOf", "(I)LBlockVault$Row;"⟩ ∈ WG := mg 252 (by decide +kernel) (by decide +kernel)
set_option maxRecDepth 20000 in
theorem k243 : Cond.selects "BlockVault$Cache" ⟨"BlockVault$Cache", "rowOf", "(I)LBlockVault$Row;"⟩ ⟨"BlockVault$Cache", "rowOf", "(I)LBlockVault$Row;"⟩ ∈ WG := mg 253 (by decide +kernel) (by decide +kernel)
set_option maxRecDepth 20000 in
theorem k245 : Cond.methodLink "BlockVault$Cache" 32 ⟨"BlockVault$Cache", "rowToGive", "()LBlockVault$Row;"⟩ ∈ WG := mg 255 (by decide +kernel) (by decide +kernel)
set_option maxRecDepth 20000 in
theorem k247 : Cond.instanceMethod ⟨"BlockVault$Cache", "rowToGive", "()LBlockVault$Row;"⟩ ∈ WG := mg 257 (by decide +kernel) (by decide +kernel)
set_option maxRecDepth 20000 in
theorem k249 : Cond.methodLink "BlockVault$Cache" 49 ⟨"BlockVault$Row", "givesWayBefore", "(LBlockVault$Row;)Z"⟩ ∈ WG := mg 259 (by decide +kernel) (by decide +kernel)
set_option maxRecDepth 20000 in
theorem k250 : Cond.instanceMethod ⟨"BlockVault$Row", "givesWayBefore", "(LBlockVault$Row;)Z"⟩ ∈ WG := mg 260 (by decide +kernel) (by decide +kernel)
set_option maxRecDepth 20000 in
theorem k251 : Cond.selects "BlockVault$Row" ⟨"BlockVault$Row", "givesWayBefore", "(LBlockVault$Row;)Z"⟩ ⟨"BlockVault$Row", "givesWayBefore", "(LBlockVault$Row;)Z"⟩ ∈ WG := mg 261 (by decide +kernel) (by decide +kernel)
set_option maxRecDepth 20000 in
theorem k253 : Cond.methodLink "BlockVault$Cache" 40 ⟨"BlockVault$Disk", "read", "(ILBlockVault$Page;)V"⟩ ∈ WG := mg 263 (by decide +kernel) (by decide +kernel)
set_option maxRecDepth 20000 in
theorem k254 : Cond.methodLink "BlockVault" 75 ⟨"BlockVault$Page", "byteAt", "(I)I"⟩ ∈ WG := mg 264 (by decide +kernel) (by decide +kernel)
set_option maxRecDepth 20000 in
theorem k255 : Cond.methodLink "BlockVaultLaw" 40 ⟨"BlockVault", "fill", "(IIII)Z"⟩ ∈ WG := mg 265 (by decide +kernel) (by decide +kernel)
set_option maxRecDepth 20000 in
theorem k256 : Cond.instanceMethod ⟨"BlockVault", "fill", "(IIII)Z"⟩ ∈ WG := mg 266 (by decide +kernel) (by decide +kernel)
set_option maxRecDepth 20000 in
theorem k257 : Cond.selects "BlockVault" ⟨"BlockVault", "fill", "(IIII)Z"⟩ ⟨"BlockVault", "fill", "(IIII)Z"⟩ ∈ WG := mg 267 (by decide +kernel) (by decide +kernel)
set_option maxRecDepth 20000 in
theorem k259 : Cond.methodLink "BlockVault" 81 ⟨"BlockVault", "isRun", "(II)Z"⟩ ∈ WG := mg 269 (by decide +kernel) (by decide +kernel)
set_option maxRecDepth 20000 in
theorem k260 : Cond.methodLink "BlockVault" 85 ⟨"BlockVault", "stepTakes", "(I)Z"⟩ ∈ WG := mg 270 (by decide +kernel) (by decide +kernel)
set_option maxRecDepth 20000 in
theorem k262 : Cond.instanceMethod ⟨"BlockVault", "stepTakes", "(I)Z"⟩ ∈ WG := mg 272 (by decide +kernel) (by decide +kernel)
set_option maxRecDepth 20000 in
theorem k264 : Cond.methodLink "BlockVault" 121 ⟨"BlockVault$Cache", "rowOf", "(I)LBlockVault$Row;"⟩ ∈ WG := mg 274 (by decide +kernel) (by decide +kernel)
set_option maxRecDepth 20000 in
theorem k265 : Cond.methodLink "BlockVault" 109 ⟨"BlockVault$Cache", "stepRows", "()I"⟩ ∈ WG := mg 275 (by decide +kernel) (by decide +kernel)
set_option maxRecDepth 20000 in
theorem k266 : Cond.instanceMethod ⟨"BlockVault$Cache", "stepRows", "()I"⟩ ∈ WG := mg 276 (by decide +kernel) (by decide +kernel)
set_option maxRecDepth 20000 in
theorem k267 : Cond.selects "BlockVault$Cache" ⟨"BlockVault$Cache", "stepRows", "()I"⟩ ⟨"BlockVault$Cache", "stepRows", "()I"⟩ ∈ WG := mg 277 (by decide +kernel) (by decide +kernel)
set_option maxRecDepth 20000 in
theorem k269 : Cond.methodLink "BlockVault" 94 ⟨"BlockVault$Page", "putRun", "(III)V"⟩ ∈ WG := mg 279 (by decide +kernel) (by decide +kernel)
set_option maxRecDepth 20000 in
theorem k270 : Cond.methodLink "BlockVaultLaw" 45 ⟨"BlockVault", "cut", "(I)Z"⟩ ∈ WG := mg 280 (by decide +kernel) (by decide +kernel)
set_option maxRecDepth 20000 in
theorem k271 : Cond.instanceMethod ⟨"BlockVault", "cut", "(I)Z"⟩ ∈ WG := mg 281 (by decide +kernel) (by decide +kernel)
set_option maxRecDepth 20000 in
theorem k272 : Cond.selects "BlockVault" ⟨"BlockVault", "cut", "(I)Z"⟩ ⟨"BlockVault", "cut", "(I)Z"⟩ ∈ WG := mg 282 (by decide +kernel) (by decide +kernel)
set_option maxRecDepth 20000 in
theorem k274 : Cond.methodLink "BlockVault" 98 ⟨"BlockVault$Disk", "goAfter", "(I)V"⟩ ∈ WG := mg 284 (by decide +kernel) (by decide +kernel)
set_option maxRecDepth 20000 in
theorem k275 : Cond.instanceMethod ⟨"BlockVault$Disk", "goAfter", "(I)V"⟩ ∈ WG := mg 285 (by decide +kernel) (by decide +kernel)
set_option maxRecDepth 20000 in
theorem k276 : Cond.selects "BlockVault$Disk" ⟨"BlockVault$Disk", "goAfter", "(I)V"⟩ ⟨"BlockVault$Disk", "goAfter", "(I)V"⟩ ∈ WG := mg 286 (by decide +kernel) (by decide +kernel)
set_option maxRecDepth 20000 in
theorem k278 : Cond.methodLink "BlockVaultLaw" 50 ⟨"BlockVault", "power", "(I)I"⟩ ∈ WG := mg 288 (by decide +kernel) (by decide +kernel)
set_option maxRecDepth 20000 in
theorem k279 : Cond.instanceMethod ⟨"BlockVault", "power", "(I)I"⟩ ∈ WG := mg 289 (by decide +kernel) (by decide +kernel)
set_option maxRecDepth 20000 in
theorem k280 : Cond.selects "BlockVault" ⟨"BlockVault", "power", "(I)I"⟩ ⟨"BlockVault", "power", "(I)I"⟩ ∈ WG := mg 290 (by decide +kernel) (by decide +kernel)
set_option maxRecDepth 20000 in
theorem k282 : Cond.methodLink "BlockVault" 102 ⟨"BlockVault$Disk", "comeBack", "()V"⟩ ∈ WG := mg 292 (by decide +kernel) (by decide +kernel)
set_option maxRecDepth 20000 in
theorem k283 : Cond.instanceMethod ⟨"BlockVault$Disk", "comeBack", "()V"⟩ ∈ WG := mg 293 (by decide +kernel) (by decide +kernel)
set_option maxRecDepth 20000 in
theorem k284 : Cond.selects "BlockVault$Disk" ⟨"BlockVault$Disk", "comeBack", "()V"⟩ ⟨"BlockVault$Disk", "comeBack", "()V"⟩ ∈ WG := mg 294 (by decide +kernel) (by decide +kernel)
set_option maxRecDepth 20000 in
theorem k286 : Cond.methodLink "BlockVault" 105 ⟨"BlockVault$Log", "bringHome", "(LBlockVault$Disk;)I"⟩ ∈ WG := mg 296 (by decide +kernel) (by decide +kernel)
set_option maxRecDepth 20000 in
theorem k287 : Cond.methodLink "BlockVaultLaw" 55 ⟨"BlockVault", "count", "(I)I"⟩ ∈ WG := mg 297 (by decide +kernel) (by decide +kernel)
set_option maxRecDepth 20000 in
theorem k288 : Cond.instanceMethod ⟨"BlockVault", "count", "(I)I"⟩ ∈ WG := mg 298 (by decide +kernel) (by decide +kernel)
set_option maxRecDepth 20000 in
theorem k289 : Cond.selects "BlockVault" ⟨"BlockVault", "count", "(I)I"⟩ ⟨"BlockVault", "count", "(I)I"⟩ ∈ WG := mg 299 (by decide +kernel) (by decide +kernel)
set_option maxRecDepth 20000 in
theorem k291 : Cond.methodLink "BlockVault" 112 ⟨"BlockVault$Disk", "writesMade", "()I"⟩ ∈ WG := mg 301 (by decide +kernel) (by decide +kernel)
set_option maxRecDepth 20000 in
theorem k292 : Cond.instanceMethod ⟨"BlockVault$Disk", "writesMade", "()I"⟩ ∈ WG := mg 302 (by decide +kernel) (by decide +kernel)
set_option maxRecDepth 20000 in
theorem k293 : Cond.selects "BlockVault$Disk" ⟨"BlockVault$Disk", "writesMade", "()I"⟩ ⟨"BlockVault$Disk", "writesMade", "()I"⟩ ∈ WG := mg 303 (by decide +kernel) (by decide +kernel)
set_option maxRecDepth 20000 in
theorem k295 : Cond.methodLink "BlockVault" 115 ⟨"BlockVault$Cache", "readsMade", "()I"⟩ ∈ WG := mg 305 (by decide +kernel) (by decide +kernel)
set_option maxRecDepth 20000 in
theorem k296 : Cond.instanceMethod ⟨"BlockVault$Cache", "readsMade", "()I"⟩ ∈ WG := mg 306 (by decide +kernel) (by decide +kernel)
set_option maxRecDepth 20000 in
theorem k297 : Cond.selects "BlockVault$Cache" ⟨"BlockVault$Cache", "readsMade", "()I"⟩ ⟨"BlockVault$Cache", "readsMade", "()I"⟩ ∈ WG := mg 307 (by decide +kernel) (by decide +kernel)
set_option maxRecDepth 20000 in
theorem k299 : Cond.methodLink "BlockVault" 118 ⟨"BlockVault$Log", "commitsCounted", "()I"⟩ ∈ WG := mg 309 (by decide +kernel) (by decide +kernel)
set_option maxRecDepth 20000 in
theorem k300 : Cond.instanceMethod ⟨"BlockVault$Log", "commitsCounted", "()I"⟩ ∈ WG := mg 310 (by decide +kernel) (by decide +kernel)
set_option maxRecDepth 20000 in
theorem k301 : Cond.selects "BlockVault$Log" ⟨"BlockVault$Log", "commitsCounted", "()I"⟩ ⟨"BlockVault$Log", "commitsCounted", "()I"⟩ ∈ WG := mg 311 (by decide +kernel) (by decide +kernel)
set_option maxRecDepth 20000 in
theorem k303 : Cond.methodLink "BlockVaultLaw" 59 ⟨"BlockVault", "held", "(I)Z"⟩ ∈ WG := mg 313 (by decide +kernel) (by decide +kernel)
set_option maxRecDepth 20000 in
theorem k304 : Cond.instanceMethod ⟨"BlockVault", "held", "(I)Z"⟩ ∈ WG := mg 314 (by decide +kernel) (by decide +kernel)
set_option maxRecDepth 20000 in
theorem k305 : Cond.selects "BlockVault" ⟨"BlockVault", "held", "(I)Z"⟩ ⟨"BlockVault", "held", "(I)Z"⟩ ∈ WG := mg 315 (by decide +kernel) (by decide +kernel)
set_option maxRecDepth 20000 in
theorem k307 : Cond.methodLink "BlockVaultLaw" 63 ⟨"BlockVault", "cached", "(I)Z"⟩ ∈ WG := mg 317 (by decide +kernel) (by decide +kernel)
set_option maxRecDepth 20000 in
theorem k308 : Cond.instanceMethod ⟨"BlockVault", "cached", "(I)Z"⟩ ∈ WG := mg 318 (by decide +kernel) (by decide +kernel)
set_option maxRecDepth 20000 in
theorem k309 : Cond.selects "BlockVault" ⟨"BlockVault", "cached", "(I)Z"⟩ ⟨"BlockVault", "cached", "(I)Z"⟩ ∈ WG := mg 319 (by decide +kernel) (by decide +kernel)
set_option maxRecDepth 20000 in
theorem k311 : Cond.methodLink "BlockVaultLaw" 9 ⟨"BlockVaultLaw", "cell", "([II)I"⟩ ∈ WG := mg 321 (by decide +kernel) (by decide +kernel)
set_option maxRecDepth 20000 in
theorem k312 : Cond.static ⟨"BlockVaultLaw", "cell", "([II)I"⟩ ∈ WG := mg 322 (by decide +kernel) (by decide +kernel)
set_option maxRecDepth 20000 in
theorem k314 : Cond.classLink "BlockVaultLaw" 18 "BlockVaultModel" ∈ WG := mg 324 (by decide +kernel) (by decide +kernel)
set_option maxRecDepth 20000 in
theorem k315 : Cond.instantiable "BlockVaultModel" 15 ∈ WG := mg 325 (by decide +kernel) (by decide +kernel)
set_option maxRecDepth 20000 in
theorem k316 : Cond.methodLink "BlockVaultLaw" 20 ⟨"BlockVaultModel", "<init>", "(I)V"⟩ ∈ WG := mg 326 (by decide +kernel) (by decide +kernel)
set_option maxRecDepth 20000 in
theorem k317 : Cond.instanceMethod ⟨"BlockVaultModel", "<init>", "(I)V"⟩ ∈ WG := mg 327 (by decide +kernel) (by decide +kernel)
set_option maxRecDepth 20000 in
theorem k319 : Cond.methodLink "BlockVaultModel" 1 ⟨"java/lang/Object", "<init>", "()V"⟩ ∈ WG := mg 329 (by decide +kernel) (by decide +kernel)
set_option maxRecDepth 20000 in
theorem k320 : Cond.constant "BlockVaultModel" 7 (81920 : Int32) ∈ WG := mg 330 (by decide +kernel) (by decide +kernel)
set_option maxRecDepth 20000 in
theorem k321 : Cond.fieldLink "BlockVaultModel" 42 "BlockVaultModel" "thrown" "I" ∈ WG := mg 331 (by decide +kernel) (by decide +kernel)
set_option maxRecDepth 20000 in
theorem k322 : Cond.fieldLink "BlockVaultModel" 39 "BlockVaultModel" "blocks" "I" ∈ WG := mg 332 (by decide +kernel) (by decide +kernel)
set_option maxRecDepth 20000 in
theorem k323 : Cond.fieldLink "BlockVaultModel" 8 "BlockVaultModel" "safe" "[B" ∈ WG := mg 333 (by decide +kernel) (by decide +kernel)
set_option maxRecDepth 20000 in
theorem k324 : Cond.fieldLink "BlockVaultModel" 14 "BlockVaultModel" "now" "[B" ∈ WG := mg 334 (by decide +kernel) (by decide +kernel)
set_option maxRecDepth 20000 in
theorem k325 : Cond.fieldLink "BlockVaultModel" 17 "BlockVaultModel" "held" "[Z" ∈ WG := mg 335 (by decide +kernel) (by decide +kernel)
set_option maxRecDepth 20000 in
theorem k326 : Cond.fieldLink "BlockVaultModel" 21 "BlockVaultModel" "changed" "[Z" ∈ WG := mg 336 (by decide +kernel) (by decide +kernel)
set_option maxRecDepth 20000 in
theorem k327 : Cond.fieldLink "BlockVaultModel" 24 "BlockVaultModel" "stamp" "[I" ∈ WG := mg 337 (by decide +kernel) (by decide +kernel)
set_option maxRecDepth 20000 in
theorem k328 : Cond.fieldLink "BlockVaultModel" 72 "BlockVaultModel" "time" "I" ∈ WG := mg 338 (by decide +kernel) (by decide +kernel)
set_option maxRecDepth 20000 in
theorem k329 : Cond.fieldLink "BlockVaultModel" 28 "BlockVaultModel" "on" "Z" ∈ WG := mg 339 (by decide +kernel) (by decide +kernel)
set_option maxRecDepth 20000 in
theorem k330 : Cond.fieldLink "BlockVaultModel" 45 "BlockVaultModel" "open" "Z" ∈ WG := mg 340 (by decide +kernel) (by decide +kernel)
set_option maxRecDepth 20000 in
theorem k331 : Cond.fieldLink "BlockVaultModel" 32 "BlockVaultModel" "left" "I" ∈ WG := mg 341 (by decide +kernel) (by decide +kernel)
set_option maxRecDepth 20000 in
theorem k332 : Cond.fieldLink "BlockVaultModel" 48 "BlockVaultModel" "writes" "I" ∈ WG := mg 342 (by decide +kernel) (by decide +kernel)
set_option maxRecDepth 20000 in
theorem k333 : Cond.fieldLink "BlockVaultModel" 69 "BlockVaultModel" "reads" "I" ∈ WG := mg 343 (by decide +kernel) (by decide +kernel)
set_option maxRecDepth 20000 in
theorem k334 : Cond.fieldLink "BlockVaultModel" 59 "BlockVaultModel" "commits" "I" ∈ WG := mg 344 (by decide +kernel) (by decide +kernel)
set_option maxRecDepth 20000 in
theorem k335 : Cond.fieldLink "BlockVaultModel" 36 "BlockVaultModel" "unended" "I" ∈ WG := mg 345 (by decide +kernel) (by decide +kernel)
set_option maxRecDepth 20000 in
theorem k367 : Cond.arrayClass FieldType.boolean ∈ WG := mg 377 (by decide +kernel) (by decide +kernel)
set_option maxRecDepth 20000 in
theorem k368 : Cond.arrayClass FieldType.int ∈ WG := mg 378 (by decide +kernel) (by decide +kernel)
set_option maxRecDepth 20000 in
theorem k369 : Cond.methodLink "BlockVaultLaw" 25 ⟨"BlockVaultModel", "begin", "()Z"⟩ ∈ WG := mg 379 (by decide +kernel) (by decide +kernel)
set_option maxRecDepth 20000 in
theorem k370 : Cond.instanceMethod ⟨"BlockVaultModel", "begin", "()Z"⟩ ∈ WG := mg 380 (by decide +kernel) (by decide +kernel)
set_option maxRecDepth 20000 in
theorem k371 : Cond.selects "BlockVaultModel" ⟨"BlockVaultModel", "begin", "()Z"⟩ ⟨"BlockVaultModel", "begin", "()Z"⟩ ∈ WG := mg 381 (by decide +kernel) (by decide +kernel)
set_option maxRecDepth 20000 in
theorem k373 : Cond.methodLink "BlockVaultLaw" 30 ⟨"BlockVaultModel", "end", "()I"⟩ ∈ WG := mg 383 (by decide +kernel) (by decide +kernel)
set_option maxRecDepth 20000 in
theorem k374 : Cond.instanceMethod ⟨"BlockVaultModel", "end", "()I"⟩ ∈ WG := mg 384 (by decide +kernel) (by decide +kernel)
set_option maxRecDepth 20000 in
theorem k375 : Cond.selects "BlockVaultModel" ⟨"BlockVaultModel", "end", "()I"⟩ ⟨"BlockVaultModel", "end", "()I"⟩ ∈ WG := mg 385 (by decide +kernel) (by decide +kernel)
set_option maxRecDepth 20000 in
theorem k377 : Cond.methodLink "BlockVaultModel" 51 ⟨"BlockVaultModel", "many", "([Z)I"⟩ ∈ WG := mg 387 (by decide +kernel) (by decide +kernel)
set_option maxRecDepth 20000 in
theorem k378 : Cond.static ⟨"BlockVaultModel", "many", "([Z)I"⟩ ∈ WG := mg 388 (by decide +kernel) (by decide +kernel)
set_option maxRecDepth 20000 in
theorem k380 : Cond.methodLink "BlockVaultModel" 66 ⟨"BlockVaultModel", "commit", "()Z"⟩ ∈ WG := mg 390 (by decide +kernel) (by decide +kernel)
set_option maxRecDepth 20000 in
theorem k382 : Cond.instanceMethod ⟨"BlockVaultModel", "commit", "()Z"⟩ ∈ WG := mg 392 (by decide +kernel) (by decide +kernel)
set_option maxRecDepth 20000 in
theorem k384 : Cond.methodLink "BlockVaultModel" 55 ⟨"BlockVaultModel", "written", "(I)Z"⟩ ∈ WG := mg 394 (by decide +kernel) (by decide +kernel)
set_option maxRecDepth 20000 in
theorem k386 : Cond.instanceMethod ⟨"BlockVaultModel", "written", "(I)Z"⟩ ∈ WG := mg 396 (by decide +kernel) (by decide +kernel)
set_option maxRecDepth 20000 in
theorem k388 : Cond.methodLink "BlockVaultModel" 62 ⟨"BlockVaultModel", "ended", "()Z"⟩ ∈ WG := mg 398 (by decide +kernel) (by decide +kernel)
set_option maxRecDepth 20000 in
theorem k390 : Cond.instanceMethod ⟨"BlockVaultModel", "ended", "()Z"⟩ ∈ WG := mg 400 (by decide +kernel) (by decide +kernel)
set_option maxRecDepth 20000 in
theorem k392 : Cond.methodLink "BlockVaultLaw" 34 ⟨"BlockVaultModel", "flush", "()I"⟩ ∈ WG := mg 402 (by decide +kernel) (by decide +kernel)
set_option maxRecDepth 20000 in
theorem k393 : Cond.instanceMethod ⟨"BlockVaultModel", "flush", "()I"⟩ ∈ WG := mg 403 (by decide +kernel) (by decide +kernel)
set_option maxRecDepth 20000 in
theorem k394 : Cond.selects "BlockVaultModel" ⟨"BlockVaultModel", "flush", "()I"⟩ ⟨"BlockVaultModel", "flush", "()I"⟩ ∈ WG := mg 404 (by decide +kernel) (by decide +kernel)
set_option maxRecDepth 20000 in
theorem k396 : Cond.methodLink "BlockVaultLaw" 39 ⟨"BlockVaultModel", "get", "(II)I"⟩ ∈ WG := mg 406 (by decide +kernel) (by decide +kernel)
set_option maxRecDepth 20000 in
theorem k397 : Cond.instanceMethod ⟨"BlockVaultModel", "get", "(II)I"⟩ ∈ WG := mg 407 (by decide +kernel) (by decide +kernel)
set_option maxRecDepth 20000 in
theorem k398 : Cond.selects "BlockVaultModel" ⟨"BlockVaultModel", "get", "(II)I"⟩ ⟨"BlockVaultModel", "get", "(II)I"⟩ ∈ WG := mg 408 (by decide +kernel) (by decide +kernel)
set_option maxRecDepth 20000 in
theorem k400 : Cond.methodLink "BlockVaultModel" 75 ⟨"BlockVaultModel", "isBlock", "(I)Z"⟩ ∈ WG := mg 410 (by decide +kernel) (by decide +kernel)
set_option maxRecDepth 20000 in
theorem k402 : Cond.instanceMethod ⟨"BlockVaultModel", "isBlock", "(I)Z"⟩ ∈ WG := mg 412 (by decide +kernel) (by decide +kernel)
set_option maxRecDepth 20000 in
theorem k404 : Cond.methodLink "BlockVaultModel" 78 ⟨"BlockVaultModel", "look", "(I)V"⟩ ∈ WG := mg 414 (by decide +kernel) (by decide +kernel)
set_option maxRecDepth 20000 in
theorem k406 : Cond.instanceMethod ⟨"BlockVaultModel", "look", "(I)V"⟩ ∈ WG := mg 416 (by decide +kernel) (by decide +kernel)
set_option maxRecDepth 20000 in
theorem k408 : Cond.methodLink "BlockVaultLaw" 44 ⟨"BlockVaultModel", "fill", "(IIII)Z"⟩ ∈ WG := mg 418 (by decide +kernel) (by decide +kernel)
set_option maxRecDepth 20000 in
theorem k409 : Cond.instanceMethod ⟨"BlockVaultModel", "fill", "(IIII)Z"⟩ ∈ WG := mg 419 (by decide +kernel) (by decide +kernel)
set_option maxRecDepth 20000 in
theorem k410 : Cond.selects "BlockVaultModel" ⟨"BlockVaultModel", "fill", "(IIII)Z"⟩ ⟨"BlockVaultModel", "fill", "(IIII)Z"⟩ ∈ WG := mg 420 (by decide +kernel) (by decide +kernel)
set_option maxRecDepth 20000 in
theorem k412 : Cond.methodLink "BlockVaultLaw" 49 ⟨"BlockVaultModel", "cut", "(I)Z"⟩ ∈ WG := mg 422 (by decide +kernel) (by decide +kernel)
set_option maxRecDepth 20000 in
theorem k413 : Cond.instanceMethod ⟨"BlockVaultModel", "cut", "(I)Z"⟩ ∈ WG := mg 423 (by decide +kernel) (by decide +kernel)
set_option maxRecDepth 20000 in
theorem k414 : Cond.selects "BlockVaultModel" ⟨"BlockVaultModel", "cut", "(I)Z"⟩ ⟨"BlockVaultModel", "cut", "(I)Z"⟩ ∈ WG := mg 424 (by decide +kernel) (by decide +kernel)
set_option maxRecDepth 20000 in
theorem k416 : Cond.methodLink "BlockVaultLaw" 54 ⟨"BlockVaultModel", "power", "(I)I"⟩ ∈ WG := mg 426 (by decide +kernel) (by decide +kernel)
set_option maxRecDepth 20000 in
theorem k417 : Cond.instanceMethod ⟨"BlockVaultModel", "power", "(I)I"⟩ ∈ WG := mg 427 (by decide +kernel) (by decide +kernel)
set_option maxRecDepth 20000 in
theorem k418 : Cond.selects "BlockVaultModel" ⟨"BlockVaultModel", "power", "(I)I"⟩ ⟨"BlockVaultModel", "power", "(I)I"⟩ ∈ WG := mg 428 (by decide +kernel) (by decide +kernel)
set_option maxRecDepth 20000 in
theorem k420 : Cond.methodLink "BlockVaultLaw" 58 ⟨"BlockVaultModel", "count", "(I)I"⟩ ∈ WG := mg 430 (by decide +kernel) (by decide +kernel)
set_option maxRecDepth 20000 in
theorem k421 : Cond.instanceMethod ⟨"BlockVaultModel", "count", "(I)I"⟩ ∈ WG := mg 431 (by decide +kernel) (by decide +kernel)
set_option maxRecDepth 20000 in
theorem k422 : Cond.selects "BlockVaultModel" ⟨"BlockVaultModel", "count", "(I)I"⟩ ⟨"BlockVaultModel", "count", "(I)I"⟩ ∈ WG := mg 432 (by decide +kernel) (by decide +kernel)
set_option maxRecDepth 20000 in
theorem k424 : Cond.methodLink "BlockVaultLaw" 62 ⟨"BlockVaultModel", "held", "(I)Z"⟩ ∈ WG := mg 434 (by decide +kernel) (by decide +kernel)
set_option maxRecDepth 20000 in
theorem k425 : Cond.instanceMethod ⟨"BlockVaultModel", "held", "(I)Z"⟩ ∈ WG := mg 435 (by decide +kernel) (by decide +kernel)
set_option maxRecDepth 20000 in
theorem k426 : Cond.selects "BlockVaultModel" ⟨"BlockVaultModel", "held", "(I)Z"⟩ ⟨"BlockVaultModel", "held", "(I)Z"⟩ ∈ WG := mg 436 (by decide +kernel) (by decide +kernel)
set_option maxRecDepth 20000 in
theorem k428 : Cond.methodLink "BlockVaultLaw" 66 ⟨"BlockVaultModel", "cached", "(I)Z"⟩ ∈ WG := mg 438 (by decide +kernel) (by decide +kernel)
set_option maxRecDepth 20000 in
theorem k429 : Cond.instanceMethod ⟨"BlockVaultModel", "cached", "(I)Z"⟩ ∈ WG := mg 439 (by decide +kernel) (by decide +kernel)
set_option maxRecDepth 20000 in
theorem k430 : Cond.selects "BlockVaultModel" ⟨"BlockVaultModel", "cached", "(I)Z"⟩ ⟨"BlockVaultModel", "cached", "(I)Z"⟩ ∈ WG := mg 440 (by decide +kernel) (by decide +kernel)
set_option maxRecDepth 20000 in
theorem ks0 : Cond.selects "BlockVault" ⟨"BlockVault", "commit", "()Z"⟩ ⟨"BlockVault", "commit", "()Z"⟩ ∈ WG := mg 0 (by decide +kernel) (by decide +kernel)
set_option maxRecDepth 20000 in
theorem ks1 : Cond.selects "BlockVault$Log" ⟨"BlockVault$Log", "copyHeld", "(LBlockVault$Cache;LBlockVault$Disk;)Z"⟩ ⟨"BlockVault$Log", "copyHeld", "(LBlockVault$Cache;LBlockVault$Disk;)Z"⟩ ∈ WG := mg 1 (by decide +kernel) (by decide +kernel)
set_option maxRecDepth 20000 in
theorem ks2 : Cond.selects "BlockVault" ⟨"BlockVault", "isBlock", "(I)Z"⟩ ⟨"BlockVault", "isBlock", "(I)Z"⟩ ∈ WG := mg 2 (by decide +kernel) (by decide +kernel)
set_option maxRecDepth 20000 in
theorem ks3 : Cond.selects "BlockVault$Cache" ⟨"BlockVault$Cache", "rowToGive", "()LBlockVault$Row;"⟩ ⟨"BlockVault$Cache", "rowToGive", "()LBlockVault$Row;"⟩ ∈ WG := mg 3 (by decide +kernel) (by decide +kernel)
set_option maxRecDepth 20000 in
theorem ks4 : Cond.selects "BlockVault" ⟨"BlockVault", "stepTakes", "(I)Z"⟩ ⟨"BlockVault", "stepTakes", "(I)Z"⟩ ∈ WG := mg 4 (by decide +kernel) (by decide +kernel)
set_option maxRecDepth 20000 in
theorem ks5 : Cond.selects "BlockVaultModel" ⟨"BlockVaultModel", "commit", "()Z"⟩ ⟨"BlockVaultModel", "commit", "()Z"⟩ ∈ WG := mg 5 (by decide +kernel) (by decide +kernel)
set_option maxRecDepth 20000 in
theorem ks6 : Cond.selects "BlockVaultModel" ⟨"BlockVaultModel", "written", "(I)Z"⟩ ⟨"BlockVaultModel", "written", "(I)Z"⟩ ∈ WG := mg 6 (by decide +kernel) (by decide +kernel)
set_option maxRecDepth 20000 in
theorem ks7 : Cond.selects "BlockVaultModel" ⟨"BlockVaultModel", "ended", "()Z"⟩ ⟨"BlockVaultModel", "ended", "()Z"⟩ ∈ WG := mg 7 (by decide +kernel) (by decide +kernel)
set_option maxRecDepth 20000 in
theorem ks8 : Cond.selects "BlockVaultModel" ⟨"BlockVaultModel", "isBlock", "(I)Z"⟩ ⟨"BlockVaultModel", "isBlock", "(I)Z"⟩ ∈ WG := mg 8 (by decide +kernel) (by decide +kernel)
set_option maxRecDepth 20000 in
theorem ks9 : Cond.selects "BlockVaultModel" ⟨"BlockVaultModel", "look", "(I)V"⟩ ⟨"BlockVaultModel", "look", "(I)V"⟩ ∈ WG := mg 9 (by decide +kernel) (by decide +kernel)
/-! links to nest mates: they go with the world -/
def nestF : List (String × Nat × String × String × String × String) := [("BlockVault$Cache", 36, "BlockVault$Row", "page", "LBlockVault$Page;", "BlockVault"), ("BlockVault$Log", 58, "BlockVault$Row", "page", "LBlockVault$Page;", "BlockVault"), ("BlockVault", 69, "BlockVault$Row", "page", "LBlockVault$Page;", "BlockVault"), ("BlockVault$Cache", 25, "BlockVault$Row", "block", "I", "BlockVault"), ("BlockVault$Log", 51, "BlockVault$Row", "block", "I", "BlockVault"), ("BlockVault$Cache", 46, "BlockVault$Row", "lastUse", "I", "BlockVault"), ("BlockVault$Log", 45, "BlockVault$Row", "held", "Z", "BlockVault"), ("BlockVault$Cache", 53, "BlockVault$Row", "held", "Z", "BlockVault"), ("BlockVault", 88, "BlockVault$Row", "held", "Z", "BlockVault"), ("BlockVault", 91, "BlockVault$Row", "inStep", "Z", "BlockVault"), ("BlockVault$Cache", 57, "BlockVault$Row", "inStep", "Z", "BlockVault"), ("BlockVault$Log", 39, "BlockVault$Cache", "rows", "[LBlockVault$Row;", "BlockVault")]
def nestM : List (String × Nat × MethodName × String) := [("BlockVault$Disk", 17, ⟨"BlockVault$Page", "<init>", "()V"⟩, "BlockVault"), ("BlockVault$Row", 11, ⟨"BlockVault$Page", "<init>", "()V"⟩, "BlockVault"), ("BlockVault$Log", 11, ⟨"BlockVault$Page", "<init>", "()V"⟩, "BlockVault"), ("BlockVault$Page", 15, ⟨"BlockVault", "isRun", "(II)Z"⟩, "BlockVault")]
def JN (U : State) : Prop := (∀ q ∈ nestF, va_Nw (.fieldLinkNest q.1 q.2.1 q.2.2.1 q.2.2.2.1 q.2.2.2.2.1 q.2.2.2.2.2) U) ∧ (∀ q ∈ nestM, va_Nw (.methodLinkNest q.1 q.2.1 q.2.2.1 q.2.2.2) U) ∧ va_AO "BlockVault$Page" U ∧ va_AO "BlockVault$Row" U
theorem JN.warm {s U : State} (h : JN s) (hW : s.WarmedH U.vm) : JN U := ⟨fun q hq => va_Nw.warmF hW (h.1 q hq), fun q hq => va_Nw.warmM hW (h.2.1 q hq), h.2.2.1.moved hW.alike, h.2.2.2.moved hW.alike⟩
theorem JN.same {u U : State} (h : JN u) (e : u.vm = U.vm) : JN U := ⟨fun q hq => va_Nw.same rfl e (h.1 q hq), fun q hq => va_Nw.same rfl e (h.2.1 q hq), by
  refine h.2.2.1.moved ?_
  rw [← e]
  exact Vm.Alike.refl _, by
  refine h.2.2.2.moved ?_
  rw [← e]
  exact Vm.Alike.refl _⟩
theorem nf0 {s : State} {args : Array Value} (h : JN s) : (Cond.fieldLinkNest "BlockVault$Cache" 36 "BlockVault$Row" "page" "LBlockVault$Page;" "BlockVault").before args s = true := va_Nw.use rfl (h.1 _ (List.mem_of_getElem? (i := 0) rfl))
theorem nf1 {s : State} {args : Array Value} (h : JN s) : (Cond.fieldLinkNest "BlockVault$Log" 58 "BlockVault$Row" "page" "LBlockVault$Page;" "BlockVault").before args s = true := va_Nw.use rfl (h.1 _ (List.mem_of_getElem? (i := 1) rfl))
theorem nf2 {s : State} {args : Array Value} (h : JN s) : (Cond.fieldLinkNest "BlockVault" 69 "BlockVault$Row" "page" "LBlockVault$Page;" "BlockVault").before args s = true := va_Nw.use rfl (h.1 _ (List.mem_of_getElem? (i := 2) rfl))
theorem nf3 {s : State} {args : Array Value} (h : JN s) : (Cond.fieldLinkNest "BlockVault$Cache" 25 "BlockVault$Row" "block" "I" "BlockVault").before args s = true := va_Nw.use rfl (h.1 _ (List.mem_of_getElem? (i := 3) rfl))
theorem nf4 {s : State} {args : Array Value} (h : JN s) : (Cond.fieldLinkNest "BlockVault$Log" 51 "BlockVault$Row" "block" "I" "BlockVault").before args s = true := va_Nw.use rfl (h.1 _ (List.mem_of_getElem? (i := 4) rfl))
theorem nf5 {s : State} {args : Array Value} (h : JN s) : (Cond.fieldLinkNest "BlockVault$Cache" 46 "BlockVault$Row" "lastUse" "I" "BlockVault").before args s = true := va_Nw.use rfl (h.1 _ (List.mem_of_getElem? (i := 5) rfl))
theorem nf6 {s : State} {args : Array Value} (h : JN s) : (Cond.fieldLinkNest "BlockVault$Log" 45 "BlockVault$Row" "held" "Z" "BlockVault").before args s = true := va_Nw.use rfl (h.1 _ (List.mem_of_getElem? (i := 6) rfl))
theorem nf7 {s : State} {args : Array Value} (h : JN s) : (Cond.fieldLinkNest "BlockVault$Cache" 53 "BlockVault$Row" "held" "Z" "BlockVault").before args s = true := va_Nw.use rfl (h.1 _ (List.mem_of_getElem? (i := 7) rfl))
theorem nf8 {s : State} {args : Array Value} (h : JN s) : (Cond.fieldLinkNest "BlockVault" 88 "BlockVault$Row" "held" "Z" "BlockVault").before args s = true := va_Nw.use rfl (h.1 _ (List.mem_of_getElem? (i := 8) rfl))
theorem nf9 {s : State} {args : Array Value} (h : JN s) : (Cond.fieldLinkNest "BlockVault" 91 "BlockVault$Row" "inStep" "Z" "BlockVault").before args s = true := va_Nw.use rfl (h.1 _ (List.mem_of_getElem? (i := 9) rfl))
theorem nf10 {s : State} {args : Array Value} (h : JN s) : (Cond.fieldLinkNest "BlockVault$Cache" 57 "BlockVault$Row" "inStep" "Z" "BlockVault").before args s = true := va_Nw.use rfl (h.1 _ (List.mem_of_getElem? (i := 10) rfl))
theorem nf11 {s : State} {args : Array Value} (h : JN s) : (Cond.fieldLinkNest "BlockVault$Log" 39 "BlockVault$Cache" "rows" "[LBlockVault$Row;" "BlockVault").before args s = true := va_Nw.use rfl (h.1 _ (List.mem_of_getElem? (i := 11) rfl))
theorem nm0 {s : State} (h : JN s) : va_Nw (Cond.methodLinkNest "BlockVault$Disk" 17 ⟨"BlockVault$Page", "<init>", "()V"⟩ "BlockVault") s := h.2.1 _ (List.mem_of_getElem? (i := 0) rfl)
theorem nm1 {s : State} (h : JN s) : va_Nw (Cond.methodLinkNest "BlockVault$Row" 11 ⟨"BlockVault$Page", "<init>", "()V"⟩ "BlockVault") s := h.2.1 _ (List.mem_of_getElem? (i := 1) rfl)
theorem nm2 {s : State} (h : JN s) : va_Nw (Cond.methodLinkNest "BlockVault$Log" 11 ⟨"BlockVault$Page", "<init>", "()V"⟩ "BlockVault") s := h.2.1 _ (List.mem_of_getElem? (i := 2) rfl)
theorem nm3 {s : State} (h : JN s) : va_Nw (Cond.methodLinkNest "BlockVault$Page" 15 ⟨"BlockVault", "isRun", "(II)Z"⟩ "BlockVault") s := h.2.1 _ (List.mem_of_getElem? (i := 3) rfl)
