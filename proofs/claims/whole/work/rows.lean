section
-- ===== PART A: goes FIRST, ahead of the names: the tables' words, and 'selects' of the private methods out of them =====
/-- a private method of a class that the tables say can be made, by its rows of tables_1 -/
def lw_okq (q : MethodName × Nat) : Prop := (q.1.cls ≠ "java/lang/invoke/MethodHandle" ∧ q.1.cls ≠ "java/lang/invoke/VarHandle") ∧ Cond.instantiable q.1.cls q.2 ∈ tables_1 ∧ Cond.privateMethod q.1 ∈ tables_1 ∧ Cond.instanceMethod q.1 ∈ tables_1
theorem lw_p0 : lw_okq (⟨"BlockVault", "commit", "()Z"⟩, 5) := ⟨⟨by decide +kernel, by decide +kernel⟩, List.mem_of_getElem? (i := 12) (by decide +kernel), List.mem_of_getElem? (i := 163) (by decide +kernel), List.mem_of_getElem? (i := 164) (by decide +kernel)⟩
theorem lw_p1 : lw_okq (⟨"BlockVault$Log", "copyHeld", "(LBlockVault$Cache;LBlockVault$Disk;)Z"⟩, 3) := ⟨⟨by decide +kernel, by decide +kernel⟩, List.mem_of_getElem? (i := 109) (by decide +kernel), List.mem_of_getElem? (i := 171) (by decide +kernel), List.mem_of_getElem? (i := 172) (by decide +kernel)⟩
theorem lw_p2 : lw_okq (⟨"BlockVault", "isBlock", "(I)Z"⟩, 5) := ⟨⟨by decide +kernel, by decide +kernel⟩, List.mem_of_getElem? (i := 12) (by decide +kernel), List.mem_of_getElem? (i := 234) (by decide +kernel), List.mem_of_getElem? (i := 235) (by decide +kernel)⟩
theorem lw_p3 : lw_okq (⟨"BlockVault$Cache", "rowToGive", "()LBlockVault$Row;"⟩, 3) := ⟨⟨by decide +kernel, by decide +kernel⟩, List.mem_of_getElem? (i := 56) (by decide +kernel), List.mem_of_getElem? (i := 246) (by decide +kernel), List.mem_of_getElem? (i := 247) (by decide +kernel)⟩
theorem lw_p4 : lw_okq (⟨"BlockVault", "stepTakes", "(I)Z"⟩, 5) := ⟨⟨by decide +kernel, by decide +kernel⟩, List.mem_of_getElem? (i := 12) (by decide +kernel), List.mem_of_getElem? (i := 261) (by decide +kernel), List.mem_of_getElem? (i := 262) (by decide +kernel)⟩
theorem lw_p5 : lw_okq (⟨"BlockVaultModel", "commit", "()Z"⟩, 15) := ⟨⟨by decide +kernel, by decide +kernel⟩, List.mem_of_getElem? (i := 315) (by decide +kernel), List.mem_of_getElem? (i := 381) (by decide +kernel), List.mem_of_getElem? (i := 382) (by decide +kernel)⟩
theorem lw_p6 : lw_okq (⟨"BlockVaultModel", "written", "(I)Z"⟩, 15) := ⟨⟨by decide +kernel, by decide +kernel⟩, List.mem_of_getElem? (i := 315) (by decide +kernel), List.mem_of_getElem? (i := 385) (by decide +kernel), List.mem_of_getElem? (i := 386) (by decide +kernel)⟩
theorem lw_p7 : lw_okq (⟨"BlockVaultModel", "ended", "()Z"⟩, 15) := ⟨⟨by decide +kernel, by decide +kernel⟩, List.mem_of_getElem? (i := 315) (by decide +kernel), List.mem_of_getElem? (i := 389) (by decide +kernel), List.mem_of_getElem? (i := 390) (by decide +kernel)⟩
theorem lw_p8 : lw_okq (⟨"BlockVaultModel", "isBlock", "(I)Z"⟩, 15) := ⟨⟨by decide +kernel, by decide +kernel⟩, List.mem_of_getElem? (i := 315) (by decide +kernel), List.mem_of_getElem? (i := 401) (by decide +kernel), List.mem_of_getElem? (i := 402) (by decide +kernel)⟩
theorem lw_p9 : lw_okq (⟨"BlockVaultModel", "look", "(I)V"⟩, 15) := ⟨⟨by decide +kernel, by decide +kernel⟩, List.mem_of_getElem? (i := 315) (by decide +kernel), List.mem_of_getElem? (i := 405) (by decide +kernel), List.mem_of_getElem? (i := 406) (by decide +kernel)⟩
def lw_privs_1 : List (MethodName × Nat) := [(⟨"BlockVault", "commit", "()Z"⟩, 5), (⟨"BlockVault$Log", "copyHeld", "(LBlockVault$Cache;LBlockVault$Disk;)Z"⟩, 3), (⟨"BlockVault", "isBlock", "(I)Z"⟩, 5), (⟨"BlockVault$Cache", "rowToGive", "()LBlockVault$Row;"⟩, 3), (⟨"BlockVault", "stepTakes", "(I)Z"⟩, 5), (⟨"BlockVaultModel", "commit", "()Z"⟩, 15), (⟨"BlockVaultModel", "written", "(I)Z"⟩, 15), (⟨"BlockVaultModel", "ended", "()Z"⟩, 15), (⟨"BlockVaultModel", "isBlock", "(I)Z"⟩, 15), (⟨"BlockVaultModel", "look", "(I)V"⟩, 15)]
theorem lw_r1 : ∀ q ∈ lw_privs_1, lw_okq q := List.forall_mem_cons.mpr ⟨lw_p0, List.forall_mem_cons.mpr ⟨lw_p1, List.forall_mem_cons.mpr ⟨lw_p2, List.forall_mem_cons.mpr ⟨lw_p3, List.forall_mem_cons.mpr ⟨lw_p4, List.forall_mem_cons.mpr ⟨lw_p5, List.forall_mem_cons.mpr ⟨lw_p6, List.forall_mem_cons.mpr ⟨lw_p7, List.forall_mem_cons.mpr ⟨lw_p8, List.forall_mem_cons.mpr ⟨lw_p9, fun _ h => absurd h List.not_mem_nil⟩⟩⟩⟩⟩⟩⟩⟩⟩⟩
def lw_privs : List (MethodName × Nat) := lw_privs_1
def lw_tbl : List Cond := k2_sels lw_privs ++ tables_1
theorem lw_privs_ok : ∀ q ∈ lw_privs, lw_okq q := lw_r1
/-! the words that stay good: one list for every method -/
def WG : List Cond := lw_tbl.filter goodWord
theorem mg {w : Cond} (i : Nat) (h : lw_tbl[i]? = some w) (g : goodWord w = true) : w ∈ WG := List.mem_filter.mpr ⟨List.mem_of_getElem? h, g⟩
theorem mgs {ws : List Cond} (h : ws.all (fun w => decide (w ∈ lw_tbl) && goodWord w) = true) : ∀ w ∈ ws, w ∈ WG := fun w hw => by
  have h1 := List.all_eq_true.mp h w hw
  rw [Bool.and_eq_true] at h1
  exact List.mem_filter.mpr ⟨of_decide_eq_true h1.1, h1.2⟩
theorem WG_good {w : Cond} (h : w ∈ WG) : (w.onTables && w.keeps) = true ∨ ∃ ty, w = .arrayClass ty := good_of_word (List.mem_filter.mp h).2
theorem gI {c : Cond} (hc : c ∈ WG) : GoodIn WG (c :: WG) := fun w h => (List.mem_cons.mp h).elim (fun e => by rw [e]; exact ⟨hc, WG_good hc⟩) (fun h => ⟨h, WG_good h⟩)
theorem gA {a b : List Cond} (ha : ∀ w ∈ a, w ∈ WG) (hb : GoodIn WG b) : GoodIn WG (a ++ b) := fun w h => (List.mem_append.mp h).elim (fun h => ⟨ha w h, WG_good (ha w h)⟩) (hb w)
theorem gV {own C : String} {idx : Nat} {y : MethodName} {c : Cond} (h1 : Cond.methodLink own idx y ∈ WG) (h2 : Cond.instanceMethod y ∈ WG) (h3 : Cond.selects C y y ∈ WG) (h4 : Cond.initialized C ∈ WG) (hc : c ∈ WG) : GoodIn WG (wsV own idx C y (c :: WG)) := gA (fun w h => by
  simp only [List.mem_cons, List.not_mem_nil, or_false] at h
  rcases h with rfl | rfl | rfl | rfl
  · exact h1
  · exact h2
  · exact h3
  · exact h4) (gI hc)
theorem gS {own : String} {idx : Nat} {y : MethodName} {c : Cond} (h1 : Cond.methodLink own idx y ∈ WG) (h2 : Cond.static y ∈ WG) (h4 : Cond.initialized y.cls ∈ WG) (hc : c ∈ WG) : GoodIn WG (va_wsS own idx y (c :: WG)) := gA (fun w h => by
  simp only [List.mem_cons, List.not_mem_nil, or_false] at h
  rcases h with rfl | rfl | rfl
  · exact h1
  · exact h2
  · exact h4) (gI hc)
def T_C : u_T := fun k => match k with
  | 0 => ("BlockVault$Cache", "rows", "[LBlockVault$Row;", true)
  | 1 => ("BlockVault$Cache", "uses", "I", false)
  | _ => ("BlockVault$Cache", "reads", "I", false)
def t_C : Nat → FieldType := fun k => match k with
  | 0 => .array (.object "BlockVault$Row")
  | 1 => .int
  | _ => .int
theorem n_C : ∀ a, a < 3 → ∀ b, b < 3 → a ≠ b → (T_C a).2.1 ≠ (T_C b).2.1 := by decide +kernel
theorem t_C_ok : ∀ k, k < 3 → parseFieldDescriptor (T_C k).2.2.1 = some (t_C k) := by decide +kernel
set_option maxRecDepth 20000 in
theorem in_C : ∀ w ∈ u_ws "BlockVault$Cache" T_C 3, w ∈ WG := mgs (by decide +kernel)
def T_D : u_T := fun k => match k with
  | 0 => ("BlockVault$Disk", "pages", "[LBlockVault$Page;", true)
  | 1 => ("BlockVault$Disk", "on", "Z", false)
  | 2 => ("BlockVault$Disk", "writesLeft", "I", false)
  | _ => ("BlockVault$Disk", "writes", "I", false)
def t_D : Nat → FieldType := fun k => match k with
  | 0 => .array (.object "BlockVault$Page")
  | 1 => .boolean
  | 2 => .int
  | _ => .int
theorem n_D : ∀ a, a < 4 → ∀ b, b < 4 → a ≠ b → (T_D a).2.1 ≠ (T_D b).2.1 := by decide +kernel
theorem t_D_ok : ∀ k, k < 4 → parseFieldDescriptor (T_D k).2.2.1 = some (t_D k) := by decide +kernel
set_option maxRecDepth 20000 in
theorem in_D : ∀ w ∈ u_ws "BlockVault$Disk" T_D 4, w ∈ WG := mgs (by decide +kernel)
def T_L : u_T := fun k => match k with
  | 0 => ("BlockVault$Log", "head", "LBlockVault$Page;", true)
  | 1 => ("BlockVault$Log", "carried", "LBlockVault$Page;", true)
  | _ => ("BlockVault$Log", "commits", "I", false)
def t_L : Nat → FieldType := fun k => match k with
  | 0 => .object "BlockVault$Page"
  | 1 => .object "BlockVault$Page"
  | _ => .int
theorem n_L : ∀ a, a < 3 → ∀ b, b < 3 → a ≠ b → (T_L a).2.1 ≠ (T_L b).2.1 := by decide +kernel
theorem t_L_ok : ∀ k, k < 3 → parseFieldDescriptor (T_L k).2.2.1 = some (t_L k) := by decide +kernel
set_option maxRecDepth 20000 in
theorem in_L : ∀ w ∈ u_ws "BlockVault$Log" T_L 3, w ∈ WG := mgs (by decide +kernel)
def T_P : u_T := fun k => match k with
  | _ => ("BlockVault$Page", "bytes", "[B", false)
def t_P : Nat → FieldType := fun k => match k with
  | _ => .array .byte
theorem n_P : ∀ a, a < 1 → ∀ b, b < 1 → a ≠ b → (T_P a).2.1 ≠ (T_P b).2.1 := by decide +kernel
theorem t_P_ok : ∀ k, k < 1 → parseFieldDescriptor (T_P k).2.2.1 = some (t_P k) := by decide +kernel
set_option maxRecDepth 20000 in
theorem in_P : ∀ w ∈ u_ws "BlockVault$Page" T_P 1, w ∈ WG := mgs (by decide +kernel)
def T_R : u_T := fun k => match k with
  | 0 => ("BlockVault$Row", "page", "LBlockVault$Page;", true)
  | 1 => ("BlockVault$Row", "block", "I", false)
  | 2 => ("BlockVault$Row", "lastUse", "I", false)
  | 3 => ("BlockVault$Row", "held", "Z", false)
  | _ => ("BlockVault$Row", "inStep", "Z", false)
def t_R : Nat → FieldType := fun k => match k with
  | 0 => .object "BlockVault$Page"
  | 1 => .int
  | 2 => .int
  | 3 => .boolean
  | _ => .boolean
theorem n_R : ∀ a, a < 5 → ∀ b, b < 5 → a ≠ b → (T_R a).2.1 ≠ (T_R b).2.1 := by decide +kernel
theorem t_R_ok : ∀ k, k < 5 → parseFieldDescriptor (T_R k).2.2.1 = some (t_R k) := by decide +kernel
set_option maxRecDepth 20000 in
theorem in_R : ∀ w ∈ u_ws "BlockVault$Row" T_R 5, w ∈ WG := mgs (by decide +kernel)
def T_V : u_T := fun k => match k with
  | 0 => ("BlockVault", "blocks", "I", true)
  | 1 => ("BlockVault", "disk", "LBlockVault$Disk;", true)
  | 2 => ("BlockVault", "cache", "LBlockVault$Cache;", true)
  | 3 => ("BlockVault", "log", "LBlockVault$Log;", true)
  | _ => ("BlockVault", "stepOpen", "Z", false)
def t_V : Nat → FieldType := fun k => match k with
  | 0 => .int
  | 1 => .object "BlockVault$Disk"
  | 2 => .object "BlockVault$Cache"
  | 3 => .object "BlockVault$Log"
  | _ => .boolean
theorem n_V : ∀ a, a < 5 → ∀ b, b < 5 → a ≠ b → (T_V a).2.1 ≠ (T_V b).2.1 := by decide +kernel
theorem t_V_ok : ∀ k, k < 5 → parseFieldDescriptor (T_V k).2.2.1 = some (t_V k) := by decide +kernel
set_option maxRecDepth 20000 in
theorem in_V : ∀ w ∈ u_ws "BlockVault" T_V 5, w ∈ WG := mgs (by decide +kernel)
def T_M : u_T := fun k => match k with
  | 0 => ("BlockVaultModel", "thrown", "I", false)
  | 1 => ("BlockVaultModel", "blocks", "I", true)
  | 2 => ("BlockVaultModel", "safe", "[B", true)
  | 3 => ("BlockVaultModel", "now", "[B", true)
  | 4 => ("BlockVaultModel", "held", "[Z", true)
  | 5 => ("BlockVaultModel", "changed", "[Z", true)
  | 6 => ("BlockVaultModel", "stamp", "[I", true)
  | 7 => ("BlockVaultModel", "time", "I", false)
  | 8 => ("BlockVaultModel", "on", "Z", false)
  | 9 => ("BlockVaultModel", "open", "Z", false)
  | 10 => ("BlockVaultModel", "left", "I", false)
  | 11 => ("BlockVaultModel", "writes", "I", false)
  | 12 => ("BlockVaultModel", "reads", "I", false)
  | 13 => ("BlockVaultModel", "commits", "I", false)
  | _ => ("BlockVaultModel", "unended", "I", false)
def t_M : Nat → FieldType := fun k => match k with
  | 0 => .int
  | 1 => .int
  | 2 => .array .byte
  | 3 => .array .byte
  | 4 => .array .boolean
  | 5 => .array .boolean
  | 6 => .array .int
  | 7 => .int
  | 8 => .boolean
  | 9 => .boolean
  | 10 => .int
  | 11 => .int
  | 12 => .int
  | 13 => .int
  | _ => .int
theorem n_M : ∀ a, a < 15 → ∀ b, b < 15 → a ≠ b → (T_M a).2.1 ≠ (T_M b).2.1 := by decide +kernel
theorem t_M_ok : ∀ k, k < 15 → parseFieldDescriptor (T_M k).2.2.1 = some (t_M k) := by decide +kernel
set_option maxRecDepth 20000 in
theorem in_M : ∀ w ∈ u_ws "BlockVaultModel" T_M 15, w ∈ WG := mgs (by decide +kernel)
abbrev vwCl : List vw_C := [("BlockVault$Cache", T_C, 3), ("BlockVault$Disk", T_D, 4), ("BlockVault$Log", T_L, 3), ("BlockVault$Page", T_P, 1), ("BlockVault$Row", T_R, 5), ("BlockVault", T_V, 5), ("BlockVaultModel", T_M, 15)]
abbrev c_V_init : ByteArray := prog_1_method_1_code
def y_V_init : MethodName := ⟨"BlockVault", "<init>", "(I)V"⟩
abbrev w_V_init : List Cond := Cond.code y_V_init c_V_init 2 none :: WG
set_option maxRecDepth 20000 in
theorem kc_V_init : Cond.code y_V_init c_V_init 2 none ∈ WG := mg 25 (by decide +kernel) (by decide +kernel)
abbrev c_D_init : ByteArray := prog_3_method_1_code
def y_D_init : MethodName := ⟨"BlockVault$Disk", "<init>", "()V"⟩
abbrev w_D_init : List Cond := Cond.code y_D_init c_D_init 2 none :: WG
set_option maxRecDepth 20000 in
theorem kc_D_init : Cond.code y_D_init c_D_init 2 none ∈ WG := mg 39 (by decide +kernel) (by decide +kernel)
abbrev c_P_init : ByteArray := prog_5_method_1_code
def y_P_init : MethodName := ⟨"BlockVault$Page", "<init>", "()V"⟩
abbrev w_P_init : List Cond := Cond.code y_P_init c_P_init 1 none :: WG
set_option maxRecDepth 20000 in
theorem kc_P_init : Cond.code y_P_init c_P_init 1 none ∈ WG := mg 46 (by decide +kernel) (by decide +kernel)
abbrev c_C_init : ByteArray := prog_2_method_1_code
def y_C_init : MethodName := ⟨"BlockVault$Cache", "<init>", "()V"⟩
abbrev w_C_init : List Cond := Cond.code y_C_init c_C_init 2 none :: WG
set_option maxRecDepth 20000 in
theorem kc_C_init : Cond.code y_C_init c_C_init 2 none ∈ WG := mg 69 (by decide +kernel) (by decide +kernel)
abbrev c_R_init : ByteArray := prog_6_method_1_code
def y_R_init : MethodName := ⟨"BlockVault$Row", "<init>", "()V"⟩
abbrev w_R_init : List Cond := Cond.code y_R_init c_R_init 1 none :: WG
set_option maxRecDepth 20000 in
theorem kc_R_init : Cond.code y_R_init c_R_init 1 none ∈ WG := mg 76 (by decide +kernel) (by decide +kernel)
abbrev c_L_init : ByteArray := prog_4_method_1_code
def y_L_init : MethodName := ⟨"BlockVault$Log", "<init>", "()V"⟩
abbrev w_L_init : List Cond := Cond.code y_L_init c_L_init 1 none :: WG
set_option maxRecDepth 20000 in
theorem kc_L_init : Cond.code y_L_init c_L_init 1 none ∈ WG := mg 122 (by decide +kernel) (by decide +kernel)
abbrev c_V_begin : ByteArray := prog_1_method_2_code
def y_V_begin : MethodName := ⟨"BlockVault", "begin", "()Z"⟩
abbrev w_V_begin : List Cond := Cond.code y_V_begin c_V_begin 1 (some FieldType.boolean) :: WG
set_option maxRecDepth 20000 in
theorem kc_V_begin : Cond.code y_V_begin c_V_begin 1 (some FieldType.boolean) ∈ WG := mg 155 (by decide +kernel) (by decide +kernel)
abbrev c_D_isOn : ByteArray := prog_3_method_2_code
def y_D_isOn : MethodName := ⟨"BlockVault$Disk", "isOn", "()Z"⟩
abbrev w_D_isOn : List Cond := Cond.code y_D_isOn c_D_isOn 1 (some FieldType.boolean) :: WG
set_option maxRecDepth 20000 in
theorem kc_D_isOn : Cond.code y_D_isOn c_D_isOn 1 (some FieldType.boolean) ∈ WG := mg 159 (by decide +kernel) (by decide +kernel)
abbrev c_V_end : ByteArray := prog_1_method_3_code
def y_V_end : MethodName := ⟨"BlockVault", "end", "()I"⟩
abbrev w_V_end : List Cond := Cond.code y_V_end c_V_end 2 (some FieldType.int) :: WG
set_option maxRecDepth 20000 in
theorem kc_V_end : Cond.code y_V_end c_V_end 2 (some FieldType.int) ∈ WG := mg 163 (by decide +kernel) (by decide +kernel)
abbrev c_C_closeStep : ByteArray := prog_2_method_8_code
def y_C_closeStep : MethodName := ⟨"BlockVault$Cache", "closeStep", "()V"⟩
abbrev w_C_closeStep : List Cond := Cond.code y_C_closeStep c_C_closeStep 5 none :: WG
set_option maxRecDepth 20000 in
theorem kc_C_closeStep : Cond.code y_C_closeStep c_C_closeStep 5 none ∈ WG := mg 167 (by decide +kernel) (by decide +kernel)
abbrev c_C_heldRows : ByteArray := prog_2_method_6_code
def y_C_heldRows : MethodName := ⟨"BlockVault$Cache", "heldRows", "()I"⟩
abbrev w_C_heldRows : List Cond := Cond.code y_C_heldRows c_C_heldRows 6 (some FieldType.int) :: WG
set_option maxRecDepth 20000 in
theorem kc_C_heldRows : Cond.code y_C_heldRows c_C_heldRows 6 (some FieldType.int) ∈ WG := mg 171 (by decide +kernel) (by decide +kernel)
abbrev c_V_commit : ByteArray := prog_1_method_15_code
def y_V_commit : MethodName := ⟨"BlockVault", "commit", "()Z"⟩
abbrev w_V_commit : List Cond := Cond.code y_V_commit c_V_commit 1 (some FieldType.boolean) :: WG
set_option maxRecDepth 20000 in
theorem kc_V_commit : Cond.code y_V_commit c_V_commit 1 (some FieldType.boolean) ∈ WG := mg 175 (by decide +kernel) (by decide +kernel)
abbrev c_L_bringOut : ByteArray := prog_4_method_3_code
def y_L_bringOut : MethodName := ⟨"BlockVault$Log", "bringOut", "(LBlockVault$Cache;LBlockVault$Disk;)Z"⟩
abbrev w_L_bringOut : List Cond := Cond.code y_L_bringOut c_L_bringOut 3 (some FieldType.boolean) :: WG
set_option maxRecDepth 20000 in
theorem kc_L_bringOut : Cond.code y_L_bringOut c_L_bringOut 3 (some FieldType.boolean) ∈ WG := mg 179 (by decide +kernel) (by decide +kernel)
abbrev c_L_copyHeld : ByteArray := prog_4_method_4_code
def y_L_copyHeld : MethodName := ⟨"BlockVault$Log", "copyHeld", "(LBlockVault$Cache;LBlockVault$Disk;)Z"⟩
abbrev w_L_copyHeld : List Cond := Cond.code y_L_copyHeld c_L_copyHeld 8 (some FieldType.boolean) :: WG
set_option maxRecDepth 20000 in
theorem kc_L_copyHeld : Cond.code y_L_copyHeld c_L_copyHeld 8 (some FieldType.boolean) ∈ WG := mg 183 (by decide +kernel) (by decide +kernel)
abbrev c_P_putRun : ByteArray := prog_5_method_3_code
def y_P_putRun : MethodName := ⟨"BlockVault$Page", "putRun", "(III)V"⟩
abbrev w_P_putRun : List Cond := Cond.code y_P_putRun c_P_putRun 5 none :: WG
set_option maxRecDepth 20000 in
theorem kc_P_putRun : Cond.code y_P_putRun c_P_putRun 5 none ∈ WG := mg 187 (by decide +kernel) (by decide +kernel)
abbrev c_V_isRun : ByteArray := prog_1_method_13_code
def y_V_isRun : MethodName := ⟨"BlockVault", "isRun", "(II)Z"⟩
abbrev w_V_isRun : List Cond := Cond.code y_V_isRun c_V_isRun 2 (some FieldType.boolean) :: WG
set_option maxRecDepth 20000 in
theorem kc_V_isRun : Cond.code y_V_isRun c_V_isRun 2 (some FieldType.boolean) ∈ WG := mg 190 (by decide +kernel) (by decide +kernel)
abbrev c_D_write : ByteArray := prog_3_method_7_code
def y_D_write : MethodName := ⟨"BlockVault$Disk", "write", "(ILBlockVault$Page;)Z"⟩
abbrev w_D_write : List Cond := Cond.code y_D_write c_D_write 3 (some FieldType.boolean) :: WG
set_option maxRecDepth 20000 in
theorem kc_D_write : Cond.code y_D_write c_D_write 3 (some FieldType.boolean) ∈ WG := mg 194 (by decide +kernel) (by decide +kernel)
abbrev c_P_copyFrom : ByteArray := prog_5_method_4_code
def y_P_copyFrom : MethodName := ⟨"BlockVault$Page", "copyFrom", "(LBlockVault$Page;)V"⟩
abbrev w_P_copyFrom : List Cond := Cond.code y_P_copyFrom c_P_copyFrom 2 none :: WG
set_option maxRecDepth 20000 in
theorem kc_P_copyFrom : Cond.code y_P_copyFrom c_P_copyFrom 2 none ∈ WG := mg 198 (by decide +kernel) (by decide +kernel)
abbrev c_P_makeZero : ByteArray := prog_5_method_5_code
def y_P_makeZero : MethodName := ⟨"BlockVault$Page", "makeZero", "()V"⟩
abbrev w_P_makeZero : List Cond := Cond.code y_P_makeZero c_P_makeZero 1 none :: WG
set_option maxRecDepth 20000 in
theorem kc_P_makeZero : Cond.code y_P_makeZero c_P_makeZero 1 none ∈ WG := mg 202 (by decide +kernel) (by decide +kernel)
abbrev c_A_fill : ByteArray := prog_11_method_109_code
def y_A_fill : MethodName := ⟨"java/util/Arrays", "fill", "([BB)V"⟩
abbrev w_A_fill : List Cond := Cond.code y_A_fill c_A_fill 4 none :: WG
set_option maxRecDepth 20000 in
theorem kc_A_fill : Cond.code y_A_fill c_A_fill 4 none ∈ WG := mg 205 (by decide +kernel) (by decide +kernel)
abbrev c_L_bringHome : ByteArray := prog_4_method_5_code
def y_L_bringHome : MethodName := ⟨"BlockVault$Log", "bringHome", "(LBlockVault$Disk;)I"⟩
abbrev w_L_bringHome : List Cond := Cond.code y_L_bringHome c_L_bringHome 4 (some FieldType.int) :: WG
set_option maxRecDepth 20000 in
theorem kc_L_bringHome : Cond.code y_L_bringHome c_L_bringHome 4 (some FieldType.int) ∈ WG := mg 212 (by decide +kernel) (by decide +kernel)
abbrev c_D_read : ByteArray := prog_3_method_6_code
def y_D_read : MethodName := ⟨"BlockVault$Disk", "read", "(ILBlockVault$Page;)V"⟩
abbrev w_D_read : List Cond := Cond.code y_D_read c_D_read 3 none :: WG
set_option maxRecDepth 20000 in
theorem kc_D_read : Cond.code y_D_read c_D_read 3 none ∈ WG := mg 216 (by decide +kernel) (by decide +kernel)
abbrev c_P_byteAt : ByteArray := prog_5_method_2_code
def y_P_byteAt : MethodName := ⟨"BlockVault$Page", "byteAt", "(I)I"⟩
abbrev w_P_byteAt : List Cond := Cond.code y_P_byteAt c_P_byteAt 2 (some FieldType.int) :: WG
set_option maxRecDepth 20000 in
theorem kc_P_byteAt : Cond.code y_P_byteAt c_P_byteAt 2 (some FieldType.int) ∈ WG := mg 220 (by decide +kernel) (by decide +kernel)
abbrev c_C_releaseHeld : ByteArray := prog_2_method_9_code
def y_C_releaseHeld : MethodName := ⟨"BlockVault$Cache", "releaseHeld", "()V"⟩
abbrev w_C_releaseHeld : List Cond := Cond.code y_C_releaseHeld c_C_releaseHeld 5 none :: WG
set_option maxRecDepth 20000 in
theorem kc_C_releaseHeld : Cond.code y_C_releaseHeld c_C_releaseHeld 5 none ∈ WG := mg 225 (by decide +kernel) (by decide +kernel)
abbrev c_C_makeEmpty : ByteArray := prog_2_method_10_code
def y_C_makeEmpty : MethodName := ⟨"BlockVault$Cache", "makeEmpty", "()V"⟩
abbrev w_C_makeEmpty : List Cond := Cond.code y_C_makeEmpty c_C_makeEmpty 5 none :: WG
set_option maxRecDepth 20000 in
theorem kc_C_makeEmpty : Cond.code y_C_makeEmpty c_C_makeEmpty 5 none ∈ WG := mg 229 (by decide +kernel) (by decide +kernel)
abbrev c_R_makeEmpty : ByteArray := prog_6_method_2_code
def y_R_makeEmpty : MethodName := ⟨"BlockVault$Row", "makeEmpty", "()V"⟩
abbrev w_R_makeEmpty : List Cond := Cond.code y_R_makeEmpty c_R_makeEmpty 1 none :: WG
set_option maxRecDepth 20000 in
theorem kc_R_makeEmpty : Cond.code y_R_makeEmpty c_R_makeEmpty 1 none ∈ WG := mg 233 (by decide +kernel) (by decide +kernel)
abbrev c_V_flush : ByteArray := prog_1_method_4_code
def y_V_flush : MethodName := ⟨"BlockVault", "flush", "()I"⟩
abbrev w_V_flush : List Cond := Cond.code y_V_flush c_V_flush 2 (some FieldType.int) :: WG
set_option maxRecDepth 20000 in
theorem kc_V_flush : Cond.code y_V_flush c_V_flush 2 (some FieldType.int) ∈ WG := mg 238 (by decide +kernel) (by decide +kernel)
abbrev c_V_get : ByteArray := prog_1_method_5_code
def y_V_get : MethodName := ⟨"BlockVault", "get", "(II)I"⟩
abbrev w_V_get : List Cond := Cond.code y_V_get c_V_get 3 (some FieldType.int) :: WG
set_option maxRecDepth 20000 in
theorem kc_V_get : Cond.code y_V_get c_V_get 3 (some FieldType.int) ∈ WG := mg 242 (by decide +kernel) (by decide +kernel)
abbrev c_V_isBlock : ByteArray := prog_1_method_12_code
def y_V_isBlock : MethodName := ⟨"BlockVault", "isBlock", "(I)Z"⟩
abbrev w_V_isBlock : List Cond := Cond.code y_V_isBlock c_V_isBlock 3 (some FieldType.boolean) :: WG
set_option maxRecDepth 20000 in
theorem kc_V_isBlock : Cond.code y_V_isBlock c_V_isBlock 3 (some FieldType.boolean) ∈ WG := mg 246 (by decide +kernel) (by decide +kernel)
abbrev c_C_lookAt : ByteArray := prog_2_method_3_code
def y_C_lookAt : MethodName := ⟨"BlockVault$Cache", "lookAt", "(ILBlockVault$Disk;)LBlockVault$Row;"⟩
abbrev w_C_lookAt : List Cond := Cond.code y_C_lookAt c_C_lookAt 4 (some (FieldType.object "BlockVault$Row")) :: WG
set_option maxRecDepth 20000 in
theorem kc_C_lookAt : Cond.code y_C_lookAt c_C_lookAt 4 (some (FieldType.object "BlockVault$Row")) ∈ WG := mg 250 (by decide +kernel) (by decide +kernel)
abbrev c_C_rowOf : ByteArray := prog_2_method_2_code
def y_C_rowOf : MethodName := ⟨"BlockVault$Cache", "rowOf", "(I)LBlockVault$Row;"⟩
abbrev w_C_rowOf : List Cond := Cond.code y_C_rowOf c_C_rowOf 6 (some (FieldType.object "BlockVault$Row")) :: WG
set_option maxRecDepth 20000 in
theorem kc_C_rowOf : Cond.code y_C_rowOf c_C_rowOf 6 (some (FieldType.object "BlockVault$Row")) ∈ WG := mg 254 (by decide +kernel) (by decide +kernel)
abbrev c_C_rowToGive : ByteArray := prog_2_method_4_code
def y_C_rowToGive : MethodName := ⟨"BlockVault$Cache", "rowToGive", "()LBlockVault$Row;"⟩
abbrev w_C_rowToGive : List Cond := Cond.code y_C_rowToGive c_C_rowToGive 6 (some (FieldType.object "BlockVault$Row")) :: WG
set_option maxRecDepth 20000 in
theorem kc_C_rowToGive : Cond.code y_C_rowToGive c_C_rowToGive 6 (some (FieldType.object "BlockVault$Row")) ∈ WG := mg 258 (by decide +kernel) (by decide +kernel)
abbrev c_R_givesWayBefore : ByteArray := prog_6_method_3_code
def y_R_givesWayBefore : MethodName := ⟨"BlockVault$Row", "givesWayBefore", "(LBlockVault$Row;)Z"⟩
abbrev w_R_givesWayBefore : List Cond := Cond.code y_R_givesWayBefore c_R_givesWayBefore 2 (some FieldType.boolean) :: WG
set_option maxRecDepth 20000 in
theorem kc_R_givesWayBefore : Cond.code y_R_givesWayBefore c_R_givesWayBefore 2 (some FieldType.boolean) ∈ WG := mg 262 (by decide +kernel) (by decide +kernel)
abbrev c_V_fill : ByteArray := prog_1_method_6_code
def y_V_fill : MethodName := ⟨"BlockVault", "fill", "(IIII)Z"⟩
abbrev w_V_fill : List Cond := Cond.code y_V_fill c_V_fill 6 (some FieldType.boolean) :: WG
set_option maxRecDepth 20000 in
theorem kc_V_fill : Cond.code y_V_fill c_V_fill 6 (some FieldType.boolean) ∈ WG := mg 268 (by decide +kernel) (by decide +kernel)
abbrev c_V_stepTakes : ByteArray := prog_1_method_14_code
def y_V_stepTakes : MethodName := ⟨"BlockVault", "stepTakes", "(I)Z"⟩
abbrev w_V_stepTakes : List Cond := Cond.code y_V_stepTakes c_V_stepTakes 4 (some FieldType.boolean) :: WG
set_option maxRecDepth 20000 in
theorem kc_V_stepTakes : Cond.code y_V_stepTakes c_V_stepTakes 4 (some FieldType.boolean) ∈ WG := mg 273 (by decide +kernel) (by decide +kernel)
abbrev c_C_stepRows : ByteArray := prog_2_method_7_code
def y_C_stepRows : MethodName := ⟨"BlockVault$Cache", "stepRows", "()I"⟩
abbrev w_C_stepRows : List Cond := Cond.code y_C_stepRows c_C_stepRows 6 (some FieldType.int) :: WG
set_option maxRecDepth 20000 in
theorem kc_C_stepRows : Cond.code y_C_stepRows c_C_stepRows 6 (some FieldType.int) ∈ WG := mg 278 (by decide +kernel) (by decide +kernel)
abbrev c_V_cut : ByteArray := prog_1_method_7_code
def y_V_cut : MethodName := ⟨"BlockVault", "cut", "(I)Z"⟩
abbrev w_V_cut : List Cond := Cond.code y_V_cut c_V_cut 2 (some FieldType.boolean) :: WG
set_option maxRecDepth 20000 in
theorem kc_V_cut : Cond.code y_V_cut c_V_cut 2 (some FieldType.boolean) ∈ WG := mg 283 (by decide +kernel) (by decide +kernel)
abbrev c_D_goAfter : ByteArray := prog_3_method_4_code
def y_D_goAfter : MethodName := ⟨"BlockVault$Disk", "goAfter", "(I)V"⟩
abbrev w_D_goAfter : List Cond := Cond.code y_D_goAfter c_D_goAfter 2 none :: WG
set_option maxRecDepth 20000 in
theorem kc_D_goAfter : Cond.code y_D_goAfter c_D_goAfter 2 none ∈ WG := mg 287 (by decide +kernel) (by decide +kernel)
abbrev c_V_power : ByteArray := prog_1_method_8_code
def y_V_power : MethodName := ⟨"BlockVault", "power", "(I)I"⟩
abbrev w_V_power : List Cond := Cond.code y_V_power c_V_power 2 (some FieldType.int) :: WG
set_option maxRecDepth 20000 in
theorem kc_V_power : Cond.code y_V_power c_V_power 2 (some FieldType.int) ∈ WG := mg 291 (by decide +kernel) (by decide +kernel)
abbrev c_D_comeBack : ByteArray := prog_3_method_3_code
def y_D_comeBack : MethodName := ⟨"BlockVault$Disk", "comeBack", "()V"⟩
abbrev w_D_comeBack : List Cond := Cond.code y_D_comeBack c_D_comeBack 1 none :: WG
set_option maxRecDepth 20000 in
theorem kc_D_comeBack : Cond.code y_D_comeBack c_D_comeBack 1 none ∈ WG := mg 295 (by decide +kernel) (by decide +kernel)
abbrev c_V_count : ByteArray := prog_1_method_9_code
def y_V_count : MethodName := ⟨"BlockVault", "count", "(I)I"⟩
abbrev w_V_count : List Cond := Cond.code y_V_count c_V_count 2 (some FieldType.int) :: WG
set_option maxRecDepth 20000 in
theorem kc_V_count : Cond.code y_V_count c_V_count 2 (some FieldType.int) ∈ WG := mg 300 (by decide +kernel) (by decide +kernel)
abbrev c_D_writesMade : ByteArray := prog_3_method_5_code
def y_D_writesMade : MethodName := ⟨"BlockVault$Disk", "writesMade", "()I"⟩
abbrev w_D_writesMade : List Cond := Cond.code y_D_writesMade c_D_writesMade 1 (some FieldType.int) :: WG
set_option maxRecDepth 20000 in
theorem kc_D_writesMade : Cond.code y_D_writesMade c_D_writesMade 1 (some FieldType.int) ∈ WG := mg 304 (by decide +kernel) (by decide +kernel)
abbrev c_C_readsMade : ByteArray := prog_2_method_5_code
def y_C_readsMade : MethodName := ⟨"BlockVault$Cache", "readsMade", "()I"⟩
abbrev w_C_readsMade : List Cond := Cond.code y_C_readsMade c_C_readsMade 1 (some FieldType.int) :: WG
set_option maxRecDepth 20000 in
theorem kc_C_readsMade : Cond.code y_C_readsMade c_C_readsMade 1 (some FieldType.int) ∈ WG := mg 308 (by decide +kernel) (by decide +kernel)
abbrev c_L_commitsCounted : ByteArray := prog_4_method_2_code
def y_L_commitsCounted : MethodName := ⟨"BlockVault$Log", "commitsCounted", "()I"⟩
abbrev w_L_commitsCounted : List Cond := Cond.code y_L_commitsCounted c_L_commitsCounted 1 (some FieldType.int) :: WG
set_option maxRecDepth 20000 in
theorem kc_L_commitsCounted : Cond.code y_L_commitsCounted c_L_commitsCounted 1 (some FieldType.int) ∈ WG := mg 312 (by decide +kernel) (by decide +kernel)
abbrev c_V_held : ByteArray := prog_1_method_10_code
def y_V_held : MethodName := ⟨"BlockVault", "held", "(I)Z"⟩
abbrev w_V_held : List Cond := Cond.code y_V_held c_V_held 3 (some FieldType.boolean) :: WG
set_option maxRecDepth 20000 in
theorem kc_V_held : Cond.code y_V_held c_V_held 3 (some FieldType.boolean) ∈ WG := mg 316 (by decide +kernel) (by decide +kernel)
abbrev c_V_cached : ByteArray := prog_1_method_11_code
def y_V_cached : MethodName := ⟨"BlockVault", "cached", "(I)Z"⟩
abbrev w_V_cached : List Cond := Cond.code y_V_cached c_V_cached 2 (some FieldType.boolean) :: WG
set_option maxRecDepth 20000 in
theorem kc_V_cached : Cond.code y_V_cached c_V_cached 2 (some FieldType.boolean) ∈ WG := mg 320 (by decide +kernel) (by decide +kernel)
abbrev c_W_cell : ByteArray := method_2_code
def y_W_cell : MethodName := ⟨"BlockVaultLaw", "cell", "([II)I"⟩
abbrev w_W_cell : List Cond := Cond.code y_W_cell c_W_cell 2 (some FieldType.int) :: WG
set_option maxRecDepth 20000 in
theorem kc_W_cell : Cond.code y_W_cell c_W_cell 2 (some FieldType.int) ∈ WG := mg 323 (by decide +kernel) (by decide +kernel)
abbrev c_M_init : ByteArray := prog_8_method_1_code
def y_M_init : MethodName := ⟨"BlockVaultModel", "<init>", "(I)V"⟩
abbrev w_M_init : List Cond := Cond.code y_M_init c_M_init 2 none :: WG
set_option maxRecDepth 20000 in
theorem kc_M_init : Cond.code y_M_init c_M_init 2 none ∈ WG := mg 328 (by decide +kernel) (by decide +kernel)
abbrev c_M_begin : ByteArray := prog_8_method_5_code
def y_M_begin : MethodName := ⟨"BlockVaultModel", "begin", "()Z"⟩
abbrev w_M_begin : List Cond := Cond.code y_M_begin c_M_begin 2 (some FieldType.boolean) :: WG
set_option maxRecDepth 20000 in
theorem kc_M_begin : Cond.code y_M_begin c_M_begin 2 (some FieldType.boolean) ∈ WG := mg 382 (by decide +kernel) (by decide +kernel)
abbrev c_M_end : ByteArray := prog_8_method_9_code
def y_M_end : MethodName := ⟨"BlockVaultModel", "end", "()I"⟩
abbrev w_M_end : List Cond := Cond.code y_M_end c_M_end 2 (some FieldType.int) :: WG
set_option maxRecDepth 20000 in
theorem kc_M_end : Cond.code y_M_end c_M_end 2 (some FieldType.int) ∈ WG := mg 386 (by decide +kernel) (by decide +kernel)
abbrev c_M_many : ByteArray := prog_8_method_4_code
def y_M_many : MethodName := ⟨"BlockVaultModel", "many", "([Z)I"⟩
abbrev w_M_many : List Cond := Cond.code y_M_many c_M_many 3 (some FieldType.int) :: WG
set_option maxRecDepth 20000 in
theorem kc_M_many : Cond.code y_M_many c_M_many 3 (some FieldType.int) ∈ WG := mg 389 (by decide +kernel) (by decide +kernel)
abbrev c_M_commit : ByteArray := prog_8_method_7_code
def y_M_commit : MethodName := ⟨"BlockVaultModel", "commit", "()Z"⟩
abbrev w_M_commit : List Cond := Cond.code y_M_commit c_M_commit 4 (some FieldType.boolean) :: WG
set_option maxRecDepth 20000 in
theorem kc_M_commit : Cond.code y_M_commit c_M_commit 4 (some FieldType.boolean) ∈ WG := mg 393 (by decide +kernel) (by decide +kernel)
abbrev c_M_written : ByteArray := prog_8_method_6_code
def y_M_written : MethodName := ⟨"BlockVaultModel", "written", "(I)Z"⟩
abbrev w_M_written : List Cond := Cond.code y_M_written c_M_written 2 (some FieldType.boolean) :: WG
set_option maxRecDepth 20000 in
theorem kc_M_written : Cond.code y_M_written c_M_written 2 (some FieldType.boolean) ∈ WG := mg 397 (by decide +kernel) (by decide +kernel)
abbrev c_M_ended : ByteArray := prog_8_method_8_code
def y_M_ended : MethodName := ⟨"BlockVaultModel", "ended", "()Z"⟩
abbrev w_M_ended : List Cond := Cond.code y_M_ended c_M_ended 2 (some FieldType.boolean) :: WG
set_option maxRecDepth 20000 in
theorem kc_M_ended : Cond.code y_M_ended c_M_ended 2 (some FieldType.boolean) ∈ WG := mg 401 (by decide +kernel) (by decide +kernel)
abbrev c_M_flush : ByteArray := prog_8_method_10_code
def y_M_flush : MethodName := ⟨"BlockVaultModel", "flush", "()I"⟩
abbrev w_M_flush : List Cond := Cond.code y_M_flush c_M_flush 2 (some FieldType.int) :: WG
set_option maxRecDepth 20000 in
theorem kc_M_flush : Cond.code y_M_flush c_M_flush 2 (some FieldType.int) ∈ WG := mg 405 (by decide +kernel) (by decide +kernel)
abbrev c_M_get : ByteArray := prog_8_method_12_code
def y_M_get : MethodName := ⟨"BlockVaultModel", "get", "(II)I"⟩
abbrev w_M_get : List Cond := Cond.code y_M_get c_M_get 3 (some FieldType.int) :: WG
set_option maxRecDepth 20000 in
theorem kc_M_get : Cond.code y_M_get c_M_get 3 (some FieldType.int) ∈ WG := mg 409 (by decide +kernel) (by decide +kernel)
abbrev c_M_isBlock : ByteArray := prog_8_method_3_code
def y_M_isBlock : MethodName := ⟨"BlockVaultModel", "isBlock", "(I)Z"⟩
abbrev w_M_isBlock : List Cond := Cond.code y_M_isBlock c_M_isBlock 2 (some FieldType.boolean) :: WG
set_option maxRecDepth 20000 in
theorem kc_M_isBlock : Cond.code y_M_isBlock c_M_isBlock 2 (some FieldType.boolean) ∈ WG := mg 413 (by decide +kernel) (by decide +kernel)
abbrev c_M_look : ByteArray := prog_8_method_11_code
def y_M_look : MethodName := ⟨"BlockVaultModel", "look", "(I)V"⟩
abbrev w_M_look : List Cond := Cond.code y_M_look c_M_look 5 none :: WG
set_option maxRecDepth 20000 in
theorem kc_M_look : Cond.code y_M_look c_M_look 5 none ∈ WG := mg 417 (by decide +kernel) (by decide +kernel)
abbrev c_M_fill : ByteArray := prog_8_method_13_code
def y_M_fill : MethodName := ⟨"BlockVaultModel", "fill", "(IIII)Z"⟩
abbrev w_M_fill : List Cond := Cond.code y_M_fill c_M_fill 6 (some FieldType.boolean) :: WG
set_option maxRecDepth 20000 in
theorem kc_M_fill : Cond.code y_M_fill c_M_fill 6 (some FieldType.boolean) ∈ WG := mg 421 (by decide +kernel) (by decide +kernel)
abbrev c_M_cut : ByteArray := prog_8_method_14_code
def y_M_cut : MethodName := ⟨"BlockVaultModel", "cut", "(I)Z"⟩
abbrev w_M_cut : List Cond := Cond.code y_M_cut c_M_cut 2 (some FieldType.boolean) :: WG
set_option maxRecDepth 20000 in
theorem kc_M_cut : Cond.code y_M_cut c_M_cut 2 (some FieldType.boolean) ∈ WG := mg 425 (by decide +kernel) (by decide +kernel)
abbrev c_M_power : ByteArray := prog_8_method_15_code
def y_M_power : MethodName := ⟨"BlockVaultModel", "power", "(I)I"⟩
abbrev w_M_power : List Cond := Cond.code y_M_power c_M_power 3 (some FieldType.int) :: WG
set_option maxRecDepth 20000 in
theorem kc_M_power : Cond.code y_M_power c_M_power 3 (some FieldType.int) ∈ WG := mg 429 (by decide +kernel) (by decide +kernel)
abbrev c_M_count : ByteArray := prog_8_method_16_code
def y_M_count : MethodName := ⟨"BlockVaultModel", "count", "(I)I"⟩
abbrev w_M_count : List Cond := Cond.code y_M_count c_M_count 2 (some FieldType.int) :: WG
set_option maxRecDepth 20000 in
theorem kc_M_count : Cond.code y_M_count c_M_count 2 (some FieldType.int) ∈ WG := mg 433 (by decide +kernel) (by decide +kernel)
abbrev c_M_held : ByteArray := prog_8_method_17_code
def y_M_held : MethodName := ⟨"BlockVaultModel", "held", "(I)Z"⟩
abbrev w_M_held : List Cond := Cond.code y_M_held c_M_held 2 (some FieldType.boolean) :: WG
set_option maxRecDepth 20000 in
theorem kc_M_held : Cond.code y_M_held c_M_held 2 (some FieldType.boolean) ∈ WG := mg 437 (by decide +kernel) (by decide +kernel)
abbrev c_M_cached : ByteArray := prog_8_method_18_code
def y_M_cached : MethodName := ⟨"BlockVaultModel", "cached", "(I)Z"⟩
abbrev w_M_cached : List Cond := Cond.code y_M_cached c_M_cached 2 (some FieldType.boolean) :: WG
set_option maxRecDepth 20000 in
theorem kc_M_cached : Cond.code y_M_cached c_M_cached 2 (some FieldType.boolean) ∈ WG := mg 441 (by decide +kernel) (by decide +kernel)
abbrev c_W_law : ByteArray := code
def y_W_law : MethodName := ⟨"BlockVaultLaw", "law", "([I)Z"⟩
set_option maxRecDepth 20000 in
theorem k0 : Cond.initialized "BlockVaultLaw" ∈ WG := mg 10 (by decide +kernel) (by decide +kernel)
set_option maxRecDepth 20000 in
theorem k1 : Cond.initialized "BlockVault" ∈ WG := mg 11 (by decide +kernel) (by decide +kernel)
set_option maxRecDepth 20000 in
theorem k2 : Cond.initialized "java/lang/Math" ∈ WG := mg 12 (by decide +kernel) (by decide +kernel)
set_option maxRecDepth 20000 in
theorem k3 : Cond.initialized "BlockVault$Disk" ∈ WG := mg 13 (by decide +kernel) (by decide +kernel)
set_option maxRecDepth 20000 in
theorem k4 : Cond.initialized "BlockVault$Page" ∈ WG := mg 14 (by decide +kernel) (by decide +kernel)
set_option maxRecDepth 20000 in
theorem k5 : Cond.initialized "BlockVault$Cache" ∈ WG := mg 15 (by decide +kernel) (by decide +kernel)
set_option maxRecDepth 20000 in
theorem k6 : Cond.initialized "BlockVault$Row" ∈ WG := mg 16 (by decide +kernel) (by decide +kernel)
set_option maxRecDepth 20000 in
theorem k7 : Cond.initialized "BlockVault$Log" ∈ WG := mg 17 (by decide +kernel) (by decide +kernel)
set_option maxRecDepth 20000 in
theorem k8 : Cond.initialized "BlockVaultModel" ∈ WG := mg 18 (by decide +kernel) (by decide +kernel)
set_option maxRecDepth 20000 in
theorem k9 : Cond.initialized "java/util/Arrays" ∈ WG := mg 19 (by decide +kernel) (by decide +kernel)
set_option maxRecDepth 20000 in
theorem k10 : Cond.initialized "java/lang/System" ∈ WG := mg 20 (by decide +kernel) (by decide +kernel)
set_option maxRecDepth 20000 in
theorem k11 : Cond.classLink "BlockVaultLaw" 7 "BlockVault" ∈ WG := mg 21 (by decide +kernel) (by decide +kernel)
set_option maxRecDepth 20000 in
theorem k12 : Cond.instantiable "BlockVault" 5 ∈ WG := mg 22 (by decide +kernel) (by decide +kernel)
set_option maxRecDepth 20000 in
theorem k13 : Cond.methodLink "BlockVaultLaw" 15 ⟨"BlockVault", "<init>", "(I)V"⟩ ∈ WG := mg 23 (by decide +kernel) (by decide +kernel)
set_option maxRecDepth 20000 in
theorem k14 : Cond.instanceMethod ⟨"BlockVault", "<init>", "(I)V"⟩ ∈ WG := mg 24 (by decide +kernel) (by decide +kernel)
set_option maxRecDepth 20000 in
theorem k16 : Cond.methodLink "BlockVault" 3 ⟨"java/lang/Object", "<init>", "()V"⟩ ∈ WG := mg 26 (by decide +kernel) (by decide +kernel)
set_option maxRecDepth 20000 in
theorem k17 : Cond.instanceMethod ⟨"java/lang/Object", "<init>", "()V"⟩ ∈ WG := mg 27 (by decide +kernel) (by decide +kernel)
set_option maxRecDepth 20000 in
theorem k18 : Cond.code ⟨"java/lang/Object", "<init>", "()V"⟩ object_method_1_code 1 none ∈ WG := mg 28 (by decide +kernel) (by decide +kernel)
set_option maxRecDepth 20000 in
theorem k19 : Cond.methodLink "BlockVault" 9 ⟨"java/lang/Math", "min", "(II)I"⟩ ∈ WG := mg 29 (by decide +kernel) (by decide +kernel)
set_option maxRecDepth 20000 in
theorem k20 : Cond.static ⟨"java/lang/Math", "min", "(II)I"⟩ ∈ WG := mg 30 (by decide +kernel) (by decide +kernel)
set_option maxRecDepth 20000 in
theorem k21 : Cond.code ⟨"java/lang/Math", "min", "(II)I"⟩ prog_9_method_69_code 2 (some FieldType.int) ∈ WG := mg 31 (by decide +kernel) (by decide +kernel)
set_option maxRecDepth 20000 in
theorem k22 : Cond.methodLink "BlockVault" 15 ⟨"java/lang/Math", "max", "(II)I"⟩ ∈ WG := mg 32 (by decide +kernel) (by decide +kernel)
set_option maxRecDepth 20000 in
theorem k23 : Cond.static ⟨"java/lang/Math", "max", "(II)I"⟩ ∈ WG := mg 33 (by decide +kernel) (by decide +kernel)
set_option maxRecDepth 20000 in
theorem k24 : Cond.code ⟨"java/lang/Math", "max", "(II)I"⟩ prog_9_method_65_code 2 (some FieldType.int) ∈ WG := mg 34 (by decide +kernel) (by decide +kernel)
set_option maxRecDepth 20000 in
theorem k25 : Cond.classLink "BlockVault" 22 "BlockVault$Disk" ∈ WG := mg 35 (by decide +kernel) (by decide +kernel)
set_option maxRecDepth 20000 in
theorem k26 : Cond.instantiable "BlockVault$Disk" 4 ∈ WG := mg 36 (by decide +kernel) (by decide +kernel)
set_option maxRecDepth 20000 in
theorem k27 : Cond.methodLink "BlockVault" 24 ⟨"BlockVault$Disk", "<init>", "()V"⟩ ∈ WG := mg 37 (by decide +kernel) (by decide +kernel)
set_option maxRecDepth 20000 in
theorem k28 : Cond.instanceMethod ⟨"BlockVault$Disk", "<init>", "()V"⟩ ∈ WG := mg 38 (by decide +kernel) (by decide +kernel)
set_option maxRecDepth 20000 in
theorem k30 : Cond.methodLink "BlockVault$Disk" 3 ⟨"java/lang/Object", "<init>", "()V"⟩ ∈ WG := mg 40 (by decide +kernel) (by decide +kernel)
set_option maxRecDepth 20000 in
theorem k31 : Cond.classLink "BlockVault$Disk" 9 "BlockVault$Page" ∈ WG := mg 41 (by decide +kernel) (by decide +kernel)
set_option maxRecDepth 20000 in
theorem k33 : Cond.instantiable "BlockVault$Page" 1 ∈ WG := mg 43 (by decide +kernel) (by decide +kernel)
set_option maxRecDepth 20000 in
theorem k35 : Cond.instanceMethod ⟨"BlockVault$Page", "<init>", "()V"⟩ ∈ WG := mg 45 (by decide +kernel) (by decide +kernel)
set_option maxRecDepth 20000 in
theorem k37 : Cond.methodLink "BlockVault$Page" 3 ⟨"java/lang/Object", "<init>", "()V"⟩ ∈ WG := mg 47 (by decide +kernel) (by decide +kernel)
set_option maxRecDepth 20000 in
theorem k38 : Cond.fieldLink "BlockVault$Page" 9 "BlockVault$Page" "bytes" "[B" ∈ WG := mg 48 (by decide +kernel) (by decide +kernel)
set_option maxRecDepth 20000 in
theorem k42 : Cond.fieldLink "BlockVault$Disk" 11 "BlockVault$Disk" "pages" "[LBlockVault$Page;" ∈ WG := mg 52 (by decide +kernel) (by decide +kernel)
set_option maxRecDepth 20000 in
theorem k43 : Cond.fieldLink "BlockVault$Disk" 18 "BlockVault$Disk" "on" "Z" ∈ WG := mg 53 (by decide +kernel) (by decide +kernel)
set_option maxRecDepth 20000 in
theorem k44 : Cond.fieldLink "BlockVault$Disk" 22 "BlockVault$Disk" "writesLeft" "I" ∈ WG := mg 54 (by decide +kernel) (by decide +kernel)
set_option maxRecDepth 20000 in
theorem k45 : Cond.fieldLink "BlockVault$Disk" 26 "BlockVault$Disk" "writes" "I" ∈ WG := mg 55 (by decide +kernel) (by decide +kernel)
set_option maxRecDepth 20000 in
theorem k55 : Cond.classLink "BlockVault" 29 "BlockVault$Cache" ∈ WG := mg 65 (by decide +kernel) (by decide +kernel)
set_option maxRecDepth 20000 in
theorem k56 : Cond.instantiable "BlockVault$Cache" 3 ∈ WG := mg 66 (by decide +kernel) (by decide +kernel)
set_option maxRecDepth 20000 in
theorem k57 : Cond.methodLink "BlockVault" 31 ⟨"BlockVault$Cache", "<init>", "()V"⟩ ∈ WG := mg 67 (by decide +kernel) (by decide +kernel)
set_option maxRecDepth 20000 in
theorem k58 : Cond.instanceMethod ⟨"BlockVault$Cache", "<init>", "()V"⟩ ∈ WG := mg 68 (by decide +kernel) (by decide +kernel)
set_option maxRecDepth 20000 in
theorem k60 : Cond.methodLink "BlockVault$Cache" 3 ⟨"java/lang/Object", "<init>", "()V"⟩ ∈ WG := mg 70 (by decide +kernel) (by decide +kernel)
set_option maxRecDepth 20000 in
theorem k61 : Cond.classLink "BlockVault$Cache" 9 "BlockVault$Row" ∈ WG := mg 71 (by decide +kernel) (by decide +kernel)
set_option maxRecDepth 20000 in
theorem k63 : Cond.instantiable "BlockVault$Row" 5 ∈ WG := mg 73 (by decide +kernel) (by decide +kernel)
set_option maxRecDepth 20000 in
theorem k64 : Cond.methodLink "BlockVault$Cache" 17 ⟨"BlockVault$Row", "<init>", "()V"⟩ ∈ WG := mg 74 (by decide +kernel) (by decide +kernel)
set_option maxRecDepth 20000 in
theorem k65 : Cond.instanceMethod ⟨"BlockVault$Row", "<init>", "()V"⟩ ∈ WG := mg 75 (by decide +kernel) (by decide +kernel)
set_option maxRecDepth 20000 in
theorem k67 : Cond.methodLink "BlockVault$Row" 3 ⟨"java/lang/Object", "<init>", "()V"⟩ ∈ WG := mg 77 (by decide +kernel) (by decide +kernel)
set_option maxRecDepth 20000 in
theorem k68 : Cond.classLink "BlockVault$Row" 9 "BlockVault$Page" ∈ WG := mg 78 (by decide +kernel) (by decide +kernel)
set_option maxRecDepth 20000 in
theorem k70 : Cond.fieldLink "BlockVault$Row" 12 "BlockVault$Row" "page" "LBlockVault$Page;" ∈ WG := mg 80 (by decide +kernel) (by decide +kernel)
set_option maxRecDepth 20000 in
theorem k74 : Cond.fieldLink "BlockVault$Row" 18 "BlockVault$Row" "block" "I" ∈ WG := mg 84 (by decide +kernel) (by decide +kernel)
set_option maxRecDepth 20000 in
theorem k77 : Cond.fieldLink "BlockVault$Row" 22 "BlockVault$Row" "lastUse" "I" ∈ WG := mg 87 (by decide +kernel) (by decide +kernel)
set_option maxRecDepth 20000 in
theorem k79 : Cond.fieldLink "BlockVault$Row" 25 "BlockVault$Row" "held" "Z" ∈ WG := mg 89 (by decide +kernel) (by decide +kernel)
set_option maxRecDepth 20000 in
theorem k83 : Cond.fieldLink "BlockVault$Row" 29 "BlockVault$Row" "inStep" "Z" ∈ WG := mg 93 (by decide +kernel) (by decide +kernel)
set_option maxRecDepth 20000 in
theorem k97 : Cond.fieldLink "BlockVault$Cache" 11 "BlockVault$Cache" "rows" "[LBlockVault$Row;" ∈ WG := mg 107 (by decide +kernel) (by decide +kernel)
set_option maxRecDepth 20000 in
theorem k99 : Cond.fieldLink "BlockVault$Cache" 18 "BlockVault$Cache" "uses" "I" ∈ WG := mg 109 (by decide +kernel) (by decide +kernel)
set_option maxRecDepth 20000 in
theorem k100 : Cond.fieldLink "BlockVault$Cache" 22 "BlockVault$Cache" "reads" "I" ∈ WG := mg 110 (by decide +kernel) (by decide +kernel)
set_option maxRecDepth 20000 in
theorem k108 : Cond.classLink "BlockVault" 36 "BlockVault$Log" ∈ WG := mg 118 (by decide +kernel) (by decide +kernel)
set_option maxRecDepth 20000 in
theorem k109 : Cond.instantiable "BlockVault$Log" 3 ∈ WG := mg 119 (by decide +kernel) (by decide +kernel)
set_option maxRecDepth 20000 in
theorem k110 : Cond.methodLink "BlockVault" 38 ⟨"BlockVault$Log", "<init>", "()V"⟩ ∈ WG := mg 120 (by decide +kernel) (by decide +kernel)
set_option maxRecDepth 20000 in
theorem k111 : Cond.instanceMethod ⟨"BlockVault$Log", "<init>", "()V"⟩ ∈ WG := mg 121 (by decide +kernel) (by decide +kernel)
set_option maxRecDepth 20000 in
theorem k113 : Cond.methodLink "BlockVault$Log" 3 ⟨"java/lang/Object", "<init>", "()V"⟩ ∈ WG := mg 123 (by decide +kernel) (by decide +kernel)
set_option maxRecDepth 20000 in
theorem k114 : Cond.classLink "BlockVault$Log" 9 "BlockVault$Page" ∈ WG := mg 124 (by decide +kernel) (by decide +kernel)
set_option maxRecDepth 20000 in
theorem k116 : Cond.fieldLink "BlockVault$Log" 12 "BlockVault$Log" "head" "LBlockVault$Page;" ∈ WG := mg 126 (by decide +kernel) (by decide +kernel)
set_option maxRecDepth 20000 in
theorem k117 : Cond.fieldLink "BlockVault$Log" 18 "BlockVault$Log" "carried" "LBlockVault$Page;" ∈ WG := mg 127 (by decide +kernel) (by decide +kernel)
set_option maxRecDepth 20000 in
theorem k118 : Cond.fieldLink "BlockVault$Log" 21 "BlockVault$Log" "commits" "I" ∈ WG := mg 128 (by decide +kernel) (by decide +kernel)
set_option maxRecDepth 20000 in
theorem k126 : Cond.fieldLink "BlockVault" 18 "BlockVault" "blocks" "I" ∈ WG := mg 136 (by decide +kernel) (by decide +kernel)
set_option maxRecDepth 20000 in
theorem k127 : Cond.fieldLink "BlockVault" 25 "BlockVault" "disk" "LBlockVault$Disk;" ∈ WG := mg 137 (by decide +kernel) (by decide +kernel)
set_option maxRecDepth 20000 in
theorem k128 : Cond.fieldLink "BlockVault" 32 "BlockVault" "cache" "LBlockVault$Cache;" ∈ WG := mg 138 (by decide +kernel) (by decide +kernel)
set_option maxRecDepth 20000 in
theorem k129 : Cond.fieldLink "BlockVault" 39 "BlockVault" "log" "LBlockVault$Log;" ∈ WG := mg 139 (by decide +kernel) (by decide +kernel)
set_option maxRecDepth 20000 in
theorem k130 : Cond.fieldLink "BlockVault" 43 "BlockVault" "stepOpen" "Z" ∈ WG := mg 140 (by decide +kernel) (by decide +kernel)
set_option maxRecDepth 20000 in
theorem k142 : Cond.methodLink "BlockVaultLaw" 21 ⟨"BlockVault", "begin", "()Z"⟩ ∈ WG := mg 152 (by decide +kernel) (by decide +kernel)
set_option maxRecDepth 20000 in
theorem k143 : Cond.instanceMethod ⟨"BlockVault", "begin", "()Z"⟩ ∈ WG := mg 153 (by decide +kernel) (by decide +kernel)
set_option maxRecDepth 20000 in
theorem k144 : Cond.selects "BlockVault" ⟨"BlockVault", "begin", "()Z"⟩ ⟨"BlockVault", "begin", "()Z"⟩ ∈ WG := mg 154 (by decide +kernel) (by decide +kernel)
set_option maxRecDepth 20000 in
theorem k146 : Cond.methodLink "BlockVault" 47 ⟨"BlockVault$Disk", "isOn", "()Z"⟩ ∈ WG := mg 156 (by decide +kernel) (by decide +kernel)
set_option maxRecDepth 20000 in
theorem k147 : Cond.instanceMethod ⟨"BlockVault$Disk", "isOn", "()Z"⟩ ∈ WG := mg 157 (by decide +kernel) (by decide +kernel)
set_option maxRecDepth 20000 in
theorem k148 : Cond.selects "BlockVault$Disk" ⟨"BlockVault$Disk", "isOn", "()Z"⟩ ⟨"BlockVault$Disk", "isOn", "()Z"⟩ ∈ WG := mg 158 (by decide +kernel) (by decide +kernel)
set_option maxRecDepth 20000 in
theorem k150 : Cond.methodLink "BlockVaultLaw" 26 ⟨"BlockVault", "end", "()I"⟩ ∈ WG := mg 160 (by decide +kernel) (by decide +kernel)
set_option maxRecDepth 20000 in
theorem k151 : Cond.instanceMethod ⟨"BlockVault", "end", "()I"⟩ ∈ WG := mg 161 (by decide +kernel) (by decide +kernel)
set_option maxRecDepth 20000 in
theorem k152 : Cond.selects "BlockVault" ⟨"BlockVault", "end", "()I"⟩ ⟨"BlockVault", "end", "()I"⟩ ∈ WG := mg 162 (by decide +kernel) (by decide +kernel)
set_option maxRecDepth 20000 in
theorem k154 : Cond.methodLink "BlockVault" 51 ⟨"BlockVault$Cache", "closeStep", "()V"⟩ ∈ WG := mg 164 (by decide +kernel) (by decide +kernel)
set_option maxRecDepth 20000 in
theorem k155 : Cond.instanceMethod ⟨"BlockVault$Cache", "closeStep", "()V"⟩ ∈ WG := mg 165 (by decide +kernel) (by decide +kernel)
set_option maxRecDepth 20000 in
theorem k156 : Cond.selects "BlockVault$Cache" ⟨"BlockVault$Cache", "closeStep", "()V"⟩ ⟨"BlockVault$Cache", "closeStep", "()V"⟩ ∈ WG := mg 166 (by decide +kernel) (by decide +kernel)
set_option maxRecDepth 20000 in
theorem k158 : Cond.methodLink "BlockVault" 54 ⟨"BlockVault$Cache", "heldRows", "()I"⟩ ∈ WG := mg 168 (by decide +kernel) (by decide +kernel)
set_option maxRecDepth 20000 in
theorem k159 : Cond.instanceMethod ⟨"BlockVault$Cache", "heldRows", "()I"⟩ ∈ WG := mg 169 (by decide +kernel) (by decide +kernel)
set_option maxRecDepth 20000 in
theorem k160 : Cond.selects "BlockVault$Cache" ⟨"BlockVault$Cache", "heldRows", "()I"⟩ ⟨"BlockVault$Cache", "heldRows", "()I"⟩ ∈ WG := mg 170 (by decide +kernel) (by decide +kernel)
set_option maxRecDepth 20000 in
theorem k162 : Cond.methodLink "BlockVault" 58 ⟨"BlockVault", "commit", "()Z"⟩ ∈ WG := mg 172 (by decide +kernel) (by decide +kernel)
set_option maxRecDepth 20000 in
theorem k164 : Cond.instanceMethod ⟨"BlockVault", "commit", "()Z"⟩ ∈ WG := mg 174 (by decide +kernel) (by decide +kernel)
set_option maxRecDepth 20000 in
theorem k166 : Cond.methodLink "BlockVault" 125 ⟨"BlockVault$Log", "bringOut", "(LBlockVault$Cache;LBlockVault$Disk;)Z"⟩ ∈ WG := mg 176 (by decide +kernel) (by decide +kernel)
set_option maxRecDepth 20000 in
theorem k167 : Cond.instanceMethod ⟨"BlockVault$Log", "bringOut", "(LBlockVault$Cache;LBlockVault$Disk;)Z"⟩ ∈ WG := mg 177 (by decide +kernel) (by decide +kernel)
set_option maxRecDepth 20000 in
theorem k168 : Cond.selects "BlockVault$Log" ⟨"BlockVault$Log", "bringOut", "(LBlockVault$Cache;LBlockVault$Disk;)Z"⟩ ⟨"BlockVault$Log", "bringOut", "(LBlockVault$Cache;LBlockVault$Disk;)Z"⟩ ∈ WG := mg 178 (by decide +kernel) (by decide +kernel)
set_option maxRecDepth 20000 in
theorem k170 : Cond.methodLink "BlockVault$Log" 25 ⟨"BlockVault$Log", "copyHeld", "(LBlockVault$Cache;LBlockVault$Disk;)Z"⟩ ∈ WG := mg 180 (by decide +kernel) (by decide +kernel)
set_option maxRecDepth 20000 in
theorem k172 : Cond.instanceMethod ⟨"BlockVault$Log", "copyHeld", "(LBlockVault$Cache;LBlockVault$Disk;)Z"⟩ ∈ WG := mg 182 (by decide +kernel) (by decide +kernel)
set_option maxRecDepth 20000 in
theorem k174 : Cond.methodLink "BlockVault$Log" 54 ⟨"BlockVault$Page", "putRun", "(III)V"⟩ ∈ WG := mg 184 (by decide +kernel) (by decide +kernel)
set_option maxRecDepth 20000 in
theorem k175 : Cond.instanceMethod ⟨"BlockVault$Page", "putRun", "(III)V"⟩ ∈ WG := mg 185 (by decide +kernel) (by decide +kernel)
set_option maxRecDepth 20000 in
theorem k176 : Cond.selects "BlockVault$Page" ⟨"BlockVault$Page", "putRun", "(III)V"⟩ ⟨"BlockVault$Page", "putRun", "(III)V"⟩ ∈ WG := mg 186 (by decide +kernel) (by decide +kernel)
set_option maxRecDepth 20000 in
theorem k179 : Cond.static ⟨"BlockVault", "isRun", "(II)Z"⟩ ∈ WG := mg 189 (by decide +kernel) (by decide +kernel)
set_option maxRecDepth 20000 in
theorem k181 : Cond.methodLink "BlockVault$Log" 29 ⟨"BlockVault$Disk", "write", "(ILBlockVault$Page;)Z"⟩ ∈ WG := mg 191 (by decide +kernel) (by decide +kernel)
set_option maxRecDepth 20000 in
theorem k182 : Cond.instanceMethod ⟨"BlockVault$Disk", "write", "(ILBlockVault$Page;)Z"⟩ ∈ WG := mg 192 (by decide +kernel) (by decide +kernel)
set_option maxRecDepth 20000 in
theorem k183 : Cond.selects "BlockVault$Disk" ⟨"BlockVault$Disk", "write", "(ILBlockVault$Page;)Z"⟩ ⟨"BlockVault$Disk", "write", "(ILBlockVault$Page;)Z"⟩ ∈ WG := mg 193 (by decide +kernel) (by decide +kernel)
set_option maxRecDepth 20000 in
theorem k185 : Cond.methodLink "BlockVault$Disk" 29 ⟨"BlockVault$Page", "copyFrom", "(LBlockVault$Page;)V"⟩ ∈ WG := mg 195 (by decide +kernel) (by decide +kernel)
set_option maxRecDepth 20000 in
theorem k186 : Cond.instanceMethod ⟨"BlockVault$Page", "copyFrom", "(LBlockVault$Page;)V"⟩ ∈ WG := mg 196 (by decide +kernel) (by decide +kernel)
set_option maxRecDepth 20000 in
theorem k187 : Cond.selects "BlockVault$Page" ⟨"BlockVault$Page", "copyFrom", "(LBlockVault$Page;)V"⟩ ⟨"BlockVault$Page", "copyFrom", "(LBlockVault$Page;)V"⟩ ∈ WG := mg 197 (by decide +kernel) (by decide +kernel)
set_option maxRecDepth 20000 in
theorem k189 : Cond.methodLink "BlockVault$Page" 19 ⟨"BlockVault$Page", "makeZero", "()V"⟩ ∈ WG := mg 199 (by decide +kernel) (by decide +kernel)
set_option maxRecDepth 20000 in
theorem k190 : Cond.instanceMethod ⟨"BlockVault$Page", "makeZero", "()V"⟩ ∈ WG := mg 200 (by decide +kernel) (by decide +kernel)
set_option maxRecDepth 20000 in
theorem k191 : Cond.selects "BlockVault$Page" ⟨"BlockVault$Page", "makeZero", "()V"⟩ ⟨"BlockVault$Page", "makeZero", "()V"⟩ ∈ WG := mg 201 (by decide +kernel) (by decide +kernel)
set_option maxRecDepth 20000 in
theorem k193 : Cond.methodLink "BlockVault$Page" 28 ⟨"java/util/Arrays", "fill", "([BB)V"⟩ ∈ WG := mg 203 (by decide +kernel) (by decide +kernel)
set_option maxRecDepth 20000 in
theorem k194 : Cond.static ⟨"java/util/Arrays", "fill", "([BB)V"⟩ ∈ WG := mg 204 (by decide +kernel) (by decide +kernel)
set_option maxRecDepth 20000 in
theorem k196 : Cond.methodLink "BlockVault$Page" 22 ⟨"java/lang/System", "arraycopy", "(Ljava/lang/Object;ILjava/lang/Object;II)V"⟩ ∈ WG := mg 206 (by decide +kernel) (by decide +kernel)
set_option maxRecDepth 20000 in
theorem k197 : Cond.static ⟨"java/lang/System", "arraycopy", "(Ljava/lang/Object;ILjava/lang/Object;II)V"⟩ ∈ WG := mg 207 (by decide +kernel) (by decide +kernel)
set_option maxRecDepth 20000 in
theorem k198 : Cond.native ⟨"java/lang/System", "arraycopy", "(Ljava/lang/Object;ILjava/lang/Object;II)V"⟩ ∈ WG := mg 208 (by decide +kernel) (by decide +kernel)
set_option maxRecDepth 20000 in
theorem k199 : Cond.methodLink "BlockVault$Log" 35 ⟨"BlockVault$Log", "bringHome", "(LBlockVault$Disk;)I"⟩ ∈ WG := mg 209 (by decide +kernel) (by decide +kernel)
set_option maxRecDepth 20000 in
theorem k200 : Cond.instanceMethod ⟨"BlockVault$Log", "bringHome", "(LBlockVault$Disk;)I"⟩ ∈ WG := mg 210 (by decide +kernel) (by decide +kernel)
set_option maxRecDepth 20000 in
theorem k201 : Cond.selects "BlockVault$Log" ⟨"BlockVault$Log", "bringHome", "(LBlockVault$Disk;)I"⟩ ⟨"BlockVault$Log", "bringHome", "(LBlockVault$Disk;)I"⟩ ∈ WG := mg 211 (by decide +kernel) (by decide +kernel)
set_option maxRecDepth 20000 in
theorem k203 : Cond.methodLink "BlockVault$Log" 61 ⟨"BlockVault$Disk", "read", "(ILBlockVault$Page;)V"⟩ ∈ WG := mg 213 (by decide +kernel) (by decide +kernel)
set_option maxRecDepth 20000 in
theorem k204 : Cond.instanceMethod ⟨"BlockVault$Disk", "read", "(ILBlockVault$Page;)V"⟩ ∈ WG := mg 214 (by decide +kernel) (by decide +kernel)
set_option maxRecDepth 20000 in
theorem k205 : Cond.selects "BlockVault$Disk" ⟨"BlockVault$Disk", "read", "(ILBlockVault$Page;)V"⟩ ⟨"BlockVault$Disk", "read", "(ILBlockVault$Page;)V"⟩ ∈ WG := mg 215 (by decide +kernel) (by decide +kernel)
set_option maxRecDepth 20000 in
theorem k207 : Cond.methodLink "BlockVault$Log" 65 ⟨"BlockVault$Page", "byteAt", "(I)I"⟩ ∈ WG := mg 217 (by decide +kernel) (by decide +kernel)
set_option maxRecDepth 20000 in
theorem k208 : Cond.instanceMethod ⟨"BlockVault$Page", "byteAt", "(I)I"⟩ ∈ WG := mg 218 (by decide +kernel) (by decide +kernel)
set_option maxRecDepth 20000 in
theorem k209 : Cond.selects "BlockVault$Page" ⟨"BlockVault$Page", "byteAt", "(I)I"⟩ ⟨"BlockVault$Page", "byteAt", "(I)I"⟩ ∈ WG := mg 219 (by decide +kernel) (by decide +kernel)
set_option maxRecDepth 20000 in
theorem k211 : Cond.methodLink "BlockVault$Log" 69 ⟨"java/lang/Math", "min", "(II)I"⟩ ∈ WG := mg 221 (by decide +kernel) (by decide +kernel)
set_option maxRecDepth 20000 in
theorem k212 : Cond.methodLink "BlockVault" 129 ⟨"BlockVault$Cache", "releaseHeld", "()V"⟩ ∈ WG := mg 222 (by decide +kernel) (by decide +kernel)
set_option maxRecDepth 20000 in
theorem k213 : Cond.instanceMethod ⟨"BlockVault$Cache", "releaseHeld", "()V"⟩ ∈ WG := mg 223 (by decide +kernel) (by decide +kernel)
set_option maxRecDepth 20000 in
theorem k214 : Cond.selects "BlockVault$Cache" ⟨"BlockVault$Cache", "releaseHeld", "()V"⟩ ⟨"BlockVault$Cache", "releaseHeld", "()V"⟩ ∈ WG := mg 224 (by decide +kernel) (by decide +kernel)
set_option maxRecDepth 20000 in
theorem k216 : Cond.methodLink "BlockVault" 132 ⟨"BlockVault$Cache", "makeEmpty", "()V"⟩ ∈ WG := mg 226 (by decide +kernel) (by decide +kernel)
set_option maxRecDepth 20000 in
theorem k217 : Cond.instanceMethod ⟨"BlockVault$Cache", "makeEmpty", "()V"⟩ ∈ WG := mg 227 (by decide +kernel) (by decide +kernel)
set_option maxRecDepth 20000 in
theorem k218 : Cond.selects "BlockVault$Cache" ⟨"BlockVault$Cache", "makeEmpty", "()V"⟩ ⟨"BlockVault$Cache", "makeEmpty", "()V"⟩ ∈ WG := mg 228 (by decide +kernel) (by decide +kernel)
set_option maxRecDepth 20000 in
theorem k220 : Cond.methodLink "BlockVault$Cache" 60 ⟨"BlockVault$Row", "makeEmpty", "()V"⟩ ∈ WG := mg 230 (by decide +kernel) (by decide +kernel)
set_option maxRecDepth 20000 in
theorem k221 : Cond.instanceMethod ⟨"BlockVault$Row", "makeEmpty", "()V"⟩ ∈ WG := mg 231 (by decide +kernel) (by decide +kernel)
set_option maxRecDepth 20000 in
theorem k222 : Cond.selects "BlockVault$Row" ⟨"BlockVault$Row", "makeEmpty", "()V"⟩ ⟨"BlockVault$Row", "makeEmpty", "()V"⟩ ∈ WG := mg 232 (by decide +kernel) (by decide +kernel)
set_option maxRecDepth 20000 in
theorem k224 : Cond.arrayClass FieldType.byte ∈ WG := mg 234 (by decide +kernel) (by decide +kernel)
set_option maxRecDepth 20000 in
theorem k225 : Cond.methodLink "BlockVaultLaw" 31 ⟨"BlockVault", "flush", "()I"⟩ ∈ WG := mg 235 (by decide +kernel) (by decide +kernel)
set_option maxRecDepth 20000 in
theorem k226 : Cond.instanceMethod ⟨"BlockVault", "flush", "()I"⟩ ∈ WG := mg 236 (by decide +kernel) (by decide +kernel)
set_option maxRecDepth 20000 in
theorem k227 : Cond.selects "BlockVault" ⟨"BlockVault", "flush", "()I"⟩ ⟨"BlockVault", "flush", "()I"⟩ ∈ WG := mg 237 (by decide +kernel) (by decide +kernel)
set_option maxRecDepth 20000 in
theorem k229 : Cond.methodLink "BlockVaultLaw" 35 ⟨"BlockVault", "get", "(II)I"⟩ ∈ WG := mg 239 (by decide +kernel) (by decide +kernel)
set_option maxRecDepth 20000 in
theorem k230 : Cond.instanceMethod ⟨"BlockVault", "get", "(II)I"⟩ ∈ WG := mg 240 (by decide +kernel) (by decide +kernel)
set_option maxRecDepth 20000 in
theorem k231 : Cond.selects "BlockVault" ⟨"BlockVault", "get", "(II)I"⟩ ⟨"BlockVault", "get", "(II)I"⟩ ∈ WG := mg 241 (by decide +kernel) (by decide +kernel)
set_option maxRecDepth 20000 in
theorem k233 : Cond.methodLink "BlockVault" 61 ⟨"BlockVault", "isBlock", "(I)Z"⟩ ∈ WG := mg 243 (by decide +kernel) (by decide +kernel)
set_option maxRecDepth 20000 in
theorem k235 : Cond.instanceMethod ⟨"BlockVault", "isBlock", "(I)Z"⟩ ∈ WG := mg 245 (by decide +kernel) (by decide +kernel)
set_option maxRecDepth 20000 in
theorem k237 : Cond.methodLink "BlockVault" 65 ⟨"BlockVault$Cache", "lookAt", "(ILBlockVault$Disk;)LBlockVault$Row;"⟩ ∈ WG := mg 247 (by decide +kernel) (by decide +kernel)
set_option maxRecDepth 20000 in
theorem k238 : Cond.instanceMethod ⟨"BlockVault$Cache", "lookAt", "(ILBlockVault$Disk;)LBlockVault$Row;"⟩ ∈ WG := mg 248 (by decide +kernel) (by decide +kernel)
set_option maxRecDepth 20000 in
theorem k239 : Cond.selects "BlockVault$Cache" ⟨"BlockVault$Cache", "lookAt", "(ILBlockVault$Disk;)LBlockVault$Row;"⟩ ⟨"BlockVault$Cache", "lookAt", "(ILBlockVault$Disk;)LBlockVault$Row;"⟩ ∈ WG := mg 249 (by decide +kernel) (by decide +kernel)
set_option maxRecDepth 20000 in
theorem k241 : Cond.methodLink "BlockVault$Cache" 28 ⟨"BlockVault$Cache", "rowOf", "(I)LBlockVault$Row;"⟩ ∈ WG := mg 251 (by decide +kernel) (by decide +kernel)
set_option maxRecDepth 20000 in
theorem k242 : Cond.instanceMethod ⟨"BlockVault$Cache", "rowOf", "(I)LBlockVault$Row;"⟩ ∈ WG := mg 252 (by decide +kernel) (by decide +kernel)
set_option maxRecDepth 20000 in
theorem k243 : Cond.selects "BlockVault$Cache" ⟨"BlockVault$Cache", "rowOf", "(I)LBlockVault$Row;"⟩ ⟨"BlockVault$Cache", "rowOf", "(I)LBlockVault$Row;"⟩ ∈ WG := mg 253 (by decide +kernel) (by decide +kernel)
set_option maxRecDepth 20000 in
theorem k245 : Cond.methodLink "BlockVault$Cache" 32 ⟨"BlockVault$Cache", "rowToGive", "()LBlockVault$Row;"⟩ ∈ WG := mg 255 (by decide +kernel) (by decide +kernel)
set_option maxRecDepth 20000 in
theorem k247 : Cond.instanceMethod ⟨"BlockVault$Cache", "rowToGive", "()LBlockVault$Row;"⟩ ∈ WG := mg 257 (by decide +kernel) (by decide +kernel)
set_option maxRecDepth 20000 in
theorem k249 : Cond.methodLink "BlockVault$Cache" 49 ⟨"BlockVault$Row", "givesWayBefore", "(LBlockVault$Row;)Z"⟩ ∈ WG := mg 259 (by decide +kernel) (by decide +kernel)
set_option maxRecDepth 20000 in
theorem k250 : Cond.instanceMethod ⟨"BlockVault$Row", "givesWayBefore", "(LBlockVault$Row;)Z"⟩ ∈ WG := mg 260 (by decide +kernel) (by decide +kernel)
set_option maxRecDepth 20000 in
theorem k251 : Cond.selects "BlockVault$Row" ⟨"BlockVault$Row", "givesWayBefore", "(LBlockVault$Row;)Z"⟩ ⟨"BlockVault$Row", "givesWayBefore", "(LBlockVault$Row;)Z"⟩ ∈ WG := mg 261 (by decide +kernel) (by decide +kernel)
set_option maxRecDepth 20000 in
theorem k253 : Cond.methodLink "BlockVault$Cache" 40 ⟨"BlockVault$Disk", "read", "(ILBlockVault$Page;)V"⟩ ∈ WG := mg 263 (by decide +kernel) (by decide +kernel)
set_option maxRecDepth 20000 in
theorem k254 : Cond.methodLink "BlockVault" 75 ⟨"BlockVault$Page", "byteAt", "(I)I"⟩ ∈ WG := mg 264 (by decide +kernel) (by decide +kernel)
set_option maxRecDepth 20000 in
theorem k255 : Cond.methodLink "BlockVaultLaw" 40 ⟨"BlockVault", "fill", "(IIII)Z"⟩ ∈ WG := mg 265 (by decide +kernel) (by decide +kernel)
set_option maxRecDepth 20000 in
theorem k256 : Cond.instanceMethod ⟨"BlockVault", "fill", "(IIII)Z"⟩ ∈ WG := mg 266 (by decide +kernel) (by decide +kernel)
set_option maxRecDepth 20000 in
theorem k257 : Cond.selects "BlockVault" ⟨"BlockVault", "fill", "(IIII)Z"⟩ ⟨"BlockVault", "fill", "(IIII)Z"⟩ ∈ WG := mg 267 (by decide +kernel) (by decide +kernel)
set_option maxRecDepth 20000 in
theorem k259 : Cond.methodLink "BlockVault" 81 ⟨"BlockVault", "isRun", "(II)Z"⟩ ∈ WG := mg 269 (by decide +kernel) (by decide +kernel)
set_option maxRecDepth 20000 in
theorem k260 : Cond.methodLink "BlockVault" 85 ⟨"BlockVault", "stepTakes", "(I)Z"⟩ ∈ WG := mg 270 (by decide +kernel) (by decide +kernel)
set_option maxRecDepth 20000 in
theorem k262 : Cond.instanceMethod ⟨"BlockVault", "stepTakes", "(I)Z"⟩ ∈ WG := mg 272 (by decide +kernel) (by decide +kernel)
set_option maxRecDepth 20000 in
theorem k264 : Cond.methodLink "BlockVault" 121 ⟨"BlockVault$Cache", "rowOf", "(I)LBlockVault$Row;"⟩ ∈ WG := mg 274 (by decide +kernel) (by decide +kernel)
set_option maxRecDepth 20000 in
theorem k265 : Cond.methodLink "BlockVault" 109 ⟨"BlockVault$Cache", "stepRows", "()I"⟩ ∈ WG := mg 275 (by decide +kernel) (by decide +kernel)
set_option maxRecDepth 20000 in
theorem k266 : Cond.instanceMethod ⟨"BlockVault$Cache", "stepRows", "()I"⟩ ∈ WG := mg 276 (by decide +kernel) (by decide +kernel)
set_option maxRecDepth 20000 in
theorem k267 : Cond.selects "BlockVault$Cache" ⟨"BlockVault$Cache", "stepRows", "()I"⟩ ⟨"BlockVault$Cache", "stepRows", "()I"⟩ ∈ WG := mg 277 (by decide +kernel) (by decide +kernel)
set_option maxRecDepth 20000 in
theorem k269 : Cond.methodLink "BlockVault" 94 ⟨"BlockVault$Page", "putRun", "(III)V"⟩ ∈ WG := mg 279 (by decide +kernel) (by decide +kernel)
set_option maxRecDepth 20000 in
theorem k270 : Cond.methodLink "BlockVaultLaw" 45 ⟨"BlockVault", "cut", "(I)Z"⟩ ∈ WG := mg 280 (by decide +kernel) (by decide +kernel)
set_option maxRecDepth 20000 in
theorem k271 : Cond.instanceMethod ⟨"BlockVault", "cut", "(I)Z"⟩ ∈ WG := mg 281 (by decide +kernel) (by decide +kernel)
set_option maxRecDepth 20000 in
theorem k272 : Cond.selects "BlockVault" ⟨"BlockVault", "cut", "(I)Z"⟩ ⟨"BlockVault", "cut", "(I)Z"⟩ ∈ WG := mg 282 (by decide +kernel) (by decide +kernel)
set_option maxRecDepth 20000 in
theorem k274 : Cond.methodLink "BlockVault" 98 ⟨"BlockVault$Disk", "goAfter", "(I)V"⟩ ∈ WG := mg 284 (by decide +kernel) (by decide +kernel)
set_option maxRecDepth 20000 in
theorem k275 : Cond.instanceMethod ⟨"BlockVault$Disk", "goAfter", "(I)V"⟩ ∈ WG := mg 285 (by decide +kernel) (by decide +kernel)
set_option maxRecDepth 20000 in
theorem k276 : Cond.selects "BlockVault$Disk" ⟨"BlockVault$Disk", "goAfter", "(I)V"⟩ ⟨"BlockVault$Disk", "goAfter", "(I)V"⟩ ∈ WG := mg 286 (by decide +kernel) (by decide +kernel)
set_option maxRecDepth 20000 in
theorem k278 : Cond.methodLink "BlockVaultLaw" 50 ⟨"BlockVault", "power", "(I)I"⟩ ∈ WG := mg 288 (by decide +kernel) (by decide +kernel)
set_option maxRecDepth 20000 in
theorem k279 : Cond.instanceMethod ⟨"BlockVault", "power", "(I)I"⟩ ∈ WG := mg 289 (by decide +kernel) (by decide +kernel)
set_option maxRecDepth 20000 in
theorem k280 : Cond.selects "BlockVault" ⟨"BlockVault", "power", "(I)I"⟩ ⟨"BlockVault", "power", "(I)I"⟩ ∈ WG := mg 290 (by decide +kernel) (by decide +kernel)
set_option maxRecDepth 20000 in
theorem k282 : Cond.methodLink "BlockVault" 102 ⟨"BlockVault$Disk", "comeBack", "()V"⟩ ∈ WG := mg 292 (by decide +kernel) (by decide +kernel)
set_option maxRecDepth 20000 in
theorem k283 : Cond.instanceMethod ⟨"BlockVault$Disk", "comeBack", "()V"⟩ ∈ WG := mg 293 (by decide +kernel) (by decide +kernel)
set_option maxRecDepth 20000 in
theorem k284 : Cond.selects "BlockVault$Disk" ⟨"BlockVault$Disk", "comeBack", "()V"⟩ ⟨"BlockVault$Disk", "comeBack", "()V"⟩ ∈ WG := mg 294 (by decide +kernel) (by decide +kernel)
set_option maxRecDepth 20000 in
theorem k286 : Cond.methodLink "BlockVault" 105 ⟨"BlockVault$Log", "bringHome", "(LBlockVault$Disk;)I"⟩ ∈ WG := mg 296 (by decide +kernel) (by decide +kernel)
set_option maxRecDepth 20000 in
theorem k287 : Cond.methodLink "BlockVaultLaw" 55 ⟨"BlockVault", "count", "(I)I"⟩ ∈ WG := mg 297 (by decide +kernel) (by decide +kernel)
set_option maxRecDepth 20000 in
theorem k288 : Cond.instanceMethod ⟨"BlockVault", "count", "(I)I"⟩ ∈ WG := mg 298 (by decide +kernel) (by decide +kernel)
set_option maxRecDepth 20000 in
theorem k289 : Cond.selects "BlockVault" ⟨"BlockVault", "count", "(I)I"⟩ ⟨"BlockVault", "count", "(I)I"⟩ ∈ WG := mg 299 (by decide +kernel) (by decide +kernel)
set_option maxRecDepth 20000 in
theorem k291 : Cond.methodLink "BlockVault" 112 ⟨"BlockVault$Disk", "writesMade", "()I"⟩ ∈ WG := mg 301 (by decide +kernel) (by decide +kernel)
set_option maxRecDepth 20000 in
theorem k292 : Cond.instanceMethod ⟨"BlockVault$Disk", "writesMade", "()I"⟩ ∈ WG := mg 302 (by decide +kernel) (by decide +kernel)
set_option maxRecDepth 20000 in
theorem k293 : Cond.selects "BlockVault$Disk" ⟨"BlockVault$Disk", "writesMade", "()I"⟩ ⟨"BlockVault$Disk", "writesMade", "()I"⟩ ∈ WG := mg 303 (by decide +kernel) (by decide +kernel)
set_option maxRecDepth 20000 in
theorem k295 : Cond.methodLink "BlockVault" 115 ⟨"BlockVault$Cache", "readsMade", "()I"⟩ ∈ WG := mg 305 (by decide +kernel) (by decide +kernel)
set_option maxRecDepth 20000 in
theorem k296 : Cond.instanceMethod ⟨"BlockVault$Cache", "readsMade", "()I"⟩ ∈ WG := mg 306 (by decide +kernel) (by decide +kernel)
set_option maxRecDepth 20000 in
theorem k297 : Cond.selects "BlockVault$Cache" ⟨"BlockVault$Cache", "readsMade", "()I"⟩ ⟨"BlockVault$Cache", "readsMade", "()I"⟩ ∈ WG := mg 307 (by decide +kernel) (by decide +kernel)
set_option maxRecDepth 20000 in
theorem k299 : Cond.methodLink "BlockVault" 118 ⟨"BlockVault$Log", "commitsCounted", "()I"⟩ ∈ WG := mg 309 (by decide +kernel) (by decide +kernel)
set_option maxRecDepth 20000 in
theorem k300 : Cond.instanceMethod ⟨"BlockVault$Log", "commitsCounted", "()I"⟩ ∈ WG := mg 310 (by decide +kernel) (by decide +kernel)
set_option maxRecDepth 20000 in
theorem k301 : Cond.selects "BlockVault$Log" ⟨"BlockVault$Log", "commitsCounted", "()I"⟩ ⟨"BlockVault$Log", "commitsCounted", "()I"⟩ ∈ WG := mg 311 (by decide +kernel) (by decide +kernel)
set_option maxRecDepth 20000 in
theorem k303 : Cond.methodLink "BlockVaultLaw" 59 ⟨"BlockVault", "held", "(I)Z"⟩ ∈ WG := mg 313 (by decide +kernel) (by decide +kernel)
set_option maxRecDepth 20000 in
theorem k304 : Cond.instanceMethod ⟨"BlockVault", "held", "(I)Z"⟩ ∈ WG := mg 314 (by decide +kernel) (by decide +kernel)
set_option maxRecDepth 20000 in
theorem k305 : Cond.selects "BlockVault" ⟨"BlockVault", "held", "(I)Z"⟩ ⟨"BlockVault", "held", "(I)Z"⟩ ∈ WG := mg 315 (by decide +kernel) (by decide +kernel)
set_option maxRecDepth 20000 in
theorem k307 : Cond.methodLink "BlockVaultLaw" 63 ⟨"BlockVault", "cached", "(I)Z"⟩ ∈ WG := mg 317 (by decide +kernel) (by decide +kernel)
set_option maxRecDepth 20000 in
theorem k308 : Cond.instanceMethod ⟨"BlockVault", "cached", "(I)Z"⟩ ∈ WG := mg 318 (by decide +kernel) (by decide +kernel)
set_option maxRecDepth 20000 in
theorem k309 : Cond.selects "BlockVault" ⟨"BlockVault", "cached", "(I)Z"⟩ ⟨"BlockVault", "cached", "(I)Z"⟩ ∈ WG := mg 319 (by decide +kernel) (by decide +kernel)
set_option maxRecDepth 20000 in
theorem k311 : Cond.methodLink "BlockVaultLaw" 9 ⟨"BlockVaultLaw", "cell", "([II)I"⟩ ∈ WG := mg 321 (by decide +kernel) (by decide +kernel)
set_option maxRecDepth 20000 in
theorem k312 : Cond.static ⟨"BlockVaultLaw", "cell", "([II)I"⟩ ∈ WG := mg 322 (by decide +kernel) (by decide +kernel)
set_option maxRecDepth 20000 in
theorem k314 : Cond.classLink "BlockVaultLaw" 18 "BlockVaultModel" ∈ WG := mg 324 (by decide +kernel) (by decide +kernel)
set_option maxRecDepth 20000 in
theorem k315 : Cond.instantiable "BlockVaultModel" 15 ∈ WG := mg 325 (by decide +kernel) (by decide +kernel)
set_option maxRecDepth 20000 in
theorem k316 : Cond.methodLink "BlockVaultLaw" 20 ⟨"BlockVaultModel", "<init>", "(I)V"⟩ ∈ WG := mg 326 (by decide +kernel) (by decide +kernel)
set_option maxRecDepth 20000 in
theorem k317 : Cond.instanceMethod ⟨"BlockVaultModel", "<init>", "(I)V"⟩ ∈ WG := mg 327 (by decide +kernel) (by decide +kernel)
set_option maxRecDepth 20000 in
theorem k319 : Cond.methodLink "BlockVaultModel" 1 ⟨"java/lang/Object", "<init>", "()V"⟩ ∈ WG := mg 329 (by decide +kernel) (by decide +kernel)
set_option maxRecDepth 20000 in
theorem k320 : Cond.constant "BlockVaultModel" 7 (81920 : Int32) ∈ WG := mg 330 (by decide +kernel) (by decide +kernel)
set_option maxRecDepth 20000 in
theorem k321 : Cond.fieldLink "BlockVaultModel" 42 "BlockVaultModel" "thrown" "I" ∈ WG := mg 331 (by decide +kernel) (by decide +kernel)
set_option maxRecDepth 20000 in
theorem k322 : Cond.fieldLink "BlockVaultModel" 39 "BlockVaultModel" "blocks" "I" ∈ WG := mg 332 (by decide +kernel) (by decide +kernel)
set_option maxRecDepth 20000 in
theorem k323 : Cond.fieldLink "BlockVaultModel" 8 "BlockVaultModel" "safe" "[B" ∈ WG := mg 333 (by decide +kernel) (by decide +kernel)
set_option maxRecDepth 20000 in
theorem k324 : Cond.fieldLink "BlockVaultModel" 14 "BlockVaultModel" "now" "[B" ∈ WG := mg 334 (by decide +kernel) (by decide +kernel)
set_option maxRecDepth 20000 in
theorem k325 : Cond.fieldLink "BlockVaultModel" 17 "BlockVaultModel" "held" "[Z" ∈ WG := mg 335 (by decide +kernel) (by decide +kernel)
set_option maxRecDepth 20000 in
theorem k326 : Cond.fieldLink "BlockVaultModel" 21 "BlockVaultModel" "changed" "[Z" ∈ WG := mg 336 (by decide +kernel) (by decide +kernel)
set_option maxRecDepth 20000 in
theorem k327 : Cond.fieldLink "BlockVaultModel" 24 "BlockVaultModel" "stamp" "[I" ∈ WG := mg 337 (by decide +kernel) (by decide +kernel)
set_option maxRecDepth 20000 in
theorem k328 : Cond.fieldLink "BlockVaultModel" 72 "BlockVaultModel" "time" "I" ∈ WG := mg 338 (by decide +kernel) (by decide +kernel)
set_option maxRecDepth 20000 in
theorem k329 : Cond.fieldLink "BlockVaultModel" 28 "BlockVaultModel" "on" "Z" ∈ WG := mg 339 (by decide +kernel) (by decide +kernel)
set_option maxRecDepth 20000 in
theorem k330 : Cond.fieldLink "BlockVaultModel" 45 "BlockVaultModel" "open" "Z" ∈ WG := mg 340 (by decide +kernel) (by decide +kernel)
set_option maxRecDepth 20000 in
theorem k331 : Cond.fieldLink "BlockVaultModel" 32 "BlockVaultModel" "left" "I" ∈ WG := mg 341 (by decide +kernel) (by decide +kernel)
set_option maxRecDepth 20000 in
theorem k332 : Cond.fieldLink "BlockVaultModel" 48 "BlockVaultModel" "writes" "I" ∈ WG := mg 342 (by decide +kernel) (by decide +kernel)
set_option maxRecDepth 20000 in
theorem k333 : Cond.fieldLink "BlockVaultModel" 69 "BlockVaultModel" "reads" "I" ∈ WG := mg 343 (by decide +kernel) (by decide +kernel)
set_option maxRecDepth 20000 in
theorem k334 : Cond.fieldLink "BlockVaultModel" 59 "BlockVaultModel" "commits" "I" ∈ WG := mg 344 (by decide +kernel) (by decide +kernel)
set_option maxRecDepth 20000 in
theorem k335 : Cond.fieldLink "BlockVaultModel" 36 "BlockVaultModel" "unended" "I" ∈ WG := mg 345 (by decide +kernel) (by decide +kernel)
set_option maxRecDepth 20000 in
theorem k367 : Cond.arrayClass FieldType.boolean ∈ WG := mg 377 (by decide +kernel) (by decide +kernel)
set_option maxRecDepth 20000 in
theorem k368 : Cond.arrayClass FieldType.int ∈ WG := mg 378 (by decide +kernel) (by decide +kernel)
set_option maxRecDepth 20000 in
theorem k369 : Cond.methodLink "BlockVaultLaw" 25 ⟨"BlockVaultModel", "begin", "()Z"⟩ ∈ WG := mg 379 (by decide +kernel) (by decide +kernel)
set_option maxRecDepth 20000 in
theorem k370 : Cond.instanceMethod ⟨"BlockVaultModel", "begin", "()Z"⟩ ∈ WG := mg 380 (by decide +kernel) (by decide +kernel)
set_option maxRecDepth 20000 in
theorem k371 : Cond.selects "BlockVaultModel" ⟨"BlockVaultModel", "begin", "()Z"⟩ ⟨"BlockVaultModel", "begin", "()Z"⟩ ∈ WG := mg 381 (by decide +kernel) (by decide +kernel)
set_option maxRecDepth 20000 in
theorem k373 : Cond.methodLink "BlockVaultLaw" 30 ⟨"BlockVaultModel", "end", "()I"⟩ ∈ WG := mg 383 (by decide +kernel) (by decide +kernel)
set_option maxRecDepth 20000 in
theorem k374 : Cond.instanceMethod ⟨"BlockVaultModel", "end", "()I"⟩ ∈ WG := mg 384 (by decide +kernel) (by decide +kernel)
set_option maxRecDepth 20000 in
theorem k375 : Cond.selects "BlockVaultModel" ⟨"BlockVaultModel", "end", "()I"⟩ ⟨"BlockVaultModel", "end", "()I"⟩ ∈ WG := mg 385 (by decide +kernel) (by decide +kernel)
set_option maxRecDepth 20000 in
theorem k377 : Cond.methodLink "BlockVaultModel" 51 ⟨"BlockVaultModel", "many", "([Z)I"⟩ ∈ WG := mg 387 (by decide +kernel) (by decide +kernel)
set_option maxRecDepth 20000 in
theorem k378 : Cond.static ⟨"BlockVaultModel", "many", "([Z)I"⟩ ∈ WG := mg 388 (by decide +kernel) (by decide +kernel)
set_option maxRecDepth 20000 in
theorem k380 : Cond.methodLink "BlockVaultModel" 66 ⟨"BlockVaultModel", "commit", "()Z"⟩ ∈ WG := mg 390 (by decide +kernel) (by decide +kernel)
set_option maxRecDepth 20000 in
theorem k382 : Cond.instanceMethod ⟨"BlockVaultModel", "commit", "()Z"⟩ ∈ WG := mg 392 (by decide +kernel) (by decide +kernel)
set_option maxRecDepth 20000 in
theorem k384 : Cond.methodLink "BlockVaultModel" 55 ⟨"BlockVaultModel", "written", "(I)Z"⟩ ∈ WG := mg 394 (by decide +kernel) (by decide +kernel)
set_option maxRecDepth 20000 in
theorem k386 : Cond.instanceMethod ⟨"BlockVaultModel", "written", "(I)Z"⟩ ∈ WG := mg 396 (by decide +kernel) (by decide +kernel)
set_option maxRecDepth 20000 in
theorem k388 : Cond.methodLink "BlockVaultModel" 62 ⟨"BlockVaultModel", "ended", "()Z"⟩ ∈ WG := mg 398 (by decide +kernel) (by decide +kernel)
set_option maxRecDepth 20000 in
theorem k390 : Cond.instanceMethod ⟨"BlockVaultModel", "ended", "()Z"⟩ ∈ WG := mg 400 (by decide +kernel) (by decide +kernel)
set_option maxRecDepth 20000 in
theorem k392 : Cond.methodLink "BlockVaultLaw" 34 ⟨"BlockVaultModel", "flush", "()I"⟩ ∈ WG := mg 402 (by decide +kernel) (by decide +kernel)
set_option maxRecDepth 20000 in
theorem k393 : Cond.instanceMethod ⟨"BlockVaultModel", "flush", "()I"⟩ ∈ WG := mg 403 (by decide +kernel) (by decide +kernel)
set_option maxRecDepth 20000 in
theorem k394 : Cond.selects "BlockVaultModel" ⟨"BlockVaultModel", "flush", "()I"⟩ ⟨"BlockVaultModel", "flush", "()I"⟩ ∈ WG := mg 404 (by decide +kernel) (by decide +kernel)
set_option maxRecDepth 20000 in
theorem k396 : Cond.methodLink "BlockVaultLaw" 39 ⟨"BlockVaultModel", "get", "(II)I"⟩ ∈ WG := mg 406 (by decide +kernel) (by decide +kernel)
set_option maxRecDepth 20000 in
theorem k397 : Cond.instanceMethod ⟨"BlockVaultModel", "get", "(II)I"⟩ ∈ WG := mg 407 (by decide +kernel) (by decide +kernel)
set_option maxRecDepth 20000 in
theorem k398 : Cond.selects "BlockVaultModel" ⟨"BlockVaultModel", "get", "(II)I"⟩ ⟨"BlockVaultModel", "get", "(II)I"⟩ ∈ WG := mg 408 (by decide +kernel) (by decide +kernel)
set_option maxRecDepth 20000 in
theorem k400 : Cond.methodLink "BlockVaultModel" 75 ⟨"BlockVaultModel", "isBlock", "(I)Z"⟩ ∈ WG := mg 410 (by decide +kernel) (by decide +kernel)
set_option maxRecDepth 20000 in
theorem k402 : Cond.instanceMethod ⟨"BlockVaultModel", "isBlock", "(I)Z"⟩ ∈ WG := mg 412 (by decide +kernel) (by decide +kernel)
set_option maxRecDepth 20000 in
theorem k404 : Cond.methodLink "BlockVaultModel" 78 ⟨"BlockVaultModel", "look", "(I)V"⟩ ∈ WG := mg 414 (by decide +kernel) (by decide +kernel)
set_option maxRecDepth 20000 in
theorem k406 : Cond.instanceMethod ⟨"BlockVaultModel", "look", "(I)V"⟩ ∈ WG := mg 416 (by decide +kernel) (by decide +kernel)
set_option maxRecDepth 20000 in
theorem k408 : Cond.methodLink "BlockVaultLaw" 44 ⟨"BlockVaultModel", "fill", "(IIII)Z"⟩ ∈ WG := mg 418 (by decide +kernel) (by decide +kernel)
set_option maxRecDepth 20000 in
theorem k409 : Cond.instanceMethod ⟨"BlockVaultModel", "fill", "(IIII)Z"⟩ ∈ WG := mg 419 (by decide +kernel) (by decide +kernel)
set_option maxRecDepth 20000 in
theorem k410 : Cond.selects "BlockVaultModel" ⟨"BlockVaultModel", "fill", "(IIII)Z"⟩ ⟨"BlockVaultModel", "fill", "(IIII)Z"⟩ ∈ WG := mg 420 (by decide +kernel) (by decide +kernel)
set_option maxRecDepth 20000 in
theorem k412 : Cond.methodLink "BlockVaultLaw" 49 ⟨"BlockVaultModel", "cut", "(I)Z"⟩ ∈ WG := mg 422 (by decide +kernel) (by decide +kernel)
set_option maxRecDepth 20000 in
theorem k413 : Cond.instanceMethod ⟨"BlockVaultModel", "cut", "(I)Z"⟩ ∈ WG := mg 423 (by decide +kernel) (by decide +kernel)
set_option maxRecDepth 20000 in
theorem k414 : Cond.selects "BlockVaultModel" ⟨"BlockVaultModel", "cut", "(I)Z"⟩ ⟨"BlockVaultModel", "cut", "(I)Z"⟩ ∈ WG := mg 424 (by decide +kernel) (by decide +kernel)
set_option maxRecDepth 20000 in
theorem k416 : Cond.methodLink "BlockVaultLaw" 54 ⟨"BlockVaultModel", "power", "(I)I"⟩ ∈ WG := mg 426 (by decide +kernel) (by decide +kernel)
set_option maxRecDepth 20000 in
theorem k417 : Cond.instanceMethod ⟨"BlockVaultModel", "power", "(I)I"⟩ ∈ WG := mg 427 (by decide +kernel) (by decide +kernel)
set_option maxRecDepth 20000 in
theorem k418 : Cond.selects "BlockVaultModel" ⟨"BlockVaultModel", "power", "(I)I"⟩ ⟨"BlockVaultModel", "power", "(I)I"⟩ ∈ WG := mg 428 (by decide +kernel) (by decide +kernel)
set_option maxRecDepth 20000 in
theorem k420 : Cond.methodLink "BlockVaultLaw" 58 ⟨"BlockVaultModel", "count", "(I)I"⟩ ∈ WG := mg 430 (by decide +kernel) (by decide +kernel)
set_option maxRecDepth 20000 in
theorem k421 : Cond.instanceMethod ⟨"BlockVaultModel", "count", "(I)I"⟩ ∈ WG := mg 431 (by decide +kernel) (by decide +kernel)
set_option maxRecDepth 20000 in
theorem k422 : Cond.selects "BlockVaultModel" ⟨"BlockVaultModel", "count", "(I)I"⟩ ⟨"BlockVaultModel", "count", "(I)I"⟩ ∈ WG := mg 432 (by decide +kernel) (by decide +kernel)
set_option maxRecDepth 20000 in
theorem k424 : Cond.methodLink "BlockVaultLaw" 62 ⟨"BlockVaultModel", "held", "(I)Z"⟩ ∈ WG := mg 434 (by decide +kernel) (by decide +kernel)
set_option maxRecDepth 20000 in
theorem k425 : Cond.instanceMethod ⟨"BlockVaultModel", "held", "(I)Z"⟩ ∈ WG := mg 435 (by decide +kernel) (by decide +kernel)
set_option maxRecDepth 20000 in
theorem k426 : Cond.selects "BlockVaultModel" ⟨"BlockVaultModel", "held", "(I)Z"⟩ ⟨"BlockVaultModel", "held", "(I)Z"⟩ ∈ WG := mg 436 (by decide +kernel) (by decide +kernel)
set_option maxRecDepth 20000 in
theorem k428 : Cond.methodLink "BlockVaultLaw" 66 ⟨"BlockVaultModel", "cached", "(I)Z"⟩ ∈ WG := mg 438 (by decide +kernel) (by decide +kernel)
set_option maxRecDepth 20000 in
theorem k429 : Cond.instanceMethod ⟨"BlockVaultModel", "cached", "(I)Z"⟩ ∈ WG := mg 439 (by decide +kernel) (by decide +kernel)
set_option maxRecDepth 20000 in
theorem k430 : Cond.selects "BlockVaultModel" ⟨"BlockVaultModel", "cached", "(I)Z"⟩ ⟨"BlockVaultModel", "cached", "(I)Z"⟩ ∈ WG := mg 440 (by decide +kernel) (by decide +kernel)
set_option maxRecDepth 20000 in
theorem ks0 : Cond.selects "BlockVault" ⟨"BlockVault", "commit", "()Z"⟩ ⟨"BlockVault", "commit", "()Z"⟩ ∈ WG := mg 0 (by decide +kernel) (by decide +kernel)
set_option maxRecDepth 20000 in
theorem ks1 : Cond.selects "BlockVault$Log" ⟨"BlockVault$Log", "copyHeld", "(LBlockVault$Cache;LBlockVault$Disk;)Z"⟩ ⟨"BlockVault$Log", "copyHeld", "(LBlockVault$Cache;LBlockVault$Disk;)Z"⟩ ∈ WG := mg 1 (by decide +kernel) (by decide +kernel)
set_option maxRecDepth 20000 in
theorem ks2 : Cond.selects "BlockVault" ⟨"BlockVault", "isBlock", "(I)Z"⟩ ⟨"BlockVault", "isBlock", "(I)Z"⟩ ∈ WG := mg 2 (by decide +kernel) (by decide +kernel)
set_option maxRecDepth 20000 in
theorem ks3 : Cond.selects "BlockVault$Cache" ⟨"BlockVault$Cache", "rowToGive", "()LBlockVault$Row;"⟩ ⟨"BlockVault$Cache", "rowToGive", "()LBlockVault$Row;"⟩ ∈ WG := mg 3 (by decide +kernel) (by decide +kernel)
set_option maxRecDepth 20000 in
theorem ks4 : Cond.selects "BlockVault" ⟨"BlockVault", "stepTakes", "(I)Z"⟩ ⟨"BlockVault", "stepTakes", "(I)Z"⟩ ∈ WG := mg 4 (by decide +kernel) (by decide +kernel)
set_option maxRecDepth 20000 in
theorem ks5 : Cond.selects "BlockVaultModel" ⟨"BlockVaultModel", "commit", "()Z"⟩ ⟨"BlockVaultModel", "commit", "()Z"⟩ ∈ WG := mg 5 (by decide +kernel) (by decide +kernel)
set_option maxRecDepth 20000 in
theorem ks6 : Cond.selects "BlockVaultModel" ⟨"BlockVaultModel", "written", "(I)Z"⟩ ⟨"BlockVaultModel", "written", "(I)Z"⟩ ∈ WG := mg 6 (by decide +kernel) (by decide +kernel)
set_option maxRecDepth 20000 in
theorem ks7 : Cond.selects "BlockVaultModel" ⟨"BlockVaultModel", "ended", "()Z"⟩ ⟨"BlockVaultModel", "ended", "()Z"⟩ ∈ WG := mg 7 (by decide +kernel) (by decide +kernel)
set_option maxRecDepth 20000 in
theorem ks8 : Cond.selects "BlockVaultModel" ⟨"BlockVaultModel", "isBlock", "(I)Z"⟩ ⟨"BlockVaultModel", "isBlock", "(I)Z"⟩ ∈ WG := mg 8 (by decide +kernel) (by decide +kernel)
set_option maxRecDepth 20000 in
theorem ks9 : Cond.selects "BlockVaultModel" ⟨"BlockVaultModel", "look", "(I)V"⟩ ⟨"BlockVaultModel", "look", "(I)V"⟩ ∈ WG := mg 9 (by decide +kernel) (by decide +kernel)
/-! links to nest mates: they go with the world -/
def nestF : List (String × Nat × String × String × String × String) := [("BlockVault$Cache", 36, "BlockVault$Row", "page", "LBlockVault$Page;", "BlockVault"), ("BlockVault$Log", 58, "BlockVault$Row", "page", "LBlockVault$Page;", "BlockVault"), ("BlockVault", 69, "BlockVault$Row", "page", "LBlockVault$Page;", "BlockVault"), ("BlockVault$Cache", 25, "BlockVault$Row", "block", "I", "BlockVault"), ("BlockVault$Log", 51, "BlockVault$Row", "block", "I", "BlockVault"), ("BlockVault$Cache", 46, "BlockVault$Row", "lastUse", "I", "BlockVault"), ("BlockVault$Log", 45, "BlockVault$Row", "held", "Z", "BlockVault"), ("BlockVault$Cache", 53, "BlockVault$Row", "held", "Z", "BlockVault"), ("BlockVault", 88, "BlockVault$Row", "held", "Z", "BlockVault"), ("BlockVault", 91, "BlockVault$Row", "inStep", "Z", "BlockVault"), ("BlockVault$Cache", 57, "BlockVault$Row", "inStep", "Z", "BlockVault"), ("BlockVault$Log", 39, "BlockVault$Cache", "rows", "[LBlockVault$Row;", "BlockVault")]
def nestM : List (String × Nat × MethodName × String) := [("BlockVault$Disk", 17, ⟨"BlockVault$Page", "<init>", "()V"⟩, "BlockVault"), ("BlockVault$Row", 11, ⟨"BlockVault$Page", "<init>", "()V"⟩, "BlockVault"), ("BlockVault$Log", 11, ⟨"BlockVault$Page", "<init>", "()V"⟩, "BlockVault"), ("BlockVault$Page", 15, ⟨"BlockVault", "isRun", "(II)Z"⟩, "BlockVault")]
def JN (U : State) : Prop := (∀ q ∈ nestF, va_Nw (.fieldLinkNest q.1 q.2.1 q.2.2.1 q.2.2.2.1 q.2.2.2.2.1 q.2.2.2.2.2) U) ∧ (∀ q ∈ nestM, va_Nw (.methodLinkNest q.1 q.2.1 q.2.2.1 q.2.2.2) U) ∧ va_AO "BlockVault$Page" U ∧ va_AO "BlockVault$Row" U
theorem JN.warm {s U : State} (h : JN s) (hW : s.WarmedH U.vm) : JN U := ⟨fun q hq => va_Nw.warmF hW (h.1 q hq), fun q hq => va_Nw.warmM hW (h.2.1 q hq), h.2.2.1.moved hW.alike, h.2.2.2.moved hW.alike⟩
theorem JN.same {u U : State} (h : JN u) (e : u.vm = U.vm) : JN U := ⟨fun q hq => va_Nw.same rfl e (h.1 q hq), fun q hq => va_Nw.same rfl e (h.2.1 q hq), by
  refine h.2.2.1.moved ?_
  rw [← e]
  exact Vm.Alike.refl _, by
  refine h.2.2.2.moved ?_
  rw [← e]
  exact Vm.Alike.refl _⟩
theorem nf0 {s : State} {args : Array Value} (h : JN s) : (Cond.fieldLinkNest "BlockVault$Cache" 36 "BlockVault$Row" "page" "LBlockVault$Page;" "BlockVault").before args s = true := va_Nw.use rfl (h.1 _ (List.mem_of_getElem? (i := 0) rfl))
theorem nf1 {s : State} {args : Array Value} (h : JN s) : (Cond.fieldLinkNest "BlockVault$Log" 58 "BlockVault$Row" "page" "LBlockVault$Page;" "BlockVault").before args s = true := va_Nw.use rfl (h.1 _ (List.mem_of_getElem? (i := 1) rfl))
theorem nf2 {s : State} {args : Array Value} (h : JN s) : (Cond.fieldLinkNest "BlockVault" 69 "BlockVault$Row" "page" "LBlockVault$Page;" "BlockVault").before args s = true := va_Nw.use rfl (h.1 _ (List.mem_of_getElem? (i := 2) rfl))
theorem nf3 {s : State} {args : Array Value} (h : JN s) : (Cond.fieldLinkNest "BlockVault$Cache" 25 "BlockVault$Row" "block" "I" "BlockVault").before args s = true := va_Nw.use rfl (h.1 _ (List.mem_of_getElem? (i := 3) rfl))
theorem nf4 {s : State} {args : Array Value} (h : JN s) : (Cond.fieldLinkNest "BlockVault$Log" 51 "BlockVault$Row" "block" "I" "BlockVault").before args s = true := va_Nw.use rfl (h.1 _ (List.mem_of_getElem? (i := 4) rfl))
theorem nf5 {s : State} {args : Array Value} (h : JN s) : (Cond.fieldLinkNest "BlockVault$Cache" 46 "BlockVault$Row" "lastUse" "I" "BlockVault").before args s = true := va_Nw.use rfl (h.1 _ (List.mem_of_getElem? (i := 5) rfl))
theorem nf6 {s : State} {args : Array Value} (h : JN s) : (Cond.fieldLinkNest "BlockVault$Log" 45 "BlockVault$Row" "held" "Z" "BlockVault").before args s = true := va_Nw.use rfl (h.1 _ (List.mem_of_getElem? (i := 6) rfl))
theorem nf7 {s : State} {args : Array Value} (h : JN s) : (Cond.fieldLinkNest "BlockVault$Cache" 53 "BlockVault$Row" "held" "Z" "BlockVault").before args s = true := va_Nw.use rfl (h.1 _ (List.mem_of_getElem? (i := 7) rfl))
theorem nf8 {s : State} {args : Array Value} (h : JN s) : (Cond.fieldLinkNest "BlockVault" 88 "BlockVault$Row" "held" "Z" "BlockVault").before args s = true := va_Nw.use rfl (h.1 _ (List.mem_of_getElem? (i := 8) rfl))
theorem nf9 {s : State} {args : Array Value} (h : JN s) : (Cond.fieldLinkNest "BlockVault" 91 "BlockVault$Row" "inStep" "Z" "BlockVault").before args s = true := va_Nw.use rfl (h.1 _ (List.mem_of_getElem? (i := 9) rfl))
theorem nf10 {s : State} {args : Array Value} (h : JN s) : (Cond.fieldLinkNest "BlockVault$Cache" 57 "BlockVault$Row" "inStep" "Z" "BlockVault").before args s = true := va_Nw.use rfl (h.1 _ (List.mem_of_getElem? (i := 10) rfl))
theorem nf11 {s : State} {args : Array Value} (h : JN s) : (Cond.fieldLinkNest "BlockVault$Log" 39 "BlockVault$Cache" "rows" "[LBlockVault$Row;" "BlockVault").before args s = true := va_Nw.use rfl (h.1 _ (List.mem_of_getElem? (i := 11) rfl))
theorem nm0 {s : State} (h : JN s) : va_Nw (Cond.methodLinkNest "BlockVault$Disk" 17 ⟨"BlockVault$Page", "<init>", "()V"⟩ "BlockVault") s := h.2.1 _ (List.mem_of_getElem? (i := 0) rfl)
theorem nm1 {s : State} (h : JN s) : va_Nw (Cond.methodLinkNest "BlockVault$Row" 11 ⟨"BlockVault$Page", "<init>", "()V"⟩ "BlockVault") s := h.2.1 _ (List.mem_of_getElem? (i := 1) rfl)
theorem nm2 {s : State} (h : JN s) : va_Nw (Cond.methodLinkNest "BlockVault$Log" 11 ⟨"BlockVault$Page", "<init>", "()V"⟩ "BlockVault") s := h.2.1 _ (List.mem_of_getElem? (i := 2) rfl)
theorem nm3 {s : State} (h : JN s) : va_Nw (Cond.methodLinkNest "BlockVault$Page" 15 ⟨"BlockVault", "isRun", "(II)Z"⟩ "BlockVault") s := h.2.1 _ (List.mem_of_getElem? (i := 3) rfl)
end
section
/-! MAPS OF CELLS: the heap since the base B as a map from addresses to (tag, cell); tags are apart, every cell since B is in the map -/
abbrev hm_T : Type := Nat → Option (Nat × va_E)
def hm_up (h : hm_T) (a : Nat) (x : Nat × va_E) : hm_T := fun q => if q = a then some x else h q
theorem hm_up_s {h : hm_T} {a : Nat} {x : Nat × va_E} : hm_up h a x a = some x := by simp [hm_up]
theorem hm_up_n {h : hm_T} {a q : Nat} {x : Nat × va_E} (n : q ≠ a) : hm_up h a x q = h q := by simp [hm_up, n]
/-- how many slots a cell of a tag may have -/
def hm_mx (t : Nat) : Nat := if t < 116 then 80 else if t < 232 then 1024 else if t = 273 ∨ t = 274 then 81920 else 80
def hm_A (B : Nat) : Nat → Prop := fun q => B ≤ q
def hm_P (D : va_G) (cl : List vw_C) (B : Nat) (h : hm_T) (H : Heap) : Prop :=
  B ≤ H.size ∧
  (∀ (a t : Nat) (e : va_E), h a = some (t, e) → B ≤ a ∧ t < 278 ∧ va_at D cl (a, e) H) ∧
  (∀ q : Nat, B ≤ q → q < H.size → ∃ (cell : Cell) (t : Nat) (e : va_E), H[q]? = some cell ∧ h q = some (t, e) ∧ cell.slots.size ≤ hm_mx t) ∧
  (∀ (q q' t : Nat) (e e' : va_E), h q = some (t, e) → h q' = some (t, e') → q = q')
theorem hm_P.one {D : va_G} {cl : List vw_C} {B : Nat} {h : hm_T} {H : Heap} (hP : hm_P D cl B h H) {a t : Nat} {e : va_E} (ha : h a = some (t, e)) : va_P D cl [(a, e)] H := by
  intro k q hq
  have hz : k < 1 := (List.getElem?_eq_some_iff.mp hq).1
  rw [show k = 0 by omega] at hq
  cases hq
  exact (hP.2.1 a t e ha).2.2
theorem hm_P.ge {D : va_G} {cl : List vw_C} {B : Nat} {h : hm_T} {H : Heap} (hP : hm_P D cl B h H) {a t : Nat} {e : va_E} (ha : h a = some (t, e)) : hm_A B a := (hP.2.1 a t e ha).1
theorem hm_P.fresh {D : va_G} {cl : List vw_C} {B : Nat} {h : hm_T} {H : Heap} (hP : hm_P D cl B h H) : h H.size = none := by
  cases hh : h H.size with
  | none => rfl
  | some x =>
    obtain ⟨t, e⟩ := x
    have := (hP.2.1 _ _ _ hh).2.2.lt
    exact absurd this (Nat.lt_irrefl _)
theorem hm_ne {h : hm_T} {a b t t' : Nat} {e e' : va_E} (ha : h a = some (t, e)) (hb : h b = some (t', e')) (hn : t ≠ t') : a ≠ b := by
  intro hab
  subst hab
  rw [ha] at hb
  cases hb
  exact hn rfl
theorem hm_nn {h : hm_T} {a b t : Nat} {e : va_E} (ha : h a = some (t, e)) (hb : h b = none) : a ≠ b := by
  intro hab
  subst hab
  rw [ha] at hb
  cases hb
theorem hm_P.set {D : va_G} {cl : List vw_C} {B : Nat} {h : hm_T} {H H1 : Heap} (hP : hm_P D cl B h H) {a t : Nat} {e0 e : va_E} (ha : h a = some (t, e0)) (hat : va_at D cl (a, e) H1) (hz : H1.size = H.size) (ho : ∀ q : Nat, q ≠ a → H1[q]? = H[q]?)
    (hc : ∀ c0 c1 : Cell, H[a]? = some c0 → H1[a]? = some c1 → c1.slots.size = c0.slots.size) : hm_P D cl B (hm_up h a (t, e)) H1 := by
  refine ⟨by rw [hz]; exact hP.1, fun q t' e' hq => ?_, fun q h1 h2 => ?_, fun q q' t' e1 e2 h1 h2 => ?_⟩
  · by_cases hqa : q = a
    · subst hqa
      rw [hm_up_s] at hq
      cases hq
      exact ⟨(hP.2.1 _ _ _ ha).1, (hP.2.1 _ _ _ ha).2.1, hat⟩
    · rw [hm_up_n hqa] at hq
      obtain ⟨x1, x2, x3⟩ := hP.2.1 _ _ _ hq
      exact ⟨x1, x2, x3.kept (ho q hqa)⟩
  · obtain ⟨c0, t', e', g1, g2, g3⟩ := hP.2.2.1 q h1 (by rw [← hz]; exact h2)
    by_cases hqa : q = a
    · subst hqa
      rw [ha] at g2
      cases g2
      have hc1 : H1[q]? = some H1[q] := Array.getElem?_eq_getElem h2
      exact ⟨_, t, e, hc1, hm_up_s, by rw [hc _ _ g1 hc1]; exact g3⟩
    · exact ⟨c0, t', e', by rw [ho q hqa]; exact g1, by rw [hm_up_n hqa]; exact g2, g3⟩
  · by_cases hqa : q = a
    · by_cases hqa' : q' = a
      · rw [hqa, hqa']
      · subst hqa
        rw [hm_up_s] at h1
        rw [hm_up_n hqa'] at h2
        cases h1
        exact hP.2.2.2 _ _ _ _ _ ha h2
    · by_cases hqa' : q' = a
      · subst hqa'
        rw [hm_up_s] at h2
        rw [hm_up_n hqa] at h1
        cases h2
        exact hP.2.2.2 _ _ _ _ _ h1 ha
      · rw [hm_up_n hqa] at h1
        rw [hm_up_n hqa'] at h2
        exact hP.2.2.2 _ _ _ _ _ h1 h2
theorem hm_P.push {D : va_G} {cl : List vw_C} {B : Nat} {h : hm_T} {H H1 : Heap} (hP : hm_P D cl B h H) {t : Nat} {e : va_E} {cell : Cell} (hat : va_at D cl (H.size, e) H1) (hc : H1[H.size]? = some cell) (hm : cell.slots.size ≤ hm_mx t) (ht : t < 278)
    (hfr : ∀ (q : Nat) (e' : va_E), h q ≠ some (t, e')) (hz : H1.size = H.size + 1) (ho : ∀ q : Nat, q < H.size → H1[q]? = H[q]?) : hm_P D cl B (hm_up h H.size (t, e)) H1 := by
  have hB := hP.1
  refine ⟨by omega, fun q t' e' hq => ?_, fun q h1 h2 => ?_, fun q q' t' e1 e2 h1 h2 => ?_⟩
  · by_cases hqa : q = H.size
    · subst hqa
      rw [hm_up_s] at hq
      cases hq
      exact ⟨hB, ht, hat⟩
    · rw [hm_up_n hqa] at hq
      obtain ⟨x1, x2, x3⟩ := hP.2.1 _ _ _ hq
      exact ⟨x1, x2, x3.kept (ho q x3.lt)⟩
  · by_cases hqa : q = H.size
    · subst hqa
      exact ⟨cell, t, e, hc, hm_up_s, hm⟩
    · have hq : q < H.size := by omega
      obtain ⟨c0, t', e', g1, g2, g3⟩ := hP.2.2.1 q h1 hq
      exact ⟨c0, t', e', by rw [ho q hq]; exact g1, by rw [hm_up_n hqa]; exact g2, g3⟩
  · by_cases hqa : q = H.size
    · by_cases hqa' : q' = H.size
      · rw [hqa, hqa']
      · subst hqa
        rw [hm_up_s] at h1
        rw [hm_up_n hqa'] at h2
        cases h1
        exact absurd h2 (hfr _ _)
    · by_cases hqa' : q' = H.size
      · subst hqa'
        rw [hm_up_s] at h2
        rw [hm_up_n hqa] at h1
        cases h2
        exact absurd h1 (hfr _ _)
      · rw [hm_up_n hqa] at h1
        rw [hm_up_n hqa'] at h2
        exact hP.2.2.2 _ _ _ _ _ h1 h2
/-! how many cells and slots there can be: the tags are apart and below 278 -/
theorem hm_cut (mx : Nat → Nat) (T : Nat) : ∀ l : List Nat, l.Nodup → (l.map mx).sum ≤ ((l.filter (fun x => !(x == T))).map mx).sum + mx T
  | [], _ => by simp
  | a :: l, h => by
    have h' := List.nodup_cons.mp h
    by_cases e : a = T
    · subst e
      have hf : l.filter (fun x => !(x == a)) = l := List.filter_eq_self.mpr (fun x hx => by
        have : x ≠ a := fun hxa => h'.1 (hxa ▸ hx)
        simp [this])
      simp [hf]
      omega
    · have ih := hm_cut mx T l h'.2
      simp [e]
      omega
theorem hm_tot (mx : Nat → Nat) : ∀ (T : Nat) (l : List Nat), l.Nodup → (∀ x ∈ l, x < T) → (l.map mx).sum ≤ ((List.range T).map mx).sum
  | 0, l, _, h => by
    cases l with
    | nil => simp
    | cons a l => exact absurd (h a List.mem_cons_self) (Nat.not_lt_zero _)
  | T + 1, l, hn, h => by
    have h1 := hm_cut mx T l hn
    have h2 := hm_tot mx T (l.filter (fun x => !(x == T))) (List.Pairwise.filter _ hn) (fun x hx => by
      have hx' := List.mem_filter.mp hx
      have hlt := h x hx'.1
      have hne : x ≠ T := by
        have := hx'.2
        simp at this
        exact this
      omega)
    rw [List.range_succ, List.map_append, List.sum_append_nat]
    simp only [List.map_cons, List.map_nil, List.sum_cons, List.sum_nil]
    omega
theorem hm_le {α : Type} (sz : α → Nat) : ∀ (L : List α) (f : Nat → Nat), (∀ (i : Nat) (x : α), L[i]? = some x → sz x ≤ f i) → (L.map sz).sum ≤ ((List.range L.length).map f).sum
  | [], f, _ => by simp
  | a :: L, f, h => by
    have ih := hm_le sz L (fun i => f (i + 1)) (fun i x hx => h (i + 1) x (by simpa using hx))
    have h0 := h 0 a rfl
    rw [List.length_cons, List.range_succ_eq_map, List.map_cons, List.map_cons, List.sum_cons, List.sum_cons, List.map_map]
    have e : (f ∘ Nat.succ) = fun i => f (i + 1) := rfl
    rw [e]
    omega
theorem hm_drop : ∀ (k : Nat) (L : List Nat), (L.drop k).sum ≤ L.sum
  | 0, L => by simp
  | k + 1, [] => by simp
  | k + 1, a :: L => by
    have := hm_drop k L
    simp only [List.drop_succ_cons, List.sum_cons]
    omega
def hm_tag (h : hm_T) (q : Nat) : Nat := match h q with
  | some x => x.1
  | none => 0
theorem hm_P.tags {D : va_G} {cl : List vw_C} {B : Nat} {h : hm_T} {H : Heap} (hP : hm_P D cl B h H) (mx : Nat → Nat) : ((List.range (H.size - B)).map (fun i => mx (hm_tag h (B + i)))).sum ≤ ((List.range 278).map mx).sum := by
  have hk : ∀ i, i < H.size - B → ∃ (t : Nat) (e : va_E), h (B + i) = some (t, e) := fun i hi => by
    obtain ⟨c0, t, e, -, g2, -⟩ := hP.2.2.1 (B + i) (by omega) (by omega)
    exact ⟨t, e, g2⟩
  have h1 := hm_tot mx 278 ((List.range (H.size - B)).map (fun i => hm_tag h (B + i))) ?_ ?_
  · rw [List.map_map] at h1
    exact h1
  · refine List.pairwise_map.mpr (List.Pairwise.imp_of_mem ?_ List.nodup_range)
    intro a b ha hb hab heq
    obtain ⟨t, e, g⟩ := hk a (List.mem_range.mp ha)
    obtain ⟨t', e', g'⟩ := hk b (List.mem_range.mp hb)
    simp only [hm_tag, g, g'] at heq
    subst heq
    have := hP.2.2.2 _ _ _ _ _ g g'
    exact hab (by omega)
  · intro x hx
    obtain ⟨i, hi, rfl⟩ := List.mem_map.mp hx
    obtain ⟨t, e, g⟩ := hk i (List.mem_range.mp hi)
    simp only [hm_tag, g]
    exact (hP.2.1 _ _ _ g).2.1
theorem hm_P.small {D : va_G} {cl : List vw_C} {B : Nat} {h : hm_T} {H : Heap} (hP : hm_P D cl B h H) : H.size ≤ B + 278 ∧ ((H.toList.drop B).map (fun c : Cell => c.slots.size)).sum ≤ 295424 := by
  constructor
  · have h1 := hP.tags (fun _ => 1)
    rw [List.map_const', List.map_const', List.sum_replicate_nat, List.sum_replicate_nat, List.length_range, List.length_range] at h1
    omega
  · have h1 := hP.tags hm_mx
    have hc : ((List.range 278).map hm_mx).sum = 295424 := by decide +kernel
    rw [hc] at h1
    have hlen : (H.toList.drop B).length = H.size - B := by simp
    have h2 := hm_le (fun c : Cell => c.slots.size) (H.toList.drop B) (fun i => hm_mx (hm_tag h (B + i))) (fun i x hx => by
      have hi : i < (H.toList.drop B).length := (List.getElem?_eq_some_iff.mp hx).1
      rw [hlen] at hi
      obtain ⟨c0, t, e, g1, g2, g3⟩ := hP.2.2.1 (B + i) (by omega) (by omega)
      rw [List.getElem?_drop, Array.getElem?_toList, g1] at hx
      cases hx
      simp only [hm_tag, g2]
      exact g3)
    rw [hlen] at h2
    omega
section HMW
variable {p : Program} {l : Launch} {e : Env} {R : Room} {s : State} {m : MethodId} {args : Array Value} {below : List Frame} {meth : Method} {c : Code} {H : Heap} {locs : List Loc} {cells slots : Nat} {Q : State → Prop}
/-- the room is counted afresh off the map -/
theorem hm_tight {D : va_G} {cl : List vw_C} {B : Nat} {h : hm_T} {g : JFrame} (hB : B ≤ s.heap.size) (hP : hm_P D cl B h H) (kk : W p l e R s m args below meth c H locs 278 295424 Q g) : W p l e R s m args below meth c H locs cells slots Q g := by
  intro T hT X
  obtain ⟨h1, h2⟩ := hP.small
  refine kk T hT { X with same := ?_ }
  obtain ⟨a1, a2, a3, a4, a5, a6⟩ := X.same
  refine ⟨a1, a2, ?_, a4, ?_, a6⟩
  · show T.heap.size ≤ _
    rw [hT]
    omega
  · show ((T.heap.toList.drop s.heap.size).map (fun c : Cell => c.slots.size)).sum ≤ _
    rw [hT]
    have e1 : H.toList.drop s.heap.size = (H.toList.drop B).drop (s.heap.size - B) := by
      rw [List.drop_drop]
      congr 1
      omega
    rw [e1, List.map_drop]
    exact Nat.le_trans (hm_drop _ _) h2
end HMW
end
section
/-! THE WORLD: both systems as numbers V (name of an object, number of its field) and rows of numbers P (name of an array or page).
NAMES: 0..79 the disk's pages, 80..113 the rows' pages, 114 the log's head, 115 what it carries; 116 + t the bytes of page t; 232 + i the rows; 266 the vault, 267 its disk, 268 its cache, 269 its log, 270 the disk's array of pages, 271 the cache's array of rows; 272 the reference, 273 .. 277 its arrays (safe, now, held, changed, stamp). sh: where a name's cell lies. -/
abbrev VV : Type := Nat → Nat → Int32
def v2 (V : VV) (t k : Nat) (x : Int32) : VV := fun t' k' => if t' = t ∧ k' = k then x else V t' k'
def p1 (P : VV) (t : Nat) (f : Nat → Int32) : VV := fun t' => if t' = t then f else P t'
theorem v2_s {V : VV} {t k : Nat} {x : Int32} : v2 V t k x t k = x := by simp [v2]
theorem v2_n {V : VV} {t k t' k' : Nat} {x : Int32} (h : ¬ (t' = t ∧ k' = k)) : v2 V t k x t' k' = V t' k' := by simp only [v2, if_neg h]
theorem v2_t {V : VV} {t k t' k' : Nat} {x : Int32} (h : t' ≠ t) : v2 V t k x t' k' = V t' k' := v2_n (fun q => h q.1)
theorem v2_k {V : VV} {t k t' k' : Nat} {x : Int32} (h : k' ≠ k) : v2 V t k x t' k' = V t' k' := v2_n (fun q => h q.2)
theorem p1_s {P : VV} {t : Nat} {f : Nat → Int32} : p1 P t f t = f := by simp [p1]
theorem p1_n {P : VV} {t t' : Nat} {f : Nat → Int32} (h : t' ≠ t) : p1 P t f t' = P t' := by simp only [p1, if_neg h]
/-- an object's number in vwCl, and its fields: a number of its own, or the name that it holds -/
def lay (t : Nat) : Option (Nat × List (Option Nat)) :=
  if t = 266 then some (5, [none, some 267, some 268, some 269, none])
  else if t = 267 then some (1, [some 270, none, none, none])
  else if t = 268 then some (0, [some 271, none, none])
  else if t = 269 then some (2, [some 114, some 115, none])
  else if t = 272 then some (6, [none, none, some 273, some 274, some 275, some 276, some 277, none, none, none, none, none, none, none, none])
  else if 232 ≤ t ∧ t < 266 then some (4, [some (t - 152), none, none, none, none])
  else none
theorem lay_row {i : Nat} (h : i < 34) : lay (232 + i) = some (4, [some (80 + i), none, none, none, none]) := by
  unfold lay
  rw [if_neg (by omega), if_neg (by omega), if_neg (by omega), if_neg (by omega), if_neg (by omega), if_pos (by omega)]
  rw [show 232 + i - 152 = 80 + i by omega]
theorem lay_lo {t : Nat} (h : t < 232) : lay t = none := by
  unfold lay
  rw [if_neg (by omega), if_neg (by omega), if_neg (by omega), if_neg (by omega), if_neg (by omega), if_neg (by omega)]
theorem lay_hi {t : Nat} (h : 272 < t) : lay t = none := by
  unfold lay
  rw [if_neg (by omega), if_neg (by omega), if_neg (by omega), if_neg (by omega), if_neg (by omega), if_neg (by omega)]
theorem lay_270 : lay 270 = none := by decide
theorem lay_271 : lay 271 = none := by decide
def fvals (sh : Nat → Nat) (V : VV) (t : Nat) : Nat → List (Option Nat) → List Value
  | _, [] => []
  | k, none :: r => .int (V t k) :: fvals sh V t (k + 1) r
  | k, some t' :: r => .ref (sh t') :: fvals sh V t (k + 1) r
theorem fvals_len (sh : Nat → Nat) (V : VV) (t : Nat) : ∀ (k : Nat) (l : List (Option Nat)), (fvals sh V t k l).length = l.length
  | _, [] => rfl
  | k, none :: r => by simp [fvals, fvals_len sh V t (k + 1) r]
  | k, some t' :: r => by simp [fvals, fvals_len sh V t (k + 1) r]
theorem fvals_eq {sh : Nat → Nat} {V V' : VV} {t : Nat} : ∀ (k : Nat) (l : List (Option Nat)), (∀ j, k ≤ j → V' t j = V t j) → fvals sh V' t k l = fvals sh V t k l
  | _, [], _ => rfl
  | k, none :: r, h => by simp only [fvals]; rw [h k (Nat.le_refl k), fvals_eq (k + 1) r (fun j hj => h j (by omega))]
  | k, some t' :: r, h => by simp only [fvals]; rw [fvals_eq (k + 1) r (fun j hj => h j (by omega))]
theorem fvals_set {sh : Nat → Nat} {V : VV} {t : Nat} {x : Int32} : ∀ (j k : Nat) (l : List (Option Nat)), l[k]? = some none → (fvals sh V t j l).set k (.int x) = fvals sh (v2 V t (j + k) x) t j l
  | _, k, [], h => by simp at h
  | j, 0, none :: r, _ => by
    simp only [fvals, List.set_cons_zero, Nat.add_zero, v2_s]
    rw [fvals_eq (V := V) (j + 1) r (fun i hi => v2_k (by omega))]
  | j, 0, some t' :: r, h => by simp at h
  | j, k + 1, none :: r, h => by
    simp only [fvals, List.set_cons_succ]
    rw [fvals_set (j + 1) k r (by simpa using h), v2_k (show j ≠ j + (k + 1) by omega), show j + 1 + k = j + (k + 1) by omega]
  | j, k + 1, some t' :: r, h => by
    simp only [fvals, List.set_cons_succ]
    rw [fvals_set (j + 1) k r (by simpa using h), show j + 1 + k = j + (k + 1) by omega]
/-- the reference's arrays: how long, and the number of their kind in tysA -/
def mar (t : Nat) : Option (Nat × Nat) := if t = 273 ∨ t = 274 then some (81920, 0) else if t = 275 ∨ t = 276 then some (80, 3) else if t = 277 then some (80, 4) else none
theorem mar_spec {t n k : Nat} (h : mar t = some (n, k)) : 273 ≤ t ∧ t ≤ 277 := by
  unfold mar at h
  by_cases h1 : t = 273 ∨ t = 274
  · omega
  · rw [if_neg h1] at h
    by_cases h2 : t = 275 ∨ t = 276
    · omega
    · rw [if_neg h2] at h
      by_cases h3 : t = 277
      · omega
      · rw [if_neg h3] at h
        cases h
def bfit (g : Nat → Int32) (n : Nat) : Prop := ∀ k, k < n → fits .byte (.int (g k)) = true
abbrev aRef (cA : ClassId) (n : Nat) (f : Nat → Option Nat) : va_E := .inl (cA, n, .inr (.inr (.inr (.inr f))))
abbrev aInt (cA : ClassId) (n : Nat) (f : Nat → Int32) : va_E := .inl (cA, n, .inl f)
/-- a page: nothing (all 0), or its bytes -/
def pgAt (cA : Nat → ClassId) (sh : Nat → Nat) (h : hm_T) (t : Nat) (g : Nat → Int32) : Prop :=
  (h (sh t) = some (t, .inr (3, [.null])) ∧ (∀ k, k < 1024 → g k = 0) ∧ ∀ (q : Nat) (e : va_E), h q ≠ some (116 + t, e)) ∨
  ∃ (b : Nat) (g0 : Nat → Int32), h (sh t) = some (t, .inr (3, [.ref b])) ∧ h b = some (116 + t, aInt (cA 0) 1024 g0) ∧ (∀ k, k < 1024 → g0 k = g k) ∧ bfit g0 1024
def JH (cA : Nat → ClassId) (sh : Nat → Nat) (V P : VV) (h : hm_T) : Prop :=
  (∀ (t ci : Nat) (fl : List (Option Nat)), lay t = some (ci, fl) → h (sh t) = some (t, .inr (ci, fvals sh V t 0 fl))) ∧
  (∃ f, h (sh 270) = some (270, aRef (cA 1) 80 f) ∧ ∀ i, i < 80 → f i = some (sh i)) ∧
  (∃ f, h (sh 271) = some (271, aRef (cA 2) 34 f) ∧ ∀ i, i < 34 → f i = some (sh (232 + i))) ∧
  (∀ t, t < 116 → pgAt cA sh h t (P t)) ∧
  (∀ (t n k : Nat), mar t = some (n, k) → h (sh t) = some (t, aInt (cA k) n (P t))) ∧
  bfit (P 273) 81920 ∧ bfit (P 274) 81920
theorem pgAt.cell {cA : Nat → ClassId} {sh : Nat → Nat} {h : hm_T} {t : Nat} {g : Nat → Int32} (hp : pgAt cA sh h t g) : ∃ x : Value, h (sh t) = some (t, .inr (3, [x])) := by
  rcases hp with ⟨h1, -⟩ | ⟨b, g0, h1, -⟩
  · exact ⟨_, h1⟩
  · exact ⟨_, h1⟩
/-- a page that other cells' changes leave alone -/
theorem pgAt.kept {cA : Nat → ClassId} {sh : Nat → Nat} {h h' : hm_T} {t : Nat} {g : Nat → Int32} (hp : pgAt cA sh h t g) (h1 : ∀ (q t' : Nat) (e : va_E), (t' = t ∨ t' = 116 + t) → h q = some (t', e) → h' q = some (t', e)) (h2 : ∀ (q : Nat) (e : va_E), h' q = some (116 + t, e) → h q = some (116 + t, e)) : pgAt cA sh h' t g := by
  rcases hp with ⟨a1, a2, a3⟩ | ⟨b, g0, a1, a2, a3, a4⟩
  · exact Or.inl ⟨h1 _ _ _ (Or.inl rfl) a1, a2, fun q e hq => a3 q e (h2 q e hq)⟩
  · exact Or.inr ⟨b, g0, h1 _ _ _ (Or.inl rfl) a1, h1 _ _ _ (Or.inr rfl) a2, a3, a4⟩
/-- one cell's change, whose tag is none of the page's -/
theorem pgAt.up {cA : Nat → ClassId} {sh : Nat → Nat} {h : hm_T} {t : Nat} {g : Nat → Int32} (hp : pgAt cA sh h t g) {a t0 : Nat} {e0 e1 : va_E} (ha : h a = some (t0, e0)) (n1 : t0 ≠ t) (n2 : t0 ≠ 116 + t) : pgAt cA sh (hm_up h a (t0, e1)) t g := by
  refine hp.kept (fun q t' e ht hq => ?_) (fun q e hq => ?_)
  · rw [hm_up_n (hm_ne hq ha (by omega))]
    exact hq
  · by_cases hqa : q = a
    · subst hqa
      rw [hm_up_s] at hq
      cases hq
      exact absurd rfl n2
    · rw [hm_up_n hqa] at hq
      exact hq
theorem JH.put {cA : Nat → ClassId} {sh : Nat → Nat} {V P : VV} {h : hm_T} (hJ : JH cA sh V P h) {t ci k : Nat} {fl : List (Option Nat)} (hl : lay t = some (ci, fl)) (hf : fl[k]? = some none) (x : Int32) :
    JH cA sh (v2 V t k x) P (hm_up h (sh t) (t, .inr (ci, (fvals sh V t 0 fl).set k (.int x)))) := by
  obtain ⟨j1, ⟨f1, j2, j2'⟩, ⟨f2, j3, j3'⟩, j4, j5, j6⟩ := hJ
  have ht := j1 t ci fl hl
  have hlo : 232 ≤ t := by
    rcases Nat.lt_or_ge t 232 with q | q
    · rw [lay_lo q] at hl
      cases hl
    · exact q
  have n270 : (270 : Nat) ≠ t := fun q => by rw [← q, lay_270] at hl; cases hl
  have n271 : (271 : Nat) ≠ t := fun q => by rw [← q, lay_271] at hl; cases hl
  refine ⟨fun t' ci' fl' hl' => ?_, ⟨f1, ?_, j2'⟩, ⟨f2, ?_, j3'⟩, fun t' ht' => ?_, fun t' n k' hm => ?_, j6⟩
  · by_cases e : t' = t
    · subst e
      rw [hl] at hl'
      cases hl'
      rw [hm_up_s, fvals_set 0 k fl hf, Nat.zero_add]
    · rw [hm_up_n (hm_ne (j1 t' ci' fl' hl') ht e), j1 t' ci' fl' hl', fvals_eq (V := V) 0 fl' (fun j _ => v2_t e)]
  · rw [hm_up_n (hm_ne j2 ht n270)]
    exact j2
  · rw [hm_up_n (hm_ne j3 ht n271)]
    exact j3
  · exact (j4 t' ht').up ht (by omega) (by omega)
  · have hr := mar_spec hm
    have hn : t' ≠ t := fun q => by
      rw [q] at hr
      rw [lay_hi (by omega)] at hl
      cases hl
    rw [hm_up_n (hm_ne (j5 t' n k' hm) ht hn)]
    exact j5 t' n k' hm
/-- a page's change: its own two cells alone -/
theorem JH.page {cA : Nat → ClassId} {sh : Nat → Nat} {V P : VV} {h h' : hm_T} (hJ : JH cA sh V P h) {t : Nat} (ht : t < 116) {g : Nat → Int32} (h1 : ∀ (q t' : Nat) (e : va_E), t' ≠ t → t' ≠ 116 + t → h q = some (t', e) → h' q = some (t', e)) (h2 : ∀ (q t' : Nat) (e : va_E), t' ≠ t → t' ≠ 116 + t → h' q = some (t', e) → h q = some (t', e)) (hg : pgAt cA sh h' t g) : JH cA sh V (p1 P t g) h' := by
  obtain ⟨j1, ⟨f1, j2, j2'⟩, ⟨f2, j3, j3'⟩, j4, j5, j6⟩ := hJ
  refine ⟨fun t' ci' fl' hl' => ?_, ⟨f1, h1 _ _ _ (by omega) (by omega) j2, j2'⟩, ⟨f2, h1 _ _ _ (by omega) (by omega) j3, j3'⟩, fun t' ht' => ?_, fun t' n k' hm => ?_, ?_⟩
  · have hlo : 232 ≤ t' := by
      rcases Nat.lt_or_ge t' 232 with q | q
      · rw [lay_lo q] at hl'
        cases hl'
      · exact q
    exact h1 _ _ _ (by omega) (by omega) (j1 t' ci' fl' hl')
  · by_cases e : t' = t
    · subst e
      rw [p1_s]
      exact hg
    · rw [p1_n e]
      exact (j4 t' ht').kept (fun q t'' e'' ho hq => h1 q t'' e'' (by omega) (by omega) hq) (fun q e'' hq => h2 q _ e'' (by omega) (by omega) hq)
  · have hr := mar_spec hm
    rw [p1_n (by omega)]
    exact h1 _ _ _ (by omega) (by omega) (j5 t' n k' hm)
  · rw [p1_n (by omega), p1_n (by omega)]
    exact j6
theorem JH.arr {cA : Nat → ClassId} {sh : Nat → Nat} {V P : VV} {h : hm_T} (hJ : JH cA sh V P h) {t n k : Nat} (hm : mar t = some (n, k)) (g : Nat → Int32) (hb : t = 273 ∨ t = 274 → bfit g 81920) : JH cA sh V (p1 P t g) (hm_up h (sh t) (t, aInt (cA k) n g)) := by
  obtain ⟨j1, ⟨f1, j2, j2'⟩, ⟨f2, j3, j3'⟩, j4, j5, j6⟩ := hJ
  have hr := mar_spec hm
  have ht := j5 t n k hm
  refine ⟨fun t' ci' fl' hl' => ?_, ⟨f1, ?_, j2'⟩, ⟨f2, ?_, j3'⟩, fun t' ht' => ?_, fun t' n' k' hm' => ?_, ?_⟩
  · have hhi : t' ≤ 272 := by
      rcases Nat.lt_or_ge 272 t' with q | q
      · rw [lay_hi q] at hl'
        cases hl'
      · exact q
    rw [hm_up_n (hm_ne (j1 t' ci' fl' hl') ht (by omega))]
    exact j1 t' ci' fl' hl'
  · rw [hm_up_n (hm_ne j2 ht (by omega))]
    exact j2
  · rw [hm_up_n (hm_ne j3 ht (by omega))]
    exact j3
  · rw [p1_n (by omega)]
    exact (j4 t' ht').up ht (by omega) (by omega)
  · by_cases e : t' = t
    · subst e
      rw [hm] at hm'
      cases hm'
      rw [hm_up_s, p1_s]
    · rw [hm_up_n (hm_ne (j5 t' n' k' hm') ht e), p1_n e]
      exact j5 t' n' k' hm'
  · constructor
    · by_cases e : 273 = t
      · subst e
        rw [p1_s]
        exact hb (Or.inl rfl)
      · rw [p1_n e]
        exact j6.1
    · by_cases e : 274 = t
      · subst e
        rw [p1_s]
        exact hb (Or.inr rfl)
      · rw [p1_n e]
        exact j6.2
abbrev tysA (cA : Nat → ClassId) : List (ClassId × FieldType) := [(cA 0, .byte), (cA 1, .object "BlockVault$Page"), (cA 2, .object "BlockVault$Row"), (cA 3, .boolean), (cA 4, .int)]
def JW (D : va_G) (B : Nat) (cA : Nat → ClassId) (sh : Nat → Nat) (V P : VV) (H : Heap) : Prop := ∃ h : hm_T, hm_P D vwCl B h H ∧ JH cA sh V P h
def JC (D : va_G) (B : Nat) (cA : Nat → ClassId) (sh : Nat → Nat) (u : VV × VV) (U : State) : Prop := JW D B cA sh u.1 u.2 U.heap ∧ va_K D vwCl (tysA cA) U ∧ JN U
theorem JW.obj {D : va_G} {B : Nat} {cA : Nat → ClassId} {sh : Nat → Nat} {V P : VV} {H : Heap} (hW : JW D B cA sh V P H) {t ci : Nat} {fl : List (Option Nat)} (hl : lay t = some (ci, fl)) : va_P D vwCl [(sh t, .inr (ci, fvals sh V t 0 fl))] H := by
  obtain ⟨h, hP, hJ⟩ := hW
  exact hP.one (hJ.1 t ci fl hl)
theorem JW.mar {D : va_G} {B : Nat} {cA : Nat → ClassId} {sh : Nat → Nat} {V P : VV} {H : Heap} (hW : JW D B cA sh V P H) {t n k : Nat} (hl : mar t = some (n, k)) : va_P D vwCl [(sh t, aInt (cA k) n (P t))] H := by
  obtain ⟨h, hP, hJ⟩ := hW
  exact hP.one (hJ.2.2.2.2.1 t n k hl)
theorem JW.ge {D : va_G} {B : Nat} {cA : Nat → ClassId} {sh : Nat → Nat} {V P : VV} {H : Heap} (hW : JW D B cA sh V P H) : B ≤ H.size := by
  obtain ⟨h, hP, -⟩ := hW
  exact hP.1
theorem JC.blind {D : va_G} {B : Nat} {cA : Nat → ClassId} {sh : Nat → Nat} {u : VV × VV} {av : List Value} : FrameBlind (va_Pc av (JC D B cA sh u)) := fun a U g mk q =>
  ⟨q.1, q.2.1, va_K.moved (u := U) (U := U.calling g mk a) (Vm.Alike.refl U.vm) q.2.2.1, q.2.2.2.same rfl⟩
theorem jw_preS {D : va_G} {B : Nat} {cA : Nat → ClassId} {sh : Nat → Nat} {V P : VV} {H : Heap} {s : State} {As : List Value} (hW : JW D B cA sh V P H) (hK : va_K D vwCl (tysA cA) s) (hN : JN s) : PreS s H (va_Pc As (JC D B cA sh (V, P))) As :=
  ⟨JC.blind, fun U hU hw => ⟨rfl, by rw [hU]; exact hW, va_K.moved hw.alike hK, hN.warm hw⟩⟩
theorem jw_preV {D : va_G} {B : Nat} {cA : Nat → ClassId} {sh : Nat → Nat} {V P : VV} {H : Heap} {s : State} {t ci : Nat} {fl : List (Option Nat)} {q : vw_C} {As : List Value} (hW : JW D B cA sh V P H) (hK : va_K D vwCl (tysA cA) s) (hN : JN s) (hl : lay t = some (ci, fl)) (hc : vwCl[ci]? = some q) :
    PreV s H q.1 (sh t) (va_Pc (.ref (sh t) :: As) (JC D B cA sh (V, P))) As :=
  ⟨JC.blind, va_recv hK (hW.obj hl) hc (q0 := 0) rfl, fun U hU hw => ⟨rfl, by rw [hU]; exact hW, va_K.moved hw.alike hK, hN.warm hw⟩⟩
theorem jw_preP {D : va_G} {B : Nat} {cA : Nat → ClassId} {sh : Nat → Nat} {V P : VV} {H : Heap} {s : State} {t : Nat} {q : vw_C} {As : List Value} (hW : JW D B cA sh V P H) (hK : va_K D vwCl (tysA cA) s) (hN : JN s) (ht : t < 116) (hc : vwCl[3]? = some q) :
    PreV s H q.1 (sh t) (va_Pc (.ref (sh t) :: As) (JC D B cA sh (V, P))) As := by
  refine ⟨JC.blind, ?_, fun U hU hw => ⟨rfl, by rw [hU]; exact hW, va_K.moved hw.alike hK, hN.warm hw⟩⟩
  obtain ⟨h, hP, hJ⟩ := hW
  obtain ⟨x, hx⟩ := (hJ.2.2.2.1 t ht).cell
  exact va_recv hK (hP.one hx) hc (q0 := 0) rfl
section JWR
variable {p : Program} {l : Launch} {e : Env} {R : Room} {s : State} {m : MethodId} {args : Array Value} {below : List Frame} {meth : Method} {c : Code} {H : Heap} {locs : List Loc} {cells slots : Nat} {Q : State → Prop}
variable {cc : ByteArray} {pc : Nat} {ls : Array Slot} {rest : List Value} {D : va_G} {B : Nat} {cA : Nat → ClassId} {sh : Nat → Nat} {V P : VV} {H0 : Heap}
theorem jw_tight {g : JFrame} (hB : B ≤ s.heap.size) (hW : JW D B cA sh V P H) (kk : W p l e R s m args below meth c H locs 278 295424 Q g) : W p l e R s m args below meth c H locs cells slots Q g := by
  obtain ⟨h, hP, -⟩ := hW
  exact hm_tight hB hP kk
theorem jw_put (hexec : p.tables.exec = Jvm.exec) (hb : c.code = cc) {own ref C : String} {T : u_T} {N ci index : Nat} {Ts : List Cond} (hts : ∀ w ∈ Ts, w.before args s = true) (hin : ∀ w ∈ u_ws C T N, w ∈ Ts) (ty0 : Nat → FieldType) (hty : ∀ k, k < N → parseFieldDescriptor (T k).2.2.1 = some (ty0 k)) (hnm : ∀ a, a < N → ∀ b, b < N → a ≠ b → (T a).2.1 ≠ (T b).2.1) (hown : s.vm.findClass own = some m.cls) (hK : va_K D vwCl (tysA cA) s) (hW : JW D B cA sh V P H) (hS0 : va_S (hm_A B) H0 H locs)
    {t : Nat} {fl : List (Option Nat)} (hl : lay t = some (ci, fl)) (hc : vwCl[ci]? = some (C, T, N)) (k : Nat) (hk : k < N) (hf : fl[k]? = some none) (hlink : (Cond.fieldLink own index ref (T k).2.1 (T k).2.2.1).before args s = true) (hsame : ∀ x, s.fieldFound? (T k).1 (T k).2.1 (T k).2.2.1 = some x → s.fieldFound? ref (T k).2.1 (T k).2.2.1 = some x) (hfin : (T k).2.2.2 = false) {ty : FieldType} {x : Int32} (hd : parseFieldDescriptor (T k).2.2.1 = some ty) (hn : narrow ty (.int x) = .int x) (hfit : fits ty (.int x) = true)
    (hdg : decode cc pc = .ok (.putfield index, 3)) (kk : ∀ (H1 : Heap) (locs1 : List Loc), JW D B cA sh (v2 V t k x) P H1 → va_S (hm_A B) H0 H1 locs1 → W p l e R s m args below meth c H1 locs1 cells slots Q (F0 m (pc + 3) ls rest)) : W p l e R s m args below meth c H locs cells slots Q (F0 m pc ls (.int x :: .ref (sh t) :: rest)) := by
  have hap := va_apart (own := own) hts hin ty0 hty hnm hK hc
  obtain ⟨h, hP, hJ⟩ := hW
  have he := hJ.1 t ci fl hl
  obtain ⟨r, h1, cell, q1, q2, q3, q4⟩ := (hP.2.1 _ _ _ he).2.2
  have hr : r = (C, T, N) := Option.some.inj (h1.symm.trans hc)
  subst hr
  obtain ⟨hS, hfc, kC, hkC, hkind⟩ := hK.1 ci _ hc
  obtain ⟨cf, kf, fi, f, hi, hsl⟩ := hS k hk
  have hlay := hts _ (hin _ (u_in_lay hk))
  unfold u_lay at hlay
  rw [if_neg (by rw [hfin]; decide)] at hlay
  have hst := (u_facts hfc hkC (u_lays hts hin hk) hi).1
  have h6 := u_store hfc hkC hkind hlay hi hd hn hfit
  have hlen : k < (fvals sh V t 0 fl).length := by
    rw [fvals_len]
    exact (List.getElem?_eq_some_iff.mp hf).1
  refine W.putK hexec hb (f := f) ⟨hown, hlink, ⟨_, _, _, hsame _ hi⟩, hst⟩ (by rw [q2]; exact h6) q1 q3 (by rw [hsl]; exact k2_hasslot (q4 k hk)) rfl rfl hdg fun H' e1 e2 e3 => ?_
  rw [hsl] at e1 ⊢
  exact kk H' _ ⟨_, hP.set (e := .inr (ci, (fvals sh V t 0 fl).set k (.int x))) he ⟨_, hc, t_OB.to (V := updV (vp_V (fvals sh V t 0 fl)) k (.int x)) ⟨_, e1, q2, q3, t_set q4 hap hk (.int x)⟩ (fun j _ => vp_updV_set hlen (.int x) j)⟩ e2 e3 (fun c0 c1 g0 g1 => by
    rw [q1] at g0
    rw [e1] at g1
    cases g0
    cases g1
    exact k2_slotsz _ _ _), hJ.put hl hf x⟩ (hS0.put e2 e3 (hP.ge he))
theorem jw_putN (hexec : p.tables.exec = Jvm.exec) (hb : c.code = cc) {own ref C host : String} {T : u_T} {N ci index : Nat} {Ts : List Cond} (hts : ∀ w ∈ Ts, w.before args s = true) (hin : ∀ w ∈ u_ws C T N, w ∈ Ts) (ty0 : Nat → FieldType) (hty : ∀ k, k < N → parseFieldDescriptor (T k).2.2.1 = some (ty0 k)) (hnm : ∀ a, a < N → ∀ b, b < N → a ≠ b → (T a).2.1 ≠ (T b).2.1) (hown : s.vm.findClass own = some m.cls) (hK : va_K D vwCl (tysA cA) s) (hW : JW D B cA sh V P H) (hS0 : va_S (hm_A B) H0 H locs)
    {t : Nat} {fl : List (Option Nat)} (hl : lay t = some (ci, fl)) (hc : vwCl[ci]? = some (C, T, N)) (k : Nat) (hk : k < N) (hf : fl[k]? = some none) (hlink : (Cond.fieldLinkNest own index ref (T k).2.1 (T k).2.2.1 host).before args s = true) (hsame : ∀ x, s.fieldFound? (T k).1 (T k).2.1 (T k).2.2.1 = some x → s.fieldFound? ref (T k).2.1 (T k).2.2.1 = some x) (hfin : (T k).2.2.2 = false) {ty : FieldType} {x : Int32} (hd : parseFieldDescriptor (T k).2.2.1 = some ty) (hn : narrow ty (.int x) = .int x) (hfit : fits ty (.int x) = true)
    (hdg : decode cc pc = .ok (.putfield index, 3)) (kk : ∀ (H1 : Heap) (locs1 : List Loc), JW D B cA sh (v2 V t k x) P H1 → va_S (hm_A B) H0 H1 locs1 → W p l e R s m args below meth c H1 locs1 cells slots Q (F0 m (pc + 3) ls rest)) : W p l e R s m args below meth c H locs cells slots Q (F0 m pc ls (.int x :: .ref (sh t) :: rest)) := by
  have hap := va_apart (own := own) hts hin ty0 hty hnm hK hc
  obtain ⟨h, hP, hJ⟩ := hW
  have he := hJ.1 t ci fl hl
  obtain ⟨r, h1, cell, q1, q2, q3, q4⟩ := (hP.2.1 _ _ _ he).2.2
  have hr : r = (C, T, N) := Option.some.inj (h1.symm.trans hc)
  subst hr
  obtain ⟨hS, hfc, kC, hkC, hkind⟩ := hK.1 ci _ hc
  obtain ⟨cf, kf, fi, f, hi, hsl⟩ := hS k hk
  have hlay := hts _ (hin _ (u_in_lay hk))
  unfold u_lay at hlay
  rw [if_neg (by rw [hfin]; decide)] at hlay
  have hst := (u_facts hfc hkC (u_lays hts hin hk) hi).1
  have h6 := u_store hfc hkC hkind hlay hi hd hn hfit
  have hlen : k < (fvals sh V t 0 fl).length := by
    rw [fvals_len]
    exact (List.getElem?_eq_some_iff.mp hf).1
  refine va_WputK hexec hb (f := f) hown hlink (hsame _ hi) hst (by rw [q2]; exact h6) q1 q3 (by rw [hsl]; exact k2_hasslot (q4 k hk)) rfl rfl hdg fun H' e1 e2 e3 => ?_
  rw [hsl] at e1 ⊢
  exact kk H' _ ⟨_, hP.set (e := .inr (ci, (fvals sh V t 0 fl).set k (.int x))) he ⟨_, hc, t_OB.to (V := updV (vp_V (fvals sh V t 0 fl)) k (.int x)) ⟨_, e1, q2, q3, t_set q4 hap hk (.int x)⟩ (fun j _ => vp_updV_set hlen (.int x) j)⟩ e2 e3 (fun c0 c1 g0 g1 => by
    rw [q1] at g0
    rw [e1] at g1
    cases g0
    cases g1
    exact k2_slotsz _ _ _), hJ.put hl hf x⟩ (hS0.put e2 e3 (hP.ge he))
/-- stores into an array of ints, by the map -/
theorem hm_iast {h : hm_T} {n a t : Nat} {f : Nat → Int32} {c0 : ClassId} (hexec : p.tables.exec = Jvm.exec) (hb : c.code = cc) (hA : ArrOfT s c0 .int) (hP : hm_P D vwCl B h H) (ha : h a = some (t, aInt c0 n f)) (hS : va_S (hm_A B) H0 H locs) {i x : Int32} (hin : vp_in i n) (hdg : decode cc pc = .ok (.iastore, 1))
    (kk : ∀ (H1 : Heap) (locs1 : List Loc), hm_P D vwCl B (hm_up h a (t, aInt c0 n (upd f i.toNatClampNeg x))) H1 → va_S (hm_A B) H0 H1 locs1 → W p l e R s m args below meth c H1 locs1 cells slots Q (F0 m (pc + 1) ls rest)) : W p l e R s m args below meth c H locs cells slots Q (F0 m pc ls (.int x :: .int i :: .ref a :: rest)) := by
  have hc0 : H[a]? = some (vp_cell c0 (n, .inl f)) := (hP.2.1 _ _ _ ha).2.2
  refine W.iast hexec hb hc0 (hA n (fun j => .int (f j))) (fun q => by cases q) (by show ¬ (i < 0 ∨ (arrV _ _ _).slots.size ≤ _); rw [arrV_size]; exact hin) rfl rfl hdg fun H1 e z oq => ?_
  have e' : H1[a]? = some (vp_cell c0 (n, .inl (upd f i.toNatClampNeg x))) := by
    rw [e, vp_cell_i, vp_cell_i, arrV_store]
    congr 2
    funext q
    by_cases hq : q = i.toNatClampNeg
    · subst hq
      simp [updV, upd]
    · simp [updV, upd, hq]
  exact kk H1 _ (hP.set (e := aInt c0 n (upd f i.toNatClampNeg x)) ha e' z oq (fun c0 c1 g0 g1 => by rw [hc0] at g0; rw [e'] at g1; cases g0; cases g1; rw [vp_cell_i, vp_cell_i, arrV_size, arrV_size])) (hS.put z oq (hP.ge ha))
theorem hm_zast {h : hm_T} {n a t : Nat} {f : Nat → Int32} {c0 : ClassId} (hexec : p.tables.exec = Jvm.exec) (hb : c.code = cc) (hA : ArrOfT s c0 .boolean) (hP : hm_P D vwCl B h H) (ha : h a = some (t, aInt c0 n f)) (hS : va_S (hm_A B) H0 H locs) {i x : Int32} (hin : vp_in i n) (hdg : decode cc pc = .ok (.bastore, 1))
    (kk : ∀ (H1 : Heap) (locs1 : List Loc), hm_P D vwCl B (hm_up h a (t, aInt c0 n (upd f i.toNatClampNeg (vp_nar .boolean x)))) H1 → va_S (hm_A B) H0 H1 locs1 → W p l e R s m args below meth c H1 locs1 cells slots Q (F0 m (pc + 1) ls rest)) : W p l e R s m args below meth c H locs cells slots Q (F0 m pc ls (.int x :: .int i :: .ref a :: rest)) := by
  have hc0 : H[a]? = some (vp_cell c0 (n, .inl f)) := (hP.2.1 _ _ _ ha).2.2
  refine W.zast hexec hb hc0 (hA n (fun j => .int (f j))) (fun q => by cases q) (by show ¬ (i < 0 ∨ (arrV _ _ _).slots.size ≤ _); rw [arrV_size]; exact hin) rfl rfl hdg fun H1 e z oq => ?_
  have e' : H1[a]? = some (vp_cell c0 (n, .inl (upd f i.toNatClampNeg (vp_nar .boolean x)))) := by
    rw [e, vp_cell_i, vp_cell_i, arrV_store]
    congr 2
    funext q
    by_cases hq : q = i.toNatClampNeg
    · subst hq
      simp [updV, upd, vp_nar, narrow]
    · simp [updV, upd, hq]
  exact kk H1 _ (hP.set (e := aInt c0 n (upd f i.toNatClampNeg (vp_nar .boolean x))) ha e' z oq (fun c0 c1 g0 g1 => by rw [hc0] at g0; rw [e'] at g1; cases g0; cases g1; rw [vp_cell_i, vp_cell_i, arrV_size, arrV_size])) (hS.put z oq (hP.ge ha))
theorem hm_bast {h : hm_T} {n a t : Nat} {f : Nat → Int32} {c0 : ClassId} (hexec : p.tables.exec = Jvm.exec) (hb : c.code = cc) (hA : ArrOfT s c0 .byte) (hP : hm_P D vwCl B h H) (ha : h a = some (t, aInt c0 n f)) (hS : va_S (hm_A B) H0 H locs) {i x : Int32} (hin : vp_in i n) (hdg : decode cc pc = .ok (.bastore, 1))
    (kk : ∀ (H1 : Heap) (locs1 : List Loc), hm_P D vwCl B (hm_up h a (t, aInt c0 n (upd f i.toNatClampNeg x.toInt8.toInt32))) H1 → va_S (hm_A B) H0 H1 locs1 → W p l e R s m args below meth c H1 locs1 cells slots Q (F0 m (pc + 1) ls rest)) : W p l e R s m args below meth c H locs cells slots Q (F0 m pc ls (.int x :: .int i :: .ref a :: rest)) := by
  have hc0 : H[a]? = some (vp_cell c0 (n, .inl f)) := (hP.2.1 _ _ _ ha).2.2
  refine W.bast hexec hb hc0 (hA n (fun j => .int (f j))) (fun q => by cases q) (by show ¬ (i < 0 ∨ (arrV _ _ _).slots.size ≤ _); rw [arrV_size]; exact hin) rfl rfl hdg fun H1 e z oq => ?_
  have e' : H1[a]? = some (vp_cell c0 (n, .inl (upd f i.toNatClampNeg x.toInt8.toInt32))) := by
    rw [e, vp_cell_i, vp_cell_i, arrV_store]
    congr 2
    funext q
    by_cases hq : q = i.toNatClampNeg
    · subst hq
      simp [updV, upd, narrow]
    · simp [updV, upd, hq]
  exact kk H1 _ (hP.set (e := aInt c0 n (upd f i.toNatClampNeg x.toInt8.toInt32)) ha e' z oq (fun c0 c1 g0 g1 => by rw [hc0] at g0; rw [e'] at g1; cases g0; cases g1; rw [vp_cell_i, vp_cell_i, arrV_size, arrV_size])) (hS.put z oq (hP.ge ha))
/-- the disk's array of pages, the cache's of rows -/
theorem jw_aldP (hexec : p.tables.exec = Jvm.exec) (hb : c.code = cc) (hK : va_K D vwCl (tysA cA) s) (hW : JW D B cA sh V P H) {i : Nat} {x : Int32} (hx : x = nI i) (hi : i < 80) (hdg : decode cc pc = .ok (.aaload, 1))
    (kk : W p l e R s m args below meth c H locs cells slots Q (F0 m (pc + 1) ls (.ref (sh i) :: rest))) : W p l e R s m args below meth c H locs cells slots Q (F0 m pc ls (.int x :: .ref (sh 270) :: rest)) := by
  obtain ⟨h, hP, hJ⟩ := hW
  obtain ⟨f, h1, h2⟩ := hJ.2.1
  subst hx
  refine va_aldq hexec hb hK (hP.one h1) 0 1 rfl rfl (vp_in_nI hi (by omega)) hdg ?_
  rw [nI_clamp (by omega), h2 i hi]
  exact kk
theorem jw_aldR (hexec : p.tables.exec = Jvm.exec) (hb : c.code = cc) (hK : va_K D vwCl (tysA cA) s) (hW : JW D B cA sh V P H) {i : Nat} {x : Int32} (hx : x = nI i) (hi : i < 34) (hdg : decode cc pc = .ok (.aaload, 1))
    (kk : W p l e R s m args below meth c H locs cells slots Q (F0 m (pc + 1) ls (.ref (sh (232 + i)) :: rest))) : W p l e R s m args below meth c H locs cells slots Q (F0 m pc ls (.int x :: .ref (sh 271) :: rest)) := by
  obtain ⟨h, hP, hJ⟩ := hW
  obtain ⟨f, h1, h2⟩ := hJ.2.2.1
  subst hx
  refine va_aldq hexec hb hK (hP.one h1) 0 2 rfl rfl (vp_in_nI hi (by omega)) hdg ?_
  rw [nI_clamp (by omega), h2 i hi]
  exact kk
theorem jw_alenP (hexec : p.tables.exec = Jvm.exec) (hb : c.code = cc) (hK : va_K D vwCl (tysA cA) s) (hW : JW D B cA sh V P H) (hdg : decode cc pc = .ok (.arraylength, 1))
    (kk : W p l e R s m args below meth c H locs cells slots Q (F0 m (pc + 1) ls (.int 80 :: rest))) : W p l e R s m args below meth c H locs cells slots Q (F0 m pc ls (.ref (sh 270) :: rest)) := by
  obtain ⟨h, hP, hJ⟩ := hW
  obtain ⟨f, h1, h2⟩ := hJ.2.1
  exact va_alen hexec hb hK (hP.one h1) 0 1 rfl rfl (v := 80) rfl hdg kk
theorem jw_alenR (hexec : p.tables.exec = Jvm.exec) (hb : c.code = cc) (hK : va_K D vwCl (tysA cA) s) (hW : JW D B cA sh V P H) (hdg : decode cc pc = .ok (.arraylength, 1))
    (kk : W p l e R s m args below meth c H locs cells slots Q (F0 m (pc + 1) ls (.int 34 :: rest))) : W p l e R s m args below meth c H locs cells slots Q (F0 m pc ls (.ref (sh 271) :: rest)) := by
  obtain ⟨h, hP, hJ⟩ := hW
  obtain ⟨f, h1, h2⟩ := hJ.2.2.1
  exact va_alen hexec hb hK (hP.one h1) 0 2 rfl rfl (v := 34) rfl hdg kk
/-- stores into the reference's arrays -/
theorem jw_iast (hexec : p.tables.exec = Jvm.exec) (hb : c.code = cc) (hK : va_K D vwCl (tysA cA) s) (hW : JW D B cA sh V P H) (hS : va_S (hm_A B) H0 H locs) {i x : Int32} (hin : vp_in i 80) (hdg : decode cc pc = .ok (.iastore, 1))
    (kk : ∀ (H1 : Heap) (locs1 : List Loc), JW D B cA sh V (p1 P 277 (upd (P 277) i.toNatClampNeg x)) H1 → va_S (hm_A B) H0 H1 locs1 → W p l e R s m args below meth c H1 locs1 cells slots Q (F0 m (pc + 1) ls rest)) : W p l e R s m args below meth c H locs cells slots Q (F0 m pc ls (.int x :: .int i :: .ref (sh 277) :: rest)) := by
  obtain ⟨h, hP, hJ⟩ := hW
  exact hm_iast hexec hb (hK.2 4 (cA 4, .int) rfl).1 hP (hJ.2.2.2.2.1 277 80 4 rfl) hS hin hdg (fun H1 locs1 hP1 hS1 => kk H1 locs1 ⟨_, hP1, hJ.arr rfl _ (fun h => by omega)⟩ hS1)
theorem jw_zast (hexec : p.tables.exec = Jvm.exec) (hb : c.code = cc) (hK : va_K D vwCl (tysA cA) s) (hW : JW D B cA sh V P H) (hS : va_S (hm_A B) H0 H locs) {t : Nat} (hm : mar t = some (80, 3)) {i x : Int32} (hin : vp_in i 80) (hdg : decode cc pc = .ok (.bastore, 1))
    (kk : ∀ (H1 : Heap) (locs1 : List Loc), JW D B cA sh V (p1 P t (upd (P t) i.toNatClampNeg (vp_nar .boolean x))) H1 → va_S (hm_A B) H0 H1 locs1 → W p l e R s m args below meth c H1 locs1 cells slots Q (F0 m (pc + 1) ls rest)) : W p l e R s m args below meth c H locs cells slots Q (F0 m pc ls (.int x :: .int i :: .ref (sh t) :: rest)) := by
  obtain ⟨h, hP, hJ⟩ := hW
  exact hm_zast hexec hb (hK.2 3 (cA 3, .boolean) rfl).1 hP (hJ.2.2.2.2.1 t 80 3 hm) hS hin hdg (fun H1 locs1 hP1 hS1 => kk H1 locs1 ⟨_, hP1, hJ.arr hm _ (fun h => by rcases h with h | h <;> (rw [h] at hm; exact absurd hm (by decide)))⟩ hS1)
theorem mar_byte {t : Nat} (hm : mar t = some (81920, 0)) : t = 273 ∨ t = 274 := by
  have hr := mar_spec hm
  by_cases h5 : t = 275
  · rw [h5] at hm
    exact absurd hm (by decide)
  · by_cases h6 : t = 276
    · rw [h6] at hm
      exact absurd hm (by decide)
    · by_cases h7 : t = 277
      · rw [h7] at hm
        exact absurd hm (by decide)
      · omega
theorem jw_bast (hexec : p.tables.exec = Jvm.exec) (hb : c.code = cc) (hK : va_K D vwCl (tysA cA) s) (hW : JW D B cA sh V P H) (hS : va_S (hm_A B) H0 H locs) {t : Nat} (hm : mar t = some (81920, 0)) {i x : Int32} (hin : vp_in i 81920) (hdg : decode cc pc = .ok (.bastore, 1))
    (kk : ∀ (H1 : Heap) (locs1 : List Loc), JW D B cA sh V (p1 P t (upd (P t) i.toNatClampNeg x.toInt8.toInt32)) H1 → va_S (hm_A B) H0 H1 locs1 → W p l e R s m args below meth c H1 locs1 cells slots Q (F0 m (pc + 1) ls rest)) : W p l e R s m args below meth c H locs cells slots Q (F0 m pc ls (.int x :: .int i :: .ref (sh t) :: rest)) := by
  obtain ⟨h, hP, hJ⟩ := hW
  have hold : bfit (P t) 81920 := by
    rcases mar_byte hm with h1 | h1
    · rw [h1]
      exact hJ.2.2.2.2.2.1
    · rw [h1]
      exact hJ.2.2.2.2.2.2
  exact hm_bast hexec hb (hK.2 0 (cA 0, .byte) rfl).1 hP (hJ.2.2.2.2.1 t 81920 0 hm) hS hin hdg (fun H1 locs1 hP1 hS1 => kk H1 locs1 ⟨_, hP1, hJ.arr hm _ (fun _ k hk => by
    by_cases hq : k = i.toNatClampNeg
    · subst hq
      rw [pk_us]
      exact pk_fb x
    · rw [pk_un hq]
      exact hold k hk)⟩ hS1)
/-- behind a call -/
theorem jw_calli {post : Int32 → VV × VV → Prop} {st0 : List Value} {a : Array Value} {mc ms : Nat} (hr : va_Run p l e R s m args below meth c H locs cells slots mc ms (F0 m pc ls st0) rest (va_Qi post (JC D B cA sh) (hm_A B) a) (hm_A B)) (hS : va_S (hm_A B) H0 H locs)
    (kk : ∀ (r : Int32) (V1 P1 : VV) (H1 : Heap) (locs1 : List Loc), post r (V1, P1) → JW D B cA sh V1 P1 H1 → va_S (hm_A B) H0 H1 locs1 → W p l e R s m args below meth c H1 locs1 (cells + mc) (slots + ms) Q (F0 m (pc + 3) ls (.int r :: rest))) : W p l e R s m args below meth c H locs cells slots Q (F0 m pc ls st0) :=
  va_calli hr hS (fun _ _ h => h) (fun _ h => h) (fun r u t H1 locs1 ht _ hw hB _ _ hS1 => kk r u.1 u.2 H1 locs1 hw (by rw [← ht]; exact hB.1) hS1)
theorem jw_callv {post : VV × VV → Prop} {st0 : List Value} {a : Array Value} {mc ms : Nat} (hr : va_Run p l e R s m args below meth c H locs cells slots mc ms (F0 m pc ls st0) rest (va_Qv post (JC D B cA sh) (hm_A B) a) (hm_A B)) (hS : va_S (hm_A B) H0 H locs)
    (kk : ∀ (V1 P1 : VV) (H1 : Heap) (locs1 : List Loc), post (V1, P1) → JW D B cA sh V1 P1 H1 → va_S (hm_A B) H0 H1 locs1 → W p l e R s m args below meth c H1 locs1 (cells + mc) (slots + ms) Q (F0 m (pc + 3) ls rest)) : W p l e R s m args below meth c H locs cells slots Q (F0 m pc ls st0) :=
  va_callv hr hS (fun _ _ h => h) (fun _ h => h) (fun u t H1 locs1 ht _ hw hB _ _ hS1 => kk u.1 u.2 H1 locs1 hw (by rw [← ht]; exact hB.1) hS1)
theorem jw_callq {post : Option Nat → VV × VV → Prop} {st0 : List Value} {a : Array Value} {mc ms : Nat} (hr : va_Run p l e R s m args below meth c H locs cells slots mc ms (F0 m pc ls st0) rest (va_Qq post (JC D B cA sh) (hm_A B) a) (hm_A B)) (hS : va_S (hm_A B) H0 H locs)
    (kk : ∀ (r : Option Nat) (V1 P1 : VV) (H1 : Heap) (locs1 : List Loc), post r (V1, P1) → JW D B cA sh V1 P1 H1 → va_S (hm_A B) H0 H1 locs1 → W p l e R s m args below meth c H1 locs1 (cells + mc) (slots + ms) Q (F0 m (pc + 3) ls (va_rf r :: rest))) : W p l e R s m args below meth c H locs cells slots Q (F0 m pc ls st0) :=
  va_callq hr hS (fun _ _ h => h) (fun _ h => h) (fun r u t H1 locs1 ht _ hw hB _ _ hS1 => kk r u.1 u.2 H1 locs1 hw (by rw [← ht]; exact hB.1) hS1)
end JWR
end
section
/-! WHAT THE METHODS DO, as functions of (V, P): they follow the bytecode's own branches -/
abbrev mIsBlock (V : VV) (b : Int32) : Prop := ¬ b < 0 ∧ ¬ V 266 0 ≤ b ∧ ¬ (¬ b < 2 ∧ ¬ 32 < b)
abbrev mIsRun (k n : Int32) : Prop := ¬ n < 1 ∧ ¬ 1024 < n ∧ ¬ k < 0 ∧ ¬ 1024 - n < k
def bI (q : Prop) [Decidable q] : Int32 := if q then 1 else 0
/-- Page -/
def mByte (g : Nat → Int32) (k : Int32) : Int32 := if k < 0 ∨ 1024 ≤ k then 0 else g k.toNatClampNeg &&& 255
def mRun (g : Nat → Int32) (k : Nat) (v : Int32) (n : Nat) : Nat → Int32 := fun j => if k ≤ j ∧ j < k + n then (v + nI (j - k)).toInt8.toInt32 else g j
def mPut (g : Nat → Int32) (k n v : Int32) : Nat → Int32 := if mIsRun k n then mRun g k.toNatClampNeg v n.toNatClampNeg else g
/-- Disk -/
def mRead (P : VV) (b : Int32) (t : Nat) : VV := if b < 0 ∨ 80 ≤ b then P else p1 P t (P b.toNatClampNeg)
def mWrite (V P : VV) (b : Int32) (t : Nat) : Int32 × VV × VV :=
  if V 267 1 = 0 ∨ b < 0 ∨ ¬ b < 80 then (0, V, P)
  else if V 267 2 = 0 then (0, v2 V 267 1 0, P)
  else if V 267 2 ≤ 0 then (1, v2 V 267 3 (V 267 3 + 1), p1 P b.toNatClampNeg (P t))
  else (1, v2 (v2 V 267 2 (V 267 2 - 1)) 267 3 (V 267 3 + 1), p1 P b.toNatClampNeg (P t))
/-- Row, Cache -/
def mGW (V : VV) (i j : Nat) : Int32 := if V (232 + i) 3 = V (232 + j) 3 then (if V (232 + j) 2 ≤ V (232 + i) 2 then 0 else 1) else V (232 + j) 3
def fd (q : Nat → Bool) : Nat → Nat → Option Nat
  | 0, _ => none
  | n + 1, i => if q i then some i else fd q n (i + 1)
def mRow (V : VV) (b : Int32) : Option Nat := fd (fun i => decide (V (232 + i) 1 = b)) 34 0
def gL (V : VV) : Nat → Nat → Nat → Nat
  | 0, _, f => f
  | n + 1, i, f => gL V n (i + 1) (if mGW V i f = 0 then f else i)
def mGive (V : VV) : Nat := gL V 34 0 0
def cR (V : VV) (k : Nat) : Nat → Nat → Int32 → Int32
  | 0, _, a => a
  | n + 1, i, a => cR V k n (i + 1) (if V (232 + i) k = 0 then a else a + 1)
def mCnt (V : VV) (k : Nat) : Int32 := cR V k 34 0 0
def zR (k : Nat) : Nat → Nat → VV → VV
  | 0, _, V => V
  | n + 1, i, V => zR k n (i + 1) (v2 V (232 + i) k 0)
def mEmp (V : VV) (i : Nat) : VV := v2 (v2 (v2 (v2 V (232 + i) 1 (-1)) (232 + i) 2 0) (232 + i) 3 0) (232 + i) 4 0
def eR : Nat → Nat → VV → VV
  | 0, _, V => V
  | n + 1, i, V => eR n (i + 1) (mEmp V i)
def mTouch (V : VV) (i : Nat) : VV := v2 (v2 V 268 1 (V 268 1 + 1)) (232 + i) 2 (V 268 1 + 1)
def mTake (V : VV) (i : Nat) (b : Int32) : VV := v2 (v2 V (232 + i) 1 b) 268 2 (V 268 2 + 1)
def mLook (V P : VV) (b : Int32) : Nat × VV × VV := match mRow V b with
  | some i => (i, mTouch V i, P)
  | none => (mGive V, mTouch (mTake V (mGive V) b) (mGive V), mRead P b (80 + mGive V))
/-- Log -/
def chL : Nat → Nat → Int32 → VV → VV → Int32 × VV × VV
  | 0, _, k, V, P => (1, V, p1 P 114 (mPut (P 114) 0 1 k))
  | n + 1, i, k, V, P =>
    if V (232 + i) 3 = 0 ∨ 30 ≤ k then chL n (i + 1) k V P
    else if (mWrite V (p1 P 114 (mPut (P 114) (k + 1) 1 (V (232 + i) 1))) (2 + (k + 1)) (80 + i)).1 = 0 then (0, (mWrite V (p1 P 114 (mPut (P 114) (k + 1) 1 (V (232 + i) 1))) (2 + (k + 1)) (80 + i)).2)
    else chL n (i + 1) (k + 1) (mWrite V (p1 P 114 (mPut (P 114) (k + 1) 1 (V (232 + i) 1))) (2 + (k + 1)) (80 + i)).2.1 (mWrite V (p1 P 114 (mPut (P 114) (k + 1) 1 (V (232 + i) 1))) (2 + (k + 1)) (80 + i)).2.2
def mCopy (V P : VV) : Int32 × VV × VV := chL 34 0 0 V P
def mFin (n : Int32) (V P : VV) : Int32 × VV × VV :=
  if (mWrite V (p1 P 114 (mPut (P 114) 0 1 0)) 2 114).1 = 0 then (-1, (mWrite V (p1 P 114 (mPut (P 114) 0 1 0)) 2 114).2) else (n, (mWrite V (p1 P 114 (mPut (P 114) 0 1 0)) 2 114).2)
def bhL (n : Int32) : Nat → Nat → VV → VV → Int32 × VV × VV
  | 0, _, V, P => mFin n V P
  | r + 1, i, V, P =>
    if (mWrite V (mRead P (2 + nI i) 115) (mByte (mRead P (2 + nI i) 115 114) (nI i)) 115).1 = 0 then (-1, (mWrite V (mRead P (2 + nI i) 115) (mByte (mRead P (2 + nI i) 115 114) (nI i)) 115).2)
    else bhL n r (i + 1) (mWrite V (mRead P (2 + nI i) 115) (mByte (mRead P (2 + nI i) 115 114) (nI i)) 115).2.1 (mWrite V (mRead P (2 + nI i) 115) (mByte (mRead P (2 + nI i) 115 114) (nI i)) 115).2.2
def mN (P : VV) : Int32 := if 30 < mByte (mRead P 2 114 114) 0 then 30 else mByte (mRead P 2 114 114) 0
def mHome (V P : VV) : Int32 × VV × VV := if mN P = 0 then (0, V, mRead P 2 114) else bhL (mN P) (mN P).toNatClampNeg 1 V (mRead P 2 114)
def mOut2 (V P : VV) : Int32 × VV × VV := (if (mHome V P).1 = -1 then 0 else 1, (mHome V P).2)
def mOut1 (V P : VV) : Int32 × VV × VV := if (mWrite V P 2 114).1 = 0 then (0, (mWrite V P 2 114).2) else mOut2 (v2 (mWrite V P 2 114).2.1 269 2 ((mWrite V P 2 114).2.1 269 2 + 1)) (mWrite V P 2 114).2.2
def mOut (V P : VV) : Int32 × VV × VV := if (mCopy V P).1 = 0 then (0, (mCopy V P).2) else mOut1 (mCopy V P).2.1 (mCopy V P).2.2
/-- the vault -/
def mCommit (V P : VV) : Int32 × VV × VV := if (mOut V P).1 = 0 then (0, eR 34 0 (mOut V P).2.1, (mOut V P).2.2) else (1, zR 3 34 0 (mOut V P).2.1, (mOut V P).2.2)
def mBegin (V P : VV) : Int32 × VV × VV := if V 267 1 = 0 ∨ ¬ V 266 4 = 0 then (0, V, P) else (1, v2 V 266 4 1, P)
def mClose (V : VV) : VV := zR 4 34 0 (v2 V 266 4 0)
def mEnd (V P : VV) : Int32 × VV × VV :=
  if V 267 1 = 0 ∨ V 266 4 = 0 then (-1, V, P)
  else if 20 < mCnt (mClose V) 3 then (if (mCommit (mClose V) P).1 = 0 then -1 else 0, (mCommit (mClose V) P).2)
  else (mCnt (mClose V) 3, mClose V, P)
def mFlush (V P : VV) : Int32 × VV × VV :=
  if V 267 1 = 0 ∨ ¬ V 266 4 = 0 then (-1, V, P)
  else if mCnt V 3 = 0 then (0, V, P)
  else (if (mCommit V P).1 = 0 then -1 else mCnt V 3, (mCommit V P).2)
def mGet (V P : VV) (b k : Int32) : Int32 × VV × VV :=
  if V 267 1 = 0 ∨ ¬ mIsBlock V b ∨ k < 0 ∨ ¬ k < 1024 then (-1, V, P)
  else (mByte ((mLook V P b).2.2 (80 + (mLook V P b).1)) k, (mLook V P b).2)
def mTakes (V : VV) (b : Int32) : Int32 := match mRow V b with
  | some i => if V (232 + i) 4 = 0 then (if 10 ≤ mCnt V 4 then 0 else 1) else 1
  | none => if 10 ≤ mCnt V 4 then 0 else 1
def mMark (V : VV) (i : Nat) : VV := v2 (v2 V (232 + i) 3 1) (232 + i) 4 1
def mFill (V P : VV) (b k n v : Int32) : Int32 × VV × VV :=
  if V 267 1 = 0 ∨ V 266 4 = 0 ∨ ¬ mIsBlock V b ∨ ¬ mIsRun k n ∨ mTakes V b = 0 then (0, V, P)
  else (1, mMark (mLook V P b).2.1 (mLook V P b).1, p1 (mLook V P b).2.2 (80 + (mLook V P b).1) (mPut ((mLook V P b).2.2 (80 + (mLook V P b).1)) k n v))
def mCut (V P : VV) (k : Int32) : Int32 × VV × VV := if V 267 1 = 0 then (0, V, P) else (1, v2 V 267 2 k, P)
def mPower (V P : VV) (k : Int32) : Int32 × VV × VV := if V 267 1 = 0 then mHome (v2 (v2 V 267 1 1) 267 2 k) P else (-1, V, P)
def mCount (V : VV) (w : Int32) : Int32 :=
  if w = 0 then (if V 267 1 = 0 then 0 else 1)
  else if w = 1 then V 266 0
  else if w = 2 then mCnt V 3
  else if w = 3 then (if V 266 4 = 0 then -1 else mCnt V 4)
  else if w = 4 then V 267 3
  else if w = 5 then V 268 2
  else if w = 6 then V 269 2
  else -1
def mHeld (V : VV) (b : Int32) : Int32 :=
  if V 267 1 = 0 ∨ ¬ mIsBlock V b then 0 else match mRow V b with
  | some i => if V (232 + i) 3 = 0 then 0 else 1
  | none => 0
def mCached (V : VV) (b : Int32) : Int32 := if V 267 1 = 0 ∨ ¬ mIsBlock V b then 0 else match mRow V b with
  | some _ => 1
  | none => 0
/-! THE REFERENCE (name 272: thrown 0, blocks 1, time 7, on 8, whether a step is under way 9, left 10, writes 11, reads 12, commits 13, unended 14; its arrays 273 safe, 274 now, 275 held, 276 changed, 277 stamp) -/
abbrev rIsBlock (V : VV) (b : Int32) : Prop := ¬ b < 0 ∧ ¬ V 272 1 ≤ b ∧ (b < 2 ∨ ¬ b ≤ 32)
def cM (f : Nat → Int32) : Nat → Nat → Int32 → Int32
  | 0, _, a => a
  | n + 1, k, a => cM f n (k + 1) (if f k = 0 then a + 0 else a + 1)
def rMany (f : Nat → Int32) : Int32 := cM f 80 0 0
def r0 (V : VV) : VV := v2 V 272 0 0
def zF (f : Nat → Int32) (i : Nat) : Nat → Int32 := fun j => if j < i then 0 else f j
def rWritten (V : VV) (n : Int32) : Int32 × VV :=
  if V 272 10 < 0 then (1, v2 (v2 V 272 11 (V 272 11 + n)) 272 10 (V 272 10))
  else if V 272 10 < n then (0, v2 (v2 (v2 V 272 11 (V 272 11 + V 272 10)) 272 10 (-1)) 272 8 0)
  else (1, v2 (v2 V 272 11 (V 272 11 + n)) 272 10 (V 272 10 - n))
def rEnded (V : VV) : Int32 × VV := ((rWritten V (V 272 14 + 1)).1, v2 (rWritten V (V 272 14 + 1)).2 272 14 (if (rWritten V (V 272 14 + 1)).1 = 0 then (rWritten V (V 272 14 + 1)).2 272 14 else -1))
def rSafe (P : VV) (i : Nat) : Nat → Int32 := fun j => if j < 1024 * i ∧ ¬ P 275 (j / 1024) = 0 then P 274 j else P 273 j
def rP (P : VV) (i : Nat) : VV := p1 (p1 P 273 (rSafe P i)) 275 (zF (P 275) i)
def rCommit2 (V P : VV) (n : Int32) : Int32 × VV × VV := ((rEnded (v2 (v2 V 272 13 (V 272 13 + 1)) 272 14 n)).1, (rEnded (v2 (v2 V 272 13 (V 272 13 + 1)) 272 14 n)).2, rP P (V 272 1).toNatClampNeg)
def rCommit (V P : VV) : Int32 × VV × VV := if (rWritten V (rMany (P 275) + 1)).1 = 0 then (0, (rWritten V (rMany (P 275) + 1)).2, P) else rCommit2 (rWritten V (rMany (P 275) + 1)).2 P (rMany (P 275))
def rBegin (V P : VV) : Int32 × VV × VV := if V 272 8 = 0 ∨ ¬ V 272 9 = 0 then (0, r0 V, P) else (1, v2 (r0 V) 272 9 1, p1 P 276 (zF (P 276) 80))
def rShut (V : VV) : VV := v2 (r0 V) 272 9 0
def rEnd (V P : VV) : Int32 × VV × VV :=
  if V 272 8 = 0 ∨ V 272 9 = 0 then (-1, r0 V, P)
  else if 20 < rMany (P 275) then (if (rCommit (rShut V) P).1 = 0 then -1 else 0, (rCommit (rShut V) P).2)
  else (rMany (P 275), rShut V, P)
def rFlush (V P : VV) : Int32 × VV × VV :=
  if V 272 8 = 0 ∨ ¬ V 272 9 = 0 then (-1, r0 V, P)
  else if rMany (P 275) = 0 then (rMany (P 275), r0 V, P)
  else (if (rCommit (r0 V) P).1 = 0 then -1 else rMany (P 275), (rCommit (r0 V) P).2)
/-- the scan of look: how many blocks are in the cache, and the oldest that isn't held (-1: none) -/
def lkL (st hd : Nat → Int32) : Nat → Nat → Int32 → Int32 → Int32 × Int32
  | 0, _, r, o => (r, o)
  | n + 1, k, r, o => lkL st hd n (k + 1) (if st k ≤ 0 then r + 0 else r + 1) (if st k ≤ 0 ∨ ¬ hd k = 0 ∨ (¬ o < 0 ∧ st o.toNatClampNeg ≤ st k) then o else nI k)
def rScan (V P : VV) : Int32 × Int32 := lkL (P 277) (P 275) (V 272 1).toNatClampNeg 0 0 (-1)
def rStamp (V P : VV) (b : Nat) : VV := p1 P 277 (upd (P 277) b (V 272 7 + 1))
def rTick (V : VV) : VV := v2 V 272 7 (V 272 7 + 1)
def rEvict (V P : VV) : VV := if (rScan V P).1 = 34 then p1 P 277 (upd (P 277) (rScan V P).2.toNatClampNeg 0) else P
def rLook (V P : VV) (b : Nat) : VV × VV := if P 277 b = 0 then (rTick (v2 V 272 12 (V 272 12 + 1)), rStamp V (rEvict V P) b) else (rTick V, rStamp V P b)
def rGet (V P : VV) (b k : Int32) : Int32 × VV × VV :=
  if V 272 8 = 0 ∨ ¬ rIsBlock V b ∨ k < 0 ∨ ¬ k ≤ 1023 then (-1, r0 V, P)
  else (P 274 (1024 * b.toNatClampNeg + k.toNatClampNeg) &&& 255, rLook (r0 V) P b.toNatClampNeg)
def rFillP (P : VV) (b k n : Nat) (v : Int32) : VV := p1 (p1 (p1 P 276 (upd (P 276) b 1)) 275 (upd (P 275) b 1)) 274 (mRun (P 274) (1024 * b + k) v n)
def rFill (V P : VV) (b k n v : Int32) : Int32 × VV × VV :=
  if V 272 8 = 0 ∨ V 272 9 = 0 ∨ ¬ rIsBlock V b ∨ ¬ mIsRun k n ∨ (P 276 b.toNatClampNeg = 0 ∧ rMany (P 276) = 10) then (0, r0 V, P)
  else (1, (rLook (r0 V) P b.toNatClampNeg).1, rFillP (rLook (r0 V) P b.toNatClampNeg).2 b.toNatClampNeg k.toNatClampNeg n.toNatClampNeg v)
def rLeft (k : Int32) : Int32 := if 0 ≤ k then k else -1
def rCut (V P : VV) (k : Int32) : Int32 × VV × VV := if V 272 8 = 0 then (0, r0 V, P) else (1, v2 (r0 V) 272 10 (rLeft k), P)
def rBackV (V : VV) (k : Int32) : VV := v2 (v2 (v2 (r0 V) 272 8 1) 272 9 0) 272 10 (rLeft k)
def rNow (P : VV) (i : Nat) : Nat → Int32 := fun j => if j < i then P 273 j else P 274 j
def rBackP (P : VV) : VV := p1 (p1 (p1 P 274 (rNow P 81920)) 275 (zF (P 275) 80)) 277 (zF (P 277) 80)
def rPower (V P : VV) (k : Int32) : Int32 × VV × VV :=
  if V 272 8 = 0 then (if V 272 14 < 0 then (0, rBackV V k, rBackP P) else (if (rEnded (rBackV V k)).1 = 0 then -1 else V 272 14, (rEnded (rBackV V k)).2, rBackP P))
  else (-1, r0 V, P)
def rCount (V P : VV) (w : Int32) : Int32 :=
  if w = 0 then (if V 272 8 = 0 then 0 else 1)
  else if w = 1 then V 272 1
  else if w = 2 then (if V 272 8 = 0 then 0 else rMany (P 275))
  else if w = 3 then (if V 272 8 = 0 ∨ V 272 9 = 0 then -1 else rMany (P 276))
  else if w = 4 then V 272 11
  else if w = 5 then V 272 12
  else if w = 6 then V 272 13
  else -1
def rHeld (V P : VV) (b : Int32) : Int32 := if V 272 8 = 0 ∨ ¬ rIsBlock V b ∨ P 275 b.toNatClampNeg = 0 then 0 else 1
def rCached (V P : VV) (b : Int32) : Int32 := if V 272 8 = 0 ∨ ¬ rIsBlock V b ∨ P 277 b.toNatClampNeg ≤ 0 then 0 else 1
end
section
/-! COUNTING, SEARCHING: pure -/
def cU (q : Nat → Bool) : Nat → Nat → Nat
  | 0, _ => 0
  | n + 1, i => (q i).toNat + cU q n (i + 1)
theorem cU_congr {q q' : Nat → Bool} : ∀ (n i : Nat), (∀ j, i ≤ j → j < i + n → q j = q' j) → cU q n i = cU q' n i
  | 0, _, _ => rfl
  | n + 1, i, h => by
    simp only [cU]
    rw [h i (Nat.le_refl i) (by omega), cU_congr n (i + 1) (fun j h1 h2 => h j (by omega) (by omega))]
theorem cU_le (q : Nat → Bool) : ∀ (n i : Nat), cU q n i ≤ n
  | 0, _ => Nat.le_refl _
  | n + 1, i => by
    have := cU_le q n (i + 1)
    have h2 : (q i).toNat ≤ 1 := Bool.toNat_le _
    simp only [cU]
    omega
theorem cU_zero {q : Nat → Bool} : ∀ (n i : Nat), (∀ j, i ≤ j → j < i + n → q j = false) → cU q n i = 0
  | 0, _, _ => rfl
  | n + 1, i, h => by
    simp only [cU]
    rw [h i (Nat.le_refl i) (by omega), cU_zero n (i + 1) (fun j h1 h2 => h j (by omega) (by omega))]
    rfl
theorem cU_zero' {q : Nat → Bool} : ∀ (n i : Nat), cU q n i = 0 → ∀ j, i ≤ j → j < i + n → q j = false
  | 0, i, _, j, h1, h2 => by omega
  | n + 1, i, h, j, h1, h2 => by
    simp only [cU] at h
    by_cases e : j = i
    · subst e
      cases hq : q j with
      | false => rfl
      | true =>
        rw [hq] at h
        simp only [Bool.toNat_true] at h
        omega
    · exact cU_zero' n (i + 1) (by omega) j (by omega) (by omega)
theorem cU_full {q : Nat → Bool} : ∀ (n i : Nat), cU q n i = n → ∀ j, i ≤ j → j < i + n → q j = true
  | 0, i, _, j, h1, h2 => by omega
  | n + 1, i, h, j, h1, h2 => by
    simp only [cU] at h
    have h3 := cU_le q n (i + 1)
    have h4 : (q i).toNat ≤ 1 := Bool.toNat_le _
    by_cases e : j = i
    · subst e
      cases hq : q j with
      | true => rfl
      | false =>
        rw [hq] at h
        simp only [Bool.toNat_false] at h
        omega
    · exact cU_full n (i + 1) (by omega) j (by omega) (by omega)
/-- one place changed -/
theorem cU_set {q q' : Nat → Bool} {x : Nat} : ∀ (n i : Nat), i ≤ x → x < i + n → (∀ j, i ≤ j → j < i + n → j ≠ x → q' j = q j) → cU q' n i + (q x).toNat = cU q n i + (q' x).toNat
  | 0, i, h1, h2, _ => by omega
  | n + 1, i, h1, h2, h => by
    simp only [cU]
    by_cases e : i = x
    · subst e
      rw [cU_congr (q := q') (q' := q) n (i + 1) (fun j h3 h4 => h j (by omega) (by omega) (by omega))]
      omega
    · rw [h i (Nat.le_refl i) (by omega) e]
      have := cU_set (q := q) (q' := q') n (i + 1) (by omega) (by omega) (fun j h3 h4 h5 => h j (by omega) (by omega) h5)
      omega
theorem cU_sub {q q' : Nat → Bool} : ∀ (n i : Nat), (∀ j, i ≤ j → j < i + n → q j = true → q' j = true) → cU q n i ≤ cU q' n i
  | 0, _, _ => Nat.le_refl _
  | n + 1, i, h => by
    simp only [cU]
    have h1 := cU_sub (q := q) (q' := q') n (i + 1) (fun j h1 h2 => h j (by omega) (by omega))
    have h2 : (q i).toNat ≤ (q' i).toNat := by
      cases hq : q i with
      | false => simp
      | true => rw [h i (Nat.le_refl i) (by omega) hq]; exact Nat.le_refl _
    omega
abbrev nz (f : Nat → Int32) : Nat → Bool := fun j => decide (¬ f j = 0)
theorem dn_c {x y z : Int32} (h : x = y) : decide (¬ x = z) = decide (¬ y = z) := by
  subst h
  rfl
abbrev hR (V : VV) (k : Nat) : Nat := cU (nz fun i => V (232 + i) k) 34 0
abbrev hB (f : Nat → Int32) : Nat := cU (nz f) 80 0
theorem cR_eq (V : VV) (k : Nat) : ∀ (n i : Nat) (a : Nat), cR V k n i (nI a) = nI (a + cU (nz fun i => V (232 + i) k) n i)
  | 0, _, a => rfl
  | n + 1, i, a => by
    simp only [cR, cU]
    by_cases h : V (232 + i) k = 0
    · rw [if_pos h, cR_eq V k n (i + 1) a]
      simp [nz, h]
    · rw [if_neg h, nI_1, cR_eq V k n (i + 1) (a + 1)]
      simp only [nz, h, not_false_eq_true, decide_true, Bool.toNat_true]
      congr 1
      omega
theorem mCnt_eq (V : VV) (k : Nat) : mCnt V k = nI (hR V k) := by
  have := cR_eq V k 34 0 0
  rw [nI_0, Nat.zero_add] at this
  exact this
theorem cM_eq (f : Nat → Int32) : ∀ (n i : Nat) (a : Nat), cM f n i (nI a) = nI (a + cU (nz f) n i)
  | 0, _, a => rfl
  | n + 1, i, a => by
    simp only [cM, cU]
    by_cases h : f i = 0
    · rw [if_pos h, Int32.add_zero, cM_eq f n (i + 1) a]
      simp [nz, h]
    · rw [if_neg h, nI_1, cM_eq f n (i + 1) (a + 1)]
      simp only [nz, h, not_false_eq_true, decide_true, Bool.toNat_true]
      congr 1
      omega
theorem rMany_eq (f : Nat → Int32) : rMany f = nI (hB f) := by
  have := cM_eq f 80 0 0
  rw [nI_0, Nat.zero_add] at this
  exact this
/-- the first place -/
theorem fd_some {q : Nat → Bool} : ∀ (n i x : Nat), fd q n i = some x → i ≤ x ∧ x < i + n ∧ q x = true
  | 0, _, _, h => by simp [fd] at h
  | n + 1, i, x, h => by
    simp only [fd] at h
    by_cases e : q i = true
    · rw [if_pos e] at h
      cases h
      exact ⟨Nat.le_refl _, by omega, e⟩
    · rw [if_neg e] at h
      obtain ⟨a, b, c⟩ := fd_some n (i + 1) x h
      exact ⟨by omega, by omega, c⟩
theorem fd_none {q : Nat → Bool} : ∀ (n i : Nat), fd q n i = none → ∀ j, i ≤ j → j < i + n → q j = false
  | 0, i, _, j, h1, h2 => by omega
  | n + 1, i, h, j, h1, h2 => by
    simp only [fd] at h
    by_cases e : q i = true
    · rw [if_pos e] at h
      cases h
    · rw [if_neg e] at h
      by_cases ej : j = i
      · subst ej
        exact Bool.eq_false_iff.mpr e
      · exact fd_none n (i + 1) h j (by omega) (by omega)
theorem mRow_some {V : VV} {b : Int32} {i : Nat} (h : mRow V b = some i) : i < 34 ∧ V (232 + i) 1 = b := by
  obtain ⟨-, h2, h3⟩ := fd_some 34 0 i h
  exact ⟨by omega, by simpa using h3⟩
theorem mRow_none {V : VV} {b : Int32} (h : mRow V b = none) {i : Nat} (hi : i < 34) : ¬ V (232 + i) 1 = b := by
  have := fd_none 34 0 h i (by omega) (by omega)
  simpa using this
theorem gL_lt (V : VV) : ∀ (n i f : Nat), f < 34 → i + n ≤ 34 → gL V n i f < 34
  | 0, _, f, h, _ => h
  | n + 1, i, f, h, h2 => by
    simp only [gL]
    by_cases e : mGW V i f = 0
    · rw [if_pos e]
      exact gL_lt V n (i + 1) f h (by omega)
    · rw [if_neg e]
      exact gL_lt V n (i + 1) i (by omega) (by omega)
theorem mGive_lt (V : VV) : mGive V < 34 := gL_lt V 34 0 0 (by omega) (by omega)
theorem mLook_lt (V P : VV) (b : Int32) : (mLook V P b).1 < 34 := by
  unfold mLook
  split
  · rename_i i h
    exact (mRow_some h).1
  · exact mGive_lt V
end
section
/-! THE RELATION between the vault (V, P) and the reference (R, A), pure -/
abbrev isB (N b : Nat) : Prop := b < N ∧ (b < 2 ∨ 32 < b)
/-- a row that holds nothing -/
def eRow (V : VV) (i : Nat) : Prop := V (232 + i) 1 = -1 ∧ V (232 + i) 2 = 0 ∧ V (232 + i) 3 = 0 ∧ V (232 + i) 4 = 0
/-- a row that holds block b -/
def fRow (V P A : VV) (N i b : Nat) : Prop := isB N b ∧ V (232 + i) 1 = nI b ∧ V (232 + i) 2 = A 277 b ∧ ¬ A 277 b = 0 ∧ V (232 + i) 3 = A 275 b ∧ (V 266 4 = 0 → V (232 + i) 4 = 0) ∧ (¬ V 266 4 = 0 → V (232 + i) 4 = A 276 b) ∧ ∀ j, j < 1024 → P (80 + i) j = A 274 (1024 * b + j)
/-- the numbers that both have -/
def rA (V R : VV) (N u : Nat) : Prop := V 266 0 = nI N ∧ R 272 1 = nI N ∧ 40 ≤ N ∧ N ≤ 80 ∧ V 268 1 = nI u ∧ R 272 7 = nI u ∧ R 272 11 = V 267 3 ∧ R 272 12 = V 268 2 ∧ R 272 13 = V 269 2 ∧ R 272 9 = V 266 4 ∧ R 272 8 = V 267 1 ∧ (V 266 4 = 0 ∨ V 266 4 = 1) ∧ (V 267 1 = 0 ∨ V 267 1 = 1)
def rLf (V R : VV) : Prop := (V 267 2 < 0 ∧ R 272 10 = -1) ∨ (¬ V 267 2 < 0 ∧ R 272 10 = V 267 2)
/-- the rows and the reference's marks -/
def rRows (V P A : VV) (N u : Nat) : Prop :=
  (∀ i, i < 34 → eRow V i ∨ ∃ b, fRow V P A N i b) ∧
  (∀ i j b, i < 34 → j < 34 → b < 80 → V (232 + i) 1 = nI b → V (232 + j) 1 = nI b → i = j) ∧
  (∀ b, b < 80 → A 277 b = 0 ∨ (isB N b ∧ ∃ i, i < 34 ∧ V (232 + i) 1 = nI b)) ∧
  (∀ b, b < 80 → ∃ x, x ≤ u ∧ A 277 b = nI x) ∧
  (∀ b b', b < 80 → b' < 80 → A 277 b = A 277 b' → ¬ A 277 b = 0 → b = b') ∧
  (∀ b, b < 80 → (A 275 b = 0 ∨ A 275 b = 1) ∧ (¬ A 275 b = 0 → ¬ A 277 b = 0) ∧ (¬ V 266 4 = 0 → ¬ A 276 b = 0 → ¬ A 275 b = 0))
/-- how many -/
def rCnt (V A : VV) : Prop :=
  hR V 3 = hB (A 275) ∧ (¬ V 266 4 = 0 → hR V 4 = hB (A 276)) ∧ cU (fun i => decide (¬ V (232 + i) 1 = -1)) 34 0 = hB (A 277) ∧
  (V 266 4 = 0 → hB (A 275) ≤ 20) ∧ (¬ V 266 4 = 0 → hB (A 275) ≤ 20 + hB (A 276) ∧ hB (A 276) ≤ 10)
/-- the disk and what the reference keeps safe -/
def rDisk (P A : VV) (N : Nat) : Prop := P 2 0 = 0 ∧ ∀ b, isB N b → ∀ j, j < 1024 → P b j = A 273 (1024 * b + j)
def rClean (A : VV) (N : Nat) : Prop := ∀ b, isB N b → A 275 b = 0 → ∀ j, j < 1024 → A 274 (1024 * b + j) = A 273 (1024 * b + j)
def rOn (V P R A : VV) (N u : Nat) : Prop := rLf V R ∧ R 272 14 = -1 ∧ rRows V P A N u ∧ rCnt V A ∧ rDisk P A N ∧ rClean A N
/-- a commit that counts and was not ended -/
def rLog (P A : VV) (N n : Nat) (blk : Nat → Nat) : Prop := P 2 0 = nI n ∧
  (∀ i, 1 ≤ i → i ≤ n → isB N (blk i) ∧ P 2 i = nI (blk i) ∧ ∀ j, j < 1024 → P (2 + i) j = A 273 (1024 * blk i + j)) ∧
  ∀ b, isB N b → (∀ i, 1 ≤ i → i ≤ n → ¬ blk i = b) → ∀ j, j < 1024 → P b j = A 273 (1024 * b + j)
def rOff (V P R A : VV) (N : Nat) : Prop := V 266 4 = 0 ∧ (∀ i, i < 34 → eRow V i) ∧
  ((R 272 14 = -1 ∧ rDisk P A N) ∨ ∃ n blk, 1 ≤ n ∧ n ≤ 30 ∧ R 272 14 = nI n ∧ rLog P A N n blk)
def rel (V P R A : VV) (k : Nat) : Prop := ∃ N u, u ≤ k ∧ rA V R N u ∧ (V 267 1 = 1 → rOn V P R A N u) ∧ (V 267 1 = 0 → rOff V P R A N)
/-! what each side reads of the state -/
def sameC (V P V' P' : VV) : Prop := (∀ t, t < 272 → V' t = V t) ∧ ∀ t, t < 116 → P' t = P t
def sameR (R A R' A' : VV) : Prop := R' 272 = R 272 ∧ ∀ t, 272 < t → A' t = A t
theorem sameC.rf {V P : VV} : sameC V P V P := ⟨fun _ _ => rfl, fun _ _ => rfl⟩
theorem sameR.rf {V P : VV} : sameR V P V P := ⟨rfl, fun _ _ => rfl⟩
theorem sameC.tr {V P V' P' V'' P'' : VV} (h : sameC V P V' P') (h' : sameC V' P' V'' P'') : sameC V P V'' P'' := ⟨fun t ht => (h'.1 t ht).trans (h.1 t ht), fun t ht => (h'.2 t ht).trans (h.2 t ht)⟩
theorem sameR.tr {V P V' P' V'' P'' : VV} (h : sameR V P V' P') (h' : sameR V' P' V'' P'') : sameR V P V'' P'' := ⟨h'.1.trans h.1, fun t ht => (h'.2 t ht).trans (h.2 t ht)⟩
theorem rel_R {V P R A R' A' : VV} {k : Nat} (h : rel V P R A k) (hs : sameR R A R' A') : rel V P R' A' k := by
  obtain ⟨N, u, hu, h1, h2, h3⟩ := h
  have e3 := hs.2 273 (by omega)
  have e4 := hs.2 274 (by omega)
  have e5 := hs.2 275 (by omega)
  have e6 := hs.2 276 (by omega)
  have e7 := hs.2 277 (by omega)
  refine ⟨N, u, hu, ?_, fun hon => ?_, fun hoff => ?_⟩
  · simp only [rA, hs.1] at h1 ⊢
    exact h1
  · have := h2 hon
    simp only [rOn, rLf, rRows, fRow, rCnt, rDisk, rClean, hs.1, e3, e4, e5, e6, e7] at this ⊢
    exact this
  · have := h3 hoff
    simp only [rOff, rDisk, rLog, hs.1, e3] at this ⊢
    exact this
theorem hR_congr {V V' : VV} (h : ∀ t, t < 272 → V' t = V t) (k : Nat) : hR V' k = hR V k := cU_congr 34 0 (fun j _ hj => dn_c (congrFun (h (232 + j) (by omega)) k))
theorem rel_C {V P R A V' P' : VV} {k : Nat} (h : rel V P R A k) (hs : sameC V P V' P') : rel V' P' R A k := by
  obtain ⟨N, u, hu, h1, h2, h3⟩ := h
  have v266 := hs.1 266 (by omega)
  have v267 := hs.1 267 (by omega)
  have v268 := hs.1 268 (by omega)
  have v269 := hs.1 269 (by omega)
  have vr : ∀ i, i < 34 → V' (232 + i) = V (232 + i) := fun i hi => hs.1 _ (by omega)
  have pr : ∀ i, i < 34 → P' (80 + i) = P (80 + i) := fun i hi => hs.2 _ (by omega)
  have pd : ∀ b, b < 80 → P' b = P b := fun b hb => hs.2 _ (by omega)
  have hN : N ≤ 80 := h1.2.2.2.1
  have hdisk : rDisk P A N → rDisk P' A N := fun hd => ⟨by rw [pd 2 (by omega)]; exact hd.1, fun b hb j hj => by rw [pd b (by omega)]; exact hd.2 b hb j hj⟩
  refine ⟨N, u, hu, ?_, fun hon => ?_, fun hoff => ?_⟩
  · simp only [rA, v266, v267, v268, v269] at h1 ⊢
    exact h1
  · rw [v267] at hon
    obtain ⟨a1, a2, ⟨b1, b2, b3, b4, b5, b6⟩, ⟨c1, c2, c3, c4, c5⟩, a5, a6⟩ := h2 hon
    refine ⟨?_, a2, ⟨fun i hi => ?_, fun i j b hi hj hb e1 e2 => ?_, fun b hb => ?_, b4, b5, fun b hb => ?_⟩, ⟨?_, ?_, ?_, ?_, ?_⟩, hdisk a5, a6⟩
    · simp only [rLf, v267] at a1 ⊢
      exact a1
    · have := b1 i hi
      simp only [eRow, fRow, vr i hi, pr i hi, v266] at this ⊢
      exact this
    · rw [vr i hi] at e1
      rw [vr j hj] at e2
      exact b2 i j b hi hj hb e1 e2
    · rcases b3 b hb with q | ⟨q, i, hi, e⟩
      · exact Or.inl q
      · exact Or.inr ⟨q, i, hi, by rw [vr i hi]; exact e⟩
    · rw [v266]
      exact b6 b hb
    · rw [hR_congr hs.1]
      exact c1
    · rw [hR_congr hs.1, v266]
      exact c2
    · rw [← c3]
      exact cU_congr 34 0 (fun j _ hj => dn_c (congrFun (vr j (by omega)) 1))
    · rw [v266]
      exact c4
    · rw [v266]
      exact c5
  · rw [v267] at hoff
    obtain ⟨a1, a2, a3⟩ := h3 hoff
    refine ⟨by rw [v266]; exact a1, fun i hi => ?_, ?_⟩
    · have := a2 i hi
      simp only [eRow, vr i hi] at this ⊢
      exact this
    · rcases a3 with ⟨q1, q2⟩ | ⟨n, blk, q1, q2, q3, q4, q5, q6⟩
      · exact Or.inl ⟨q1, hdisk q2⟩
      · exact Or.inr ⟨n, blk, q1, q2, q3, by rw [pd 2 (by omega)]; exact q4, fun i h1 h2 => by rw [pd 2 (by omega), pd (2 + i) (by omega)]; exact q5 i h1 h2, fun b hb hn j hj => by rw [pd b (by omega)]; exact q6 b hb hn j hj⟩
theorem zR_at (k : Nat) : ∀ (n i : Nat) (V : VV) (t j : Nat), zR k n i V t j = if 232 + i ≤ t ∧ t < 232 + i + n ∧ j = k then 0 else V t j
  | 0, i, V, t, j => by
    rw [if_neg (by omega)]
    rfl
  | n + 1, i, V, t, j => by
    simp only [zR]
    rw [zR_at k n (i + 1) _ t j]
    by_cases h : 232 + (i + 1) ≤ t ∧ t < 232 + (i + 1) + n ∧ j = k
    · rw [if_pos h, if_pos (by omega)]
    · rw [if_neg h]
      by_cases h2 : t = 232 + i ∧ j = k
      · rw [if_pos (by omega), h2.1, h2.2, v2_s]
      · rw [if_neg (by omega), v2_n h2]
theorem mEmp_at (V : VV) (i t j : Nat) : mEmp V i t j = if t = 232 + i ∧ 1 ≤ j ∧ j ≤ 4 then (if j = 1 then -1 else 0) else V t j := by
  unfold mEmp v2
  by_cases ht : t = 232 + i
  · by_cases h4 : j = 4
    · simp [ht, h4]
    · by_cases h3 : j = 3
      · simp [ht, h3]
      · by_cases h2 : j = 2
        · simp [ht, h2]
        · by_cases h1 : j = 1
          · simp [ht, h1]
          · rw [if_neg (by omega), if_neg (by omega), if_neg (by omega), if_neg (by omega), if_neg (by omega)]
  · rw [if_neg (by omega), if_neg (by omega), if_neg (by omega), if_neg (by omega), if_neg (by omega)]
theorem eR_at : ∀ (n i : Nat) (V : VV) (t j : Nat), eR n i V t j = if 232 + i ≤ t ∧ t < 232 + i + n ∧ 1 ≤ j ∧ j ≤ 4 then (if j = 1 then -1 else 0) else V t j
  | 0, i, V, t, j => by
    rw [if_neg (by omega)]
    rfl
  | n + 1, i, V, t, j => by
    simp only [eR]
    rw [eR_at n (i + 1) _ t j, mEmp_at]
    by_cases h : 232 + (i + 1) ≤ t ∧ t < 232 + (i + 1) + n ∧ 1 ≤ j ∧ j ≤ 4
    · rw [if_pos h, if_pos (show 232 + i ≤ t ∧ t < 232 + i + (n + 1) ∧ 1 ≤ j ∧ j ≤ 4 by omega)]
    · rw [if_neg h]
      by_cases h2 : t = 232 + i ∧ 1 ≤ j ∧ j ≤ 4
      · rw [if_pos h2, if_pos (show 232 + i ≤ t ∧ t < 232 + i + (n + 1) ∧ 1 ≤ j ∧ j ≤ 4 by omega)]
      · rw [if_neg h2, if_neg (show ¬ (232 + i ≤ t ∧ t < 232 + i + (n + 1) ∧ 1 ≤ j ∧ j ≤ 4) by omega)]
end
section
/-! THE WRITES, pure: k that were made; k that were made and one at which the power went -/
def okW (V V' : VV) (k : Nat) : Prop := V' 267 3 = V 267 3 + nI k ∧ ((V 267 2 < 0 ∧ V' 267 2 = V 267 2) ∨ ∃ m, k ≤ m ∧ m < 2 ^ 31 ∧ V 267 2 = nI m ∧ V' 267 2 = nI (m - k)) ∧ ∀ t j, ¬ (t = 267 ∧ (j = 2 ∨ j = 3)) → V' t j = V t j
def noW (V V' : VV) (k : Nat) : Prop := k < 2 ^ 31 ∧ V 267 2 = nI k ∧ V' 267 3 = V 267 3 + nI k ∧ V' 267 1 = 0 ∧ ∀ t j, ¬ (t = 267 ∧ (j = 1 ∨ j = 2 ∨ j = 3)) → V' t j = V t j
theorem nI_z (x : Int32) : x + nI 0 = x := by rw [nI_0, Int32.add_zero]
theorem okW.rf (V : VV) : okW V V 0 := by
  refine ⟨(nI_z _).symm, ?_, fun _ _ _ => rfl⟩
  by_cases h : V 267 2 < 0
  · exact Or.inl ⟨h, rfl⟩
  · obtain ⟨m, h1, h2⟩ := nI_of h
    exact Or.inr ⟨m, Nat.zero_le _, h1, h2, by rw [Nat.sub_zero]; exact h2⟩
theorem nI_ass (x : Int32) (a b : Nat) : x + nI a + nI b = x + nI (a + b) := by rw [Int32.add_assoc, nI_add]
theorem okW.tr {V V' V'' : VV} {k k' : Nat} (h : okW V V' k) (h' : okW V' V'' k') : okW V V'' (k + k') := by
  obtain ⟨a1, a2, a3⟩ := h
  obtain ⟨b1, b2, b3⟩ := h'
  refine ⟨by rw [b1, a1, nI_ass], ?_, fun t j ht => (b3 t j ht).trans (a3 t j ht)⟩
  rcases a2 with ⟨p1, p2⟩ | ⟨m, p1, p2, p3, p4⟩
  · rcases b2 with ⟨q1, q2⟩ | ⟨m', q1, q2, q3, q4⟩
    · exact Or.inl ⟨p1, q2.trans p2⟩
    · rw [p2] at q3
      rw [q3] at p1
      exact absurd p1 (nI_pos q2)
  · rcases b2 with ⟨q1, q2⟩ | ⟨m', q1, q2, q3, q4⟩
    · rw [p4] at q1
      exact absurd q1 (nI_pos (by omega))
    · rw [p4] at q3
      have e : m - k = m' := (nI_eq (by omega) (by omega)).mp q3
      exact Or.inr ⟨m, by omega, p2, p3, by rw [q4]; congr 1; omega⟩
theorem okW.no {V V' V'' : VV} {k k' : Nat} (h : okW V V' k) (h' : noW V' V'' k') : noW V V'' (k + k') := by
  obtain ⟨a1, a2, a3⟩ := h
  obtain ⟨b0, b1, b2, b3, b4⟩ := h'
  rcases a2 with ⟨p1, p2⟩ | ⟨m, p1, p2, p3, p4⟩
  · rw [p2] at b1
    rw [b1] at p1
    exact absurd p1 (nI_pos b0)
  · rw [p4] at b1
    have e : m - k = k' := (nI_eq (by omega) (by omega)).mp b1
    refine ⟨by omega, by rw [p3]; congr 1; omega, by rw [b2, a1, nI_ass], b3, fun t j ht => (b4 t j ht).trans (a3 t j (fun q => ht ⟨q.1, Or.inr q.2⟩))⟩
theorem okW.on {V V' : VV} {k : Nat} (h : okW V V' k) : V' 267 1 = V 267 1 := h.2.2 267 1 (by omega)
theorem okW.at {V V' : VV} {k t j : Nat} (h : okW V V' k) (ht : t ≠ 267) : V' t j = V t j := h.2.2 t j (fun q => ht q.1)
theorem noW.at {V V' : VV} {k t j : Nat} (h : noW V V' k) (ht : t ≠ 267) : V' t j = V t j := h.2.2.2.2 t j (fun q => ht q.1)
theorem mWrite_on {V P : VV} {b t : Nat} (hon : ¬ V 267 1 = 0) (hb : b < 80) :
    (∃ V', mWrite V P (nI b) t = (1, V', p1 P b (P t)) ∧ okW V V' 1) ∨ (∃ V', mWrite V P (nI b) t = (0, V', P) ∧ noW V V' 0) := by
  have h1 : ¬ (V 267 1 = 0 ∨ nI b < 0 ∨ ¬ nI b < 80) := by
    intro h
    rcases h with h | h | h
    · exact hon h
    · exact nI_pos (by omega) h
    · exact h (nI_lt (b := 80) hb (by omega))
  unfold mWrite
  rw [if_neg h1, nI_clamp (by omega)]
  by_cases h2 : V 267 2 = 0
  · right
    rw [if_pos h2]
    refine ⟨_, rfl, by omega, by rw [h2, nI_0], ?_, v2_s, fun t j ht => v2_n (fun q => ht ⟨q.1, Or.inl q.2⟩)⟩
    rw [v2_k (by omega), nI_z]
  · left
    rw [if_neg h2]
    by_cases h3 : V 267 2 ≤ 0
    · rw [if_pos h3]
      refine ⟨_, rfl, by rw [v2_s]; rfl, Or.inl ⟨?_, v2_k (by omega)⟩, fun t j ht => v2_n (fun q => ht ⟨q.1, Or.inr q.2⟩)⟩
      exact Int32.lt_of_le_of_ne h3 h2
    · rw [if_neg h3]
      have h4 : ¬ V 267 2 < 0 := fun q => h3 (Int32.le_of_lt q)
      obtain ⟨m, hm1, hm2⟩ := nI_of h4
      have hm0 : 1 ≤ m := by
        rcases Nat.eq_zero_or_pos m with q | q
        · rw [q, nI_0] at hm2
          exact absurd hm2 h2
        · exact q
      refine ⟨_, rfl, by rw [v2_s]; rfl, Or.inr ⟨m, hm0, hm1, hm2, ?_⟩, fun t j ht => ?_⟩
      · rw [v2_k (by omega), v2_s, hm2]
        exact pk_sub hm0
      · rw [v2_n (fun q => ht ⟨q.1, Or.inr q.2⟩), v2_n (fun q => ht ⟨q.1, Or.inl q.2⟩)]
/-! bytes -/
theorem by_n : ∀ b, b < 128 → (nI b + nI 0).toInt8.toInt32 = nI b := by decide +kernel
theorem by_m : ∀ b, b < 128 → nI b &&& 255 = nI b := by decide +kernel
theorem mIsRun_1 : ∀ x, x < 1024 → mIsRun (nI x) 1 := by decide +kernel
theorem mPut_s {g : Nat → Int32} {x b : Nat} (hx : x < 1024) (hb : b < 128) : mPut g (nI x) 1 (nI b) x = nI b := by
  unfold mPut
  rw [if_pos (mIsRun_1 x hx), nI_clamp (by omega)]
  unfold mRun
  rw [if_pos ⟨Nat.le_refl x, by show x < x + 1; omega⟩, Nat.sub_self]
  exact by_n b hb
theorem mPut_n {g : Nat → Int32} {x y : Nat} {v : Int32} (hx : x < 1024) (hy : y ≠ x) : mPut g (nI x) 1 v y = g y := by
  unfold mPut
  rw [if_pos (mIsRun_1 x hx), nI_clamp (by omega)]
  unfold mRun
  rw [if_neg]
  show ¬ (x ≤ y ∧ y < x + 1)
  omega
theorem mByte_n {g : Nat → Int32} {x b : Nat} (hx : x < 1024) (hb : b < 128) (hg : g x = nI b) : mByte g (nI x) = nI b := by
  unfold mByte
  rw [if_neg, nI_clamp (by omega), hg]
  · exact by_m b hb
  · intro h
    rcases h with h | h
    · exact nI_pos (by omega) h
    · exact nI_ge (b := 1024) hx (by omega) h
/-! copying what is held to the log -/
theorem chL_spec : ∀ (n i k : Nat) (V P : VV), i + n = 34 → k + cU (nz fun x => V (232 + x) 3) n i ≤ 30 → ¬ V 267 1 = 0 → (∀ x, x < 34 → ¬ V (232 + x) 3 = 0 → ∃ b, b < 80 ∧ V (232 + x) 1 = nI b) →
    (∃ (V' P' : VV) (rw : Nat → Nat), chL n i (nI k) V P = (1, V', P') ∧ okW V V' (cU (nz fun x => V (232 + x) 3) n i) ∧
      (∀ x, k < x → x ≤ k + cU (nz fun x => V (232 + x) 3) n i → rw x < 34 ∧ i ≤ rw x ∧ ¬ V (232 + rw x) 3 = 0 ∧ P' 114 x = V (232 + rw x) 1 ∧ P' (2 + x) = P (80 + rw x)) ∧
      (∀ j, i ≤ j → j < 34 → ¬ V (232 + j) 3 = 0 → ∃ x, k < x ∧ x ≤ k + cU (nz fun x => V (232 + x) 3) n i ∧ rw x = j) ∧
      P' 114 0 = nI (k + cU (nz fun x => V (232 + x) 3) n i) ∧ (∀ x, 1 ≤ x → x ≤ k → P' 114 x = P 114 x) ∧
      (∀ t, t ≠ 114 → ¬ (2 + k < t ∧ t ≤ 2 + k + cU (nz fun x => V (232 + x) 3) n i) → P' t = P t)) ∨
    (∃ (V' P' : VV) (m : Nat), chL n i (nI k) V P = (0, V', P') ∧ m < cU (nz fun x => V (232 + x) 3) n i ∧ noW V V' m ∧ ∀ t, t ≠ 114 → ¬ (2 < t ∧ t ≤ 32) → P' t = P t)
  | 0, i, k, V, P, hi, hk, hon, hby => by
    simp only [cU] at hk
    left
    refine ⟨V, p1 P 114 (mPut (P 114) 0 1 (nI k)), fun _ => 0, rfl, okW.rf V, fun x h1 h2 => ?_, fun j h1 h2 => ?_, ?_, fun x h1 h2 => ?_, fun t h1 h2 => p1_n h1⟩
    · simp only [cU] at h2
      omega
    · omega
    · rw [p1_s]
      simp only [cU, Nat.add_zero]
      have := mPut_s (g := P 114) (x := 0) (b := k) (by omega) (by omega)
      rw [nI_0] at this
      exact this
    · rw [p1_s]
      have := mPut_n (g := P 114) (x := 0) (y := x) (v := nI k) (by omega) (by omega)
      rw [nI_0] at this
      exact this
  | n + 1, i, k, V, P, hi, hk, hon, hby => by
    simp only [cU] at hk ⊢
    simp only [chL]
    by_cases h0 : V (232 + i) 3 = 0
    · rw [if_pos (Or.inl h0)]
      have e0 : (nz (fun x => V (232 + x) 3) i).toNat = 0 := by simp [nz, h0]
      rw [e0, Nat.zero_add] at hk ⊢
      rcases chL_spec n (i + 1) k V P (by omega) hk hon hby with ⟨V', P', rw', q1, q2, q3, q4, q5, q6, q7⟩ | q
      · left
        refine ⟨V', P', rw', q1, q2, fun x h1 h2 => ?_, fun j h1 h2 h3 => ?_, q5, q6, q7⟩
        · obtain ⟨a1, a2, a3⟩ := q3 x h1 h2
          exact ⟨a1, by omega, a3⟩
        · exact q4 j (by
            rcases Nat.lt_or_ge i j with w | w
            · exact w
            · have : j = i := by omega
              rw [this] at h3
              exact absurd h0 h3) h2 h3
      · exact Or.inr q
    · have hc : ¬ (V (232 + i) 3 = 0 ∨ 30 ≤ nI k) := by
        intro h
        rcases h with h | h
        · exact h0 h
        · have e0 : (nz (fun x => V (232 + x) 3) i).toNat = 1 := by simp [nz, h0]
          exact nI_ge (b := 30) (by omega) (by omega) h
      rw [if_neg hc]
      have e0 : (nz (fun x => V (232 + x) 3) i).toNat = 1 := by simp [nz, h0]
      rw [e0] at hk ⊢
      obtain ⟨b, hb1, hb2⟩ := hby i (by omega) h0
      have ek : nI k + 1 = nI (k + 1) := nI_1 k
      have ek2 : 2 + nI (k + 1) = nI (2 + (k + 1)) := nI_add 2 (k + 1)
      rw [ek, ek2, hb2]
      rcases mWrite_on (V := V) (P := p1 P 114 (mPut (P 114) (nI (k + 1)) 1 (nI b))) (b := 2 + (k + 1)) (t := 80 + i) hon (by omega) with ⟨V1, w1, w2⟩ | ⟨V1, w1, w2⟩
      · rw [w1]
        simp only
        rw [if_neg (by decide)]
        rw [p1_n (show 80 + i ≠ 114 by omega)]
        have hr : ∀ x, V1 (232 + x) = V (232 + x) ∨ 35 ≤ x := fun x => by
          rcases Nat.lt_or_ge x 35 with w | w
          · left
            funext j
            exact w2.at (by omega)
          · exact Or.inr w
        have ec : cU (nz fun x => V1 (232 + x) 3) n (i + 1) = cU (nz fun x => V (232 + x) 3) n (i + 1) := cU_congr n (i + 1) (fun j h1 h2 => by
          exact dn_c (w2.at (by omega)))
        generalize hP1 : p1 (p1 P 114 (mPut (P 114) (nI (k + 1)) 1 (nI b))) (2 + (k + 1)) (P (80 + i)) = P1
        have p114 : P1 114 = mPut (P 114) (nI (k + 1)) 1 (nI b) := by rw [← hP1, p1_n (by omega), p1_s]
        have pslot : P1 (2 + (k + 1)) = P (80 + i) := by rw [← hP1, p1_s]
        have pn : ∀ t, t ≠ 114 → t ≠ 2 + (k + 1) → P1 t = P t := fun t h1 h2 => by rw [← hP1, p1_n h2, p1_n h1]
        rcases chL_spec n (i + 1) (k + 1) V1 P1 (by omega) (by rw [ec]; omega) (by rw [w2.on]; exact hon) (fun x hx h => by
          rw [w2.at (by omega)] at h
          rw [w2.at (by omega)]
          exact hby x hx h) with ⟨V', P', rw', q1, q2, q3, q4, q5, q6, q7⟩ | ⟨V', P', m, q1, q2, q3, q4⟩
        · left
          rw [ec] at q2 q3 q4 q5 q7
          refine ⟨V', P', fun x => if x = k + 1 then i else rw' x, q1, w2.tr q2, fun x h1 h2 => ?_, fun j h1 h2 h3 => ?_, ?_, fun x h1 h2 => ?_, fun t h1 h2 => ?_⟩
          · by_cases ex : x = k + 1
            · dsimp only
              rw [if_pos ex, ex]
              refine ⟨by omega, by omega, h0, ?_, ?_⟩
              · rw [q6 (k + 1) (by omega) (by omega), p114, mPut_s (by omega) (by omega), hb2]
              · rw [q7 (2 + (k + 1)) (by omega) (by omega), pslot]
            · dsimp only
              rw [if_neg ex]
              obtain ⟨a1, a2, a3, a4, a5⟩ := q3 x (by omega) (by omega)
              rw [w2.at (by omega)] at a3 a4
              refine ⟨a1, by omega, a3, a4, ?_⟩
              rw [a5, pn _ (by omega) (by omega)]
          · by_cases ej : j = i
            · exact ⟨k + 1, by omega, by omega, by dsimp only; rw [if_pos rfl, ej]⟩
            · obtain ⟨x, a1, a2, a3⟩ := q4 j (by omega) h2 (by rw [w2.at (by omega)]; exact h3)
              exact ⟨x, by omega, by omega, by dsimp only; rw [if_neg (by omega)]; exact a3⟩
          · rw [q5]
            congr 1
            omega
          · rw [q6 x h1 (by omega), p114, mPut_n (by omega) (by omega)]
          · rw [q7 t h1 (by omega), pn t h1 (by omega)]
        · right
          rw [ec] at q2
          refine ⟨V', P', 1 + m, q1, by omega, w2.no q3, fun t h1 h2 => ?_⟩
          rw [q4 t h1 h2, pn t h1 (by omega)]
      · rw [w1]
        simp only
        rw [if_pos trivial]
        right
        exact ⟨V1, _, 0, rfl, by omega, w2, fun t h1 h2 => p1_n h1⟩
end
section
/-! BRINGING HOME, pure -/
theorem mRead_n {P : VV} {b t : Nat} (hb : b < 80) : mRead P (nI b) t = p1 P t (P b) := by
  unfold mRead
  rw [if_neg, nI_clamp (by omega)]
  intro h
  rcases h with h | h
  · exact nI_pos (by omega) h
  · exact nI_ge (b := 80) hb (by omega) h
theorem bhL_spec {N : Nat} (hN : N ≤ 80) (S : Nat → Nat → Int32) (n : Int32) (blk : Nat → Nat) : ∀ (r i : Nat) (V P : VV), i + r ≤ 31 → 1 ≤ i → ¬ V 267 1 = 0 → (∀ x, i ≤ x → x < i + r → isB N (blk x) ∧ P 114 x = nI (blk x) ∧ ∀ j, j < 1024 → P (2 + x) j = S (blk x) j) →
    (∃ V' P' : VV, bhL n r i V P = (n, V', P') ∧ okW V V' (r + 1) ∧ P' 2 0 = 0 ∧ (∀ b, isB N b → (∀ x, i ≤ x → x < i + r → ¬ blk x = b) → P' b = P b) ∧ (∀ b, isB N b → (∃ x, i ≤ x ∧ x < i + r ∧ blk x = b) → ∀ j, j < 1024 → P' b j = S b j) ∧ ∀ t, 80 ≤ t → t ≠ 114 → t ≠ 115 → P' t = P t) ∨
    (∃ (V' P' : VV) (m : Nat), bhL n r i V P = (-1, V', P') ∧ m < r + 1 ∧ noW V V' m ∧ (∀ t, 2 ≤ t → t ≤ 32 → P' t = P t) ∧ (∀ b, isB N b → (∀ x, i ≤ x → x < i + r → ¬ blk x = b) → P' b = P b) ∧ ∀ t, 80 ≤ t → t ≠ 114 → t ≠ 115 → P' t = P t)
  | 0, i, V, P, hi, h1, hon, hx => by
    simp only [bhL, mFin]
    rcases mWrite_on (V := V) (P := p1 P 114 (mPut (P 114) 0 1 0)) (b := 2) (t := 114) hon (by omega) with ⟨V1, w1, w2⟩ | ⟨V1, w1, w2⟩
    · have w1' : mWrite V (p1 P 114 (mPut (P 114) 0 1 0)) 2 114 = (1, V1, p1 (p1 P 114 (mPut (P 114) 0 1 0)) 2 ((p1 P 114 (mPut (P 114) 0 1 0)) 114)) := w1
      rw [w1']
      simp only
      rw [if_neg (by decide)]
      left
      refine ⟨V1, _, rfl, w2, ?_, fun b hb _ => ?_, fun b _ hx => ?_, fun t h2 h3 h4 => ?_⟩
      · rw [p1_s, p1_s]
        have := mPut_s (g := P 114) (x := 0) (b := 0) (by omega) (by omega)
        rw [nI_0] at this
        exact this
      · rw [p1_n (by omega), p1_n (by omega)]
      · obtain ⟨x, a1, a2, -⟩ := hx
        omega
      · rw [p1_n (by omega), p1_n h3]
    · have w1' : mWrite V (p1 P 114 (mPut (P 114) 0 1 0)) 2 114 = (0, V1, p1 P 114 (mPut (P 114) 0 1 0)) := w1
      rw [w1']
      simp only
      rw [if_pos trivial]
      right
      exact ⟨V1, _, 0, rfl, by omega, w2, fun t h2 h3 => p1_n (by omega), fun b hb _ => p1_n (by omega), fun t h2 h3 h4 => p1_n h3⟩
  | r + 1, i, V, P, hi, h1, hon, hx => by
    simp only [bhL]
    obtain ⟨hb, hp, hs⟩ := hx i (Nat.le_refl i) (by omega)
    have e2 : 2 + nI i = nI (2 + i) := nI_add 2 i
    rw [e2, mRead_n (by omega), p1_n (show (114 : Nat) ≠ 115 by omega), mByte_n (x := i) (b := blk i) (by omega) (by omega) hp]
    rcases mWrite_on (V := V) (P := p1 P 115 (P (2 + i))) (b := blk i) (t := 115) hon (by omega) with ⟨V1, w1, w2⟩ | ⟨V1, w1, w2⟩
    · rw [w1]
      simp only
      rw [if_neg (by decide), p1_s]
      generalize hP1 : p1 (p1 P 115 (P (2 + i))) (blk i) (P (2 + i)) = P1
      have pb : P1 (blk i) = P (2 + i) := by rw [← hP1, p1_s]
      have pn : ∀ t, t ≠ 115 → t ≠ blk i → P1 t = P t := fun t h1 h2 => by rw [← hP1, p1_n h2, p1_n h1]
      rcases bhL_spec hN S n blk r (i + 1) V1 P1 (by omega) (by omega) (by rw [w2.on]; exact hon) (fun x h2 h3 => by
        obtain ⟨a1, a2, a3⟩ := hx x (by omega) (by omega)
        refine ⟨a1, ?_, fun j hj => ?_⟩
        · rw [pn 114 (by omega) (by omega)]
          exact a2
        · rw [pn (2 + x) (by omega) (by omega)]
          exact a3 j hj) with ⟨V', P', q1, q2, q3, q4, q5, q6⟩ | ⟨V', P', m, q1, q2, q3, q4, q5, q6⟩
      · left
        refine ⟨V', P', q1, ?_, q3, fun b hb' hn => ?_, fun b hb' he => ?_, fun t h2 h3 h4 => ?_⟩
        · have := w2.tr q2
          rw [show 1 + (r + 1) = r + 1 + 1 by omega] at this
          exact this
        · rw [q4 b hb' (fun x h2 h3 => hn x (by omega) (by omega)), pn b (by omega) (fun q => hn i (Nat.le_refl i) (by omega) q.symm)]
        · by_cases hl : ∃ x, i + 1 ≤ x ∧ x < i + 1 + r ∧ blk x = b
          · exact q5 b hb' hl
          · intro j hj
            obtain ⟨x, a1, a2, a3⟩ := he
            have ex : x = i := by
              rcases Nat.lt_or_ge i x with w | w
              · exact absurd ⟨x, by omega, by omega, a3⟩ hl
              · omega
            subst ex
            rw [q4 b hb' (fun x h2 h3 h4 => hl ⟨x, h2, h3, h4⟩), ← a3, pb]
            exact hs j hj
        · rw [q6 t h2 h3 h4, pn t h4 (by omega)]
      · right
        refine ⟨V', P', 1 + m, q1, by omega, w2.no q3, fun t h2 h3 => ?_, fun b hb' hn => ?_, fun t h2 h3 h4 => ?_⟩
        · rw [q4 t h2 h3, pn t (by omega) (by omega)]
        · rw [q5 b hb' (fun x h2 h3 => hn x (by omega) (by omega)), pn b (by omega) (fun q => hn i (Nat.le_refl i) (by omega) q.symm)]
        · rw [q6 t h2 h3 h4, pn t h4 (by omega)]
    · rw [w1]
      simp only
      rw [if_pos trivial]
      right
      exact ⟨V1, _, 0, rfl, by omega, w2, fun t h2 h3 => p1_n (by omega), fun b hb' _ => p1_n (by omega), fun t h2 h3 h4 => p1_n h4⟩
theorem mRead_2 (P : VV) : mRead P 2 114 = p1 P 114 (P 2) := mRead_n (P := P) (b := 2) (t := 114) (by omega)
theorem mHome_0 {V P : VV} (h : P 2 0 = 0) : mHome V P = (0, V, p1 P 114 (P 2)) := by
  have hb : mByte (P 2) 0 = 0 := mByte_n (g := P 2) (x := 0) (b := 0) (by omega) (by omega) h
  have hn : mN P = 0 := by
    unfold mN
    rw [mRead_2, p1_s, hb]
    rfl
  unfold mHome
  rw [if_pos hn, mRead_2]
theorem mHome_n {V P A : VV} {N n : Nat} {blk : Nat → Nat} (hN : N ≤ 80) (h1 : 1 ≤ n) (h30 : n ≤ 30) (hon : ¬ V 267 1 = 0) (hL : rLog P A N n blk) :
    (∃ V' P' : VV, mHome V P = (nI n, V', P') ∧ okW V V' (n + 1) ∧ rDisk P' A N ∧ ∀ t, 80 ≤ t → t ≠ 114 → t ≠ 115 → P' t = P t) ∨
    (∃ (V' P' : VV) (m : Nat), mHome V P = (-1, V', P') ∧ m < n + 1 ∧ noW V V' m ∧ rLog P' A N n blk ∧ ∀ t, 80 ≤ t → t ≠ 114 → t ≠ 115 → P' t = P t) := by
  obtain ⟨l1, l2, l3⟩ := hL
  have hb : mByte (P 2) 0 = nI n := mByte_n (g := P 2) (x := 0) (b := n) (by omega) (by omega) l1
  have hn : mN P = nI n := by
    unfold mN
    rw [mRead_2, p1_s, hb, if_neg (show ¬ (30 : Int32) < nI n from nI_nlt (a := 30) (b := n) h30 (by omega))]
  have hne : ¬ nI n = 0 := nI_ne0 h1 (by omega)
  unfold mHome
  rw [hn, if_neg hne, mRead_2, nI_clamp (by omega)]
  rcases bhL_spec hN (fun b j => A 273 (1024 * b + j)) (nI n) blk n 1 V (p1 P 114 (P 2)) (by omega) (by omega) hon (fun x h2 h3 => by
    obtain ⟨a1, a2, a3⟩ := l2 x h2 (by omega)
    refine ⟨a1, by rw [p1_s]; exact a2, fun j hj => ?_⟩
    rw [p1_n (by omega)]
    exact a3 j hj) with ⟨V', P', q1, q2, q3, q4, q5, q6⟩ | ⟨V', P', m, q1, q2, q3, q4, q5, q6⟩
  · left
    refine ⟨V', P', q1, q2, ⟨q3, fun b hb' j hj => ?_⟩, fun t h2 h3 h4 => by rw [q6 t h2 h3 h4, p1_n h3]⟩
    by_cases he : ∃ x, 1 ≤ x ∧ x < 1 + n ∧ blk x = b
    · exact q5 b hb' he j hj
    · rw [q4 b hb' (fun x h2 h3 h4 => he ⟨x, h2, h3, h4⟩), p1_n (by omega)]
      exact l3 b hb' (fun x h2 h3 h4 => he ⟨x, h2, by omega, h4⟩) j hj
  · right
    refine ⟨V', P', m, q1, q2, q3, ⟨?_, fun x h2 h3 => ?_, fun b hb' hn' j hj => ?_⟩, fun t h2 h3 h4 => by rw [q6 t h2 h3 h4, p1_n h3]⟩
    · rw [q4 2 (by omega) (by omega), p1_n (by omega)]
      exact l1
    · obtain ⟨a1, a2, a3⟩ := l2 x h2 h3
      refine ⟨a1, ?_, fun j hj => ?_⟩
      · rw [q4 2 (by omega) (by omega), p1_n (by omega)]
        exact a2
      · rw [q4 (2 + x) (by omega) (by omega), p1_n (by omega)]
        exact a3 j hj
    · rw [q5 b hb' (fun x h2 h3 => hn' x h2 (by omega)), p1_n (by omega)]
      exact l3 b hb' hn' j hj
/-- the whole way out: S is what the blocks are to hold behind it -/
theorem mOut_spec {V P A : VV} {N : Nat} (hN : N ≤ 80) (hon : ¬ V 267 1 = 0) (h1 : 1 ≤ hR V 3) (h30 : hR V 3 ≤ 30)
    (hrow : ∀ x, x < 34 → ¬ V (232 + x) 3 = 0 → ∃ b, isB N b ∧ V (232 + x) 1 = nI b ∧ ∀ j, j < 1024 → P (80 + x) j = A 273 (1024 * b + j))
    (hdisk : ∀ b, isB N b → (∀ x, x < 34 → ¬ V (232 + x) 3 = 0 → ¬ V (232 + x) 1 = nI b) → ∀ j, j < 1024 → P b j = A 273 (1024 * b + j)) :
    (∃ (V' P' : VV) (m : Nat), mOut V P = (0, V', P') ∧ m < hR V 3 + 1 ∧ noW V V' m ∧ ∀ t, t ≠ 114 → ¬ (2 < t ∧ t ≤ 32) → P' t = P t) ∨
    (∃ V0 : VV, okW V V0 (hR V 3 + 1) ∧
      ((∃ V' P' : VV, mOut V P = (1, V', P') ∧ okW (v2 V0 269 2 (V0 269 2 + 1)) V' (hR V 3 + 1) ∧ rDisk P' A N ∧ ∀ t, 80 ≤ t → t ≠ 114 → t ≠ 115 → P' t = P t) ∨
       (∃ (V' P' : VV) (m : Nat) (blk : Nat → Nat), mOut V P = (0, V', P') ∧ m < hR V 3 + 1 ∧ noW (v2 V0 269 2 (V0 269 2 + 1)) V' m ∧ rLog P' A N (hR V 3) blk ∧ ∀ t, 80 ≤ t → t ≠ 114 → t ≠ 115 → P' t = P t))) := by
  have hc := chL_spec 34 0 0 V P rfl (by show 0 + hR V 3 ≤ 30; omega) hon (fun x hx h => by
    obtain ⟨b, b1, b2, -⟩ := hrow x hx h
    exact ⟨b, by omega, b2⟩)
  have hcU : cU (nz fun x => V (232 + x) 3) 34 0 = hR V 3 := rfl
  rw [nI_0, hcU] at hc
  unfold mOut mCopy
  rcases hc with ⟨V1, P1, rw', q1, q2, q3, q4, q5, q6, q7⟩ | ⟨V1, P1, m, q1, q2, q3, q4⟩
  · rw [q1]
    simp only
    rw [if_neg (by decide)]
    unfold mOut1
    rw [Nat.zero_add] at q5
    rw [Nat.add_zero] at q7
    rcases mWrite_on (V := V1) (P := P1) (b := 2) (t := 114) (by rw [q2.on]; exact hon) (by omega) with ⟨V2, w1, w2⟩ | ⟨V2, w1, w2⟩
    · have w1' : mWrite V1 P1 2 114 = (1, V2, p1 P1 2 (P1 114)) := w1
      rw [w1']
      simp only
      rw [if_neg (by decide)]
      right
      have hok := q2.tr w2
      refine ⟨V2, hok, ?_⟩
      have hrw : ∀ x, ∃ b, (0 < x → x ≤ hR V 3 → isB N b ∧ V (232 + rw' x) 1 = nI b ∧ ∀ j, j < 1024 → P (80 + rw' x) j = A 273 (1024 * b + j)) := fun x => by
        by_cases hx : 0 < x ∧ x ≤ hR V 3
        · obtain ⟨a1, a2, a3, a4, a5⟩ := q3 x hx.1 (by rw [Nat.zero_add]; exact hx.2)
          obtain ⟨b, b1, b2, b3⟩ := hrow _ a1 a3
          exact ⟨b, fun _ _ => ⟨b1, b2, b3⟩⟩
        · exact ⟨0, fun h2 h3 => absurd ⟨h2, h3⟩ hx⟩
      have hch : ∃ blk : Nat → Nat, ∀ x, 0 < x → x ≤ hR V 3 → isB N (blk x) ∧ V (232 + rw' x) 1 = nI (blk x) ∧ ∀ j, j < 1024 → P (80 + rw' x) j = A 273 (1024 * blk x + j) := ⟨fun x => Classical.choose (hrw x), fun x => Classical.choose_spec (hrw x)⟩
      obtain ⟨blk, hblk⟩ := hch
      have hL : rLog (p1 P1 2 (P1 114)) A N (hR V 3) blk := by
        refine ⟨by rw [p1_s]; exact q5, fun x h2 h3 => ?_, fun b hb hn j hj => ?_⟩
        · obtain ⟨a1, a2, a3, a4, a5⟩ := q3 x h2 (by rw [Nat.zero_add]; exact h3)
          obtain ⟨b1, b2, b3⟩ := hblk x h2 h3
          refine ⟨b1, ?_, fun j hj => ?_⟩
          · rw [p1_s, a4]
            exact b2
          · rw [p1_n (by omega), a5]
            exact b3 j hj
        · rw [p1_n (by omega), q7 b (by omega) (by omega)]
          refine hdisk b hb (fun x hx hh he => ?_) j hj
          obtain ⟨y, y1, y2, y3⟩ := q4 x (by omega) hx hh
          rw [Nat.zero_add] at y2
          refine hn y y1 y2 ?_
          have h4 := (hblk y y1 y2).2.1
          have h5 := (hblk y y1 y2).1
          rw [y3, he] at h4
          exact ((nI_eq (by omega) (by omega)).mp h4).symm
      have hV3 : ¬ (v2 V2 269 2 (V2 269 2 + 1)) 267 1 = 0 := by
        rw [v2_t (by omega), hok.on]
        exact hon
      unfold mOut2
      rcases mHome_n hN h1 h30 hV3 hL with ⟨V', P', g1, g2, g3, g4⟩ | ⟨V', P', m, g1, g2, g3, g4, g5⟩
      · left
        refine ⟨V', P', ?_, g2, g3, fun t h2 h3 h4 => by rw [g4 t h2 h3 h4, p1_n (by omega), q7 t h3 (by omega)]⟩
        rw [g1]
        simp only
        rw [if_neg]
        intro h
        have : (nI (hR V 3)) < 0 := by
          rw [h]
          decide
        exact nI_pos (by omega) this
      · right
        refine ⟨V', P', m, blk, ?_, g2, g3, g4, fun t h2 h3 h4 => by rw [g5 t h2 h3 h4, p1_n (by omega), q7 t h3 (by omega)]⟩
        rw [g1]
        simp only
        rw [if_pos trivial]
    · have w1' : mWrite V1 P1 2 114 = (0, V2, P1) := w1
      rw [w1']
      simp only
      rw [if_pos trivial]
      left
      exact ⟨V2, P1, _, rfl, by omega, q2.no w2, fun t h2 h3 => q7 t h2 (by omega)⟩
  · rw [q1]
    simp only
    rw [if_pos trivial]
    left
    exact ⟨V1, P1, m, rfl, by omega, q3, fun t h2 h3 => q4 t h2 h3⟩
end
section
/-! A COMMIT on both sides, pure -/
theorem rW_ok {V V' R : VV} {k : Nat} (hL : rLf V R) (h : okW V V' k) (hk : k < 2 ^ 31) : ∃ R', rWritten R (nI k) = (1, R') ∧ R' 272 11 = R 272 11 + nI k ∧ rLf V' R' ∧ ∀ t j, ¬ (t = 272 ∧ (j = 10 ∨ j = 11)) → R' t j = R t j := by
  obtain ⟨-, h2, -⟩ := h
  unfold rWritten
  rcases hL with ⟨l1, l2⟩ | ⟨l1, l2⟩
  · rw [if_pos (by rw [l2]; decide)]
    refine ⟨_, rfl, ?_, ?_, fun t j ht => ?_⟩
    · rw [v2_k (by omega), v2_s]
    · left
      rcases h2 with ⟨-, q2⟩ | ⟨m, q1, q2, q3, -⟩
      · exact ⟨by rw [q2]; exact l1, by rw [v2_s]; exact l2⟩
      · rw [q3] at l1
        exact absurd l1 (nI_pos q2)
    · rw [v2_n (fun q => ht ⟨q.1, Or.inl q.2⟩), v2_n (fun q => ht ⟨q.1, Or.inr q.2⟩)]
  · rcases h2 with ⟨q1, -⟩ | ⟨m, q1, q2, q3, q4⟩
    · exact absurd q1 l1
    · rw [q3] at l2
      rw [l2, if_neg (nI_pos q2), if_neg (nI_nlt q1 q2)]
      refine ⟨_, rfl, ?_, ?_, fun t j ht => ?_⟩
      · rw [v2_k (by omega), v2_s]
      · right
        refine ⟨by rw [q4]; exact nI_pos (by omega), ?_⟩
        rw [v2_s, q4]
        exact pk_sub q1
      · rw [v2_n (fun q => ht ⟨q.1, Or.inl q.2⟩), v2_n (fun q => ht ⟨q.1, Or.inr q.2⟩)]
theorem rW_no {V V' R : VV} {m k : Nat} (hL : rLf V R) (h : noW V V' m) (hm : m < k) (hk : k < 2 ^ 31) : ∃ R', rWritten R (nI k) = (0, R') ∧ R' 272 11 = R 272 11 + nI m ∧ R' 272 8 = 0 ∧ ∀ t j, ¬ (t = 272 ∧ (j = 8 ∨ j = 10 ∨ j = 11)) → R' t j = R t j := by
  obtain ⟨h0, h1, -⟩ := h
  unfold rWritten
  rcases hL with ⟨l1, l2⟩ | ⟨l1, l2⟩
  · rw [h1] at l1
    exact absurd l1 (nI_pos h0)
  · rw [h1] at l2
    rw [l2, if_neg (nI_pos h0), if_pos (nI_lt hm hk)]
    refine ⟨_, rfl, ?_, v2_s, fun t j ht => ?_⟩
    · rw [v2_k (by omega), v2_k (by omega), v2_s]
    · rw [v2_n (fun q => ht ⟨q.1, Or.inl q.2⟩), v2_n (fun q => ht ⟨q.1, Or.inr (Or.inl q.2)⟩), v2_n (fun q => ht ⟨q.1, Or.inr (Or.inr q.2)⟩)]
theorem rP_273 (A : VV) (N : Nat) {b j : Nat} (hb : b < N) (hj : j < 1024) : rP A N 273 (1024 * b + j) = if ¬ A 275 b = 0 then A 274 (1024 * b + j) else A 273 (1024 * b + j) := by
  unfold rP
  rw [p1_n (by omega), p1_s]
  unfold rSafe
  have e : (1024 * b + j) / 1024 = b := by omega
  rw [e]
  by_cases h : A 275 b = 0
  · rw [if_neg (fun q => q.2 h), if_neg (fun q => q h)]
  · rw [if_pos ⟨by omega, h⟩, if_pos h]
theorem rP_275 (A : VV) (N b : Nat) : rP A N 275 b = if b < N then 0 else A 275 b := by
  unfold rP
  rw [p1_s]
  rfl
theorem rP_o (A : VV) (N : Nat) {t : Nat} (h1 : t ≠ 273) (h2 : t ≠ 275) : rP A N t = A t := by
  unfold rP
  rw [p1_n h2, p1_n h1]
theorem hB_zero {f : Nat → Int32} (h : ∀ b, b < 80 → f b = 0) : hB f = 0 := cU_zero 80 0 (fun j _ hj => by simp [nz, h j (by omega)])
theorem hR_zero {V : VV} {k : Nat} (h : ∀ i, i < 34 → V (232 + i) k = 0) : hR V k = 0 := cU_zero 34 0 (fun j _ hj => by simp [nz, h j (by omega)])
/-- which row holds a block that is stamped -/
theorem rRows.row {V P A : VV} {N u b : Nat} (h : rRows V P A N u) (hN : N ≤ 80) (hb : b < 80) (hs : ¬ A 277 b = 0) : ∃ i, i < 34 ∧ fRow V P A N i b := by
  obtain ⟨b1, b2, b3, b4, b5, b6⟩ := h
  rcases b3 b hb with q | ⟨q, i, hi, e⟩
  · exact absurd q hs
  · refine ⟨i, hi, ?_⟩
    rcases b1 i hi with w | ⟨b', w⟩
    · rw [w.1] at e
      have : nI b < 0 := by rw [← e]; decide
      exact absurd this (nI_pos (by omega))
    · have e2 := w.2.1
      have hb' := w.1
      rw [e] at e2
      have e3 : b = b' := (nI_eq (by omega) (by omega)).mp e2
      rw [e3]
      exact w
/-- what stands behind a commit that went through, or not -/
theorem sim_commit {V P R A : VV} {N u : Nat} (hA : rA V R N u) (hon : V 267 1 = 1) (hst : V 266 4 = 0) (hLf : rLf V R) (hun : R 272 14 = -1) (hrows : rRows V P A N u) (hcnt : hR V 3 = hB (A 275)) (hcnt3 : cU (fun i => decide (¬ V (232 + i) 1 = -1)) 34 0 = hB (A 277)) (hd : rDisk P A N) (hcl : rClean A N) (h1 : 1 ≤ hR V 3) (h30 : hR V 3 ≤ 30) :
    ∃ (r1 r2 : Int32) (V' P' R' A' : VV), mCommit V P = (r1, V', P') ∧ rCommit R A = (r2, R', A') ∧ (r1 = 0 ↔ r2 = 0) ∧ rA V' R' N u ∧ (V' 267 1 = 1 → rOn V' P' R' A' N u) ∧ (V' 267 1 = 0 → rOff V' P' R' A' N) := by
  have hon' : ¬ V 267 1 = 0 := by rw [hon]; decide
  have hN : N ≤ 80 := hA.2.2.2.1
  have hrow : ∀ x, x < 34 → ¬ V (232 + x) 3 = 0 → ∃ b, isB N b ∧ V (232 + x) 1 = nI b ∧ ∀ j, j < 1024 → P (80 + x) j = rP A N 273 (1024 * b + j) := fun x hx hh => by
    rcases hrows.1 x hx with w | ⟨b, w⟩
    · exact absurd w.2.2.1 hh
    · obtain ⟨w1, w2, w3, w4, w5, w6, w7, w8⟩ := w
      refine ⟨b, w1, w2, fun j hj => ?_⟩
      rw [rP_273 A N w1.1 hj, if_pos (by rw [← w5]; exact hh)]
      exact w8 j hj
  have hdisk : ∀ b, isB N b → (∀ x, x < 34 → ¬ V (232 + x) 3 = 0 → ¬ V (232 + x) 1 = nI b) → ∀ j, j < 1024 → P b j = rP A N 273 (1024 * b + j) := fun b hb hn j hj => by
    have h0 : A 275 b = 0 := Decidable.byContradiction fun h0 => by
      obtain ⟨i, hi, w⟩ := hrows.row hN (b := b) (by omega) ((hrows.2.2.2.2.2 b (by omega)).2.1 h0)
      exact hn i hi (by rw [w.2.2.2.2.1]; exact h0) w.2.1
    rw [rP_273 A N hb.1 hj, if_neg (fun q => q h0)]
    exact hd.2 b hb j hj
  have hm : rMany (A 275) + 1 = nI (hR V 3 + 1) := by rw [rMany_eq, ← hcnt, nI_1]
  obtain ⟨a1, a2, a3, a4, a5, a6, a7, a8, a9, a10, a11, a12, a13⟩ := hA
  unfold mCommit rCommit
  rw [hm]
  rcases mOut_spec hN hon' h1 h30 hrow hdisk with ⟨V', P', m, q1, q2, q3, q4⟩ | ⟨V0, g0, hcase⟩
  · obtain ⟨R', r1, r2, r3, r4⟩ := rW_no hLf q3 q2 (by omega)
    have ev : ∀ t j, t < 232 ∨ 266 ≤ t → eR 34 0 V' t j = V' t j := fun t j ht => by
      rw [eR_at, if_neg (by omega)]
    have er : ∀ i, i < 34 → eRow (eR 34 0 V') i := fun i hi => by
      refine ⟨?_, ?_, ?_, ?_⟩ <;> (rw [eR_at, if_pos (by omega)]; rfl)
    rw [q1, r1]
    simp only
    rw [if_pos trivial, if_pos trivial]
    refine ⟨0, 0, _, _, _, _, rfl, rfl, Iff.rfl, ?_, fun hx => ?_, fun _ => ?_⟩
    · refine ⟨?_, ?_, a3, a4, ?_, ?_, ?_, ?_, ?_, ?_, ?_, ?_, ?_⟩
      · rw [ev _ _ (by omega), q3.at (by omega)]; exact a1
      · rw [r4 _ _ (by omega)]; exact a2
      · rw [ev _ _ (by omega), q3.at (by omega)]; exact a5
      · rw [r4 _ _ (by omega)]; exact a6
      · rw [r2, ev _ _ (by omega), q3.2.2.1, a7]
      · rw [r4 _ _ (by omega), ev _ _ (by omega), q3.at (by omega)]; exact a8
      · rw [r4 _ _ (by omega), ev _ _ (by omega), q3.at (by omega)]; exact a9
      · rw [r4 _ _ (by omega), ev _ _ (by omega), q3.at (by omega)]; exact a10
      · rw [r3, ev _ _ (by omega), q3.2.2.2.1]
      · rw [ev _ _ (by omega), q3.at (by omega)]; exact a12
      · rw [ev _ _ (by omega), q3.2.2.2.1]; exact Or.inl rfl
    · rw [ev _ _ (by omega), q3.2.2.2.1] at hx
      exact absurd hx (by decide)
    · refine ⟨?_, er, Or.inl ⟨?_, ?_, fun b hb j hj => ?_⟩⟩
      · rw [ev _ _ (by omega), q3.at (by omega)]; exact hst
      · rw [r4 _ _ (by omega)]; exact hun
      · rw [q4 2 (by omega) (by omega)]; exact hd.1
      · rw [q4 b (by omega) (by omega)]; exact hd.2 b hb j hj
  · obtain ⟨R0, r1, r2, r3, r4⟩ := rW_ok hLf g0 (by omega)
    rw [r1]
    simp only
    rw [if_neg (show ¬ (1 : Int32) = 0 by decide)]
    unfold rCommit2
    have e1 : (R0 272 1).toNatClampNeg = N := by rw [r4 _ _ (by omega), a2, nI_clamp (by omega)]
    rw [e1]
    generalize hR1 : v2 (v2 R0 272 13 (R0 272 13 + 1)) 272 14 (rMany (A 275)) = R1
    have s14 : R1 272 14 = nI (hR V 3) := by rw [← hR1, v2_s, rMany_eq, ← hcnt]
    have s13 : R1 272 13 = R 272 13 + 1 := by rw [← hR1, v2_k (by omega), v2_s, r4 _ _ (by omega)]
    have so : ∀ j, j ≠ 13 → j ≠ 14 → R1 272 j = R0 272 j := fun j h2 h3 => by rw [← hR1, v2_k h3, v2_k h2]
    have l1 : rLf (v2 V0 269 2 (V0 269 2 + 1)) R1 := by
      have := r3
      unfold rLf at this ⊢
      rw [v2_t (by omega), so _ (by omega) (by omega)]
      exact this
    have e2 : R1 272 14 + 1 = nI (hR V 3 + 1) := by rw [s14, nI_1]
    unfold rEnded
    rw [e2]
    rcases hcase with ⟨V', P', q1, q2, q3, q4⟩ | ⟨V', P', m, blk, q1, q2, q3, q4, q5⟩
    · obtain ⟨R2, t1, t2, t3, t4⟩ := rW_ok l1 q2 (by omega)
      rw [q1, t1]
      simp only
      rw [if_neg (show ¬ (1 : Int32) = 0 by decide)]
      have ev : ∀ t j, t < 232 ∨ 266 ≤ t ∨ j ≠ 3 → zR 3 34 0 V' t j = V' t j := fun t j ht => by
        rw [zR_at, if_neg (by omega)]
      have ez : ∀ i, i < 34 → zR 3 34 0 V' (232 + i) 3 = 0 := fun i hi => by rw [zR_at, if_pos (by omega)]
      have eV : ∀ t j, t ≠ 267 → ¬ (t = 269 ∧ j = 2) → V' t j = V t j := fun t j h2 h3 => by
        rw [q2.at h2, v2_n h3, g0.at h2]
      have eR2 : ∀ j, j ≠ 10 → j ≠ 11 → j ≠ 13 → j ≠ 14 → R2 272 j = R 272 j := fun j h2 h3 h4 h5 => by
        rw [t4 _ _ (by omega), so _ h4 h5, r4 _ _ (by omega)]
      refine ⟨1, 1, _, _, _, _, rfl, rfl, Iff.rfl, ?_, fun _ => ?_, fun hx => ?_⟩
      · refine ⟨?_, ?_, a3, a4, ?_, ?_, ?_, ?_, ?_, ?_, ?_, ?_, ?_⟩
        · rw [ev _ _ (by omega), eV _ _ (by omega) (by omega)]; exact a1
        · rw [v2_k (by omega), eR2 _ (by omega) (by omega) (by omega) (by omega)]; exact a2
        · rw [ev _ _ (by omega), eV _ _ (by omega) (by omega)]; exact a5
        · rw [v2_k (by omega), eR2 _ (by omega) (by omega) (by omega) (by omega)]; exact a6
        · rw [v2_k (by omega), t2, so _ (by omega) (by omega), r2, ev _ _ (by omega), q2.1, v2_t (by omega), g0.1, a7]
        · rw [v2_k (by omega), eR2 _ (by omega) (by omega) (by omega) (by omega), ev _ _ (by omega), eV _ _ (by omega) (by omega)]; exact a8
        · rw [v2_k (by omega), t4 _ _ (by omega), s13, ev _ _ (by omega), q2.at (by omega), v2_s, g0.at (by omega), a9]
        · rw [v2_k (by omega), eR2 _ (by omega) (by omega) (by omega) (by omega), ev _ _ (by omega), eV _ _ (by omega) (by omega)]; exact a10
        · rw [v2_k (by omega), eR2 _ (by omega) (by omega) (by omega) (by omega), ev _ _ (by omega), q2.on, v2_t (by omega), g0.on]; exact a11
        · rw [ev _ _ (by omega), eV _ _ (by omega) (by omega)]; exact a12
        · rw [ev _ _ (by omega), q2.on, v2_t (by omega), g0.on]; exact a13
      · have c277 : rP A N 277 = A 277 := rP_o A N (by omega) (by omega)
        have c276 : rP A N 276 = A 276 := rP_o A N (by omega) (by omega)
        have c274 : rP A N 274 = A 274 := rP_o A N (by omega) (by omega)
        have c275 : ∀ b, b < 80 → rP A N 275 b = 0 := fun b hb => by
          rw [rP_275]
          by_cases hbN : b < N
          · rw [if_pos hbN]
          · rw [if_neg hbN]
            refine Decidable.byContradiction fun h0 => ?_
            rcases hrows.2.2.1 b hb with w | w
            · exact (hrows.2.2.2.2.2 b hb).2.1 h0 w
            · exact hbN w.1.1
        have v4 : zR 3 34 0 V' 266 4 = 0 := by rw [ev _ _ (by omega), eV _ _ (by omega) (by omega)]; exact hst
        have vrow : ∀ i j, i < 34 → j ≠ 3 → zR 3 34 0 V' (232 + i) j = V (232 + i) j := fun i j hi hj => by rw [ev _ _ (by omega), eV _ _ (by omega) (by omega)]
        obtain ⟨b1, b2, b3, b4, b5, b6⟩ := hrows
        refine ⟨?_, v2_s, ⟨fun i hi => ?_, fun i j b hi hj hb e1 e2 => ?_, fun b hb => ?_, fun b hb => ?_, fun b b' hb hb' => ?_, fun b hb => ?_⟩, ⟨?_, fun hx => absurd v4 hx, ?_, fun _ => ?_, fun hx => absurd v4 hx⟩, q3, fun b hb _ j hj => ?_⟩
        · unfold rLf at t3 ⊢
          rw [ev _ _ (by omega), v2_k (by omega)]
          exact t3
        · rcases b1 i hi with w | ⟨b, w1, w2, w3, w4, w5, w6, w7, w8⟩
          · left
            exact ⟨by rw [vrow i 1 hi (by omega)]; exact w.1, by rw [vrow i 2 hi (by omega)]; exact w.2.1, ez i hi, by rw [vrow i 4 hi (by omega)]; exact w.2.2.2⟩
          · right
            refine ⟨b, w1, by rw [vrow i 1 hi (by omega)]; exact w2, by rw [vrow i 2 hi (by omega), c277]; exact w3, by rw [c277]; exact w4, by rw [ez i hi, c275 b (by omega)], fun _ => ?_, fun hx => absurd v4 hx, fun j hj => ?_⟩
            · rw [vrow i 4 hi (by omega)]
              exact w6 hst
            · rw [q4 (80 + i) (by omega) (by omega) (by omega), c274]
              exact w8 j hj
        · rw [vrow i 1 hi (by omega)] at e1
          rw [vrow j 1 hj (by omega)] at e2
          exact b2 i j b hi hj hb e1 e2
        · rw [c277]
          rcases b3 b hb with w | ⟨w, i, hi, e⟩
          · exact Or.inl w
          · exact Or.inr ⟨w, i, hi, by rw [vrow i 1 hi (by omega)]; exact e⟩
        · rw [c277]
          exact b4 b hb
        · rw [c277]
          exact b5 b b' hb hb'
        · rw [c275 b hb]
          exact ⟨Or.inl rfl, fun hx => absurd rfl hx, fun hx => absurd v4 hx⟩
        · rw [hR_zero ez, hB_zero c275]
        · rw [c277, ← hcnt3]
          exact cU_congr 34 0 (fun j _ hj => dn_c (vrow j 1 (by omega) (by omega)))
        · rw [hB_zero c275]
          omega
        · rw [c274, rP_273 A N hb.1 hj]
          by_cases h0 : A 275 b = 0
          · rw [if_neg (fun q => q h0)]
            exact hcl b hb h0 j hj
          · rw [if_pos h0]
      · rw [ev _ _ (by omega), q2.on, v2_t (by omega), g0.on] at hx
        exact absurd hx hon'
    · obtain ⟨R2, t1, t2, t3, t4⟩ := rW_no l1 q3 q2 (by omega)
      rw [q1, t1]
      simp only
      rw [if_pos trivial, if_pos trivial]
      have ev : ∀ t j, t < 232 ∨ 266 ≤ t → eR 34 0 V' t j = V' t j := fun t j ht => by
        rw [eR_at, if_neg (by omega)]
      have er : ∀ i, i < 34 → eRow (eR 34 0 V') i := fun i hi => by
        refine ⟨?_, ?_, ?_, ?_⟩ <;> (rw [eR_at, if_pos (by omega)]; rfl)
      have eV : ∀ t j, t ≠ 267 → ¬ (t = 269 ∧ j = 2) → V' t j = V t j := fun t j h2 h3 => by
        rw [q3.at h2, v2_n h3, g0.at h2]
      have eR2 : ∀ j, j ≠ 8 → j ≠ 10 → j ≠ 11 → j ≠ 13 → j ≠ 14 → R2 272 j = R 272 j := fun j h1 h2 h3 h4 h5 => by
        rw [t4 _ _ (by omega), so _ h4 h5, r4 _ _ (by omega)]
      refine ⟨0, 0, _, _, _, _, rfl, rfl, Iff.rfl, ?_, fun hx => ?_, fun _ => ?_⟩
      · refine ⟨?_, ?_, a3, a4, ?_, ?_, ?_, ?_, ?_, ?_, ?_, ?_, ?_⟩
        · rw [ev _ _ (by omega), eV _ _ (by omega) (by omega)]; exact a1
        · rw [v2_k (by omega), eR2 _ (by omega) (by omega) (by omega) (by omega) (by omega)]; exact a2
        · rw [ev _ _ (by omega), eV _ _ (by omega) (by omega)]; exact a5
        · rw [v2_k (by omega), eR2 _ (by omega) (by omega) (by omega) (by omega) (by omega)]; exact a6
        · rw [v2_k (by omega), t2, so _ (by omega) (by omega), r2, ev _ _ (by omega), q3.2.2.1, v2_t (by omega), g0.1, a7]
        · rw [v2_k (by omega), eR2 _ (by omega) (by omega) (by omega) (by omega) (by omega), ev _ _ (by omega), eV _ _ (by omega) (by omega)]; exact a8
        · rw [v2_k (by omega), t4 _ _ (by omega), s13, ev _ _ (by omega), q3.at (by omega), v2_s, g0.at (by omega), a9]
        · rw [v2_k (by omega), eR2 _ (by omega) (by omega) (by omega) (by omega) (by omega), ev _ _ (by omega), eV _ _ (by omega) (by omega)]; exact a10
        · rw [v2_k (by omega), t3, ev _ _ (by omega), q3.2.2.2.1]
        · rw [ev _ _ (by omega), eV _ _ (by omega) (by omega)]; exact a12
        · rw [ev _ _ (by omega), q3.2.2.2.1]; exact Or.inl rfl
      · rw [ev _ _ (by omega), q3.2.2.2.1] at hx
        exact absurd hx (by decide)
      · refine ⟨?_, er, Or.inr ⟨hR V 3, blk, h1, h30, ?_, q4⟩⟩
        · rw [ev _ _ (by omega), eV _ _ (by omega) (by omega)]; exact hst
        · rw [v2_s, t4 _ _ (by omega)]; exact s14
end
section
/-! LOOKING AT A BLOCK on both sides, pure -/
/-- in which order rows give way -/
def kx (V : VV) (i : Nat) : Nat := (V (232 + i) 2).toNatClampNeg + (if V (232 + i) 3 = 0 then 0 else 2 ^ 31)
def kOk (V : VV) : Prop := ∀ i, i < 34 → (∃ x, x < 2 ^ 31 ∧ V (232 + i) 2 = nI x) ∧ (V (232 + i) 3 = 0 ∨ V (232 + i) 3 = 1)
theorem mGW_kx {V : VV} (h : kOk V) {i j : Nat} (hi : i < 34) (hj : j < 34) : mGW V i j = 0 ↔ kx V j ≤ kx V i := by
  obtain ⟨⟨x, x1, x2⟩, x3⟩ := h i hi
  obtain ⟨⟨y, y1, y2⟩, y3⟩ := h j hj
  unfold mGW kx
  rw [x2, y2, nI_clamp x1, nI_clamp y1]
  have hle : nI y ≤ nI x ↔ y ≤ x := nI_leI y1 x1
  rcases x3 with x3 | x3 <;> rcases y3 with y3 | y3 <;> rw [x3, y3]
  · rw [if_pos rfl, if_pos rfl]
    by_cases q : y ≤ x
    · rw [if_pos (hle.mpr q)]
      exact ⟨fun _ => by omega, fun _ => rfl⟩
    · rw [if_neg (fun w => q (hle.mp w))]
      exact ⟨fun w => absurd w (by decide), fun w => by omega⟩
  · rw [if_neg (by decide), if_neg (by decide), if_pos rfl]
    exact ⟨fun w => absurd w (by decide), fun w => by omega⟩
  · rw [if_neg (by decide), if_pos rfl, if_neg (by decide)]
    exact ⟨fun _ => by omega, fun _ => rfl⟩
  · rw [if_pos rfl, if_neg (show ¬ (1 : Int32) = 0 by decide)]
    by_cases q : y ≤ x
    · rw [if_pos (hle.mpr q)]
      exact ⟨fun _ => by omega, fun _ => rfl⟩
    · rw [if_neg (fun w => q (hle.mp w))]
      exact ⟨fun w => absurd w (by decide), fun w => by omega⟩
theorem gL_min {V : VV} (h : kOk V) : ∀ (n i f : Nat), f < 34 → i + n ≤ 34 → kx V (gL V n i f) ≤ kx V f ∧ ∀ x, i ≤ x → x < i + n → kx V (gL V n i f) ≤ kx V x
  | 0, i, f, _, _ => ⟨Nat.le_refl _, fun x h1 h2 => by omega⟩
  | n + 1, i, f, hf, hi => by
    simp only [gL]
    by_cases e : mGW V i f = 0
    · rw [if_pos e]
      have e2 := (mGW_kx h (by omega) hf).mp e
      obtain ⟨a1, a2⟩ := gL_min h n (i + 1) f hf (by omega)
      refine ⟨a1, fun x h1 h2 => ?_⟩
      by_cases ex : x = i
      · rw [ex]
        omega
      · exact a2 x (by omega) (by omega)
    · rw [if_neg e]
      have e2 : ¬ kx V f ≤ kx V i := fun q => e ((mGW_kx h (by omega) hf).mpr q)
      obtain ⟨a1, a2⟩ := gL_min h n (i + 1) i (by omega) (by omega)
      refine ⟨by omega, fun x h1 h2 => ?_⟩
      by_cases ex : x = i
      · rw [ex]
        exact a1
      · exact a2 x (by omega) (by omega)
theorem mGive_min {V : VV} (h : kOk V) {x : Nat} (hx : x < 34) : kx V (mGive V) ≤ kx V x := (gL_min h 34 0 0 (by omega) (by omega)).2 x (by omega) (by omega)
theorem cU_split (q : Nat → Bool) : ∀ (a b i : Nat), cU q (a + b) i = cU q a i + cU q b (i + a)
  | 0, b, i => by simp [cU]
  | a + 1, b, i => by
    rw [show a + 1 + b = (a + b) + 1 by omega]
    simp only [cU]
    rw [cU_split q a b (i + 1), show i + 1 + a = i + (a + 1) by omega]
    omega
/-- the reference's scan -/
theorem lkL_spec {st hd : Nat → Int32} (hst : ∀ k, k < 80 → ∃ x, x < 2 ^ 31 ∧ st k = nI x) : ∀ (n k r : Nat) (o : Int32), k + n ≤ 80 →
    ((o = -1 ∧ ∀ j, j < k → ¬ st j = 0 → ¬ hd j = 0) ∨ ∃ x, x < k ∧ o = nI x ∧ ¬ st x = 0 ∧ hd x = 0 ∧ ∀ j, j < k → ¬ st j = 0 → hd j = 0 → st x ≤ st j) →
    (lkL st hd n k (nI r) o).1 = nI (r + cU (nz st) n k) ∧
    (((lkL st hd n k (nI r) o).2 = -1 ∧ ∀ j, j < k + n → ¬ st j = 0 → ¬ hd j = 0) ∨ ∃ x, x < k + n ∧ (lkL st hd n k (nI r) o).2 = nI x ∧ ¬ st x = 0 ∧ hd x = 0 ∧ ∀ j, j < k + n → ¬ st j = 0 → hd j = 0 → st x ≤ st j)
  | 0, k, r, o, _, h => by
    simp only [lkL, cU, Nat.add_zero]
    exact ⟨trivial, h⟩
  | n + 1, k, r, o, hk, h => by
    simp only [lkL, cU]
    obtain ⟨y, y1, y2⟩ := hst k (by omega)
    have hle : st k ≤ 0 ↔ st k = 0 := by
      rw [y2]
      constructor
      · intro q
        rcases Nat.eq_zero_or_pos y with w | w
        · rw [w, nI_0]
        · exact absurd q (nI_nle w y1)
      · intro q
        rw [q]
        decide
    have e1 : (if st k ≤ 0 then nI r + 0 else nI r + 1) = nI (r + (nz st k).toNat) := by
      by_cases q : st k = 0
      · rw [if_pos (hle.mpr q), Int32.add_zero]
        simp [nz, q]
      · rw [if_neg (fun w => q (hle.mp w)), nI_1]
        simp [nz, q]
    rw [e1]
    have key := lkL_spec hst n (k + 1) (r + (nz st k).toNat) (if st k ≤ 0 ∨ ¬ hd k = 0 ∨ (¬ o < 0 ∧ st o.toNatClampNeg ≤ st k) then o else nI k) (by omega) (by
      by_cases c1 : st k = 0
      · rw [if_pos (Or.inl (hle.mpr c1))]
        rcases h with ⟨h1, h2⟩ | ⟨x, h1, h2, h3, h4, h5⟩
        · refine Or.inl ⟨h1, fun j hj hs => ?_⟩
          by_cases ej : j = k
          · rw [ej] at hs
            exact absurd c1 hs
          · exact h2 j (by omega) hs
        · refine Or.inr ⟨x, by omega, h2, h3, h4, fun j hj hs hh => ?_⟩
          by_cases ej : j = k
          · rw [ej] at hs
            exact absurd c1 hs
          · exact h5 j (by omega) hs hh
      · by_cases c2 : hd k = 0
        · rcases h with ⟨h1, h2⟩ | ⟨x, h1, h2, h3, h4, h5⟩
          · rw [if_neg (fun q => by
              rcases q with q | q | q
              · exact c1 (hle.mp q)
              · exact q c2
              · exact q.1 (by rw [h1]; decide))]
            exact Or.inr ⟨k, by omega, rfl, c1, c2, fun j hj hs hh => by
              by_cases ej : j = k
              · rw [ej]
                exact Int32.le_refl _
              · exact absurd hh (h2 j (by omega) hs)⟩
          · have ho : ¬ o < 0 := by rw [h2]; exact nI_pos (by omega)
            have hc : o.toNatClampNeg = x := by rw [h2]; exact nI_clamp (by omega)
            rw [hc]
            by_cases c3 : st x ≤ st k
            · rw [if_pos (Or.inr (Or.inr ⟨ho, c3⟩))]
              refine Or.inr ⟨x, by omega, h2, h3, h4, fun j hj hs hh => ?_⟩
              by_cases ej : j = k
              · rw [ej]
                exact c3
              · exact h5 j (by omega) hs hh
            · rw [if_neg (fun q => by
                rcases q with q | q | q
                · exact c1 (hle.mp q)
                · exact q c2
                · exact c3 q.2)]
              have c4 : st k ≤ st x := Int32.le_of_lt (Int32.not_le.mp c3)
              refine Or.inr ⟨k, by omega, rfl, c1, c2, fun j hj hs hh => ?_⟩
              by_cases ej : j = k
              · rw [ej]
                exact Int32.le_refl _
              · exact Int32.le_trans c4 (h5 j (by omega) hs hh)
        · rw [if_pos (Or.inr (Or.inl c2))]
          rcases h with ⟨h1, h2⟩ | ⟨x, h1, h2, h3, h4, h5⟩
          · refine Or.inl ⟨h1, fun j hj hs => ?_⟩
            by_cases ej : j = k
            · rw [ej]
              exact c2
            · exact h2 j (by omega) hs
          · refine Or.inr ⟨x, by omega, h2, h3, h4, fun j hj hs hh => ?_⟩
            by_cases ej : j = k
            · rw [ej] at hh
              exact absurd hh c2
            · exact h5 j (by omega) hs hh)
    rw [show k + 1 + n = k + (n + 1) by omega] at key
    rw [show r + ((nz st k).toNat + cU (nz st) n (k + 1)) = r + (nz st k).toNat + cU (nz st) n (k + 1) by omega]
    exact key
theorem rRows.kOk {V P A : VV} {N u : Nat} (h : rRows V P A N u) (hN : N ≤ 80) (hu : u < 2 ^ 31) : kOk V := by
  intro i hi
  rcases h.1 i hi with w | ⟨b, w1, w2, w3, w4, w5, -⟩
  · exact ⟨⟨0, by omega, by rw [w.2.1, nI_0]⟩, Or.inl w.2.2.1⟩
  · obtain ⟨x, x1, x2⟩ := h.2.2.2.1 b (by omega)
    refine ⟨⟨x, by omega, by rw [w3, x2]⟩, ?_⟩
    rw [w5]
    exact (h.2.2.2.2.2 b (by omega)).1
/-- how many blocks are stamped, as the scan counts them -/
theorem rRows.cntN {V P A : VV} {N u : Nat} (h : rRows V P A N u) (hN : N ≤ 80) : cU (nz (A 277)) N 0 = hB (A 277) := by
  have e := cU_split (nz (A 277)) N (80 - N) 0
  rw [show N + (80 - N) = 80 by omega] at e
  rw [cU_zero (80 - N) (0 + N) (fun j h1 h2 => by
    rcases h.2.2.1 j (by omega) with w | w
    · simp [nz, w]
    · have := w.1.1
      omega)] at e
  show _ = cU (nz (A 277)) 80 0
  omega
theorem neg1_ne {b : Nat} (h : b < 80) : ¬ (-1 : Int32) = nI b := fun q => by
  have : nI b < 0 := by rw [← q]; decide
  exact nI_pos (by omega) this
theorem mRow_find {V : VV} {b i : Nat} (hb : b < 80) (hi : i < 34) (h : V (232 + i) 1 = nI b) (hd : ∀ i j, i < 34 → j < 34 → V (232 + i) 1 = nI b → V (232 + j) 1 = nI b → i = j) : mRow V (nI b) = some i := by
  cases hr : mRow V (nI b) with
  | none => exact absurd h (mRow_none hr hi)
  | some x =>
    obtain ⟨h1, h2⟩ := mRow_some hr
    rw [hd x i h1 hi h2 h]
theorem nI_lt_ne {x y : Nat} (hx : x < 2 ^ 31) (hy : y < 2 ^ 31) (h : x ≠ y) : ¬ nI x = nI y := fun q => h ((nI_eq hx hy).mp q)
/-- the block is in a row: it is stamped anew -/
theorem sim_look1 {V P R A : VV} {N u b i : Nat} (hA : rA V R N u) (h : rOn V P R A N u) (hb : isB N b) (hi : i < 34) (hf : fRow V P A N i b) (hu : u + 1 < 2 ^ 31) :
    rA (mTouch V i) (rTick (r0 R)) N (u + 1) ∧ rOn (mTouch V i) P (rTick (r0 R)) (rStamp (r0 R) A b) N (u + 1) ∧ fRow (mTouch V i) P (rStamp (r0 R) A b) N i b := by
  obtain ⟨a1, a2, a3, a4, a5, a6, a7, a8, a9, a10, a11, a12, a13⟩ := hA
  obtain ⟨o1, o2, ⟨b1, b2, b3, b4, b5, b6⟩, ⟨c1, c2, c3, c4, c5⟩, o5, o6⟩ := h
  have t1 : V 268 1 + 1 = nI (u + 1) := by rw [a5, nI_1]
  have t2 : r0 R 272 7 + 1 = nI (u + 1) := by rw [r0, v2_k (by omega), a6, nI_1]
  have vt : ∀ t j, ¬ (t = 268 ∧ j = 1) → ¬ (t = 232 + i ∧ j = 2) → mTouch V i t j = V t j := fun t j h1 h2 => by
    unfold mTouch
    rw [v2_n h2, v2_n h1]
  have v68 : mTouch V i 268 1 = nI (u + 1) := by
    unfold mTouch
    rw [v2_t (by omega), v2_s, t1]
  have vi2 : mTouch V i (232 + i) 2 = nI (u + 1) := by
    unfold mTouch
    rw [v2_s, t1]
  have rt : ∀ j, j ≠ 0 → j ≠ 7 → rTick (r0 R) 272 j = R 272 j := fun j h1 h2 => by
    unfold rTick r0
    rw [v2_k h2, v2_k h1]
  have r7 : rTick (r0 R) 272 7 = nI (u + 1) := by
    unfold rTick
    rw [v2_s, t2]
  have s7b : rStamp (r0 R) A b 277 b = nI (u + 1) := by
    unfold rStamp
    rw [p1_s, pk_us, t2]
  have s7 : ∀ x, x ≠ b → rStamp (r0 R) A b 277 x = A 277 x := fun x hx => by
    unfold rStamp
    rw [p1_s, pk_un hx]
  have so : ∀ t, t ≠ 277 → rStamp (r0 R) A b t = A t := fun t ht => by
    unfold rStamp
    rw [p1_n ht]
  have hnz : ¬ nI (u + 1) = 0 := nI_ne0 (by omega) (by omega)
  have vr : ∀ x j, x < 34 → ¬ (x = i ∧ j = 2) → mTouch V i (232 + x) j = V (232 + x) j := fun x j hx hn => vt _ _ (by omega) (by omega)
  have e66 : mTouch V i 266 4 = V 266 4 := vt _ _ (by omega) (by omega)
  have hrow : ∀ x b', x < 34 → fRow V P A N x b' → fRow (mTouch V i) P (rStamp (r0 R) A b) N x b' := fun x b' hx hw => by
    obtain ⟨w1, w2, w3, w4, w5, w6, w7, w8⟩ := hw
    refine ⟨w1, by rw [vr x 1 hx (by omega)]; exact w2, ?_, ?_, ?_, ?_, ?_, ?_⟩
    · by_cases ex : x = i
      · subst ex
        have eb : b' = b := by
          have := hf.2.1
          rw [w2] at this
          exact (nI_eq (by omega) (by omega)).mp this
        rw [vi2, eb, s7b]
      · have nb : b' ≠ b := fun q => ex (b2 x i b hx hi (by omega) (by rw [← q]; exact w2) hf.2.1)
        rw [vr x 2 hx (by omega), s7 b' nb]
        exact w3
    · by_cases eb : b' = b
      · rw [eb, s7b]
        exact hnz
      · rw [s7 b' eb]
        exact w4
    · rw [vr x 3 hx (by omega), so _ (by omega)]
      exact w5
    · rw [e66, vr x 4 hx (by omega)]
      exact w6
    · rw [e66, vr x 4 hx (by omega), so _ (by omega)]
      exact w7
    · rw [so _ (by omega)]
      exact w8
  refine ⟨?_, ?_, hrow i b hi hf⟩
  · refine ⟨?_, ?_, a3, a4, v68, r7, ?_, ?_, ?_, ?_, ?_, ?_, ?_⟩
    · rw [vt _ _ (by omega) (by omega)]; exact a1
    · rw [rt _ (by omega) (by omega)]; exact a2
    · rw [rt _ (by omega) (by omega), vt _ _ (by omega) (by omega)]; exact a7
    · rw [rt _ (by omega) (by omega), vt _ _ (by omega) (by omega)]; exact a8
    · rw [rt _ (by omega) (by omega), vt _ _ (by omega) (by omega)]; exact a9
    · rw [rt _ (by omega) (by omega), vt _ _ (by omega) (by omega)]; exact a10
    · rw [rt _ (by omega) (by omega), vt _ _ (by omega) (by omega)]; exact a11
    · rw [e66]; exact a12
    · rw [vt _ _ (by omega) (by omega)]; exact a13
  · refine ⟨?_, by rw [rt _ (by omega) (by omega)]; exact o2, ⟨fun x hx => ?_, fun x y b' hx hy hb' e1 e2 => ?_, fun x hx => ?_, fun x hx => ?_, fun x y hx hy he hn => ?_, fun x hx => ?_⟩, ⟨?_, ?_, ?_, ?_, ?_⟩, ?_, ?_⟩
    · unfold rLf
      rw [rt _ (by omega) (by omega), vt _ _ (by omega) (by omega)]
      exact o1
    · rcases b1 x hx with w | ⟨b', w⟩
      · left
        have nx : x ≠ i := fun q => by
          have := hf.2.1
          rw [← q, w.1] at this
          exact neg1_ne (by omega) this
        exact ⟨by rw [vr x 1 hx (by omega)]; exact w.1, by rw [vr x 2 hx (by omega)]; exact w.2.1, by rw [vr x 3 hx (by omega)]; exact w.2.2.1, by rw [vr x 4 hx (by omega)]; exact w.2.2.2⟩
      · right
        exact ⟨b', hrow x b' hx w⟩
    · rw [vr x 1 hx (by omega)] at e1
      rw [vr y 1 hy (by omega)] at e2
      exact b2 x y b' hx hy hb' e1 e2
    · by_cases ex : x = b
      · right
        rw [ex]
        exact ⟨hb, i, hi, by rw [vr i 1 hi (by omega)]; exact hf.2.1⟩
      · rw [s7 x ex]
        rcases b3 x hx with w | ⟨w, y, hy, e⟩
        · exact Or.inl w
        · exact Or.inr ⟨w, y, hy, by rw [vr y 1 hy (by omega)]; exact e⟩
    · by_cases ex : x = b
      · exact ⟨u + 1, Nat.le_refl _, by rw [ex]; exact s7b⟩
      · obtain ⟨z, z1, z2⟩ := b4 x hx
        exact ⟨z, by omega, by rw [s7 x ex]; exact z2⟩
    · by_cases ex : x = b
      · by_cases ey : y = b
        · rw [ex, ey]
        · rw [ex, s7b, s7 y ey] at he
          obtain ⟨z, z1, z2⟩ := b4 y hy
          rw [z2] at he
          exact absurd he (nI_lt_ne (by omega) (by omega) (by omega))
      · by_cases ey : y = b
        · rw [ey, s7b, s7 x ex] at he
          obtain ⟨z, z1, z2⟩ := b4 x hx
          rw [z2] at he
          exact absurd he (nI_lt_ne (by omega) (by omega) (by omega))
        · rw [s7 x ex, s7 y ey] at he
          rw [s7 x ex] at hn
          exact b5 x y hx hy he hn
    · rw [so 275 (by omega), so 276 (by omega), e66]
      refine ⟨(b6 x hx).1, fun q => ?_, (b6 x hx).2.2⟩
      by_cases ex : x = b
      · rw [ex, s7b]
        exact hnz
      · rw [s7 x ex]
        exact (b6 x hx).2.1 q
    · rw [so _ (by omega), ← c1]
      exact cU_congr 34 0 (fun j _ hj => dn_c (vr j 3 (by omega) (by omega)))
    · rw [e66, so _ (by omega)]
      intro q
      rw [← c2 q]
      exact cU_congr 34 0 (fun j _ hj => dn_c (vr j 4 (by omega) (by omega)))
    · have e1 : cU (fun i_1 => decide (¬ mTouch V i (232 + i_1) 1 = -1)) 34 0 = cU (fun i => decide (¬ V (232 + i) 1 = -1)) 34 0 := cU_congr 34 0 (fun j _ hj => dn_c (vr j 1 (by omega) (by omega)))
      rw [e1, c3]
      exact cU_congr 80 0 (fun j _ hj => by
        by_cases ej : j = b
        · subst ej
          simp only [nz, s7b, hnz, hf.2.2.2.1]
        · exact (dn_c (s7 j ej)).symm)
    · rw [e66, so _ (by omega)]
      exact c4
    · rw [e66, so _ (by omega), so _ (by omega)]
      exact c5
    · unfold rDisk
      rw [so _ (by omega)]
      exact o5
    · unfold rClean
      rw [so _ (by omega), so _ (by omega), so _ (by omega)]
      exact o6
end
section
/-- the block is in no row: row g is given to it; old (80: none) leaves -/
theorem sim_look2 {V P R A A1 : VV} {N u b g old : Nat} (hA : rA V R N u) (h : rOn V P R A N u) (hb : isB N b) (hg : g < 34) (hu : u + 1 < 2 ^ 31) (hst : A 277 b = 0) (g3 : V (232 + g) 3 = 0) (g4 : V (232 + g) 4 = 0) (hob : old ≠ b) (hog : ∀ x, x < 80 → V (232 + g) 1 = nI x → x = old)
    (hcase : (80 ≤ old ∧ V (232 + g) 1 = -1) ∨ (old < 80 ∧ fRow V P A N g old)) (k1 : ∀ x, x < 80 → x ≠ old → A1 277 x = A 277 x) (k2 : old < 80 → A1 277 old = 0) (k3 : ∀ t, t ≠ 277 → A1 t = A t) :
    rA (mTouch (mTake V g (nI b)) g) (rTick (v2 (r0 R) 272 12 (r0 R 272 12 + 1))) N (u + 1) ∧ rOn (mTouch (mTake V g (nI b)) g) (p1 P (80 + g) (P b)) (rTick (v2 (r0 R) 272 12 (r0 R 272 12 + 1))) (rStamp (r0 R) A1 b) N (u + 1) ∧ fRow (mTouch (mTake V g (nI b)) g) (p1 P (80 + g) (P b)) (rStamp (r0 R) A1 b) N g b := by
  obtain ⟨a1, a2, a3, a4, a5, a6, a7, a8, a9, a10, a11, a12, a13⟩ := hA
  obtain ⟨o1, o2, hrows, ⟨c1, c2, c3, c4, c5⟩, o5, o6⟩ := h
  obtain ⟨b1, b2, b3, b4, b5, b6⟩ := id hrows
  generalize hV2 : mTouch (mTake V g (nI b)) g = V2
  generalize hR2 : rTick (v2 (r0 R) 272 12 (r0 R 272 12 + 1)) = R2
  generalize hA2 : rStamp (r0 R) A1 b = A2
  have t2 : r0 R 272 7 + 1 = nI (u + 1) := by rw [r0, v2_k (by omega), a6, nI_1]
  have vt : ∀ t j, ¬ (t = 268 ∧ (j = 1 ∨ j = 2)) → ¬ (t = 232 + g ∧ (j = 1 ∨ j = 2)) → V2 t j = V t j := fun t j h1 h2 => by
    rw [← hV2]
    unfold mTouch mTake
    rw [v2_n (fun q => h2 ⟨q.1, Or.inr q.2⟩), v2_n (fun q => h1 ⟨q.1, Or.inl q.2⟩), v2_n (fun q => h1 ⟨q.1, Or.inr q.2⟩), v2_n (fun q => h2 ⟨q.1, Or.inl q.2⟩)]
  have w1' : mTake V g (nI b) 268 1 = V 268 1 := by
    unfold mTake
    rw [v2_k (by omega), v2_t (by omega)]
  have v681 : V2 268 1 = nI (u + 1) := by
    rw [← hV2]
    unfold mTouch
    rw [v2_t (by omega), v2_s, w1', a5, nI_1]
  have v682 : V2 268 2 = V 268 2 + 1 := by
    rw [← hV2]
    unfold mTouch mTake
    rw [v2_t (by omega), v2_k (by omega), v2_s]
  have vg1 : V2 (232 + g) 1 = nI b := by
    rw [← hV2]
    unfold mTouch mTake
    rw [v2_k (by omega), v2_t (by omega), v2_t (by omega), v2_s]
  have vg2 : V2 (232 + g) 2 = nI (u + 1) := by
    rw [← hV2]
    unfold mTouch
    rw [v2_s, w1', a5, nI_1]
  have rt : ∀ j, j ≠ 0 → j ≠ 7 → j ≠ 12 → R2 272 j = R 272 j := fun j h1 h2 h3 => by
    rw [← hR2]
    unfold rTick r0
    rw [v2_k h2, v2_k h3, v2_k h1]
  have r7 : R2 272 7 = nI (u + 1) := by
    rw [← hR2]
    unfold rTick
    rw [v2_s, v2_k (by omega), t2]
  have r12 : R2 272 12 = R 272 12 + 1 := by
    rw [← hR2]
    unfold rTick r0
    rw [v2_k (by omega), v2_s, v2_k (by omega)]
  have s7b : A2 277 b = nI (u + 1) := by
    rw [← hA2]
    unfold rStamp
    rw [p1_s, pk_us, t2]
  have s7 : ∀ x, x < 80 → x ≠ b → x ≠ old → A2 277 x = A 277 x := fun x hx h1 h2 => by
    rw [← hA2]
    unfold rStamp
    rw [p1_s, pk_un h1, k1 x hx h2]
  have s7o : old < 80 → A2 277 old = 0 := fun ho => by
    rw [← hA2]
    unfold rStamp
    rw [p1_s, pk_un hob, k2 ho]
  have so : ∀ t, t ≠ 277 → A2 t = A t := fun t ht => by
    rw [← hA2]
    unfold rStamp
    rw [p1_n ht, k3 t ht]
  have hnz : ¬ nI (u + 1) = 0 := nI_ne0 (by omega) (by omega)
  have vr : ∀ x j, x < 34 → x ≠ g → V2 (232 + x) j = V (232 + x) j := fun x j hx hn => vt _ _ (by omega) (by omega)
  have vgj : ∀ j, j ≠ 1 → j ≠ 2 → V2 (232 + g) j = V (232 + g) j := fun j h1 h2 => vt _ _ (by omega) (by omega)
  have vrj : ∀ x j, x < 34 → j ≠ 1 → j ≠ 2 → V2 (232 + x) j = V (232 + x) j := fun x j hx h1 h2 => vt _ _ (by omega) (by omega)
  have e66 : V2 266 4 = V 266 4 := vt _ _ (by omega) (by omega)
  have hld : A 275 b = 0 := Decidable.byContradiction fun q => (b6 b (by omega)).2.1 q hst
  have hch : ¬ V 266 4 = 0 → A 276 b = 0 := fun q => Decidable.byContradiction fun w => (b6 b (by omega)).2.2 q w hld
  have nbr : ∀ x, x < 34 → ¬ V (232 + x) 1 = nI b := fun x hx q => by
    rcases b1 x hx with w | ⟨b', w⟩
    · rw [w.1] at q
      exact neg1_ne (by omega) q
    · have e := w.2.1
      have hb' := w.1
      rw [q] at e
      have e2 : b = b' := (nI_eq (by omega) (by omega)).mp e
      rw [← e2] at w
      exact w.2.2.2.1 hst
  have hfg : fRow V2 (p1 P (80 + g) (P b)) A2 N g b := by
    refine ⟨hb, vg1, by rw [vg2, s7b], by rw [s7b]; exact hnz, ?_, fun _ => ?_, fun q => ?_, fun j hj => ?_⟩
    · rw [vgj 3 (by omega) (by omega), g3, so _ (by omega), hld]
    · rw [vgj 4 (by omega) (by omega), g4]
    · rw [vgj 4 (by omega) (by omega), g4, so _ (by omega)]
      rw [e66] at q
      exact (hch q).symm
    · rw [p1_s, so _ (by omega), o5.2 b hb j hj]
      exact (o6 b hb hld j hj).symm
  have hrow : ∀ x b', x < 34 → x ≠ g → fRow V P A N x b' → fRow V2 (p1 P (80 + g) (P b)) A2 N x b' := fun x b' hx hxg hw => by
    obtain ⟨w1, w2, w3, w4, w5, w6, w7, w8⟩ := hw
    have nb : b' ≠ b := fun q => nbr x hx (by rw [← q]; exact w2)
    have no : b' ≠ old := fun q => by
      rcases hcase with ⟨h1, -⟩ | ⟨h1, h2⟩
      · omega
      · exact hxg (b2 x g b' hx hg (by omega) w2 (by rw [q]; exact h2.2.1))
    refine ⟨w1, by rw [vr x 1 hx hxg]; exact w2, ?_, ?_, ?_, ?_, ?_, ?_⟩
    · rw [vr x 2 hx hxg, s7 b' (by omega) nb no]
      exact w3
    · rw [s7 b' (by omega) nb no]
      exact w4
    · rw [vr x 3 hx hxg, so _ (by omega)]
      exact w5
    · rw [e66, vr x 4 hx hxg]
      exact w6
    · rw [e66, vr x 4 hx hxg, so _ (by omega)]
      exact w7
    · rw [so _ (by omega), p1_n (by omega)]
      exact w8
  refine ⟨?_, ?_, hfg⟩
  · refine ⟨?_, ?_, a3, a4, v681, r7, ?_, ?_, ?_, ?_, ?_, ?_, ?_⟩
    · rw [vt _ _ (by omega) (by omega)]; exact a1
    · rw [rt _ (by omega) (by omega) (by omega)]; exact a2
    · rw [rt _ (by omega) (by omega) (by omega), vt _ _ (by omega) (by omega)]; exact a7
    · rw [r12, v682, a8]
    · rw [rt _ (by omega) (by omega) (by omega), vt _ _ (by omega) (by omega)]; exact a9
    · rw [rt _ (by omega) (by omega) (by omega), vt _ _ (by omega) (by omega)]; exact a10
    · rw [rt _ (by omega) (by omega) (by omega), vt _ _ (by omega) (by omega)]; exact a11
    · rw [e66]; exact a12
    · rw [vt _ _ (by omega) (by omega)]; exact a13
  · refine ⟨?_, by rw [rt _ (by omega) (by omega) (by omega)]; exact o2, ⟨fun x hx => ?_, fun x y b' hx hy hb' e1 e2 => ?_, fun x hx => ?_, fun x hx => ?_, fun x y hx hy he hn => ?_, fun x hx => ?_⟩, ⟨?_, ?_, ?_, ?_, ?_⟩, ⟨?_, fun b' hb' j hj => ?_⟩, ?_⟩
    · unfold rLf
      rw [rt _ (by omega) (by omega) (by omega), vt _ _ (by omega) (by omega)]
      exact o1
    · by_cases hxg : x = g
      · right
        rw [hxg]
        exact ⟨b, hfg⟩
      · rcases b1 x hx with w | ⟨b', w⟩
        · left
          exact ⟨by rw [vr x 1 hx hxg]; exact w.1, by rw [vr x 2 hx hxg]; exact w.2.1, by rw [vr x 3 hx hxg]; exact w.2.2.1, by rw [vr x 4 hx hxg]; exact w.2.2.2⟩
        · right
          exact ⟨b', hrow x b' hx hxg w⟩
    · by_cases hxg : x = g
      · by_cases hyg : y = g
        · rw [hxg, hyg]
        · rw [hxg, vg1] at e1
          rw [vr y 1 hy hyg, ← e1] at e2
          exact absurd e2 (nbr y hy)
      · by_cases hyg : y = g
        · rw [hyg, vg1] at e2
          rw [vr x 1 hx hxg, ← e2] at e1
          exact absurd e1 (nbr x hx)
        · rw [vr x 1 hx hxg] at e1
          rw [vr y 1 hy hyg] at e2
          exact b2 x y b' hx hy hb' e1 e2
    · by_cases ex : x = b
      · right
        rw [ex]
        exact ⟨hb, g, hg, vg1⟩
      · by_cases eo : x = old
        · left
          rw [eo]
          exact s7o (by omega)
        · rw [s7 x hx ex eo]
          rcases b3 x hx with w | ⟨w, y, hy, e⟩
          · exact Or.inl w
          · have hyg : y ≠ g := fun q => eo (hog x hx (by rw [← q]; exact e))
            exact Or.inr ⟨w, y, hy, by rw [vr y 1 hy hyg]; exact e⟩
    · by_cases ex : x = b
      · exact ⟨u + 1, Nat.le_refl _, by rw [ex]; exact s7b⟩
      · by_cases eo : x = old
        · exact ⟨0, by omega, by rw [eo, s7o (by omega), nI_0]⟩
        · obtain ⟨z, z1, z2⟩ := b4 x hx
          exact ⟨z, by omega, by rw [s7 x hx ex eo]; exact z2⟩
    · have hle : ∀ z, z < 80 → z ≠ b → ¬ A2 277 z = nI (u + 1) := fun z hz hzb q => by
        by_cases eo : z = old
        · rw [eo, s7o (by omega)] at q
          exact hnz q.symm
        · obtain ⟨y, y1, y2⟩ := b4 z hz
          rw [s7 z hz hzb eo, y2] at q
          exact nI_lt_ne (by omega) (by omega) (by omega) q
      by_cases ex : x = b
      · by_cases ey : y = b
        · rw [ex, ey]
        · rw [ex, s7b] at he
          exact absurd he.symm (hle y hy ey)
      · by_cases ey : y = b
        · rw [ey, s7b] at he
          exact absurd he (hle x hx ex)
        · have exo : x ≠ old := fun q => by
            rw [q, s7o (by omega)] at hn
            exact hn rfl
          have eyo : y ≠ old := fun q => by
            rw [he, q, s7o (by omega)] at hn
            exact hn rfl
          rw [s7 x hx ex exo, s7 y hy ey eyo] at he
          rw [s7 x hx ex exo] at hn
          exact b5 x y hx hy he hn
    · rw [so 275 (by omega), so 276 (by omega), e66]
      refine ⟨(b6 x hx).1, fun q => ?_, (b6 x hx).2.2⟩
      by_cases ex : x = b
      · rw [ex, s7b]
        exact hnz
      · by_cases eo : x = old
        · exfalso
          rcases hcase with ⟨h1, -⟩ | ⟨h1, h2⟩
          · omega
          · rw [eo, ← h2.2.2.2.2.1] at q
            exact q g3
        · rw [s7 x hx ex eo]
          exact (b6 x hx).2.1 q
    · rw [so _ (by omega), ← c1]
      exact cU_congr 34 0 (fun j _ hj => dn_c (vrj j 3 (by omega) (by omega) (by omega)))
    · rw [e66, so _ (by omega)]
      intro q
      rw [← c2 q]
      exact cU_congr 34 0 (fun j _ hj => dn_c (vrj j 4 (by omega) (by omega) (by omega)))
    · have e1 := cU_set (q := fun i => decide (¬ V (232 + i) 1 = -1)) (q' := fun i => decide (¬ V2 (232 + i) 1 = -1)) (x := g) 34 0 (by omega) (by omega) (fun j _ h34 hj => dn_c (vr j 1 (by omega) hj))
      have e2 := cU_set (q := nz (A 277)) (q' := fun j => if j = b then true else nz (A 277) j) (x := b) 80 0 (by omega) (by omega) (fun j _ _ hj => by rw [if_neg hj])
      have e3 : (nz (A 277) b).toNat = 0 := by simp [nz, hst]
      have e4 : (decide (¬ V2 (232 + g) 1 = -1)).toNat = 1 := by
        rw [vg1]
        simp only [decide_eq_true (show ¬ nI b = -1 from fun q => neg1_ne (by omega) q.symm)]
        rfl
      rw [e4] at e1
      rw [if_pos rfl, e3] at e2
      simp only [Bool.toNat_true] at e2
      rcases hcase with ⟨h1, h2⟩ | ⟨h1, h2⟩
      · have e5 : hB (A2 277) = cU (fun j => if j = b then true else nz (A 277) j) 80 0 := cU_congr 80 0 (fun j _ hj => by
          by_cases ej : j = b
          · rw [if_pos ej, ej]
            simp [nz, s7b, hnz]
          · rw [if_neg ej]
            exact dn_c (s7 j (by omega) ej (by omega)))
        have e6 : (decide (¬ V (232 + g) 1 = -1)).toNat = 0 := by simp [h2]
        rw [e6] at e1
        rw [e5]
        have c3' : cU (fun i => decide (¬ V (232 + i) 1 = -1)) 34 0 = cU (nz (A 277)) 80 0 := c3
        omega
      · have e5 := cU_set (q := fun j => if j = b then true else nz (A 277) j) (q' := nz (A2 277)) (x := old) 80 0 (by omega) (by omega) (fun j _ h80 hj => by
          by_cases ej : j = b
          · rw [if_pos ej, ej]
            simp [nz, s7b, hnz]
          · rw [if_neg ej]
            exact dn_c (s7 j (by omega) ej hj))
        have e6 : (decide (¬ V (232 + g) 1 = -1)).toNat = 1 := by
          rw [h2.2.1]
          simp only [decide_eq_true (show ¬ nI old = -1 from fun q => neg1_ne (by omega) q.symm)]
          rfl
        rw [e6] at e1
        rw [if_neg hob] at e5
        have e7 : (nz (A 277) old).toNat = 1 := by simp [nz, h2.2.2.2.1]
        have e8 : (nz (A2 277) old).toNat = 0 := by simp [nz, s7o h1]
        rw [e7, e8] at e5
        have c3' : cU (fun i => decide (¬ V (232 + i) 1 = -1)) 34 0 = cU (nz (A 277)) 80 0 := c3
        show cU (fun i => decide (¬ V2 (232 + i) 1 = -1)) 34 0 = cU (nz (A2 277)) 80 0
        omega
    · rw [e66, so _ (by omega)]
      exact c4
    · rw [e66, so _ (by omega), so _ (by omega)]
      exact c5
    · rw [p1_n (by omega)]
      exact o5.1
    · rw [p1_n (by omega), so _ (by omega)]
      exact o5.2 b' hb' j hj
    · unfold rClean
      rw [so _ (by omega), so _ (by omega), so _ (by omega)]
      exact o6
end
section
/-! EVERY CALL on both sides, pure -/
theorem touch_at {V : VV} {i t j : Nat} (h1 : t ≠ 268) (h2 : t ≠ 232 + i) : mTouch V i t j = V t j := by
  unfold mTouch
  rw [v2_t h2, v2_t h1]
theorem take_at {V : VV} {g t j : Nat} {b : Int32} (h1 : t ≠ 268) (h2 : t ≠ 232 + g) : mTake V g b t j = V t j := by
  unfold mTake
  rw [v2_t h1, v2_t h2]
theorem fRow.lt {V P A : VV} {N i b : Nat} (h : fRow V P A N i b) : b < N := h.1.1
/-- looking at a block -/
theorem sim_look {V P R A : VV} {N u b : Nat} (hA : rA V R N u) (hon : V 267 1 = 1) (h : rOn V P R A N u) (hb : isB N b) (hu : u + 1 < 2 ^ 31) (h30 : hB (A 275) ≤ 30) :
    rA (mLook V P (nI b)).2.1 (rLook (r0 R) A b).1 N (u + 1) ∧ rOn (mLook V P (nI b)).2.1 (mLook V P (nI b)).2.2 (rLook (r0 R) A b).1 (rLook (r0 R) A b).2 N (u + 1) ∧ fRow (mLook V P (nI b)).2.1 (mLook V P (nI b)).2.2 (rLook (r0 R) A b).2 N (mLook V P (nI b)).1 b ∧
    (mLook V P (nI b)).2.1 267 1 = V 267 1 ∧ (mLook V P (nI b)).2.1 266 4 = V 266 4 ∧ (∀ t, t ≠ 277 → (rLook (r0 R) A b).2 t = A t) ∧
    ((rScan (r0 R) A).1 = 34 → A 277 b = 0 → ∃ x, x < 80 ∧ (rScan (r0 R) A).2 = nI x) := by
  have hN : N ≤ 80 := hA.2.2.2.1
  have hrows := h.2.2.1
  obtain ⟨b1, b2, b3, b4, b5, b6⟩ := id hrows
  by_cases hs : A 277 b = 0
  · have hnone : mRow V (nI b) = none := by
      cases hr : mRow V (nI b) with
      | none => rfl
      | some x =>
        exfalso
        obtain ⟨x1, x2⟩ := mRow_some hr
        rcases b1 x x1 with w | ⟨b', w⟩
        · rw [w.1] at x2
          exact neg1_ne (by omega) x2
        · have e := w.2.1
          have hb' := w.1
          rw [x2] at e
          have e2 : b = b' := (nI_eq (by omega) (by omega)).mp e
          rw [← e2] at w
          exact w.2.2.2.1 hs
    have hl : mLook V P (nI b) = (mGive V, mTouch (mTake V (mGive V) (nI b)) (mGive V), p1 P (80 + mGive V) (P b)) := by
      unfold mLook
      rw [hnone]
      simp only
      rw [mRead_n (by omega)]
    have hlr : rLook (r0 R) A b = (rTick (v2 (r0 R) 272 12 (r0 R 272 12 + 1)), rStamp (r0 R) (rEvict (r0 R) A) b) := by
      unfold rLook
      rw [if_pos hs]
    have hg := mGive_lt V
    have hk := hrows.kOk hN (by omega)
    have hcnt : hR V 3 = hB (A 275) := h.2.2.2.1.1
    have hcnt3 := h.2.2.2.1.2.2.1
    -- a row that isn't held
    have hex : ∃ y, y < 34 ∧ V (232 + y) 3 = 0 := Classical.byContradiction fun q => by
      have : cU (nz fun i => V (232 + i) 3) 34 0 = 34 := by
        have e := cU_congr (q := nz fun i => V (232 + i) 3) (q' := fun _ => true) 34 0 (fun j _ hj => by
          simp only [nz]
          exact decide_eq_true (fun w => q ⟨j, by omega, w⟩))
        rw [e]
        decide
      have e2 : hR V 3 = 34 := this
      omega
    obtain ⟨y, y1, y2⟩ := hex
    have hkg : ∀ z, z < 34 → V (232 + z) 3 = 0 → V (232 + mGive V) 3 = 0 ∧ (V (232 + mGive V) 2).toNatClampNeg ≤ (V (232 + z) 2).toNatClampNeg := fun z hz h3 => by
      have hm := mGive_min hk hz
      obtain ⟨⟨x, x1, x2⟩, -⟩ := hk z hz
      unfold kx at hm
      rw [if_pos h3, x2, nI_clamp x1] at hm
      by_cases g3 : V (232 + mGive V) 3 = 0
      · rw [if_pos g3] at hm
        refine ⟨g3, ?_⟩
        rw [x2, nI_clamp x1]
        omega
      · rw [if_neg g3] at hm
        omega
    have g3 : V (232 + mGive V) 3 = 0 := (hkg y y1 y2).1
    have g4 : V (232 + mGive V) 4 = 0 := by
      rcases b1 _ hg with w | ⟨b', w1, w2, w3, w4, w5, w6, w7, w8⟩
      · exact w.2.2.2
      · by_cases h4 : V 266 4 = 0
        · exact w6 h4
        · rw [w7 h4]
          refine Decidable.byContradiction fun q => ?_
          exact (b6 b' (by omega)).2.2 h4 q (by rw [← w5]; exact g3)
    -- the scan
    have hst : ∀ k, k < 80 → ∃ x, x < 2 ^ 31 ∧ A 277 k = nI x := fun k hk => by
      obtain ⟨x, x1, x2⟩ := b4 k hk
      exact ⟨x, by omega, x2⟩
    have hsc := lkL_spec (st := A 277) (hd := A 275) hst N 0 0 (-1) (by omega) (Or.inl ⟨rfl, fun j hj => by omega⟩)
    have eN : (r0 R 272 1).toNatClampNeg = N := by
      unfold r0
      rw [v2_k (by omega), hA.2.1, nI_clamp (by omega)]
    rw [nI_0, Nat.zero_add, Nat.zero_add, hrows.cntN hN, ← hcnt3] at hsc
    have hscan : rScan (r0 R) A = lkL (A 277) (A 275) N 0 0 (-1) := by
      unfold rScan
      rw [eN]
    rw [← hscan] at hsc
    obtain ⟨s1, s2⟩ := hsc
    have hle34 := cU_le (fun i => decide (¬ V (232 + i) 1 = -1)) 34 0
    by_cases hfull : cU (fun i => decide (¬ V (232 + i) 1 = -1)) 34 0 = 34
    · -- all rows are taken
      have hall : ∀ z, z < 34 → ∃ b', fRow V P A N z b' := fun z hz => by
        rcases b1 z hz with w | w
        · have := cU_full 34 0 hfull z (by omega) (by omega)
          simp [w.1] at this
        · exact w
      obtain ⟨b', w⟩ := hall _ hg
      have hb'0 : A 275 b' = 0 := by rw [← w.2.2.2.2.1]; exact g3
      have hb'N := w.lt
      have s1' : (rScan (r0 R) A).1 = 34 := by rw [s1, hfull]; rfl
      rcases s2 with ⟨-, q⟩ | ⟨x, x1, x2, x3, x4, x5⟩
      · exact absurd hb'0 (q b' hb'N w.2.2.2.1)
      · have hxx : x = b' := by
          obtain ⟨z, hz, wz⟩ := hrows.row hN (b := x) (by omega) x3
          have hz3 : V (232 + z) 3 = 0 := by rw [wz.2.2.2.2.1]; exact x4
          have l1 := (hkg z hz hz3).2
          rw [w.2.2.1, wz.2.2.1] at l1
          have l2 := x5 b' hb'N w.2.2.2.1 hb'0
          obtain ⟨p, p1', p2⟩ := b4 x (by omega)
          obtain ⟨q, q1, q2⟩ := b4 b' (by omega)
          rw [p2, q2, nI_clamp (by omega), nI_clamp (by omega)] at l1
          rw [p2, q2] at l2
          have l3 := (nI_leI (by omega) (by omega)).mp l2
          have e : p = q := by omega
          exact b5 x b' (by omega) (by omega) (by rw [p2, q2, e]) x3
        subst hxx
        have hev : rEvict (r0 R) A = p1 A 277 (upd (A 277) x 0) := by
          unfold rEvict
          rw [if_pos s1', x2, nI_clamp (by omega)]
        have hne : x ≠ b := fun q => x3 (by rw [q]; exact hs)
        have key := sim_look2 (A1 := rEvict (r0 R) A) (old := x) hA h hb hg hu hs g3 g4 hne (fun z hz e => by
          have := w.2.1
          rw [e] at this
          exact (nI_eq (by omega) (by omega)).mp this) (Or.inr ⟨by omega, w⟩) (fun z hz hn => by rw [hev, p1_s, pk_un hn]) (fun _ => by rw [hev, p1_s, pk_us]) (fun t ht => by rw [hev, p1_n ht])
        rw [hl, hlr]
        refine ⟨key.1, key.2.1, key.2.2, ?_, ?_, fun t ht => ?_, fun _ _ => ⟨x, by omega, x2⟩⟩
        · exact (touch_at (by omega) (by omega)).trans (take_at (by omega) (by omega))
        · exact (touch_at (by omega) (by omega)).trans (take_at (by omega) (by omega))
        · show rStamp (r0 R) (rEvict (r0 R) A) b t = A t
          unfold rStamp
          rw [p1_n ht, hev, p1_n ht]
    · -- a row is empty
      have s1' : ¬ (rScan (r0 R) A).1 = 34 := by
        rw [s1]
        intro q
        exact hfull ((nI_eq (b := 34) (by omega) (by omega)).mp q)
      have hemp : ∃ z, z < 34 ∧ eRow V z := Classical.byContradiction fun q => hfull (by
        have e := cU_congr (q := fun i => decide (¬ V (232 + i) 1 = -1)) (q' := fun _ => true) 34 0 (fun j _ hj => by
          rcases b1 j (by omega) with w | ⟨b', w⟩
          · exact absurd ⟨j, by omega, w⟩ q
          · have := w.1
            rw [w.2.1]
            exact decide_eq_true (fun r => neg1_ne (by omega) r.symm))
        rw [e]
        decide)
      obtain ⟨z, hz, wz⟩ := hemp
      have hge : eRow V (mGive V) := by
        rcases b1 _ hg with w | ⟨b', w⟩
        · exact w
        · exfalso
          have l1 := (hkg z hz wz.2.2.1).2
          have hb' := w.lt
          obtain ⟨p, p1', p2⟩ := b4 b' (by omega)
          rw [wz.2.1, w.2.2.1, p2, nI_clamp (by omega)] at l1
          have l2 : (0 : Int32).toNatClampNeg = 0 := by decide
          have p0 : p = 0 := by omega
          rw [p0, nI_0] at p2
          exact w.2.2.2.1 p2
      have hev : rEvict (r0 R) A = A := by
        unfold rEvict
        rw [if_neg s1']
      have key := sim_look2 (A1 := rEvict (r0 R) A) (old := 80) hA h hb hg hu hs g3 g4 (by omega) (fun z hz e => by
        rw [hge.1] at e
        exact absurd e (neg1_ne hz)) (Or.inl ⟨Nat.le_refl 80, hge.1⟩) (fun z hz hn => by rw [hev]) (fun q => absurd q (by omega)) (fun t ht => by rw [hev])
      rw [hl, hlr]
      refine ⟨key.1, key.2.1, key.2.2, ?_, ?_, fun t ht => ?_, fun q => absurd q s1'⟩
      · exact (touch_at (by omega) (by omega)).trans (take_at (by omega) (by omega))
      · exact (touch_at (by omega) (by omega)).trans (take_at (by omega) (by omega))
      · show rStamp (r0 R) (rEvict (r0 R) A) b t = A t
        unfold rStamp
        rw [p1_n ht, hev]
  · obtain ⟨i, hi, hf⟩ := hrows.row hN (b := b) (by omega) hs
    have hsome := mRow_find (b := b) (by omega) hi hf.2.1 (fun x y hx hy => b2 x y b hx hy (by omega))
    have hl : mLook V P (nI b) = (i, mTouch V i, P) := by
      unfold mLook
      rw [hsome]
    have hlr : rLook (r0 R) A b = (rTick (r0 R), rStamp (r0 R) A b) := by
      unfold rLook
      rw [if_neg hs]
    have key := sim_look1 hA h hb hi hf hu
    rw [hl, hlr]
    refine ⟨key.1, key.2.1, key.2.2, ?_, ?_, fun t ht => ?_, fun _ q => absurd q hs⟩
    · exact touch_at (by omega) (by omega)
    · exact touch_at (by omega) (by omega)
    · show rStamp (r0 R) A b t = A t
      unfold rStamp
      rw [p1_n ht]
end
section
/-! what the reference's first row of every call (thrown = 0) changes: nothing that is read -/
theorem rA_reg {V R R' : VV} {N u : Nat} (h : rA V R N u) (e : ∀ j, j ≠ 0 → R' 272 j = R 272 j) : rA V R' N u := by
  unfold rA at h ⊢
  rw [e 1 (by omega), e 7 (by omega), e 8 (by omega), e 9 (by omega), e 11 (by omega), e 12 (by omega), e 13 (by omega)]
  exact h
theorem rOn_reg {V P R R' A : VV} {N u : Nat} (h : rOn V P R A N u) (e : ∀ j, j ≠ 0 → R' 272 j = R 272 j) : rOn V P R' A N u := by
  unfold rOn rLf at h ⊢
  rw [e 10 (by omega), e 14 (by omega)]
  exact h
theorem rOff_reg {V P R R' A : VV} {N : Nat} (h : rOff V P R A N) (e : ∀ j, j ≠ 0 → R' 272 j = R 272 j) : rOff V P R' A N := by
  unfold rOff at h ⊢
  rw [e 14 (by omega)]
  exact h
theorem r0_e (R : VV) : ∀ j, j ≠ 0 → r0 R 272 j = R 272 j := fun j hj => by
  unfold r0
  rw [v2_k hj]
theorem rel_0 {V P R A : VV} {k : Nat} (h : rel V P R A k) : rel V P (r0 R) A (k + 1) := by
  obtain ⟨N, u, hu, h1, h2, h3⟩ := h
  exact ⟨N, u, by omega, rA_reg h1 (r0_e R), fun q => rOn_reg (h2 q) (r0_e R), fun q => rOff_reg (h3 q) (r0_e R)⟩
theorem rel_on {V P R A : VV} {k : Nat} (h : rel V P R A k) : ∃ N u, u ≤ k ∧ rA V R N u ∧ (V 267 1 = 1 → rOn V P R A N u) ∧ (V 267 1 = 0 → rOff V P R A N) := h
theorem on_1 {V R : VV} {N u : Nat} (h : rA V R N u) (hn : ¬ V 267 1 = 0) : V 267 1 = 1 := by
  rcases h.2.2.2.2.2.2.2.2.2.2.2.2 with q | q
  · exact absurd q hn
  · exact q
theorem st_1 {V R : VV} {N u : Nat} (h : rA V R N u) (hn : ¬ V 266 4 = 0) : V 266 4 = 1 := by
  rcases h.2.2.2.2.2.2.2.2.2.2.2.1 with q | q
  · exact absurd q hn
  · exact q
theorem one_ne : ¬ (1 : Int32) = 0 := by decide
theorem mBlk {V : VV} {N : Nat} (hV : V 266 0 = nI N) (hN : N ≤ 80) (b : Int32) : mIsBlock V b ↔ ∃ x, isB N x ∧ b = nI x := by
  unfold mIsBlock
  rw [hV]
  constructor
  · intro ⟨h1, h2, h3⟩
    obtain ⟨x, x1, x2⟩ := nI_of h1
    subst x2
    have e1 : x < N := by
      rcases Nat.lt_or_ge x N with q | q
      · exact q
      · exact absurd (nI_le q x1) h2
    refine ⟨x, ⟨e1, ?_⟩, rfl⟩
    rcases Nat.lt_or_ge x 2 with q | q
    · exact Or.inl q
    · right
      rcases Nat.lt_or_ge 32 x with w | w
      · exact w
      · exact absurd ⟨nI_nlt (a := x) (b := 2) q x1, nI_nlt (a := 32) (b := x) w (by omega)⟩ h3
  · intro ⟨x, ⟨h1, h2⟩, h3⟩
    subst h3
    refine ⟨nI_pos (by omega), nI_ge h1 (by omega), fun q => ?_⟩
    rcases h2 with w | w
    · exact q.1 (nI_lt (b := 2) w (by omega))
    · exact q.2 (nI_lt (a := 32) w (by omega))
theorem rBlk {R : VV} {N : Nat} (hV : R 272 1 = nI N) (hN : N ≤ 80) (b : Int32) : rIsBlock R b ↔ ∃ x, isB N x ∧ b = nI x := by
  unfold rIsBlock
  rw [hV]
  constructor
  · intro ⟨h1, h2, h3⟩
    obtain ⟨x, x1, x2⟩ := nI_of h1
    subst x2
    have e1 : x < N := by
      rcases Nat.lt_or_ge x N with q | q
      · exact q
      · exact absurd (nI_le q x1) h2
    refine ⟨x, ⟨e1, ?_⟩, rfl⟩
    rcases h3 with q | q
    · exact Or.inl ((nI_ltI (b := 2) x1 (by omega)).mp q)
    · right
      rcases Nat.lt_or_ge 32 x with w | w
      · exact w
      · exact absurd (nI_le (b := 32) w (by omega)) q
  · intro ⟨x, ⟨h1, h2⟩, h3⟩
    subst h3
    refine ⟨nI_pos (by omega), nI_ge h1 (by omega), ?_⟩
    rcases h2 with w | w
    · exact Or.inl (nI_lt (b := 2) w (by omega))
    · exact Or.inr (nI_ge (a := 32) w (by omega))
theorem lt_n {k n : Nat} {x : Int32} (hx : x = nI k) (hk : k < 2 ^ 31) (hn : n < 2 ^ 31) : x < nI n ↔ k < n := by
  rw [hx]
  exact nI_ltI hk hn
theorem le_n {k n : Nat} {x : Int32} (hx : x = nI k) (hk : k < 2 ^ 31) (hn : n < 2 ^ 31) : x ≤ nI n ↔ k ≤ n := by
  rw [hx]
  exact nI_leI hk hn
theorem hB_le (f : Nat → Int32) : hB f ≤ 80 := cU_le (nz f) 80 0
theorem many_20 {f : Nat → Int32} : 20 < rMany f ↔ 20 < hB f := by
  rw [rMany_eq]
  have h := hB_le f
  generalize hB f = n at h ⊢
  exact lt_n (k := 20) rfl (by omega) (by omega)
theorem many_0 {f : Nat → Int32} : rMany f = 0 ↔ hB f = 0 := by
  rw [rMany_eq]
  have h := hB_le f
  generalize hB f = n at h ⊢
  rw [← nI_0]
  exact nI_eq (by omega) (by omega)
theorem many_10 {f : Nat → Int32} : rMany f = 10 ↔ hB f = 10 := by
  rw [rMany_eq]
  have h := hB_le f
  generalize hB f = n at h ⊢
  exact nI_eq (b := 10) (by omega) (by omega)
end
section
theorem sim_begin {V P R A : VV} {k : Nat} (h : rel V P R A k) : (mBegin V P).1 = (rBegin R A).1 ∧ rel (mBegin V P).2.1 (mBegin V P).2.2 (rBegin R A).2.1 (rBegin R A).2.2 (k + 1) := by
  obtain ⟨N, u, hu, hA, h2, h3⟩ := id h
  obtain ⟨a1, a2, a3, a4, a5, a6, a7, a8, a9, a10, a11, a12, a13⟩ := id hA
  unfold mBegin rBegin
  rw [a10, a11]
  by_cases c : V 267 1 = 0 ∨ ¬ V 266 4 = 0
  · rw [if_pos c, if_pos c]
    exact ⟨rfl, rel_0 h⟩
  · rw [if_neg c, if_neg c]
    have hon : V 267 1 = 1 := on_1 hA (fun q => c (Or.inl q))
    have hst : V 266 4 = 0 := Decidable.byContradiction fun q => c (Or.inr q)
    obtain ⟨o1, o2, ⟨b1, b2, b3, b4, b5, b6⟩, ⟨c1, c2, c3, c4, c5⟩, o5, o6⟩ := h2 hon
    dsimp only
    refine ⟨rfl, N, u, by omega, ?_, fun _ => ?_, fun q => ?_⟩
    · refine ⟨by rw [v2_k (by omega)]; exact a1, by rw [v2_k (by omega), r0_e R _ (by omega)]; exact a2, a3, a4, by rw [v2_t (by omega)]; exact a5, by rw [v2_k (by omega), r0_e R _ (by omega)]; exact a6, by rw [v2_k (by omega), r0_e R _ (by omega), v2_t (by omega)]; exact a7, by rw [v2_k (by omega), r0_e R _ (by omega), v2_t (by omega)]; exact a8, by rw [v2_k (by omega), r0_e R _ (by omega), v2_t (by omega)]; exact a9, by rw [v2_s, v2_s], by rw [v2_k (by omega), r0_e R _ (by omega), v2_t (by omega)]; exact a11, by rw [v2_s]; exact Or.inr rfl, by rw [v2_t (by omega)]; exact a13⟩
    · have z : ∀ b, b < 80 → p1 A 276 (zF (A 276) 80) 276 b = 0 := fun b hb => by
        rw [p1_s]
        unfold zF
        rw [if_pos hb]
      have so : ∀ t, t ≠ 276 → p1 A 276 (zF (A 276) 80) t = A t := fun t ht => p1_n ht
      have vr : ∀ i j, i < 34 → v2 V 266 4 1 (232 + i) j = V (232 + i) j := fun i j hi => v2_t (by omega)
      have v4 : v2 V 266 4 1 266 4 = 1 := v2_s
      have n4 : ¬ v2 V 266 4 1 266 4 = 0 := by rw [v4]; decide
      refine ⟨?_, by rw [v2_k (by omega), r0_e R _ (by omega)]; exact o2, ⟨fun i hi => ?_, fun i j b hi hj hb e1 e2 => ?_, fun b hb => ?_, fun b hb => ?_, fun b b' hb hb' => ?_, fun b hb => ?_⟩, ⟨?_, fun _ => ?_, ?_, fun q => absurd q n4, fun _ => ?_⟩, ?_, ?_⟩
      · unfold rLf at o1 ⊢
        rw [v2_k (by omega), v2_k (by omega), r0_e R _ (by omega)]
        exact o1
      · rcases b1 i hi with w | ⟨b, w1, w2, w3, w4, w5, w6, w7, w8⟩
        · left
          unfold eRow
          rw [vr i 1 hi, vr i 2 hi, vr i 3 hi, vr i 4 hi]
          exact w
        · right
          refine ⟨b, w1, by rw [vr i 1 hi]; exact w2, by rw [vr i 2 hi, so _ (by omega)]; exact w3, by rw [so _ (by omega)]; exact w4, by rw [vr i 3 hi, so _ (by omega)]; exact w5, fun q => absurd q n4, fun _ => ?_, by rw [so _ (by omega)]; exact w8⟩
          rw [vr i 4 hi, z b (by omega)]
          exact w6 hst
      · rw [vr i 1 hi] at e1
        rw [vr j 1 hj] at e2
        exact b2 i j b hi hj hb e1 e2
      · rw [so _ (by omega)]
        rcases b3 b hb with w | ⟨w, i, hi, e⟩
        · exact Or.inl w
        · exact Or.inr ⟨w, i, hi, by rw [vr i 1 hi]; exact e⟩
      · rw [so _ (by omega)]
        exact b4 b hb
      · rw [so _ (by omega)]
        exact b5 b b' hb hb'
      · rw [so 275 (by omega), so 277 (by omega), z b hb]
        exact ⟨(b6 b hb).1, (b6 b hb).2.1, fun _ q => absurd rfl q⟩
      · rw [so _ (by omega), ← c1]
        exact cU_congr 34 0 (fun j _ hj => dn_c (vr j 3 (by omega)))
      · rw [hB_zero z, hR_zero (fun i hi => by
          rw [vr i 4 hi]
          rcases b1 i hi with w | ⟨b, w1, w2, w3, w4, w5, w6, w7, w8⟩
          · exact w.2.2.2
          · exact w6 hst)]
      · rw [so _ (by omega), ← c3]
        exact cU_congr 34 0 (fun j _ hj => dn_c (vr j 1 (by omega)))
      · rw [so _ (by omega), hB_zero z]
        have := c4 hst
        omega
      · unfold rDisk
        rw [so _ (by omega)]
        exact o5
      · unfold rClean
        rw [so _ (by omega), so _ (by omega), so _ (by omega)]
        exact o6
    · rw [v2_t (by omega), hon] at q
      exact absurd q one_ne
end
section
/-- the step is over: nothing is marked as its own -/
theorem sim_close {V P R A : VV} {N u : Nat} (hA : rA V R N u) (hon : V 267 1 = 1) (h : rOn V P R A N u) :
    rA (mClose V) (rShut R) N u ∧ mClose V 267 1 = 1 ∧ mClose V 266 4 = 0 ∧ rLf (mClose V) (rShut R) ∧ rShut R 272 14 = -1 ∧ rRows (mClose V) P A N u ∧ hR (mClose V) 3 = hB (A 275) ∧ cU (fun i => decide (¬ mClose V (232 + i) 1 = -1)) 34 0 = hB (A 277) := by
  obtain ⟨a1, a2, a3, a4, a5, a6, a7, a8, a9, a10, a11, a12, a13⟩ := hA
  obtain ⟨o1, o2, ⟨b1, b2, b3, b4, b5, b6⟩, ⟨c1, c2, c3, c4, c5⟩, o5, o6⟩ := h
  have ev : ∀ t j, t < 232 ∨ 266 ≤ t ∨ j ≠ 4 → ¬ (t = 266 ∧ j = 4) → mClose V t j = V t j := fun t j ht h2 => by
    unfold mClose
    rw [zR_at, if_neg (by omega), v2_n h2]
  have e4 : mClose V 266 4 = 0 := by
    unfold mClose
    rw [zR_at, if_neg (by omega), v2_s]
  have ez : ∀ i, i < 34 → mClose V (232 + i) 4 = 0 := fun i hi => by
    unfold mClose
    rw [zR_at, if_pos (by omega)]
  have vr : ∀ i j, i < 34 → j ≠ 4 → mClose V (232 + i) j = V (232 + i) j := fun i j hi hj => ev _ _ (by omega) (by omega)
  have rt : ∀ j, j ≠ 0 → j ≠ 9 → rShut R 272 j = R 272 j := fun j h1 h2 => by
    unfold rShut
    rw [v2_k h2, r0_e R _ h1]
  have r9 : rShut R 272 9 = 0 := by
    unfold rShut
    rw [v2_s]
  refine ⟨⟨?_, ?_, a3, a4, ?_, ?_, ?_, ?_, ?_, ?_, ?_, ?_, ?_⟩, ?_, e4, ?_, ?_, ⟨fun i hi => ?_, fun i j b hi hj hb e1 e2 => ?_, fun b hb => ?_, b4, b5, fun b hb => ?_⟩, ?_, ?_⟩
  · rw [ev _ _ (by omega) (by omega)]; exact a1
  · rw [rt _ (by omega) (by omega)]; exact a2
  · rw [ev _ _ (by omega) (by omega)]; exact a5
  · rw [rt _ (by omega) (by omega)]; exact a6
  · rw [rt _ (by omega) (by omega), ev _ _ (by omega) (by omega)]; exact a7
  · rw [rt _ (by omega) (by omega), ev _ _ (by omega) (by omega)]; exact a8
  · rw [rt _ (by omega) (by omega), ev _ _ (by omega) (by omega)]; exact a9
  · rw [r9, e4]
  · rw [rt _ (by omega) (by omega), ev _ _ (by omega) (by omega)]; exact a11
  · rw [e4]; exact Or.inl rfl
  · rw [ev _ _ (by omega) (by omega)]; exact a13
  · rw [ev _ _ (by omega) (by omega)]; exact hon
  · unfold rLf at o1 ⊢
    rw [rt _ (by omega) (by omega), ev _ _ (by omega) (by omega)]
    exact o1
  · rw [rt _ (by omega) (by omega)]; exact o2
  · rcases b1 i hi with w | ⟨b, w1, w2, w3, w4, w5, w6, w7, w8⟩
    · left
      exact ⟨by rw [vr i 1 hi (by omega)]; exact w.1, by rw [vr i 2 hi (by omega)]; exact w.2.1, by rw [vr i 3 hi (by omega)]; exact w.2.2.1, ez i hi⟩
    · right
      exact ⟨b, w1, by rw [vr i 1 hi (by omega)]; exact w2, by rw [vr i 2 hi (by omega)]; exact w3, w4, by rw [vr i 3 hi (by omega)]; exact w5, fun _ => ez i hi, fun q => absurd e4 q, w8⟩
  · rw [vr i 1 hi (by omega)] at e1
    rw [vr j 1 hj (by omega)] at e2
    exact b2 i j b hi hj hb e1 e2
  · rcases b3 b hb with w | ⟨w, i, hi, e⟩
    · exact Or.inl w
    · exact Or.inr ⟨w, i, hi, by rw [vr i 1 hi (by omega)]; exact e⟩
  · exact ⟨(b6 b hb).1, (b6 b hb).2.1, fun q => absurd e4 q⟩
  · rw [← c1]
    exact cU_congr 34 0 (fun j _ hj => dn_c (vr j 3 (by omega) (by omega)))
  · rw [← c3]
    exact cU_congr 34 0 (fun j _ hj => dn_c (vr j 1 (by omega) (by omega)))
end
section
theorem sim_end {V P R A : VV} {k : Nat} (h : rel V P R A k) : (mEnd V P).1 = (rEnd R A).1 ∧ rel (mEnd V P).2.1 (mEnd V P).2.2 (rEnd R A).2.1 (rEnd R A).2.2 (k + 1) := by
  obtain ⟨N, u, hu, hA, h2, h3⟩ := id h
  obtain ⟨a1, a2, a3, a4, a5, a6, a7, a8, a9, a10, a11, a12, a13⟩ := id hA
  unfold mEnd rEnd
  rw [a10, a11]
  by_cases c : V 267 1 = 0 ∨ V 266 4 = 0
  · rw [if_pos c, if_pos c]
    exact ⟨rfl, rel_0 h⟩
  · rw [if_neg c, if_neg c]
    have hon : V 267 1 = 1 := on_1 hA (fun q => c (Or.inl q))
    have hst : ¬ V 266 4 = 0 := fun q => c (Or.inr q)
    have hO := h2 hon
    obtain ⟨g1, g2, g3, g4, g5, g6, g7, g8⟩ := sim_close hA hon hO
    obtain ⟨o1, o2, -, ⟨c1, c2, c3, c4, c5⟩, o5, o6⟩ := hO
    have h30 := c5 hst
    have hc : mCnt (mClose V) 3 = rMany (A 275) := by rw [mCnt_eq, rMany_eq, g7]
    have hB80 := hB_le (A 275)
    rw [hc]
    by_cases h20 : 20 < rMany (A 275)
    · rw [if_pos h20, if_pos h20]
      have h21 : 20 < hB (A 275) := many_20.mp h20
      obtain ⟨r1, r2, V', P', R', A', e1, e2, e3, e4, e5, e6⟩ := sim_commit g1 g2 g3 g4 g5 g6 g7 g8 o5 o6 (by omega) (by omega)
      rw [e1, e2]
      dsimp only
      refine ⟨?_, N, u, by omega, e4, e5, e6⟩
      by_cases q : r1 = 0
      · rw [if_pos q, if_pos (e3.mp q)]
      · rw [if_neg q, if_neg (fun w => q (e3.mpr w))]
    · rw [if_neg h20, if_neg h20]
      have h21 : hB (A 275) ≤ 20 := by
        rcases Nat.lt_or_ge 20 (hB (A 275)) with q | q
        · exact absurd (many_20.mpr q) h20
        · exact q
      dsimp only
      refine ⟨rfl, N, u, by omega, g1, fun _ => ⟨g4, g5, g6, ⟨g7, fun q => absurd g3 q, g8, fun _ => h21, fun q => absurd g3 q⟩, o5, o6⟩, fun q => ?_⟩
      rw [g2] at q
      exact absurd q one_ne
end
section
theorem sim_flush {V P R A : VV} {k : Nat} (h : rel V P R A k) : (mFlush V P).1 = (rFlush R A).1 ∧ rel (mFlush V P).2.1 (mFlush V P).2.2 (rFlush R A).2.1 (rFlush R A).2.2 (k + 1) := by
  obtain ⟨N, u, hu, hA, h2, h3⟩ := id h
  obtain ⟨a1, a2, a3, a4, a5, a6, a7, a8, a9, a10, a11, a12, a13⟩ := id hA
  unfold mFlush rFlush
  rw [a10, a11]
  by_cases c : V 267 1 = 0 ∨ ¬ V 266 4 = 0
  · rw [if_pos c, if_pos c]
    exact ⟨rfl, rel_0 h⟩
  · rw [if_neg c, if_neg c]
    have hon : V 267 1 = 1 := on_1 hA (fun q => c (Or.inl q))
    have hst : V 266 4 = 0 := Decidable.byContradiction fun q => c (Or.inr q)
    obtain ⟨o1, o2, o3, ⟨c1, c2, c3, c4, c5⟩, o5, o6⟩ := rOn_reg (h2 hon) (r0_e R)
    have h20 := c4 hst
    have hc : mCnt V 3 = rMany (A 275) := by rw [mCnt_eq, rMany_eq, c1]
    rw [hc]
    by_cases h0 : rMany (A 275) = 0
    · rw [if_pos h0, if_pos h0, h0]
      exact ⟨rfl, rel_0 h⟩
    · rw [if_neg h0, if_neg h0]
      have h1 : 1 ≤ hB (A 275) := by
        rcases Nat.eq_zero_or_pos (hB (A 275)) with q | q
        · exact absurd (many_0.mpr q) h0
        · exact q
      obtain ⟨r1, r2, V', P', R', A', e1, e2, e3, e4, e5, e6⟩ := sim_commit (rA_reg hA (r0_e R)) hon hst o1 o2 o3 c1 c3 o5 o6 (by omega) (by omega)
      rw [e1, e2]
      dsimp only
      refine ⟨?_, N, u, by omega, e4, e5, e6⟩
      by_cases q : r1 = 0
      · rw [if_pos q, if_pos (e3.mp q)]
      · rw [if_neg q, if_neg (fun w => q (e3.mpr w))]
end
section
theorem held30 {V A : VV} (h : rCnt V A) : hB (A 275) ≤ 30 := by
  obtain ⟨-, -, -, c4, c5⟩ := h
  by_cases q : V 266 4 = 0
  · have := c4 q
    omega
  · have := c5 q
    omega
theorem sim_get {V P R A : VV} {k : Nat} (h : rel V P R A k) (hk : k + 1 < 2 ^ 31) (b x : Int32) : (mGet V P b x).1 = (rGet R A b x).1 ∧ rel (mGet V P b x).2.1 (mGet V P b x).2.2 (rGet R A b x).2.1 (rGet R A b x).2.2 (k + 1) := by
  obtain ⟨N, u, hu, hA, h2, h3⟩ := id h
  obtain ⟨a1, a2, a3, a4, a5, a6, a7, a8, a9, a10, a11, a12, a13⟩ := id hA
  have hx : ¬ x < 1024 ↔ ¬ x ≤ 1023 := by
    rw [Int32.not_lt, Int32.not_le, Int32.le_iff_toInt_le, Int32.lt_iff_toInt_lt]
    show (1024 : Int) ≤ x.toInt ↔ (1023 : Int) < x.toInt
    omega
  have hbl : mIsBlock V b ↔ rIsBlock R b := (mBlk a1 a4 b).trans (rBlk a2 a4 b).symm
  unfold mGet rGet
  rw [a11]
  by_cases c : V 267 1 = 0 ∨ ¬ mIsBlock V b ∨ x < 0 ∨ ¬ x < 1024
  · have c' : V 267 1 = 0 ∨ ¬ rIsBlock R b ∨ x < 0 ∨ ¬ x ≤ 1023 := by
      rw [← hbl, ← hx]
      exact c
    rw [if_pos c, if_pos c']
    exact ⟨rfl, rel_0 h⟩
  · have c' : ¬ (V 267 1 = 0 ∨ ¬ rIsBlock R b ∨ x < 0 ∨ ¬ x ≤ 1023) := by
      rw [← hbl, ← hx]
      exact c
    rw [if_neg c, if_neg c']
    have hon : V 267 1 = 1 := on_1 hA (fun q => c (Or.inl q))
    have hB : mIsBlock V b := Decidable.byContradiction fun q => c (Or.inr (Or.inl q))
    obtain ⟨bb, hb1, hb2⟩ := (mBlk a1 a4 b).mp hB
    subst hb2
    have hx0 : ¬ x < 0 := fun q => c (Or.inr (Or.inr (Or.inl q)))
    obtain ⟨xx, hx1, hx2⟩ := nI_of hx0
    subst hx2
    have hx3 : xx < 1024 := by
      rcases Nat.lt_or_ge xx 1024 with q | q
      · exact q
      · exact absurd (nI_nlt (a := xx) (b := 1024) q hx1) (fun w => c (Or.inr (Or.inr (Or.inr w))))
    have hO := h2 hon
    have hbb : bb < 80 := by
      have := hb1.1
      omega
    rw [nI_clamp (n := bb) (by omega), nI_clamp (n := xx) hx1]
    obtain ⟨s1, s2, s3, s4, s5, s6, -⟩ := sim_look hA hon hO hb1 (by omega) (held30 hO.2.2.2.1)
    dsimp only
    refine ⟨?_, N, u + 1, by omega, s1, fun _ => s2, fun q => ?_⟩
    · unfold mByte
      rw [if_neg (fun q => by
        rcases q with q | q
        · exact nI_pos hx1 q
        · exact nI_ge (b := 1024) hx3 (by omega) q), nI_clamp hx1, s3.2.2.2.2.2.2.2 xx hx3, s6 274 (by omega)]
    · rw [s4, hon] at q
      exact absurd q one_ne
theorem mRun_at (g : Nat → Int32) (k : Nat) (v : Int32) (n j : Nat) : mRun g k v n j = if k ≤ j ∧ j < k + n then (v + nI (j - k)).toInt8.toInt32 else g j := rfl
/-- the block's bytes change on both sides -/
theorem sim_mark {V P R A : VV} {N u b i k n : Nat} {v : Int32} (hA : rA V R N u) (h : rOn V P R A N u) (hst : V 266 4 = 1) (hb : isB N b) (hi : i < 34) (hf : fRow V P A N i b) (hkn : k + n ≤ 1024) (hlim : A 276 b = 0 → hB (A 276) < 10) :
    rA (mMark V i) R N u ∧ rOn (mMark V i) (p1 P (80 + i) (mRun (P (80 + i)) k v n)) R (rFillP A b k n v) N u := by
  obtain ⟨a1, a2, a3, a4, a5, a6, a7, a8, a9, a10, a11, a12, a13⟩ := hA
  obtain ⟨o1, o2, ⟨b1, b2, b3, b4, b5, b6⟩, ⟨c1, c2, c3, c4, c5⟩, o5, o6⟩ := h
  have hbN := hb.1
  have ev : ∀ t j, ¬ (t = 232 + i ∧ (j = 3 ∨ j = 4)) → mMark V i t j = V t j := fun t j ht => by
    unfold mMark
    rw [v2_n (fun q => ht ⟨q.1, Or.inr q.2⟩), v2_n (fun q => ht ⟨q.1, Or.inl q.2⟩)]
  have m3 : mMark V i (232 + i) 3 = 1 := by
    unfold mMark
    rw [v2_k (by omega), v2_s]
  have m4 : mMark V i (232 + i) 4 = 1 := by
    unfold mMark
    rw [v2_s]
  have vr : ∀ x j, x < 34 → x ≠ i ∨ (j ≠ 3 ∧ j ≠ 4) → mMark V i (232 + x) j = V (232 + x) j := fun x j hx hn => ev _ _ (by omega)
  have e66 : mMark V i 266 4 = V 266 4 := ev _ _ (by omega)
  have f276b : rFillP A b k n v 276 b = 1 := by
    unfold rFillP
    rw [p1_n (by omega), p1_n (by omega), p1_s, pk_us]
  have f276 : ∀ x, x ≠ b → rFillP A b k n v 276 x = A 276 x := fun x hx => by
    unfold rFillP
    rw [p1_n (by omega), p1_n (by omega), p1_s, pk_un hx]
  have f275b : rFillP A b k n v 275 b = 1 := by
    unfold rFillP
    rw [p1_n (by omega), p1_s, pk_us]
  have f275 : ∀ x, x ≠ b → rFillP A b k n v 275 x = A 275 x := fun x hx => by
    unfold rFillP
    rw [p1_n (by omega), p1_s, pk_un hx]
  have f274 : rFillP A b k n v 274 = mRun (A 274) (1024 * b + k) v n := by
    unfold rFillP
    rw [p1_s]
  have fo : ∀ t, t ≠ 274 → t ≠ 275 → t ≠ 276 → rFillP A b k n v t = A t := fun t h1 h2 h3 => by
    unfold rFillP
    rw [p1_n h1, p1_n h2, p1_n h3]
  have n4 : ¬ V 266 4 = 0 := by rw [hst]; decide
  have hrow : ∀ x b', x < 34 → fRow V P A N x b' → fRow (mMark V i) (p1 P (80 + i) (mRun (P (80 + i)) k v n)) (rFillP A b k n v) N x b' := fun x b' hx hw => by
    obtain ⟨w1, w2, w3, w4, w5, w6, w7, w8⟩ := hw
    have hb'N := w1.1
    refine ⟨w1, by rw [vr x 1 hx (by omega)]; exact w2, by rw [vr x 2 hx (by omega), fo 277 (by omega) (by omega) (by omega)]; exact w3, by rw [fo 277 (by omega) (by omega) (by omega)]; exact w4, ?_, fun q => absurd (e66 ▸ q) n4, fun _ => ?_, fun j hj => ?_⟩
    · by_cases ex : x = i
      · subst ex
        have eb : b' = b := by
          have := hf.2.1
          rw [w2] at this
          exact (nI_eq (by omega) (by omega)).mp this
        rw [m3, eb, f275b]
      · have nb : b' ≠ b := fun q => ex (b2 x i b hx hi (by omega) (by rw [← q]; exact w2) hf.2.1)
        rw [vr x 3 hx (by omega), f275 b' nb]
        exact w5
    · by_cases ex : x = i
      · subst ex
        have eb : b' = b := by
          have := hf.2.1
          rw [w2] at this
          exact (nI_eq (by omega) (by omega)).mp this
        rw [m4, eb, f276b]
      · have nb : b' ≠ b := fun q => ex (b2 x i b hx hi (by omega) (by rw [← q]; exact w2) hf.2.1)
        rw [vr x 4 hx (by omega), f276 b' nb]
        exact w7 n4
    · by_cases ex : x = i
      · subst ex
        have eb : b' = b := by
          have := hf.2.1
          rw [w2] at this
          exact (nI_eq (by omega) (by omega)).mp this
        rw [p1_s, f274, eb, mRun_at, mRun_at]
        by_cases c : k ≤ j ∧ j < k + n
        · rw [if_pos c, if_pos (by omega), show 1024 * b + j - (1024 * b + k) = j - k by omega]
        · rw [if_neg c, if_neg (by omega), ← eb]
          exact w8 j hj
      · have nb : b' ≠ b := fun q => ex (b2 x i b hx hi (by omega) (by rw [← q]; exact w2) hf.2.1)
        rw [p1_n (by omega), f274, mRun_at, if_neg (by omega)]
        exact w8 j hj
  have q275 := cU_set (q := nz (A 275)) (q' := nz (rFillP A b k n v 275)) (x := b) 80 0 (by omega) (by omega) (fun j _ _ hj => dn_c (f275 j hj))
  have q276 := cU_set (q := nz (A 276)) (q' := nz (rFillP A b k n v 276)) (x := b) 80 0 (by omega) (by omega) (fun j _ _ hj => dn_c (f276 j hj))
  have qr3 := cU_set (q := nz fun x => V (232 + x) 3) (q' := nz fun x => mMark V i (232 + x) 3) (x := i) 34 0 (by omega) (by omega) (fun j _ h34 hj => dn_c (vr j 3 (by omega) (by omega)))
  have qr4 := cU_set (q := nz fun x => V (232 + x) 4) (q' := nz fun x => mMark V i (232 + x) 4) (x := i) 34 0 (by omega) (by omega) (fun j _ h34 hj => dn_c (vr j 4 (by omega) (by omega)))
  have one1 : (nz (rFillP A b k n v 275) b).toNat = 1 := by simp [nz, f275b]
  have one2 : (nz (rFillP A b k n v 276) b).toNat = 1 := by simp [nz, f276b]
  have one3 : (nz (fun x => mMark V i (232 + x) 3) i).toNat = 1 := by simp [nz, m3]
  have one4 : (nz (fun x => mMark V i (232 + x) 4) i).toNat = 1 := by simp [nz, m4]
  have e3 : (nz (fun x => V (232 + x) 3) i).toNat = (nz (A 275) b).toNat := congrArg Bool.toNat (dn_c (hf.2.2.2.2.1))
  have e4 : (nz (fun x => V (232 + x) 4) i).toNat = (nz (A 276) b).toNat := congrArg Bool.toNat (dn_c (hf.2.2.2.2.2.2.1 n4))
  rw [one1] at q275
  rw [one2] at q276
  rw [one3, e3] at qr3
  rw [one4, e4] at qr4
  have c1' : cU (nz fun x => V (232 + x) 3) 34 0 = cU (nz (A 275)) 80 0 := c1
  have c2' : cU (nz fun x => V (232 + x) 4) 34 0 = cU (nz (A 276)) 80 0 := c2 n4
  have c5' : cU (nz (A 275)) 80 0 ≤ 20 + cU (nz (A 276)) 80 0 ∧ cU (nz (A 276)) 80 0 ≤ 10 := c5 n4
  have hch : A 276 b = 0 ∨ ((nz (A 276) b).toNat = 1 ∧ (nz (A 275) b).toNat = 1) := by
    by_cases q : A 276 b = 0
    · exact Or.inl q
    · right
      have q2 := (b6 b (by omega)).2.2 n4 q
      exact ⟨by simp [nz, q], by simp [nz, q2]⟩
  have hlim' : A 276 b = 0 → cU (nz (A 276)) 80 0 < 10 := hlim
  have hz6 : A 276 b = 0 → (nz (A 276) b).toNat = 0 := fun q => by simp [nz, q]
  refine ⟨⟨?_, a2, a3, a4, ?_, a6, ?_, ?_, ?_, ?_, ?_, ?_, ?_⟩, ?_, o2, ⟨fun x hx => ?_, fun x y b' hx hy hb' e1 e2 => ?_, fun x hx => ?_, fun x hx => ?_, fun x y hx hy => ?_, fun x hx => ?_⟩, ⟨?_, fun _ => ?_, ?_, fun q => absurd (e66 ▸ q) n4, fun _ => ?_⟩, ⟨?_, fun b' hb' j hj => ?_⟩, fun b' hb' h0 j hj => ?_⟩
  · rw [ev _ _ (by omega)]; exact a1
  · rw [ev _ _ (by omega)]; exact a5
  · rw [ev _ _ (by omega)]; exact a7
  · rw [ev _ _ (by omega)]; exact a8
  · rw [ev _ _ (by omega)]; exact a9
  · rw [ev _ _ (by omega)]; exact a10
  · rw [ev _ _ (by omega)]; exact a11
  · rw [ev _ _ (by omega)]; exact a12
  · rw [ev _ _ (by omega)]; exact a13
  · unfold rLf at o1 ⊢
    rw [ev _ _ (by omega)]
    exact o1
  · rcases b1 x hx with w | ⟨b', w⟩
    · left
      have nx : x ≠ i := fun q => by
        have := hf.2.1
        rw [← q, w.1] at this
        exact neg1_ne (by omega) this
      unfold eRow
      rw [vr x 1 hx (by omega), vr x 2 hx (by omega), vr x 3 hx (by omega), vr x 4 hx (by omega)]
      exact w
    · right
      exact ⟨b', hrow x b' hx w⟩
  · rw [vr x 1 hx (by omega)] at e1
    rw [vr y 1 hy (by omega)] at e2
    exact b2 x y b' hx hy hb' e1 e2
  · rw [fo 277 (by omega) (by omega) (by omega)]
    rcases b3 x hx with w | ⟨w, y, hy, e⟩
    · exact Or.inl w
    · exact Or.inr ⟨w, y, hy, by rw [vr y 1 hy (by omega)]; exact e⟩
  · rw [fo 277 (by omega) (by omega) (by omega)]
    exact b4 x hx
  · rw [fo 277 (by omega) (by omega) (by omega)]
    exact b5 x y hx hy
  · rw [fo 277 (by omega) (by omega) (by omega)]
    by_cases ex : x = b
    · rw [ex, f275b]
      exact ⟨Or.inr rfl, fun _ => hf.2.2.2.1, fun _ _ => by decide⟩
    · rw [f275 x ex, f276 x ex, e66]
      exact b6 x hx
  · show cU (nz fun x => mMark V i (232 + x) 3) 34 0 = cU (nz (rFillP A b k n v 275)) 80 0
    omega
  · show cU (nz fun x => mMark V i (232 + x) 4) 34 0 = cU (nz (rFillP A b k n v 276)) 80 0
    omega
  · rw [fo 277 (by omega) (by omega) (by omega), ← c3]
    exact cU_congr 34 0 (fun j _ hj => dn_c (vr j 1 (by omega) (by omega)))
  · show cU (nz (rFillP A b k n v 275)) 80 0 ≤ 20 + cU (nz (rFillP A b k n v 276)) 80 0 ∧ cU (nz (rFillP A b k n v 276)) 80 0 ≤ 10
    have hle5 : (nz (A 275) b).toNat ≤ 1 := Bool.toNat_le _
    rcases hch with q | ⟨q1, q2⟩
    · have := hlim' q
      have := hz6 q
      omega
    · omega
  · rw [p1_n (by omega)]
    exact o5.1
  · rw [p1_n (by omega), fo 273 (by omega) (by omega) (by omega)]
    exact o5.2 b' hb' j hj
  · have nb : b' ≠ b := fun q => by
      rw [q, f275b] at h0
      exact absurd h0 (by decide)
    rw [f275 b' nb] at h0
    rw [f274, mRun_at, if_neg (by omega), fo 273 (by omega) (by omega) (by omega)]
    exact o6 b' hb' h0 j hj
theorem mIsRun_n {k n : Int32} (h : mIsRun k n) : ∃ a b : Nat, k = nI a ∧ n = nI b ∧ 1 ≤ b ∧ a + b ≤ 1024 := by
  obtain ⟨h1, h2, h3, h4⟩ := h
  have hn0 : ¬ n < 0 := fun q => h1 (Int32.lt_iff_toInt_lt.mpr (by
    have := Int32.lt_iff_toInt_lt.mp q
    have e0 : (0 : Int32).toInt = 0 := by decide
    have e1 : (1 : Int32).toInt = 1 := by decide
    omega))
  obtain ⟨a, a1, a2⟩ := nI_of h3
  obtain ⟨b, b1, b2⟩ := nI_of hn0
  subst a2
  subst b2
  have hb : b ≤ 1024 := by
    rcases Nat.lt_or_ge 1024 b with q | q
    · exact absurd (nI_lt (a := 1024) q b1) h2
    · exact q
  have hb1 : 1 ≤ b := by
    rcases Nat.lt_or_ge b 1 with q | q
    · exact absurd (nI_lt (b := 1) q (by omega)) h1
    · exact q
  have e : (1024 : Int32) - nI b = nI (1024 - b) := pk_sub (a := 1024) hb
  rw [e] at h4
  refine ⟨a, b, rfl, rfl, hb1, ?_⟩
  rcases Nat.lt_or_ge (1024 - b) a with q | q
  · exact absurd (nI_lt q a1) h4
  · omega
theorem sim_fill {V P R A : VV} {k : Nat} (h : rel V P R A k) (hk : k + 1 < 2 ^ 31) (b x n v : Int32) : (mFill V P b x n v).1 = (rFill R A b x n v).1 ∧ rel (mFill V P b x n v).2.1 (mFill V P b x n v).2.2 (rFill R A b x n v).2.1 (rFill R A b x n v).2.2 (k + 1) := by
  obtain ⟨N, u, hu, hA, h2, h3⟩ := id h
  obtain ⟨a1, a2, a3, a4, a5, a6, a7, a8, a9, a10, a11, a12, a13⟩ := id hA
  have hbl : mIsBlock V b ↔ rIsBlock R b := (mBlk a1 a4 b).trans (rBlk a2 a4 b).symm
  unfold mFill rFill
  rw [a10, a11]
  by_cases c0 : V 267 1 = 0
  · rw [if_pos (Or.inl c0), if_pos (Or.inl c0)]
    exact ⟨rfl, rel_0 h⟩
  by_cases c1 : V 266 4 = 0
  · rw [if_pos (Or.inr (Or.inl c1)), if_pos (Or.inr (Or.inl c1))]
    exact ⟨rfl, rel_0 h⟩
  by_cases c2 : mIsBlock V b
  case neg =>
    rw [if_pos (Or.inr (Or.inr (Or.inl c2))), if_pos (Or.inr (Or.inr (Or.inl (fun q => c2 (hbl.mpr q)))))]
    exact ⟨rfl, rel_0 h⟩
  by_cases c3 : mIsRun x n
  case neg =>
    rw [if_pos (Or.inr (Or.inr (Or.inr (Or.inl c3)))), if_pos (Or.inr (Or.inr (Or.inr (Or.inl c3))))]
    exact ⟨rfl, rel_0 h⟩
  have hon : V 267 1 = 1 := on_1 hA c0
  have hst : V 266 4 = 1 := st_1 hA c1
  obtain ⟨bb, hb1, hb2⟩ := (mBlk a1 a4 b).mp c2
  subst hb2
  have hO := h2 hon
  have hbN := hb1.1
  have hrows := hO.2.2.1
  have hcn := hO.2.2.2.1
  have hc4 : mCnt V 4 = nI (hB (A 276)) := by rw [mCnt_eq, hcn.2.1 c1]
  have h10 : hB (A 276) ≤ 10 := (hcn.2.2.2.2 c1).2
  have h10' : 10 ≤ mCnt V 4 ↔ rMany (A 276) = 10 := by
    rw [hc4, many_10]
    generalize hB (A 276) = n at h10 ⊢
    exact (le_n (k := 10) (x := 10) rfl (by omega) (by omega)).trans (by omega)
  have htk : mTakes V (nI bb) = 0 ↔ (A 276 bb = 0 ∧ rMany (A 276) = 10) := by
    unfold mTakes
    cases hr : mRow V (nI bb) with
    | none =>
      have h0 : A 276 bb = 0 := Decidable.byContradiction fun q => by
        have q1 := (hrows.2.2.2.2.2 bb (by omega)).2.2 c1 q
        have q2 := (hrows.2.2.2.2.2 bb (by omega)).2.1 q1
        obtain ⟨i, hi, hf⟩ := hrows.row a4 (b := bb) (by omega) q2
        exact mRow_none hr hi hf.2.1
      simp only
      by_cases q : 10 ≤ mCnt V 4
      · rw [if_pos q]
        exact ⟨fun _ => ⟨h0, h10'.mp q⟩, fun _ => rfl⟩
      · rw [if_neg q]
        exact ⟨fun w => absurd w (by decide), fun w => absurd (h10'.mpr w.2) q⟩
    | some i =>
      obtain ⟨i1, i2⟩ := mRow_some hr
      have hf : V (232 + i) 4 = A 276 bb := by
        rcases hrows.1 i i1 with w | ⟨b', w⟩
        · rw [w.1] at i2
          exact absurd i2 (neg1_ne (by omega))
        · have e := w.2.1
          have hb' := w.1
          rw [i2] at e
          have e2 : bb = b' := (nI_eq (by omega) (by omega)).mp e
          rw [e2]
          exact w.2.2.2.2.2.2.1 c1
      simp only
      rw [hf]
      by_cases q0 : A 276 bb = 0
      · rw [if_pos q0]
        by_cases q : 10 ≤ mCnt V 4
        · rw [if_pos q]
          exact ⟨fun _ => ⟨q0, h10'.mp q⟩, fun _ => rfl⟩
        · rw [if_neg q]
          exact ⟨fun w => absurd w (by decide), fun w => absurd (h10'.mpr w.2) q⟩
      · rw [if_neg q0]
        exact ⟨fun w => absurd w (by decide), fun w => absurd w.1 q0⟩
  rw [nI_clamp (n := bb) (by omega)]
  by_cases c4 : mTakes V (nI bb) = 0
  · rw [if_pos (Or.inr (Or.inr (Or.inr (Or.inr c4)))), if_pos (Or.inr (Or.inr (Or.inr (Or.inr (htk.mp c4)))))]
    exact ⟨rfl, rel_0 h⟩
  have c5 : ¬ (A 276 bb = 0 ∧ rMany (A 276) = 10) := fun q => c4 (htk.mpr q)
  rw [if_neg (fun q => by
    rcases q with q | q | q | q | q
    · exact c0 q
    · exact c1 q
    · exact q c2
    · exact q c3
    · exact c4 q), if_neg (fun q => by
    rcases q with q | q | q | q | q
    · exact c0 q
    · exact c1 q
    · exact q (hbl.mp c2)
    · exact q c3
    · exact c5 q)]
  obtain ⟨s1, s2, s3, s4, s5, s6, -⟩ := sim_look hA hon hO hb1 (by omega) (held30 hcn)
  obtain ⟨kk, nn, e1, e2, e3, e4⟩ := mIsRun_n c3
  have hput : ∀ g : Nat → Int32, mPut g x n v = mRun g kk v nn := fun g => by
    unfold mPut
    rw [if_pos c3, e1, e2, nI_clamp (by omega), nI_clamp (by omega)]
  rw [hput, e1, e2, nI_clamp (n := kk) (by omega), nI_clamp (n := nn) (by omega)]
  have hst' : (mLook V P (nI bb)).2.1 266 4 = 1 := by rw [s5]; exact hst
  have key := sim_mark (k := kk) (n := nn) (v := v) s1 s2 hst' hb1 (mLook_lt V P (nI bb)) s3 e4 (fun q => by
    rw [s6 276 (by omega)] at q
    rw [s6 276 (by omega)]
    rcases Nat.lt_or_ge (hB (A 276)) 10 with w | w
    · exact w
    · exact absurd ⟨q, many_10.mpr (by omega)⟩ c5)
  dsimp only
  refine ⟨rfl, N, u + 1, by omega, key.1, fun _ => key.2, fun q => ?_⟩
  have e9 : mMark (mLook V P (nI bb)).2.1 (mLook V P (nI bb)).1 267 1 = 1 := by
    unfold mMark
    have := mLook_lt V P (nI bb)
    rw [v2_t (by omega), v2_t (by omega), s4]
    exact hon
  rw [e9] at q
  exact absurd q one_ne
end
section
theorem rLeft_lf {V R : VV} {k : Int32} (h1 : V 267 2 = k) (h2 : R 272 10 = rLeft k) : rLf V R := by
  unfold rLf
  rw [h1, h2]
  unfold rLeft
  by_cases q : 0 ≤ k
  · rw [if_pos q]
    exact Or.inr ⟨Int32.not_lt.mpr q, rfl⟩
  · rw [if_neg q]
    exact Or.inl ⟨Int32.not_le.mp q, rfl⟩
theorem sim_cut {V P R A : VV} {k : Nat} (h : rel V P R A k) (x : Int32) : (mCut V P x).1 = (rCut R A x).1 ∧ rel (mCut V P x).2.1 (mCut V P x).2.2 (rCut R A x).2.1 (rCut R A x).2.2 (k + 1) := by
  obtain ⟨N, u, hu, hA, h2, h3⟩ := id h
  obtain ⟨a1, a2, a3, a4, a5, a6, a7, a8, a9, a10, a11, a12, a13⟩ := id hA
  unfold mCut rCut
  rw [a11]
  by_cases c : V 267 1 = 0
  · rw [if_pos c, if_pos c]
    exact ⟨rfl, rel_0 h⟩
  · rw [if_neg c, if_neg c]
    have hon : V 267 1 = 1 := on_1 hA c
    have rt : ∀ j, j ≠ 0 → j ≠ 10 → v2 (r0 R) 272 10 (rLeft x) 272 j = R 272 j := fun j h1 h2 => by rw [v2_k h2, r0_e R _ h1]
    have vt : ∀ t j, ¬ (t = 267 ∧ j = 2) → v2 V 267 2 x t j = V t j := fun t j ht => v2_n ht
    have vr : ∀ i j, i < 34 → v2 V 267 2 x (232 + i) j = V (232 + i) j := fun i j hi => vt _ _ (by omega)
    obtain ⟨o1, o2, ⟨b1, b2, b3, b4, b5, b6⟩, ⟨c1, c2, c3, c4, c5⟩, o5, o6⟩ := h2 hon
    have e66 : v2 V 267 2 x 266 4 = V 266 4 := vt _ _ (by omega)
    dsimp only
    refine ⟨rfl, N, u, by omega, ⟨?_, ?_, a3, a4, ?_, ?_, ?_, ?_, ?_, ?_, ?_, ?_, ?_⟩, fun _ => ⟨rLeft_lf v2_s v2_s, ?_, ⟨fun i hi => ?_, fun i j b hi hj hb e1 e2 => ?_, fun b hb => ?_, b4, b5, fun b hb => ?_⟩, ⟨?_, ?_, ?_, ?_, ?_⟩, o5, o6⟩, fun q => ?_⟩
    · rw [vt _ _ (by omega)]; exact a1
    · rw [rt _ (by omega) (by omega)]; exact a2
    · rw [vt _ _ (by omega)]; exact a5
    · rw [rt _ (by omega) (by omega)]; exact a6
    · rw [rt _ (by omega) (by omega), vt _ _ (by omega)]; exact a7
    · rw [rt _ (by omega) (by omega), vt _ _ (by omega)]; exact a8
    · rw [rt _ (by omega) (by omega), vt _ _ (by omega)]; exact a9
    · rw [rt _ (by omega) (by omega), e66]; exact a10
    · rw [rt _ (by omega) (by omega), vt _ _ (by omega)]; exact a11
    · rw [e66]; exact a12
    · rw [vt _ _ (by omega)]; exact a13
    · rw [rt _ (by omega) (by omega)]; exact o2
    · have := b1 i hi
      unfold eRow fRow at this ⊢
      rw [vr i 1 hi, vr i 2 hi, vr i 3 hi, vr i 4 hi, e66]
      exact this
    · rw [vr i 1 hi] at e1
      rw [vr j 1 hj] at e2
      exact b2 i j b hi hj hb e1 e2
    · rcases b3 b hb with w | ⟨w, i, hi, e⟩
      · exact Or.inl w
      · exact Or.inr ⟨w, i, hi, by rw [vr i 1 hi]; exact e⟩
    · rw [e66]
      exact b6 b hb
    · rw [← c1]
      exact cU_congr 34 0 (fun j _ hj => dn_c (vr j 3 (by omega)))
    · rw [e66]
      intro q
      rw [← c2 q]
      exact cU_congr 34 0 (fun j _ hj => dn_c (vr j 4 (by omega)))
    · rw [← c3]
      exact cU_congr 34 0 (fun j _ hj => dn_c (vr j 1 (by omega)))
    · rw [e66]
      exact c4
    · rw [e66]
      exact c5
    · rw [vt _ _ (by omega), hon] at q
      exact absurd q one_ne
/-- nothing is held, no row is taken, nothing is stamped -/
theorem on_empty {V P R A : VV} {N u : Nat} (h4 : V 266 4 = 0) (hl : rLf V R) (hun : R 272 14 = -1) (he : ∀ i, i < 34 → eRow V i) (h277 : ∀ b, b < 80 → A 277 b = 0) (h275 : ∀ b, b < 80 → A 275 b = 0) (hd : rDisk P A N) (hc : ∀ b, isB N b → ∀ j, j < 1024 → A 274 (1024 * b + j) = A 273 (1024 * b + j)) : rOn V P R A N u := by
  refine ⟨hl, hun, ⟨fun i hi => Or.inl (he i hi), fun i j b hi hj hb e1 _ => ?_, fun b hb => Or.inl (h277 b hb), fun b hb => ⟨0, Nat.zero_le _, by rw [h277 b hb, nI_0]⟩, fun b b' hb hb' _ hn => absurd (h277 b hb) hn, fun b hb => ⟨Or.inl (h275 b hb), fun q => absurd (h275 b hb) q, fun q => absurd h4 q⟩⟩, ⟨?_, fun q => absurd h4 q, ?_, fun _ => ?_, fun q => absurd h4 q⟩, hd, fun b hb _ => hc b hb⟩
  · rw [(he i hi).1] at e1
    exact absurd e1 (neg1_ne hb)
  · rw [hR_zero (fun i hi => (he i hi).2.2.1), hB_zero h275]
  · rw [hB_zero h277]
    exact cU_zero 34 0 (fun j _ hj => by
      have := (he j (by omega)).1
      simp [this])
  · rw [hB_zero h275]
    omega
theorem sim_power {V P R A : VV} {k : Nat} (h : rel V P R A k) (x : Int32) : (mPower V P x).1 = (rPower R A x).1 ∧ rel (mPower V P x).2.1 (mPower V P x).2.2 (rPower R A x).2.1 (rPower R A x).2.2 (k + 1) := by
  obtain ⟨N, u, hu, hA, h2, h3⟩ := id h
  obtain ⟨a1, a2, a3, a4, a5, a6, a7, a8, a9, a10, a11, a12, a13⟩ := id hA
  unfold mPower rPower
  rw [a11]
  by_cases c : V 267 1 = 0
  case neg =>
    rw [if_neg c, if_neg c]
    exact ⟨rfl, rel_0 h⟩
  rw [if_pos c, if_pos c]
  obtain ⟨f1, f2, f3⟩ := h3 c
  generalize hV1 : v2 (v2 V 267 1 1) 267 2 x = V1
  generalize hR1 : rBackV R x = R1
  generalize hA1 : rBackP A = A1
  have v1 : V1 267 1 = 1 := by rw [← hV1, v2_k (by omega), v2_s]
  have v2' : V1 267 2 = x := by rw [← hV1, v2_s]
  have vt : ∀ t j, ¬ (t = 267 ∧ (j = 1 ∨ j = 2)) → V1 t j = V t j := fun t j ht => by
    rw [← hV1, v2_n (fun q => ht ⟨q.1, Or.inr q.2⟩), v2_n (fun q => ht ⟨q.1, Or.inl q.2⟩)]
  have r8 : R1 272 8 = 1 := by
    rw [← hR1]
    unfold rBackV
    rw [v2_k (by omega), v2_k (by omega), v2_s]
  have r9 : R1 272 9 = 0 := by
    rw [← hR1]
    unfold rBackV
    rw [v2_k (by omega), v2_s]
  have r10 : R1 272 10 = rLeft x := by
    rw [← hR1]
    unfold rBackV
    rw [v2_s]
  have rt : ∀ j, j ≠ 0 → j ≠ 8 → j ≠ 9 → j ≠ 10 → R1 272 j = R 272 j := fun j h1 h2 h3 h4 => by
    rw [← hR1]
    unfold rBackV
    rw [v2_k h4, v2_k h3, v2_k h2, r0_e R _ h1]
  have z7 : ∀ b, b < 80 → A1 277 b = 0 := fun b hb => by
    rw [← hA1]
    unfold rBackP
    rw [p1_s]
    unfold zF
    rw [if_pos hb]
  have z5 : ∀ b, b < 80 → A1 275 b = 0 := fun b hb => by
    rw [← hA1]
    unfold rBackP
    rw [p1_n (by omega), p1_s]
    unfold zF
    rw [if_pos hb]
  have z3 : A1 273 = A 273 := by
    rw [← hA1]
    unfold rBackP
    rw [p1_n (by omega), p1_n (by omega), p1_n (by omega)]
  have z4 : ∀ b, isB N b → ∀ j, j < 1024 → A1 274 (1024 * b + j) = A1 273 (1024 * b + j) := fun b hb j hj => by
    rw [z3, ← hA1]
    unfold rBackP
    rw [p1_n (by omega), p1_n (by omega), p1_s]
    unfold rNow
    have := hb.1
    rw [if_pos (by omega)]
  have hlf : rLf V1 R1 := rLeft_lf v2' r10
  have hA1' : rA V1 R1 N u := by
    refine ⟨?_, ?_, a3, a4, ?_, ?_, ?_, ?_, ?_, ?_, ?_, ?_, ?_⟩
    · rw [vt _ _ (by omega)]; exact a1
    · rw [rt _ (by omega) (by omega) (by omega) (by omega)]; exact a2
    · rw [vt _ _ (by omega)]; exact a5
    · rw [rt _ (by omega) (by omega) (by omega) (by omega)]; exact a6
    · rw [rt _ (by omega) (by omega) (by omega) (by omega), vt _ _ (by omega)]; exact a7
    · rw [rt _ (by omega) (by omega) (by omega) (by omega), vt _ _ (by omega)]; exact a8
    · rw [rt _ (by omega) (by omega) (by omega) (by omega), vt _ _ (by omega)]; exact a9
    · rw [r9, vt _ _ (by omega), f1]
    · rw [r8, v1]
    · rw [vt _ _ (by omega), f1]; exact Or.inl rfl
    · rw [v1]; exact Or.inr rfl
  have he : ∀ i, i < 34 → eRow V1 i := fun i hi => by
    have := f2 i hi
    unfold eRow at this ⊢
    rw [vt _ _ (by omega), vt _ _ (by omega), vt _ _ (by omega), vt _ _ (by omega)]
    exact this
  have h4 : V1 266 4 = 0 := by rw [vt _ _ (by omega)]; exact f1
  rcases f3 with ⟨q1, q2⟩ | ⟨n, blk, n1, n30, q1, q2⟩
  · rw [mHome_0 q2.1, if_pos (by rw [q1]; decide)]
    dsimp only
    refine ⟨rfl, N, u, by omega, hA1', fun _ => on_empty h4 hlf (by rw [rt _ (by omega) (by omega) (by omega) (by omega)]; exact q1) he z7 z5 ⟨?_, fun b hb j hj => ?_⟩ z4, fun q => ?_⟩
    · rw [p1_n (by omega)]
      exact q2.1
    · have := hb.1
      rw [p1_n (by omega), z3]
      exact q2.2 b hb j hj
    · rw [v1] at q
      exact absurd q one_ne
  · rw [if_neg (by rw [q1]; exact nI_pos (by omega))]
    have hL : rLog P A1 N n blk := by
      obtain ⟨l1, l2, l3⟩ := q2
      refine ⟨l1, fun i h1 h2 => ?_, fun b hb hn j hj => ?_⟩
      · rw [z3]
        exact l2 i h1 h2
      · rw [z3]
        exact l3 b hb hn j hj
    have hon1 : ¬ V1 267 1 = 0 := by rw [v1]; decide
    have e14 : R1 272 14 + 1 = nI (n + 1) := by rw [rt _ (by omega) (by omega) (by omega) (by omega), q1, nI_1]
    unfold rEnded
    rw [e14]
    rcases mHome_n a4 n1 n30 hon1 hL with ⟨V', P', g1, g2, g3, g4⟩ | ⟨V', P', m, g1, g2, g3, g4, g5⟩
    · obtain ⟨R', t1, t2, t3, t4⟩ := rW_ok hlf g2 (by omega)
      rw [g1, t1]
      dsimp only
      rw [if_neg one_ne, if_neg one_ne]
      have eo : ∀ j, j ≠ 10 → j ≠ 11 → j ≠ 14 → v2 R' 272 14 (-1) 272 j = R1 272 j := fun j h1 h2 h3 => by rw [v2_k h3, t4 _ _ (by omega)]
      obtain ⟨p1', p2, p3, p4, p5, p6, p7, p8, p9, p10, p11, p12, p13⟩ := hA1'
      refine ⟨by rw [q1], N, u, by omega, ⟨?_, ?_, p3, p4, ?_, ?_, ?_, ?_, ?_, ?_, ?_, ?_, ?_⟩, fun _ => on_empty ?_ ?_ v2_s (fun i hi => ?_) z7 z5 g3 z4, fun q => ?_⟩
      · rw [g2.at (by omega)]; exact p1'
      · rw [eo _ (by omega) (by omega) (by omega)]; exact p2
      · rw [g2.at (by omega)]; exact p5
      · rw [eo _ (by omega) (by omega) (by omega)]; exact p6
      · rw [v2_k (by omega), t2, g2.1, p7]
      · rw [eo _ (by omega) (by omega) (by omega), g2.at (by omega)]; exact p8
      · rw [eo _ (by omega) (by omega) (by omega), g2.at (by omega)]; exact p9
      · rw [eo _ (by omega) (by omega) (by omega), g2.at (by omega)]; exact p10
      · rw [eo _ (by omega) (by omega) (by omega), g2.on]; exact p11
      · rw [g2.at (by omega)]; exact p12
      · rw [g2.on]; exact p13
      · rw [g2.at (by omega)]; exact h4
      · unfold rLf at t3 ⊢
        rw [v2_k (by omega)]
        exact t3
      · have := he i hi
        unfold eRow at this ⊢
        rw [g2.at (by omega), g2.at (by omega), g2.at (by omega), g2.at (by omega)]
        exact this
      · rw [g2.on] at q
        exact absurd q hon1
    · obtain ⟨R', t1, t2, t3, t4⟩ := rW_no hlf g3 g2 (by omega)
      rw [g1, t1]
      dsimp only
      rw [if_pos rfl, if_pos rfl]
      have eo : ∀ j, j ≠ 8 → j ≠ 10 → j ≠ 11 → v2 R' 272 14 (R' 272 14) 272 j = R1 272 j := fun j h1 h2 h3 => by
        by_cases q : j = 14
        · rw [q, v2_s, t4 _ _ (by omega)]
        · rw [v2_k q, t4 _ _ (by omega)]
      obtain ⟨p1', p2, p3, p4, p5, p6, p7, p8, p9, p10, p11, p12, p13⟩ := hA1'
      refine ⟨rfl, N, u, by omega, ⟨?_, ?_, p3, p4, ?_, ?_, ?_, ?_, ?_, ?_, ?_, ?_, ?_⟩, fun q => ?_, fun _ => ⟨?_, fun i hi => ?_, Or.inr ⟨n, blk, n1, n30, ?_, g4⟩⟩⟩
      · rw [g3.at (by omega)]; exact p1'
      · rw [eo _ (by omega) (by omega) (by omega)]; exact p2
      · rw [g3.at (by omega)]; exact p5
      · rw [eo _ (by omega) (by omega) (by omega)]; exact p6
      · rw [v2_k (by omega), t2, g3.2.2.1, p7]
      · rw [eo _ (by omega) (by omega) (by omega), g3.at (by omega)]; exact p8
      · rw [eo _ (by omega) (by omega) (by omega), g3.at (by omega)]; exact p9
      · rw [eo _ (by omega) (by omega) (by omega), g3.at (by omega)]; exact p10
      · rw [v2_k (by omega), t3, g3.2.2.2.1]
      · rw [g3.at (by omega)]; exact p12
      · rw [g3.2.2.2.1]; exact Or.inl rfl
      · rw [g3.2.2.2.1] at q
        exact absurd q (by decide)
      · rw [g3.at (by omega)]; exact h4
      · have := he i hi
        unfold eRow at this ⊢
        rw [g3.at (by omega), g3.at (by omega), g3.at (by omega), g3.at (by omega)]
        exact this
      · rw [eo _ (by omega) (by omega) (by omega), rt _ (by omega) (by omega) (by omega) (by omega)]; exact q1
theorem sim_count {V P R A : VV} {k : Nat} (h : rel V P R A k) (w : Int32) : mCount V w = rCount R A w := by
  obtain ⟨N, u, hu, hA, h2, h3⟩ := id h
  obtain ⟨a1, a2, a3, a4, a5, a6, a7, a8, a9, a10, a11, a12, a13⟩ := id hA
  have e2 : mCnt V 3 = if V 267 1 = 0 then 0 else rMany (A 275) := by
    by_cases c : V 267 1 = 0
    · rw [if_pos c, mCnt_eq, hR_zero (fun i hi => ((h3 c).2.1 i hi).2.2.1), nI_0]
    · rw [if_neg c, mCnt_eq, rMany_eq, (h2 (on_1 hA c)).2.2.2.1.1]
  have e3 : (if V 266 4 = 0 then -1 else mCnt V 4) = if V 267 1 = 0 ∨ V 266 4 = 0 then -1 else rMany (A 276) := by
    by_cases c : V 267 1 = 0
    · rw [if_pos (h3 c).1, if_pos (Or.inl c)]
    · by_cases c4 : V 266 4 = 0
      · rw [if_pos c4, if_pos (Or.inr c4)]
      · rw [if_neg c4, if_neg (fun q => by rcases q with q | q; exact c q; exact c4 q), mCnt_eq, rMany_eq, (h2 (on_1 hA c)).2.2.2.1.2.1 c4]
  unfold mCount rCount
  rw [a2, a7, a8, a9, a10, a11, a1, e2, e3]
theorem sim_held {V P R A : VV} {k : Nat} (h : rel V P R A k) (b : Int32) : mHeld V b = rHeld R A b := by
  obtain ⟨N, u, hu, hA, h2, h3⟩ := id h
  obtain ⟨a1, a2, a3, a4, a5, a6, a7, a8, a9, a10, a11, a12, a13⟩ := id hA
  have hbl : mIsBlock V b ↔ rIsBlock R b := (mBlk a1 a4 b).trans (rBlk a2 a4 b).symm
  unfold mHeld rHeld
  rw [a11]
  by_cases c0 : V 267 1 = 0
  · rw [if_pos (Or.inl c0), if_pos (Or.inl c0)]
  by_cases c2 : mIsBlock V b
  case neg => rw [if_pos (Or.inr c2), if_pos (Or.inr (Or.inl (fun q => c2 (hbl.mpr q))))]
  rw [if_neg (fun q => by rcases q with q | q; exact c0 q; exact q c2)]
  obtain ⟨bb, hb1, hb2⟩ := (mBlk a1 a4 b).mp c2
  subst hb2
  have hbN := hb1.1
  rw [nI_clamp (by omega)]
  have hrows := (h2 (on_1 hA c0)).2.2.1
  cases hr : mRow V (nI bb) with
  | none =>
    have h0 : A 275 bb = 0 := Decidable.byContradiction fun q => by
      have q2 := (hrows.2.2.2.2.2 bb (by omega)).2.1 q
      obtain ⟨i, hi, hf⟩ := hrows.row a4 (b := bb) (by omega) q2
      exact mRow_none hr hi hf.2.1
    rw [if_pos (Or.inr (Or.inr h0))]
  | some i =>
    obtain ⟨i1, i2⟩ := mRow_some hr
    have hf : V (232 + i) 3 = A 275 bb := by
      rcases hrows.1 i i1 with w | ⟨b', w⟩
      · rw [w.1] at i2
        exact absurd i2 (neg1_ne (by omega))
      · have e := w.2.1
        have hb' := w.1
        rw [i2] at e
        have e2 : bb = b' := (nI_eq (by omega) (by omega)).mp e
        rw [e2]
        exact w.2.2.2.2.1
    simp only
    rw [hf]
    by_cases q : A 275 bb = 0
    · rw [if_pos q, if_pos (Or.inr (Or.inr q))]
    · rw [if_neg q, if_neg (fun w => by
        rcases w with w | w | w
        · exact c0 w
        · exact w (hbl.mp c2)
        · exact q w)]
theorem sim_cached {V P R A : VV} {k : Nat} (h : rel V P R A k) (hk : k < 2 ^ 31) (b : Int32) : mCached V b = rCached R A b := by
  obtain ⟨N, u, hu, hA, h2, h3⟩ := id h
  obtain ⟨a1, a2, a3, a4, a5, a6, a7, a8, a9, a10, a11, a12, a13⟩ := id hA
  have hbl : mIsBlock V b ↔ rIsBlock R b := (mBlk a1 a4 b).trans (rBlk a2 a4 b).symm
  unfold mCached rCached
  rw [a11]
  by_cases c0 : V 267 1 = 0
  · rw [if_pos (Or.inl c0), if_pos (Or.inl c0)]
  by_cases c2 : mIsBlock V b
  case neg => rw [if_pos (Or.inr c2), if_pos (Or.inr (Or.inl (fun q => c2 (hbl.mpr q))))]
  rw [if_neg (fun q => by rcases q with q | q; exact c0 q; exact q c2)]
  obtain ⟨bb, hb1, hb2⟩ := (mBlk a1 a4 b).mp c2
  subst hb2
  have hbN := hb1.1
  rw [nI_clamp (by omega)]
  have hrows := (h2 (on_1 hA c0)).2.2.1
  obtain ⟨x, x1, x2⟩ := hrows.2.2.2.1 bb (by omega)
  have hle : A 277 bb ≤ 0 ↔ A 277 bb = 0 := by
    rw [x2]
    constructor
    · intro q
      rcases Nat.eq_zero_or_pos x with w | w
      · rw [w, nI_0]
      · exact absurd q (nI_nle w (by omega))
    · intro q
      rw [q]
      decide
  cases hr : mRow V (nI bb) with
  | none =>
    have h0 : A 277 bb = 0 := Decidable.byContradiction fun q => by
      obtain ⟨i, hi, hf⟩ := hrows.row a4 (b := bb) (by omega) q
      exact mRow_none hr hi hf.2.1
    rw [if_pos (Or.inr (Or.inr (hle.mpr h0)))]
  | some i =>
    obtain ⟨i1, i2⟩ := mRow_some hr
    have hf : ¬ A 277 bb = 0 := by
      rcases hrows.1 i i1 with w | ⟨b', w⟩
      · rw [w.1] at i2
        exact absurd i2 (neg1_ne (by omega))
      · have e := w.2.1
        have hb' := w.1
        rw [i2] at e
        have e2 : bb = b' := (nI_eq (by omega) (by omega)).mp e
        rw [e2]
        exact w.2.2.2.1
    rw [if_neg (fun w => by
      rcases w with w | w | w
      · exact c0 w
      · exact w (hbl.mp c2)
      · exact hf (hle.mp w))]
end
section
/-! WHAT A CALL LEAVES ALONE, pure -/
theorem v2_T {V : VV} {t k t' : Nat} {x : Int32} (h : t' ≠ t) : v2 V t k x t' = V t' := by
  funext j
  exact v2_t h
theorem sR_v {V P : VV} {t k : Nat} {x : Int32} (h : t ≠ 272) : sameR V P (v2 V t k x) P := ⟨v2_T (Ne.symm h), fun _ _ => rfl⟩
theorem sR_p {V P : VV} {t : Nat} {g : Nat → Int32} (h : t ≤ 272) : sameR V P V (p1 P t g) := ⟨rfl, fun t' ht => p1_n (by omega)⟩
theorem sC_v {V P : VV} {k : Nat} {x : Int32} : sameC V P (v2 V 272 k x) P := ⟨fun t ht => v2_T (by omega), fun _ _ => rfl⟩
theorem sC_p {V P : VV} {t : Nat} {g : Nat → Int32} (h : 272 < t) : sameC V P V (p1 P t g) := ⟨fun _ _ => rfl, fun t' ht => p1_n (by omega)⟩
theorem sR_write {V P : VV} {b : Int32} {t : Nat} : sameR V P (mWrite V P b t).2.1 (mWrite V P b t).2.2 := by
  unfold mWrite
  by_cases c : V 267 1 = 0 ∨ b < 0 ∨ ¬ b < 80
  · rw [if_pos c]
    exact sameR.rf
  · rw [if_neg c]
    have hb0 : ¬ b < 0 := fun q => c (Or.inr (Or.inl q))
    have hb8 : b < 80 := Decidable.byContradiction fun q => c (Or.inr (Or.inr q))
    obtain ⟨x, x1, x2⟩ := nI_of hb0
    subst x2
    have hx : x < 80 := (nI_ltI (b := 80) x1 (by omega)).mp hb8
    rw [nI_clamp x1]
    by_cases c2 : V 267 2 = 0
    · rw [if_pos c2]
      exact sR_v (by omega)
    · rw [if_neg c2]
      by_cases c3 : V 267 2 ≤ 0
      · rw [if_pos c3]
        exact (sR_v (by omega)).tr (sR_p (by omega))
      · rw [if_neg c3]
        exact ((sR_v (by omega)).tr (sR_v (by omega))).tr (sR_p (by omega))
theorem sR_read {V P : VV} {b : Int32} {t : Nat} (ht : t ≤ 272) : sameR V P V (mRead P b t) := by
  unfold mRead
  by_cases c : b < 0 ∨ 80 ≤ b
  · rw [if_pos c]
    exact sameR.rf
  · rw [if_neg c]
    exact sR_p ht
theorem sR_chL : ∀ (n i : Nat) (k : Int32) (V P : VV), sameR V P (chL n i k V P).2.1 (chL n i k V P).2.2
  | 0, _, k, V, P => sR_p (by omega)
  | n + 1, i, k, V, P => by
    simp only [chL]
    by_cases c : V (232 + i) 3 = 0 ∨ 30 ≤ k
    · rw [if_pos c]
      exact sR_chL n (i + 1) k V P
    · rw [if_neg c]
      have h1 : sameR V P (mWrite V (p1 P 114 (mPut (P 114) (k + 1) 1 (V (232 + i) 1))) (2 + (k + 1)) (80 + i)).2.1 (mWrite V (p1 P 114 (mPut (P 114) (k + 1) 1 (V (232 + i) 1))) (2 + (k + 1)) (80 + i)).2.2 := (sR_p (by omega)).tr sR_write
      by_cases c2 : (mWrite V (p1 P 114 (mPut (P 114) (k + 1) 1 (V (232 + i) 1))) (2 + (k + 1)) (80 + i)).1 = 0
      · rw [if_pos c2]
        exact h1
      · rw [if_neg c2]
        exact h1.tr (sR_chL n (i + 1) (k + 1) _ _)
theorem sR_fin {n : Int32} {V P : VV} : sameR V P (mFin n V P).2.1 (mFin n V P).2.2 := by
  have h1 : sameR V P (mWrite V (p1 P 114 (mPut (P 114) 0 1 0)) 2 114).2.1 (mWrite V (p1 P 114 (mPut (P 114) 0 1 0)) 2 114).2.2 := (sR_p (by omega)).tr sR_write
  unfold mFin
  by_cases c : (mWrite V (p1 P 114 (mPut (P 114) 0 1 0)) 2 114).1 = 0
  · rw [if_pos c]
    exact h1
  · rw [if_neg c]
    exact h1
theorem sR_bhL (n : Int32) : ∀ (r i : Nat) (V P : VV), sameR V P (bhL n r i V P).2.1 (bhL n r i V P).2.2
  | 0, _, V, P => sR_fin
  | r + 1, i, V, P => by
    simp only [bhL]
    have h1 : sameR V P (mWrite V (mRead P (2 + nI i) 115) (mByte (mRead P (2 + nI i) 115 114) (nI i)) 115).2.1 (mWrite V (mRead P (2 + nI i) 115) (mByte (mRead P (2 + nI i) 115 114) (nI i)) 115).2.2 := (sR_read (by omega)).tr sR_write
    by_cases c : (mWrite V (mRead P (2 + nI i) 115) (mByte (mRead P (2 + nI i) 115 114) (nI i)) 115).1 = 0
    · rw [if_pos c]
      exact h1
    · rw [if_neg c]
      exact h1.tr (sR_bhL n r (i + 1) _ _)
theorem sR_home {V P : VV} : sameR V P (mHome V P).2.1 (mHome V P).2.2 := by
  unfold mHome
  by_cases c : mN P = 0
  · rw [if_pos c]
    exact sR_read (V := V) (P := P) (b := 2) (t := 114) (by omega)
  · rw [if_neg c]
    exact (sR_read (t := 114) (by omega)).tr (sR_bhL _ _ _ _ _)
theorem sR_out {V P : VV} : sameR V P (mOut V P).2.1 (mOut V P).2.2 := by
  have h1 : sameR V P (mCopy V P).2.1 (mCopy V P).2.2 := sR_chL 34 0 0 V P
  unfold mOut
  by_cases c : (mCopy V P).1 = 0
  · rw [if_pos c]
    exact h1
  · rw [if_neg c]
    refine h1.tr ?_
    generalize (mCopy V P).2.1 = V1
    generalize (mCopy V P).2.2 = P1
    have h2 : sameR V1 P1 (mWrite V1 P1 2 114).2.1 (mWrite V1 P1 2 114).2.2 := sR_write
    unfold mOut1
    by_cases c2 : (mWrite V1 P1 2 114).1 = 0
    · rw [if_pos c2]
      exact h2
    · rw [if_neg c2]
      exact h2.tr ((sR_v (by omega)).tr sR_home)
theorem sR_zR {k n i : Nat} {V P : VV} (h : i + n ≤ 34) : sameR V P (zR k n i V) P := ⟨by
  funext j
  rw [zR_at, if_neg (by omega)], fun _ _ => rfl⟩
theorem sR_eR {n i : Nat} {V P : VV} (h : i + n ≤ 34) : sameR V P (eR n i V) P := ⟨by
  funext j
  rw [eR_at, if_neg (by omega)], fun _ _ => rfl⟩
theorem sR_commit {V P : VV} : sameR V P (mCommit V P).2.1 (mCommit V P).2.2 := by
  have h1 : sameR V P (mOut V P).2.1 (mOut V P).2.2 := sR_out
  unfold mCommit
  by_cases c : (mOut V P).1 = 0
  · rw [if_pos c]
    exact h1.tr (sR_eR (by omega))
  · rw [if_neg c]
    exact h1.tr (sR_zR (by omega))
theorem sR_close {V P : VV} : sameR V P (mClose V) P := (sR_v (by omega)).tr (sR_zR (by omega))
theorem sR_look {V P : VV} {b : Int32} : sameR V P (mLook V P b).2.1 (mLook V P b).2.2 := by
  unfold mLook mTouch mTake
  have hg := mGive_lt V
  split
  · rename_i i h
    have := (mRow_some h).1
    exact (sR_v (by omega)).tr (sR_v (by omega))
  · exact ((((sR_v (by omega)).tr (sR_v (by omega))).tr (sR_v (by omega))).tr (sR_v (by omega))).tr (sR_read (by omega))
theorem sC_w {R A : VV} {n : Int32} : sameC R A (rWritten R n).2 A := by
  unfold rWritten
  by_cases c : R 272 10 < 0
  · rw [if_pos c]
    exact sC_v.tr sC_v
  · rw [if_neg c]
    by_cases c2 : R 272 10 < n
    · rw [if_pos c2]
      exact (sC_v.tr sC_v).tr sC_v
    · rw [if_neg c2]
      exact sC_v.tr sC_v
theorem sC_ended {R A : VV} : sameC R A (rEnded R).2 A := sC_w.tr sC_v
theorem sC_rP {R A : VV} {N : Nat} : sameC R A R (rP A N) := (sC_p (by omega)).tr (sC_p (by omega))
theorem sC_commit {R A : VV} : sameC R A (rCommit R A).2.1 (rCommit R A).2.2 := by
  unfold rCommit
  by_cases c : (rWritten R (rMany (A 275) + 1)).1 = 0
  · rw [if_pos c]
    exact sC_w
  · rw [if_neg c]
    unfold rCommit2
    exact sC_w.tr ((sC_v.tr sC_v).tr (sC_ended.tr sC_rP))
theorem sC_0 {R A : VV} : sameC R A (r0 R) A := sC_v
theorem sC_stamp {R V A : VV} {b : Nat} : sameC R A R (rStamp V A b) := sC_p (by omega)
theorem sC_evict {R V A : VV} : sameC R A R (rEvict V A) := by
  unfold rEvict
  by_cases c : (rScan V A).1 = 34
  · rw [if_pos c]
    exact sC_p (by omega)
  · rw [if_neg c]
    exact sameC.rf
theorem sC_look {R A : VV} {b : Nat} : sameC R A (rLook R A b).1 (rLook R A b).2 := by
  unfold rLook
  by_cases c : A 277 b = 0
  · rw [if_pos c]
    exact (sC_v.tr sC_v).tr (sC_evict.tr sC_stamp)
  · rw [if_neg c]
    exact sC_v.tr sC_stamp
/-! THE STEPS: from a state in which both agree to the next -/
theorem st_begin {V P V1 P1 V2 P2 : VV} {k : Nat} {r1 r2 : Int32} (h : rel V P V P k) (h1 : (r1, V1, P1) = mBegin V P) (h2 : (r2, V2, P2) = rBegin V1 P1) : r1 = r2 ∧ rel V2 P2 V2 P2 (k + 1) := by
  have s1 : sameR V P V1 P1 := by
    have e1 : V1 = (mBegin V P).2.1 := congrArg (fun x => x.2.1) h1
    have e2 : P1 = (mBegin V P).2.2 := congrArg (fun x => x.2.2) h1
    rw [e1, e2]
    unfold mBegin
    split
    · exact sameR.rf
    · exact sR_v (by omega)
  have s2 : sameC V1 P1 V2 P2 := by
    have e1 : V2 = (rBegin V1 P1).2.1 := congrArg (fun x => x.2.1) h2
    have e2 : P2 = (rBegin V1 P1).2.2 := congrArg (fun x => x.2.2) h2
    rw [e1, e2]
    unfold rBegin
    split
    · exact sC_0
    · exact (sC_0.tr sC_v).tr (sC_p (by omega))
  have key := sim_begin (rel_R h s1)
  rw [← h1, ← h2] at key
  exact ⟨key.1, rel_C key.2 s2⟩
theorem st_end {V P V1 P1 V2 P2 : VV} {k : Nat} {r1 r2 : Int32} (h : rel V P V P k) (h1 : (r1, V1, P1) = mEnd V P) (h2 : (r2, V2, P2) = rEnd V1 P1) : r1 = r2 ∧ rel V2 P2 V2 P2 (k + 1) := by
  have s1 : sameR V P V1 P1 := by
    have e1 : V1 = (mEnd V P).2.1 := congrArg (fun x => x.2.1) h1
    have e2 : P1 = (mEnd V P).2.2 := congrArg (fun x => x.2.2) h1
    rw [e1, e2]
    unfold mEnd
    split
    · exact sameR.rf
    · split
      · exact sR_close.tr sR_commit
      · exact sR_close
  have s2 : sameC V1 P1 V2 P2 := by
    have e1 : V2 = (rEnd V1 P1).2.1 := congrArg (fun x => x.2.1) h2
    have e2 : P2 = (rEnd V1 P1).2.2 := congrArg (fun x => x.2.2) h2
    rw [e1, e2]
    unfold rEnd
    split
    · exact sC_0
    · split
      · exact (sC_0.tr sC_v).tr sC_commit
      · exact sC_0.tr sC_v
  have key := sim_end (rel_R h s1)
  rw [← h1, ← h2] at key
  exact ⟨key.1, rel_C key.2 s2⟩
theorem st_flush {V P V1 P1 V2 P2 : VV} {k : Nat} {r1 r2 : Int32} (h : rel V P V P k) (h1 : (r1, V1, P1) = mFlush V P) (h2 : (r2, V2, P2) = rFlush V1 P1) : r1 = r2 ∧ rel V2 P2 V2 P2 (k + 1) := by
  have s1 : sameR V P V1 P1 := by
    have e1 : V1 = (mFlush V P).2.1 := congrArg (fun x => x.2.1) h1
    have e2 : P1 = (mFlush V P).2.2 := congrArg (fun x => x.2.2) h1
    rw [e1, e2]
    unfold mFlush
    split
    · exact sameR.rf
    · split
      · exact sameR.rf
      · exact sR_commit
  have s2 : sameC V1 P1 V2 P2 := by
    have e1 : V2 = (rFlush V1 P1).2.1 := congrArg (fun x => x.2.1) h2
    have e2 : P2 = (rFlush V1 P1).2.2 := congrArg (fun x => x.2.2) h2
    rw [e1, e2]
    unfold rFlush
    split
    · exact sC_0
    · split
      · exact sC_0
      · exact sC_0.tr sC_commit
  have key := sim_flush (rel_R h s1)
  rw [← h1, ← h2] at key
  exact ⟨key.1, rel_C key.2 s2⟩
theorem st_get {V P V1 P1 V2 P2 : VV} {k : Nat} {r1 r2 b x : Int32} (h : rel V P V P k) (hk : k + 1 < 2 ^ 31) (h1 : (r1, V1, P1) = mGet V P b x) (h2 : (r2, V2, P2) = rGet V1 P1 b x) : r1 = r2 ∧ rel V2 P2 V2 P2 (k + 1) := by
  have s1 : sameR V P V1 P1 := by
    have e1 : V1 = (mGet V P b x).2.1 := congrArg (fun x => x.2.1) h1
    have e2 : P1 = (mGet V P b x).2.2 := congrArg (fun x => x.2.2) h1
    rw [e1, e2]
    unfold mGet
    split
    · exact sameR.rf
    · exact sR_look
  have s2 : sameC V1 P1 V2 P2 := by
    have e1 : V2 = (rGet V1 P1 b x).2.1 := congrArg (fun x => x.2.1) h2
    have e2 : P2 = (rGet V1 P1 b x).2.2 := congrArg (fun x => x.2.2) h2
    rw [e1, e2]
    unfold rGet
    split
    · exact sC_0
    · exact sC_0.tr sC_look
  have key := sim_get (rel_R h s1) hk b x
  rw [← h1, ← h2] at key
  exact ⟨key.1, rel_C key.2 s2⟩
theorem st_fill {V P V1 P1 V2 P2 : VV} {k : Nat} {r1 r2 b x n v : Int32} (h : rel V P V P k) (hk : k + 1 < 2 ^ 31) (h1 : (r1, V1, P1) = mFill V P b x n v) (h2 : (r2, V2, P2) = rFill V1 P1 b x n v) : r1 = r2 ∧ rel V2 P2 V2 P2 (k + 1) := by
  have s1 : sameR V P V1 P1 := by
    have e1 : V1 = (mFill V P b x n v).2.1 := congrArg (fun x => x.2.1) h1
    have e2 : P1 = (mFill V P b x n v).2.2 := congrArg (fun x => x.2.2) h1
    rw [e1, e2]
    unfold mFill
    split
    · exact sameR.rf
    · have := mLook_lt V P b
      exact ((sR_look.tr (sR_v (by omega))).tr (sR_v (by omega))).tr (sR_p (by omega))
  have s2 : sameC V1 P1 V2 P2 := by
    have e1 : V2 = (rFill V1 P1 b x n v).2.1 := congrArg (fun x => x.2.1) h2
    have e2 : P2 = (rFill V1 P1 b x n v).2.2 := congrArg (fun x => x.2.2) h2
    rw [e1, e2]
    unfold rFill
    split
    · exact sC_0
    · exact (sC_0.tr sC_look).tr (((sC_p (by omega)).tr (sC_p (by omega))).tr (sC_p (by omega)))
  have key := sim_fill (rel_R h s1) hk b x n v
  rw [← h1, ← h2] at key
  exact ⟨key.1, rel_C key.2 s2⟩
theorem st_cut {V P V1 P1 V2 P2 : VV} {k : Nat} {r1 r2 x : Int32} (h : rel V P V P k) (h1 : (r1, V1, P1) = mCut V P x) (h2 : (r2, V2, P2) = rCut V1 P1 x) : r1 = r2 ∧ rel V2 P2 V2 P2 (k + 1) := by
  have s1 : sameR V P V1 P1 := by
    have e1 : V1 = (mCut V P x).2.1 := congrArg (fun x => x.2.1) h1
    have e2 : P1 = (mCut V P x).2.2 := congrArg (fun x => x.2.2) h1
    rw [e1, e2]
    unfold mCut
    split
    · exact sameR.rf
    · exact sR_v (by omega)
  have s2 : sameC V1 P1 V2 P2 := by
    have e1 : V2 = (rCut V1 P1 x).2.1 := congrArg (fun x => x.2.1) h2
    have e2 : P2 = (rCut V1 P1 x).2.2 := congrArg (fun x => x.2.2) h2
    rw [e1, e2]
    unfold rCut
    split
    · exact sC_0
    · exact sC_0.tr sC_v
  have key := sim_cut (rel_R h s1) x
  rw [← h1, ← h2] at key
  exact ⟨key.1, rel_C key.2 s2⟩
theorem st_power {V P V1 P1 V2 P2 : VV} {k : Nat} {r1 r2 x : Int32} (h : rel V P V P k) (h1 : (r1, V1, P1) = mPower V P x) (h2 : (r2, V2, P2) = rPower V1 P1 x) : r1 = r2 ∧ rel V2 P2 V2 P2 (k + 1) := by
  have s1 : sameR V P V1 P1 := by
    have e1 : V1 = (mPower V P x).2.1 := congrArg (fun x => x.2.1) h1
    have e2 : P1 = (mPower V P x).2.2 := congrArg (fun x => x.2.2) h1
    rw [e1, e2]
    unfold mPower
    split
    · exact ((sR_v (by omega)).tr (sR_v (by omega))).tr sR_home
    · exact sameR.rf
  have s2 : sameC V1 P1 V2 P2 := by
    have e1 : V2 = (rPower V1 P1 x).2.1 := congrArg (fun x => x.2.1) h2
    have e2 : P2 = (rPower V1 P1 x).2.2 := congrArg (fun x => x.2.2) h2
    rw [e1, e2]
    have hb : sameC V1 P1 (rBackV V1 x) (rBackP P1) := (((sC_0.tr sC_v).tr sC_v).tr sC_v).tr (((sC_p (by omega)).tr (sC_p (by omega))).tr (sC_p (by omega)))
    unfold rPower
    split
    · split
      · exact hb
      · exact hb.tr sC_ended
    · exact sC_0
  have key := sim_power (rel_R h s1) x
  rw [← h1, ← h2] at key
  exact ⟨key.1, rel_C key.2 s2⟩
theorem st_still {V P : VV} {k : Nat} (h : rel V P V P k) : rel (r0 V) P (r0 V) P (k + 1) := rel_C (rel_0 h) sC_0
end
section
theorem d_V_init_0 : decode c_V_init 0 = .ok (.aload_n 0, 1) := by decide +kernel
theorem d_V_init_1 : decode c_V_init 1 = .ok (.invokespecial 3, 3) := by decide +kernel
theorem d_V_init_4 : decode c_V_init 4 = .ok (.aload_n 0, 1) := by decide +kernel
theorem d_V_init_5 : decode c_V_init 5 = .ok (.bipush 40, 2) := by decide +kernel
theorem d_V_init_7 : decode c_V_init 7 = .ok (.bipush 80, 2) := by decide +kernel
theorem d_V_init_9 : decode c_V_init 9 = .ok (.iload_n 1, 1) := by decide +kernel
theorem d_V_init_10 : decode c_V_init 10 = .ok (.invokestatic 9, 3) := by decide +kernel
theorem d_V_init_13 : decode c_V_init 13 = .ok (.invokestatic 15, 3) := by decide +kernel
theorem d_V_init_16 : decode c_V_init 16 = .ok (.putfield 18, 3) := by decide +kernel
theorem d_V_init_19 : decode c_V_init 19 = .ok (.aload_n 0, 1) := by decide +kernel
theorem d_V_init_20 : decode c_V_init 20 = .ok (.new 22, 3) := by decide +kernel
theorem d_V_init_23 : decode c_V_init 23 = .ok (.dup, 1) := by decide +kernel
theorem d_V_init_24 : decode c_V_init 24 = .ok (.invokespecial 24, 3) := by decide +kernel
theorem d_V_init_27 : decode c_V_init 27 = .ok (.putfield 25, 3) := by decide +kernel
theorem d_V_init_30 : decode c_V_init 30 = .ok (.aload_n 0, 1) := by decide +kernel
theorem d_V_init_31 : decode c_V_init 31 = .ok (.new 29, 3) := by decide +kernel
theorem d_V_init_34 : decode c_V_init 34 = .ok (.dup, 1) := by decide +kernel
theorem d_V_init_35 : decode c_V_init 35 = .ok (.invokespecial 31, 3) := by decide +kernel
theorem d_V_init_38 : decode c_V_init 38 = .ok (.putfield 32, 3) := by decide +kernel
theorem d_V_init_41 : decode c_V_init 41 = .ok (.aload_n 0, 1) := by decide +kernel
theorem d_V_init_42 : decode c_V_init 42 = .ok (.new 36, 3) := by decide +kernel
theorem d_V_init_45 : decode c_V_init 45 = .ok (.dup, 1) := by decide +kernel
theorem d_V_init_46 : decode c_V_init 46 = .ok (.invokespecial 38, 3) := by decide +kernel
theorem d_V_init_49 : decode c_V_init 49 = .ok (.putfield 39, 3) := by decide +kernel
theorem d_V_init_52 : decode c_V_init 52 = .ok (.aload_n 0, 1) := by decide +kernel
theorem d_V_init_53 : decode c_V_init 53 = .ok (.iconst 0, 1) := by decide +kernel
theorem d_V_init_54 : decode c_V_init 54 = .ok (.putfield 43, 3) := by decide +kernel
theorem d_V_init_57 : decode c_V_init 57 = .ok (.return_, 1) := by decide +kernel
theorem d_D_init_0 : decode c_D_init 0 = .ok (.aload_n 0, 1) := by decide +kernel
theorem d_D_init_1 : decode c_D_init 1 = .ok (.invokespecial 3, 3) := by decide +kernel
theorem d_D_init_4 : decode c_D_init 4 = .ok (.aload_n 0, 1) := by decide +kernel
theorem d_D_init_5 : decode c_D_init 5 = .ok (.bipush 80, 2) := by decide +kernel
theorem d_D_init_7 : decode c_D_init 7 = .ok (.anewarray 9, 3) := by decide +kernel
theorem d_D_init_10 : decode c_D_init 10 = .ok (.putfield 11, 3) := by decide +kernel
theorem d_D_init_13 : decode c_D_init 13 = .ok (.iconst 0, 1) := by decide +kernel
theorem d_D_init_14 : decode c_D_init 14 = .ok (.istore_n 1, 1) := by decide +kernel
theorem d_D_init_15 : decode c_D_init 15 = .ok (.iload_n 1, 1) := by decide +kernel
theorem d_D_init_16 : decode c_D_init 16 = .ok (.aload_n 0, 1) := by decide +kernel
theorem d_D_init_17 : decode c_D_init 17 = .ok (.getfield 11, 3) := by decide +kernel
theorem d_D_init_20 : decode c_D_init 20 = .ok (.arraylength, 1) := by decide +kernel
theorem d_D_init_21 : decode c_D_init 21 = .ok (.if_icmp .ge 22, 3) := by decide +kernel
theorem d_D_init_24 : decode c_D_init 24 = .ok (.aload_n 0, 1) := by decide +kernel
theorem d_D_init_25 : decode c_D_init 25 = .ok (.getfield 11, 3) := by decide +kernel
theorem d_D_init_28 : decode c_D_init 28 = .ok (.iload_n 1, 1) := by decide +kernel
theorem d_D_init_29 : decode c_D_init 29 = .ok (.new 9, 3) := by decide +kernel
theorem d_D_init_32 : decode c_D_init 32 = .ok (.dup, 1) := by decide +kernel
theorem d_D_init_33 : decode c_D_init 33 = .ok (.invokespecial 17, 3) := by decide +kernel
theorem d_D_init_36 : decode c_D_init 36 = .ok (.aastore, 1) := by decide +kernel
theorem d_D_init_37 : decode c_D_init 37 = .ok (.iinc 1 1, 3) := by decide +kernel
theorem d_D_init_40 : decode c_D_init 40 = .ok (.goto (-25), 3) := by decide +kernel
theorem d_D_init_43 : decode c_D_init 43 = .ok (.aload_n 0, 1) := by decide +kernel
theorem d_D_init_44 : decode c_D_init 44 = .ok (.iconst 1, 1) := by decide +kernel
theorem d_D_init_45 : decode c_D_init 45 = .ok (.putfield 18, 3) := by decide +kernel
theorem d_D_init_48 : decode c_D_init 48 = .ok (.aload_n 0, 1) := by decide +kernel
theorem d_D_init_49 : decode c_D_init 49 = .ok (.iconst (-1), 1) := by decide +kernel
theorem d_D_init_50 : decode c_D_init 50 = .ok (.putfield 22, 3) := by decide +kernel
theorem d_D_init_53 : decode c_D_init 53 = .ok (.aload_n 0, 1) := by decide +kernel
theorem d_D_init_54 : decode c_D_init 54 = .ok (.iconst 0, 1) := by decide +kernel
theorem d_D_init_55 : decode c_D_init 55 = .ok (.putfield 26, 3) := by decide +kernel
theorem d_D_init_58 : decode c_D_init 58 = .ok (.return_, 1) := by decide +kernel
theorem d_P_init_0 : decode c_P_init 0 = .ok (.aload_n 0, 1) := by decide +kernel
theorem d_P_init_1 : decode c_P_init 1 = .ok (.invokespecial 3, 3) := by decide +kernel
theorem d_P_init_4 : decode c_P_init 4 = .ok (.return_, 1) := by decide +kernel
theorem d_C_init_0 : decode c_C_init 0 = .ok (.aload_n 0, 1) := by decide +kernel
theorem d_C_init_1 : decode c_C_init 1 = .ok (.invokespecial 3, 3) := by decide +kernel
theorem d_C_init_4 : decode c_C_init 4 = .ok (.aload_n 0, 1) := by decide +kernel
theorem d_C_init_5 : decode c_C_init 5 = .ok (.bipush 34, 2) := by decide +kernel
theorem d_C_init_7 : decode c_C_init 7 = .ok (.anewarray 9, 3) := by decide +kernel
theorem d_C_init_10 : decode c_C_init 10 = .ok (.putfield 11, 3) := by decide +kernel
theorem d_C_init_13 : decode c_C_init 13 = .ok (.iconst 0, 1) := by decide +kernel
theorem d_C_init_14 : decode c_C_init 14 = .ok (.istore_n 1, 1) := by decide +kernel
theorem d_C_init_15 : decode c_C_init 15 = .ok (.iload_n 1, 1) := by decide +kernel
theorem d_C_init_16 : decode c_C_init 16 = .ok (.aload_n 0, 1) := by decide +kernel
theorem d_C_init_17 : decode c_C_init 17 = .ok (.getfield 11, 3) := by decide +kernel
theorem d_C_init_20 : decode c_C_init 20 = .ok (.arraylength, 1) := by decide +kernel
theorem d_C_init_21 : decode c_C_init 21 = .ok (.if_icmp .ge 22, 3) := by decide +kernel
theorem d_C_init_24 : decode c_C_init 24 = .ok (.aload_n 0, 1) := by decide +kernel
theorem d_C_init_25 : decode c_C_init 25 = .ok (.getfield 11, 3) := by decide +kernel
theorem d_C_init_28 : decode c_C_init 28 = .ok (.iload_n 1, 1) := by decide +kernel
theorem d_C_init_29 : decode c_C_init 29 = .ok (.new 9, 3) := by decide +kernel
theorem d_C_init_32 : decode c_C_init 32 = .ok (.dup, 1) := by decide +kernel
theorem d_C_init_33 : decode c_C_init 33 = .ok (.invokespecial 17, 3) := by decide +kernel
theorem d_C_init_36 : decode c_C_init 36 = .ok (.aastore, 1) := by decide +kernel
theorem d_C_init_37 : decode c_C_init 37 = .ok (.iinc 1 1, 3) := by decide +kernel
theorem d_C_init_40 : decode c_C_init 40 = .ok (.goto (-25), 3) := by decide +kernel
theorem d_C_init_43 : decode c_C_init 43 = .ok (.aload_n 0, 1) := by decide +kernel
theorem d_C_init_44 : decode c_C_init 44 = .ok (.iconst 0, 1) := by decide +kernel
theorem d_C_init_45 : decode c_C_init 45 = .ok (.putfield 18, 3) := by decide +kernel
theorem d_C_init_48 : decode c_C_init 48 = .ok (.aload_n 0, 1) := by decide +kernel
theorem d_C_init_49 : decode c_C_init 49 = .ok (.iconst 0, 1) := by decide +kernel
theorem d_C_init_50 : decode c_C_init 50 = .ok (.putfield 22, 3) := by decide +kernel
theorem d_C_init_53 : decode c_C_init 53 = .ok (.return_, 1) := by decide +kernel
theorem d_R_init_0 : decode c_R_init 0 = .ok (.aload_n 0, 1) := by decide +kernel
theorem d_R_init_1 : decode c_R_init 1 = .ok (.invokespecial 3, 3) := by decide +kernel
theorem d_R_init_4 : decode c_R_init 4 = .ok (.aload_n 0, 1) := by decide +kernel
theorem d_R_init_5 : decode c_R_init 5 = .ok (.new 9, 3) := by decide +kernel
theorem d_R_init_8 : decode c_R_init 8 = .ok (.dup, 1) := by decide +kernel
theorem d_R_init_9 : decode c_R_init 9 = .ok (.invokespecial 11, 3) := by decide +kernel
theorem d_R_init_12 : decode c_R_init 12 = .ok (.putfield 12, 3) := by decide +kernel
theorem d_R_init_15 : decode c_R_init 15 = .ok (.aload_n 0, 1) := by decide +kernel
theorem d_R_init_16 : decode c_R_init 16 = .ok (.iconst (-1), 1) := by decide +kernel
theorem d_R_init_17 : decode c_R_init 17 = .ok (.putfield 18, 3) := by decide +kernel
theorem d_R_init_20 : decode c_R_init 20 = .ok (.aload_n 0, 1) := by decide +kernel
theorem d_R_init_21 : decode c_R_init 21 = .ok (.iconst 0, 1) := by decide +kernel
theorem d_R_init_22 : decode c_R_init 22 = .ok (.putfield 22, 3) := by decide +kernel
theorem d_R_init_25 : decode c_R_init 25 = .ok (.aload_n 0, 1) := by decide +kernel
theorem d_R_init_26 : decode c_R_init 26 = .ok (.iconst 0, 1) := by decide +kernel
theorem d_R_init_27 : decode c_R_init 27 = .ok (.putfield 25, 3) := by decide +kernel
theorem d_R_init_30 : decode c_R_init 30 = .ok (.aload_n 0, 1) := by decide +kernel
theorem d_R_init_31 : decode c_R_init 31 = .ok (.iconst 0, 1) := by decide +kernel
theorem d_R_init_32 : decode c_R_init 32 = .ok (.putfield 29, 3) := by decide +kernel
theorem d_R_init_35 : decode c_R_init 35 = .ok (.return_, 1) := by decide +kernel
theorem d_L_init_0 : decode c_L_init 0 = .ok (.aload_n 0, 1) := by decide +kernel
theorem d_L_init_1 : decode c_L_init 1 = .ok (.invokespecial 3, 3) := by decide +kernel
theorem d_L_init_4 : decode c_L_init 4 = .ok (.aload_n 0, 1) := by decide +kernel
theorem d_L_init_5 : decode c_L_init 5 = .ok (.new 9, 3) := by decide +kernel
theorem d_L_init_8 : decode c_L_init 8 = .ok (.dup, 1) := by decide +kernel
theorem d_L_init_9 : decode c_L_init 9 = .ok (.invokespecial 11, 3) := by decide +kernel
theorem d_L_init_12 : decode c_L_init 12 = .ok (.putfield 12, 3) := by decide +kernel
theorem d_L_init_15 : decode c_L_init 15 = .ok (.aload_n 0, 1) := by decide +kernel
theorem d_L_init_16 : decode c_L_init 16 = .ok (.new 9, 3) := by decide +kernel
theorem d_L_init_19 : decode c_L_init 19 = .ok (.dup, 1) := by decide +kernel
theorem d_L_init_20 : decode c_L_init 20 = .ok (.invokespecial 11, 3) := by decide +kernel
theorem d_L_init_23 : decode c_L_init 23 = .ok (.putfield 18, 3) := by decide +kernel
theorem d_L_init_26 : decode c_L_init 26 = .ok (.aload_n 0, 1) := by decide +kernel
theorem d_L_init_27 : decode c_L_init 27 = .ok (.iconst 0, 1) := by decide +kernel
theorem d_L_init_28 : decode c_L_init 28 = .ok (.putfield 21, 3) := by decide +kernel
theorem d_L_init_31 : decode c_L_init 31 = .ok (.return_, 1) := by decide +kernel
theorem d_V_begin_0 : decode c_V_begin 0 = .ok (.aload_n 0, 1) := by decide +kernel
theorem d_V_begin_1 : decode c_V_begin 1 = .ok (.getfield 25, 3) := by decide +kernel
theorem d_V_begin_4 : decode c_V_begin 4 = .ok (.invokevirtual 47, 3) := by decide +kernel
theorem d_V_begin_7 : decode c_V_begin 7 = .ok (.ifCond .eq 10, 3) := by decide +kernel
theorem d_V_begin_10 : decode c_V_begin 10 = .ok (.aload_n 0, 1) := by decide +kernel
theorem d_V_begin_11 : decode c_V_begin 11 = .ok (.getfield 43, 3) := by decide +kernel
theorem d_V_begin_14 : decode c_V_begin 14 = .ok (.ifCond .eq 5, 3) := by decide +kernel
theorem d_V_begin_17 : decode c_V_begin 17 = .ok (.iconst 0, 1) := by decide +kernel
theorem d_V_begin_18 : decode c_V_begin 18 = .ok (.ireturn, 1) := by decide +kernel
theorem d_V_begin_19 : decode c_V_begin 19 = .ok (.aload_n 0, 1) := by decide +kernel
theorem d_V_begin_20 : decode c_V_begin 20 = .ok (.iconst 1, 1) := by decide +kernel
theorem d_V_begin_21 : decode c_V_begin 21 = .ok (.putfield 43, 3) := by decide +kernel
theorem d_V_begin_24 : decode c_V_begin 24 = .ok (.iconst 1, 1) := by decide +kernel
theorem d_V_begin_25 : decode c_V_begin 25 = .ok (.ireturn, 1) := by decide +kernel
theorem d_D_isOn_0 : decode c_D_isOn 0 = .ok (.aload_n 0, 1) := by decide +kernel
theorem d_D_isOn_1 : decode c_D_isOn 1 = .ok (.getfield 18, 3) := by decide +kernel
theorem d_D_isOn_4 : decode c_D_isOn 4 = .ok (.ireturn, 1) := by decide +kernel
theorem d_V_end_0 : decode c_V_end 0 = .ok (.aload_n 0, 1) := by decide +kernel
theorem d_V_end_1 : decode c_V_end 1 = .ok (.getfield 25, 3) := by decide +kernel
theorem d_V_end_4 : decode c_V_end 4 = .ok (.invokevirtual 47, 3) := by decide +kernel
theorem d_V_end_7 : decode c_V_end 7 = .ok (.ifCond .eq 10, 3) := by decide +kernel
theorem d_V_end_10 : decode c_V_end 10 = .ok (.aload_n 0, 1) := by decide +kernel
theorem d_V_end_11 : decode c_V_end 11 = .ok (.getfield 43, 3) := by decide +kernel
theorem d_V_end_14 : decode c_V_end 14 = .ok (.ifCond .ne 5, 3) := by decide +kernel
theorem d_V_end_17 : decode c_V_end 17 = .ok (.iconst (-1), 1) := by decide +kernel
theorem d_V_end_18 : decode c_V_end 18 = .ok (.ireturn, 1) := by decide +kernel
theorem d_V_end_19 : decode c_V_end 19 = .ok (.aload_n 0, 1) := by decide +kernel
theorem d_V_end_20 : decode c_V_end 20 = .ok (.iconst 0, 1) := by decide +kernel
theorem d_V_end_21 : decode c_V_end 21 = .ok (.putfield 43, 3) := by decide +kernel
theorem d_V_end_24 : decode c_V_end 24 = .ok (.aload_n 0, 1) := by decide +kernel
theorem d_V_end_25 : decode c_V_end 25 = .ok (.getfield 32, 3) := by decide +kernel
theorem d_V_end_28 : decode c_V_end 28 = .ok (.invokevirtual 51, 3) := by decide +kernel
theorem d_V_end_31 : decode c_V_end 31 = .ok (.aload_n 0, 1) := by decide +kernel
theorem d_V_end_32 : decode c_V_end 32 = .ok (.getfield 32, 3) := by decide +kernel
theorem d_V_end_35 : decode c_V_end 35 = .ok (.invokevirtual 54, 3) := by decide +kernel
theorem d_V_end_38 : decode c_V_end 38 = .ok (.istore_n 1, 1) := by decide +kernel
theorem d_V_end_39 : decode c_V_end 39 = .ok (.iload_n 1, 1) := by decide +kernel
theorem d_V_end_40 : decode c_V_end 40 = .ok (.bipush 20, 2) := by decide +kernel
theorem d_V_end_42 : decode c_V_end 42 = .ok (.if_icmp .gt 5, 3) := by decide +kernel
theorem d_V_end_45 : decode c_V_end 45 = .ok (.iload_n 1, 1) := by decide +kernel
theorem d_V_end_46 : decode c_V_end 46 = .ok (.ireturn, 1) := by decide +kernel
theorem d_V_end_47 : decode c_V_end 47 = .ok (.aload_n 0, 1) := by decide +kernel
theorem d_V_end_48 : decode c_V_end 48 = .ok (.invokevirtual 58, 3) := by decide +kernel
theorem d_V_end_51 : decode c_V_end 51 = .ok (.ifCond .eq 7, 3) := by decide +kernel
theorem d_V_end_54 : decode c_V_end 54 = .ok (.iconst 0, 1) := by decide +kernel
theorem d_V_end_55 : decode c_V_end 55 = .ok (.goto 4, 3) := by decide +kernel
theorem d_V_end_58 : decode c_V_end 58 = .ok (.iconst (-1), 1) := by decide +kernel
theorem d_V_end_59 : decode c_V_end 59 = .ok (.ireturn, 1) := by decide +kernel
theorem d_C_closeStep_0 : decode c_C_closeStep 0 = .ok (.aload_n 0, 1) := by decide +kernel
theorem d_C_closeStep_1 : decode c_C_closeStep 1 = .ok (.getfield 11, 3) := by decide +kernel
theorem d_C_closeStep_4 : decode c_C_closeStep 4 = .ok (.astore_n 1, 1) := by decide +kernel
theorem d_C_closeStep_5 : decode c_C_closeStep 5 = .ok (.aload_n 1, 1) := by decide +kernel
theorem d_C_closeStep_6 : decode c_C_closeStep 6 = .ok (.arraylength, 1) := by decide +kernel
theorem d_C_closeStep_7 : decode c_C_closeStep 7 = .ok (.istore_n 2, 1) := by decide +kernel
theorem d_C_closeStep_8 : decode c_C_closeStep 8 = .ok (.iconst 0, 1) := by decide +kernel
theorem d_C_closeStep_9 : decode c_C_closeStep 9 = .ok (.istore_n 3, 1) := by decide +kernel
theorem d_C_closeStep_10 : decode c_C_closeStep 10 = .ok (.iload_n 3, 1) := by decide +kernel
theorem d_C_closeStep_11 : decode c_C_closeStep 11 = .ok (.iload_n 2, 1) := by decide +kernel
theorem d_C_closeStep_12 : decode c_C_closeStep 12 = .ok (.if_icmp .ge 20, 3) := by decide +kernel
theorem d_C_closeStep_15 : decode c_C_closeStep 15 = .ok (.aload_n 1, 1) := by decide +kernel
theorem d_C_closeStep_16 : decode c_C_closeStep 16 = .ok (.iload_n 3, 1) := by decide +kernel
theorem d_C_closeStep_17 : decode c_C_closeStep 17 = .ok (.aaload, 1) := by decide +kernel
theorem d_C_closeStep_18 : decode c_C_closeStep 18 = .ok (.astore 4, 2) := by decide +kernel
theorem d_C_closeStep_20 : decode c_C_closeStep 20 = .ok (.aload 4, 2) := by decide +kernel
theorem d_C_closeStep_22 : decode c_C_closeStep 22 = .ok (.iconst 0, 1) := by decide +kernel
theorem d_C_closeStep_23 : decode c_C_closeStep 23 = .ok (.putfield 57, 3) := by decide +kernel
theorem d_C_closeStep_26 : decode c_C_closeStep 26 = .ok (.iinc 3 1, 3) := by decide +kernel
theorem d_C_closeStep_29 : decode c_C_closeStep 29 = .ok (.goto (-19), 3) := by decide +kernel
theorem d_C_closeStep_32 : decode c_C_closeStep 32 = .ok (.return_, 1) := by decide +kernel
theorem d_C_heldRows_0 : decode c_C_heldRows 0 = .ok (.iconst 0, 1) := by decide +kernel
theorem d_C_heldRows_1 : decode c_C_heldRows 1 = .ok (.istore_n 1, 1) := by decide +kernel
theorem d_C_heldRows_2 : decode c_C_heldRows 2 = .ok (.aload_n 0, 1) := by decide +kernel
theorem d_C_heldRows_3 : decode c_C_heldRows 3 = .ok (.getfield 11, 3) := by decide +kernel
theorem d_C_heldRows_6 : decode c_C_heldRows 6 = .ok (.astore_n 2, 1) := by decide +kernel
theorem d_C_heldRows_7 : decode c_C_heldRows 7 = .ok (.aload_n 2, 1) := by decide +kernel
theorem d_C_heldRows_8 : decode c_C_heldRows 8 = .ok (.arraylength, 1) := by decide +kernel
theorem d_C_heldRows_9 : decode c_C_heldRows 9 = .ok (.istore_n 3, 1) := by decide +kernel
theorem d_C_heldRows_10 : decode c_C_heldRows 10 = .ok (.iconst 0, 1) := by decide +kernel
theorem d_C_heldRows_11 : decode c_C_heldRows 11 = .ok (.istore 4, 2) := by decide +kernel
theorem d_C_heldRows_13 : decode c_C_heldRows 13 = .ok (.iload 4, 2) := by decide +kernel
theorem d_C_heldRows_15 : decode c_C_heldRows 15 = .ok (.iload_n 3, 1) := by decide +kernel
theorem d_C_heldRows_16 : decode c_C_heldRows 16 = .ok (.if_icmp .ge 26, 3) := by decide +kernel
theorem d_C_heldRows_19 : decode c_C_heldRows 19 = .ok (.aload_n 2, 1) := by decide +kernel
theorem d_C_heldRows_20 : decode c_C_heldRows 20 = .ok (.iload 4, 2) := by decide +kernel
theorem d_C_heldRows_22 : decode c_C_heldRows 22 = .ok (.aaload, 1) := by decide +kernel
theorem d_C_heldRows_23 : decode c_C_heldRows 23 = .ok (.astore 5, 2) := by decide +kernel
theorem d_C_heldRows_25 : decode c_C_heldRows 25 = .ok (.aload 5, 2) := by decide +kernel
theorem d_C_heldRows_27 : decode c_C_heldRows 27 = .ok (.getfield 53, 3) := by decide +kernel
theorem d_C_heldRows_30 : decode c_C_heldRows 30 = .ok (.ifCond .eq 6, 3) := by decide +kernel
theorem d_C_heldRows_33 : decode c_C_heldRows 33 = .ok (.iinc 1 1, 3) := by decide +kernel
theorem d_C_heldRows_36 : decode c_C_heldRows 36 = .ok (.iinc 4 1, 3) := by decide +kernel
theorem d_C_heldRows_39 : decode c_C_heldRows 39 = .ok (.goto (-26), 3) := by decide +kernel
theorem d_C_heldRows_42 : decode c_C_heldRows 42 = .ok (.iload_n 1, 1) := by decide +kernel
theorem d_C_heldRows_43 : decode c_C_heldRows 43 = .ok (.ireturn, 1) := by decide +kernel
theorem d_V_commit_0 : decode c_V_commit 0 = .ok (.aload_n 0, 1) := by decide +kernel
theorem d_V_commit_1 : decode c_V_commit 1 = .ok (.getfield 39, 3) := by decide +kernel
theorem d_V_commit_4 : decode c_V_commit 4 = .ok (.aload_n 0, 1) := by decide +kernel
theorem d_V_commit_5 : decode c_V_commit 5 = .ok (.getfield 32, 3) := by decide +kernel
theorem d_V_commit_8 : decode c_V_commit 8 = .ok (.aload_n 0, 1) := by decide +kernel
theorem d_V_commit_9 : decode c_V_commit 9 = .ok (.getfield 25, 3) := by decide +kernel
theorem d_V_commit_12 : decode c_V_commit 12 = .ok (.invokevirtual 125, 3) := by decide +kernel
theorem d_V_commit_15 : decode c_V_commit 15 = .ok (.ifCond .eq 12, 3) := by decide +kernel
theorem d_V_commit_18 : decode c_V_commit 18 = .ok (.aload_n 0, 1) := by decide +kernel
theorem d_V_commit_19 : decode c_V_commit 19 = .ok (.getfield 32, 3) := by decide +kernel
theorem d_V_commit_22 : decode c_V_commit 22 = .ok (.invokevirtual 129, 3) := by decide +kernel
theorem d_V_commit_25 : decode c_V_commit 25 = .ok (.iconst 1, 1) := by decide +kernel
theorem d_V_commit_26 : decode c_V_commit 26 = .ok (.ireturn, 1) := by decide +kernel
theorem d_V_commit_27 : decode c_V_commit 27 = .ok (.aload_n 0, 1) := by decide +kernel
theorem d_V_commit_28 : decode c_V_commit 28 = .ok (.getfield 32, 3) := by decide +kernel
theorem d_V_commit_31 : decode c_V_commit 31 = .ok (.invokevirtual 132, 3) := by decide +kernel
theorem d_V_commit_34 : decode c_V_commit 34 = .ok (.iconst 0, 1) := by decide +kernel
theorem d_V_commit_35 : decode c_V_commit 35 = .ok (.ireturn, 1) := by decide +kernel
theorem d_L_bringOut_0 : decode c_L_bringOut 0 = .ok (.aload_n 0, 1) := by decide +kernel
theorem d_L_bringOut_1 : decode c_L_bringOut 1 = .ok (.aload_n 1, 1) := by decide +kernel
theorem d_L_bringOut_2 : decode c_L_bringOut 2 = .ok (.aload_n 2, 1) := by decide +kernel
theorem d_L_bringOut_3 : decode c_L_bringOut 3 = .ok (.invokevirtual 25, 3) := by decide +kernel
theorem d_L_bringOut_6 : decode c_L_bringOut 6 = .ok (.ifCond .eq 15, 3) := by decide +kernel
theorem d_L_bringOut_9 : decode c_L_bringOut 9 = .ok (.aload_n 2, 1) := by decide +kernel
theorem d_L_bringOut_10 : decode c_L_bringOut 10 = .ok (.iconst 2, 1) := by decide +kernel
theorem d_L_bringOut_11 : decode c_L_bringOut 11 = .ok (.aload_n 0, 1) := by decide +kernel
theorem d_L_bringOut_12 : decode c_L_bringOut 12 = .ok (.getfield 12, 3) := by decide +kernel
theorem d_L_bringOut_15 : decode c_L_bringOut 15 = .ok (.invokevirtual 29, 3) := by decide +kernel
theorem d_L_bringOut_18 : decode c_L_bringOut 18 = .ok (.ifCond .ne 5, 3) := by decide +kernel
theorem d_L_bringOut_21 : decode c_L_bringOut 21 = .ok (.iconst 0, 1) := by decide +kernel
theorem d_L_bringOut_22 : decode c_L_bringOut 22 = .ok (.ireturn, 1) := by decide +kernel
theorem d_L_bringOut_23 : decode c_L_bringOut 23 = .ok (.aload_n 0, 1) := by decide +kernel
theorem d_L_bringOut_24 : decode c_L_bringOut 24 = .ok (.dup, 1) := by decide +kernel
theorem d_L_bringOut_25 : decode c_L_bringOut 25 = .ok (.getfield 21, 3) := by decide +kernel
theorem d_L_bringOut_28 : decode c_L_bringOut 28 = .ok (.iconst 1, 1) := by decide +kernel
theorem d_L_bringOut_29 : decode c_L_bringOut 29 = .ok (.iadd, 1) := by decide +kernel
theorem d_L_bringOut_30 : decode c_L_bringOut 30 = .ok (.putfield 21, 3) := by decide +kernel
theorem d_L_bringOut_33 : decode c_L_bringOut 33 = .ok (.aload_n 0, 1) := by decide +kernel
theorem d_L_bringOut_34 : decode c_L_bringOut 34 = .ok (.aload_n 2, 1) := by decide +kernel
theorem d_L_bringOut_35 : decode c_L_bringOut 35 = .ok (.invokevirtual 35, 3) := by decide +kernel
theorem d_L_bringOut_38 : decode c_L_bringOut 38 = .ok (.iconst (-1), 1) := by decide +kernel
theorem d_L_bringOut_39 : decode c_L_bringOut 39 = .ok (.if_icmp .eq 7, 3) := by decide +kernel
theorem d_L_bringOut_42 : decode c_L_bringOut 42 = .ok (.iconst 1, 1) := by decide +kernel
theorem d_L_bringOut_43 : decode c_L_bringOut 43 = .ok (.goto 4, 3) := by decide +kernel
theorem d_L_bringOut_46 : decode c_L_bringOut 46 = .ok (.iconst 0, 1) := by decide +kernel
theorem d_L_bringOut_47 : decode c_L_bringOut 47 = .ok (.ireturn, 1) := by decide +kernel
theorem d_L_copyHeld_0 : decode c_L_copyHeld 0 = .ok (.iconst 0, 1) := by decide +kernel
theorem d_L_copyHeld_1 : decode c_L_copyHeld 1 = .ok (.istore_n 3, 1) := by decide +kernel
theorem d_L_copyHeld_2 : decode c_L_copyHeld 2 = .ok (.aload_n 1, 1) := by decide +kernel
theorem d_L_copyHeld_3 : decode c_L_copyHeld 3 = .ok (.getfield 39, 3) := by decide +kernel
theorem d_L_copyHeld_6 : decode c_L_copyHeld 6 = .ok (.astore 4, 2) := by decide +kernel
theorem d_L_copyHeld_8 : decode c_L_copyHeld 8 = .ok (.aload 4, 2) := by decide +kernel
theorem d_L_copyHeld_10 : decode c_L_copyHeld 10 = .ok (.arraylength, 1) := by decide +kernel
theorem d_L_copyHeld_11 : decode c_L_copyHeld 11 = .ok (.istore 5, 2) := by decide +kernel
theorem d_L_copyHeld_13 : decode c_L_copyHeld 13 = .ok (.iconst 0, 1) := by decide +kernel
theorem d_L_copyHeld_14 : decode c_L_copyHeld 14 = .ok (.istore 6, 2) := by decide +kernel
theorem d_L_copyHeld_16 : decode c_L_copyHeld 16 = .ok (.iload 6, 2) := by decide +kernel
theorem d_L_copyHeld_18 : decode c_L_copyHeld 18 = .ok (.iload 5, 2) := by decide +kernel
theorem d_L_copyHeld_20 : decode c_L_copyHeld 20 = .ok (.if_icmp .ge 64, 3) := by decide +kernel
theorem d_L_copyHeld_23 : decode c_L_copyHeld 23 = .ok (.aload 4, 2) := by decide +kernel
theorem d_L_copyHeld_25 : decode c_L_copyHeld 25 = .ok (.iload 6, 2) := by decide +kernel
theorem d_L_copyHeld_27 : decode c_L_copyHeld 27 = .ok (.aaload, 1) := by decide +kernel
theorem d_L_copyHeld_28 : decode c_L_copyHeld 28 = .ok (.astore 7, 2) := by decide +kernel
theorem d_L_copyHeld_30 : decode c_L_copyHeld 30 = .ok (.aload 7, 2) := by decide +kernel
theorem d_L_copyHeld_32 : decode c_L_copyHeld 32 = .ok (.getfield 45, 3) := by decide +kernel
theorem d_L_copyHeld_35 : decode c_L_copyHeld 35 = .ok (.ifCond .eq 43, 3) := by decide +kernel
theorem d_L_copyHeld_38 : decode c_L_copyHeld 38 = .ok (.iload_n 3, 1) := by decide +kernel
theorem d_L_copyHeld_39 : decode c_L_copyHeld 39 = .ok (.bipush 30, 2) := by decide +kernel
theorem d_L_copyHeld_41 : decode c_L_copyHeld 41 = .ok (.if_icmp .ge 37, 3) := by decide +kernel
theorem d_L_copyHeld_44 : decode c_L_copyHeld 44 = .ok (.iinc 3 1, 3) := by decide +kernel
theorem d_L_copyHeld_47 : decode c_L_copyHeld 47 = .ok (.aload_n 0, 1) := by decide +kernel
theorem d_L_copyHeld_48 : decode c_L_copyHeld 48 = .ok (.getfield 12, 3) := by decide +kernel
theorem d_L_copyHeld_51 : decode c_L_copyHeld 51 = .ok (.iload_n 3, 1) := by decide +kernel
theorem d_L_copyHeld_52 : decode c_L_copyHeld 52 = .ok (.iconst 1, 1) := by decide +kernel
theorem d_L_copyHeld_53 : decode c_L_copyHeld 53 = .ok (.aload 7, 2) := by decide +kernel
theorem d_L_copyHeld_55 : decode c_L_copyHeld 55 = .ok (.getfield 51, 3) := by decide +kernel
theorem d_L_copyHeld_58 : decode c_L_copyHeld 58 = .ok (.invokevirtual 54, 3) := by decide +kernel
theorem d_L_copyHeld_61 : decode c_L_copyHeld 61 = .ok (.aload_n 2, 1) := by decide +kernel
theorem d_L_copyHeld_62 : decode c_L_copyHeld 62 = .ok (.iconst 2, 1) := by decide +kernel
theorem d_L_copyHeld_63 : decode c_L_copyHeld 63 = .ok (.iload_n 3, 1) := by decide +kernel
theorem d_L_copyHeld_64 : decode c_L_copyHeld 64 = .ok (.iadd, 1) := by decide +kernel
theorem d_L_copyHeld_65 : decode c_L_copyHeld 65 = .ok (.aload 7, 2) := by decide +kernel
theorem d_L_copyHeld_67 : decode c_L_copyHeld 67 = .ok (.getfield 58, 3) := by decide +kernel
theorem d_L_copyHeld_70 : decode c_L_copyHeld 70 = .ok (.invokevirtual 29, 3) := by decide +kernel
theorem d_L_copyHeld_73 : decode c_L_copyHeld 73 = .ok (.ifCond .ne 5, 3) := by decide +kernel
theorem d_L_copyHeld_76 : decode c_L_copyHeld 76 = .ok (.iconst 0, 1) := by decide +kernel
theorem d_L_copyHeld_77 : decode c_L_copyHeld 77 = .ok (.ireturn, 1) := by decide +kernel
theorem d_L_copyHeld_78 : decode c_L_copyHeld 78 = .ok (.iinc 6 1, 3) := by decide +kernel
theorem d_L_copyHeld_81 : decode c_L_copyHeld 81 = .ok (.goto (-65), 3) := by decide +kernel
theorem d_L_copyHeld_84 : decode c_L_copyHeld 84 = .ok (.aload_n 0, 1) := by decide +kernel
theorem d_L_copyHeld_85 : decode c_L_copyHeld 85 = .ok (.getfield 12, 3) := by decide +kernel
theorem d_L_copyHeld_88 : decode c_L_copyHeld 88 = .ok (.iconst 0, 1) := by decide +kernel
theorem d_L_copyHeld_89 : decode c_L_copyHeld 89 = .ok (.iconst 1, 1) := by decide +kernel
theorem d_L_copyHeld_90 : decode c_L_copyHeld 90 = .ok (.iload_n 3, 1) := by decide +kernel
theorem d_L_copyHeld_91 : decode c_L_copyHeld 91 = .ok (.invokevirtual 54, 3) := by decide +kernel
theorem d_L_copyHeld_94 : decode c_L_copyHeld 94 = .ok (.iconst 1, 1) := by decide +kernel
theorem d_L_copyHeld_95 : decode c_L_copyHeld 95 = .ok (.ireturn, 1) := by decide +kernel
theorem d_P_putRun_0 : decode c_P_putRun 0 = .ok (.iload_n 1, 1) := by decide +kernel
theorem d_P_putRun_1 : decode c_P_putRun 1 = .ok (.iload_n 2, 1) := by decide +kernel
theorem d_P_putRun_2 : decode c_P_putRun 2 = .ok (.invokestatic 15, 3) := by decide +kernel
theorem d_P_putRun_5 : decode c_P_putRun 5 = .ok (.ifCond .ne 4, 3) := by decide +kernel
theorem d_P_putRun_8 : decode c_P_putRun 8 = .ok (.return_, 1) := by decide +kernel
theorem d_P_putRun_9 : decode c_P_putRun 9 = .ok (.aload_n 0, 1) := by decide +kernel
theorem d_P_putRun_10 : decode c_P_putRun 10 = .ok (.getfield 9, 3) := by decide +kernel
theorem d_P_putRun_13 : decode c_P_putRun 13 = .ok (.ifnonnull 12, 3) := by decide +kernel
theorem d_P_putRun_16 : decode c_P_putRun 16 = .ok (.aload_n 0, 1) := by decide +kernel
theorem d_P_putRun_17 : decode c_P_putRun 17 = .ok (.sipush 1024, 3) := by decide +kernel
theorem d_P_putRun_20 : decode c_P_putRun 20 = .ok (.newarray .byte, 2) := by decide +kernel
theorem d_P_putRun_22 : decode c_P_putRun 22 = .ok (.putfield 9, 3) := by decide +kernel
theorem d_P_putRun_25 : decode c_P_putRun 25 = .ok (.iconst 0, 1) := by decide +kernel
theorem d_P_putRun_26 : decode c_P_putRun 26 = .ok (.istore 4, 2) := by decide +kernel
theorem d_P_putRun_28 : decode c_P_putRun 28 = .ok (.iload 4, 2) := by decide +kernel
theorem d_P_putRun_30 : decode c_P_putRun 30 = .ok (.iload_n 2, 1) := by decide +kernel
theorem d_P_putRun_31 : decode c_P_putRun 31 = .ok (.if_icmp .ge 23, 3) := by decide +kernel
theorem d_P_putRun_34 : decode c_P_putRun 34 = .ok (.aload_n 0, 1) := by decide +kernel
theorem d_P_putRun_35 : decode c_P_putRun 35 = .ok (.getfield 9, 3) := by decide +kernel
theorem d_P_putRun_38 : decode c_P_putRun 38 = .ok (.iload_n 1, 1) := by decide +kernel
theorem d_P_putRun_39 : decode c_P_putRun 39 = .ok (.iload 4, 2) := by decide +kernel
theorem d_P_putRun_41 : decode c_P_putRun 41 = .ok (.iadd, 1) := by decide +kernel
theorem d_P_putRun_42 : decode c_P_putRun 42 = .ok (.iload_n 3, 1) := by decide +kernel
theorem d_P_putRun_43 : decode c_P_putRun 43 = .ok (.iload 4, 2) := by decide +kernel
theorem d_P_putRun_45 : decode c_P_putRun 45 = .ok (.iadd, 1) := by decide +kernel
theorem d_P_putRun_46 : decode c_P_putRun 46 = .ok (.i2b, 1) := by decide +kernel
theorem d_P_putRun_47 : decode c_P_putRun 47 = .ok (.bastore, 1) := by decide +kernel
theorem d_P_putRun_48 : decode c_P_putRun 48 = .ok (.iinc 4 1, 3) := by decide +kernel
theorem d_P_putRun_51 : decode c_P_putRun 51 = .ok (.goto (-23), 3) := by decide +kernel
theorem d_P_putRun_54 : decode c_P_putRun 54 = .ok (.return_, 1) := by decide +kernel
theorem d_V_isRun_0 : decode c_V_isRun 0 = .ok (.iload_n 1, 1) := by decide +kernel
theorem d_V_isRun_1 : decode c_V_isRun 1 = .ok (.iconst 1, 1) := by decide +kernel
theorem d_V_isRun_2 : decode c_V_isRun 2 = .ok (.if_icmp .lt 27, 3) := by decide +kernel
theorem d_V_isRun_5 : decode c_V_isRun 5 = .ok (.iload_n 1, 1) := by decide +kernel
theorem d_V_isRun_6 : decode c_V_isRun 6 = .ok (.sipush 1024, 3) := by decide +kernel
theorem d_V_isRun_9 : decode c_V_isRun 9 = .ok (.if_icmp .gt 20, 3) := by decide +kernel
theorem d_V_isRun_12 : decode c_V_isRun 12 = .ok (.iload_n 0, 1) := by decide +kernel
theorem d_V_isRun_13 : decode c_V_isRun 13 = .ok (.ifCond .lt 16, 3) := by decide +kernel
theorem d_V_isRun_16 : decode c_V_isRun 16 = .ok (.iload_n 0, 1) := by decide +kernel
theorem d_V_isRun_17 : decode c_V_isRun 17 = .ok (.sipush 1024, 3) := by decide +kernel
theorem d_V_isRun_20 : decode c_V_isRun 20 = .ok (.iload_n 1, 1) := by decide +kernel
theorem d_V_isRun_21 : decode c_V_isRun 21 = .ok (.isub, 1) := by decide +kernel
theorem d_V_isRun_22 : decode c_V_isRun 22 = .ok (.if_icmp .gt 7, 3) := by decide +kernel
theorem d_V_isRun_25 : decode c_V_isRun 25 = .ok (.iconst 1, 1) := by decide +kernel
theorem d_V_isRun_26 : decode c_V_isRun 26 = .ok (.goto 4, 3) := by decide +kernel
theorem d_V_isRun_29 : decode c_V_isRun 29 = .ok (.iconst 0, 1) := by decide +kernel
theorem d_V_isRun_30 : decode c_V_isRun 30 = .ok (.ireturn, 1) := by decide +kernel
theorem d_D_write_0 : decode c_D_write 0 = .ok (.aload_n 0, 1) := by decide +kernel
theorem d_D_write_1 : decode c_D_write 1 = .ok (.getfield 18, 3) := by decide +kernel
theorem d_D_write_4 : decode c_D_write 4 = .ok (.ifCond .eq 16, 3) := by decide +kernel
theorem d_D_write_7 : decode c_D_write 7 = .ok (.iload_n 1, 1) := by decide +kernel
theorem d_D_write_8 : decode c_D_write 8 = .ok (.ifCond .lt 12, 3) := by decide +kernel
theorem d_D_write_11 : decode c_D_write 11 = .ok (.iload_n 1, 1) := by decide +kernel
theorem d_D_write_12 : decode c_D_write 12 = .ok (.aload_n 0, 1) := by decide +kernel
theorem d_D_write_13 : decode c_D_write 13 = .ok (.getfield 11, 3) := by decide +kernel
theorem d_D_write_16 : decode c_D_write 16 = .ok (.arraylength, 1) := by decide +kernel
theorem d_D_write_17 : decode c_D_write 17 = .ok (.if_icmp .lt 5, 3) := by decide +kernel
theorem d_D_write_20 : decode c_D_write 20 = .ok (.iconst 0, 1) := by decide +kernel
theorem d_D_write_21 : decode c_D_write 21 = .ok (.ireturn, 1) := by decide +kernel
theorem d_D_write_22 : decode c_D_write 22 = .ok (.aload_n 0, 1) := by decide +kernel
theorem d_D_write_23 : decode c_D_write 23 = .ok (.getfield 22, 3) := by decide +kernel
theorem d_D_write_26 : decode c_D_write 26 = .ok (.ifCond .ne 10, 3) := by decide +kernel
theorem d_D_write_29 : decode c_D_write 29 = .ok (.aload_n 0, 1) := by decide +kernel
theorem d_D_write_30 : decode c_D_write 30 = .ok (.iconst 0, 1) := by decide +kernel
theorem d_D_write_31 : decode c_D_write 31 = .ok (.putfield 18, 3) := by decide +kernel
theorem d_D_write_34 : decode c_D_write 34 = .ok (.iconst 0, 1) := by decide +kernel
theorem d_D_write_35 : decode c_D_write 35 = .ok (.ireturn, 1) := by decide +kernel
theorem d_D_write_36 : decode c_D_write 36 = .ok (.aload_n 0, 1) := by decide +kernel
theorem d_D_write_37 : decode c_D_write 37 = .ok (.getfield 22, 3) := by decide +kernel
theorem d_D_write_40 : decode c_D_write 40 = .ok (.ifCond .le 13, 3) := by decide +kernel
theorem d_D_write_43 : decode c_D_write 43 = .ok (.aload_n 0, 1) := by decide +kernel
theorem d_D_write_44 : decode c_D_write 44 = .ok (.dup, 1) := by decide +kernel
theorem d_D_write_45 : decode c_D_write 45 = .ok (.getfield 22, 3) := by decide +kernel
theorem d_D_write_48 : decode c_D_write 48 = .ok (.iconst 1, 1) := by decide +kernel
theorem d_D_write_49 : decode c_D_write 49 = .ok (.isub, 1) := by decide +kernel
theorem d_D_write_50 : decode c_D_write 50 = .ok (.putfield 22, 3) := by decide +kernel
theorem d_D_write_53 : decode c_D_write 53 = .ok (.aload_n 0, 1) := by decide +kernel
theorem d_D_write_54 : decode c_D_write 54 = .ok (.dup, 1) := by decide +kernel
theorem d_D_write_55 : decode c_D_write 55 = .ok (.getfield 26, 3) := by decide +kernel
theorem d_D_write_58 : decode c_D_write 58 = .ok (.iconst 1, 1) := by decide +kernel
theorem d_D_write_59 : decode c_D_write 59 = .ok (.iadd, 1) := by decide +kernel
theorem d_D_write_60 : decode c_D_write 60 = .ok (.putfield 26, 3) := by decide +kernel
theorem d_D_write_63 : decode c_D_write 63 = .ok (.aload_n 0, 1) := by decide +kernel
theorem d_D_write_64 : decode c_D_write 64 = .ok (.getfield 11, 3) := by decide +kernel
theorem d_D_write_67 : decode c_D_write 67 = .ok (.iload_n 1, 1) := by decide +kernel
theorem d_D_write_68 : decode c_D_write 68 = .ok (.aaload, 1) := by decide +kernel
theorem d_D_write_69 : decode c_D_write 69 = .ok (.aload_n 2, 1) := by decide +kernel
theorem d_D_write_70 : decode c_D_write 70 = .ok (.invokevirtual 29, 3) := by decide +kernel
theorem d_D_write_73 : decode c_D_write 73 = .ok (.iconst 1, 1) := by decide +kernel
theorem d_D_write_74 : decode c_D_write 74 = .ok (.ireturn, 1) := by decide +kernel
theorem d_P_copyFrom_0 : decode c_P_copyFrom 0 = .ok (.aload_n 1, 1) := by decide +kernel
theorem d_P_copyFrom_1 : decode c_P_copyFrom 1 = .ok (.getfield 9, 3) := by decide +kernel
theorem d_P_copyFrom_4 : decode c_P_copyFrom 4 = .ok (.ifnonnull 8, 3) := by decide +kernel
theorem d_P_copyFrom_7 : decode c_P_copyFrom 7 = .ok (.aload_n 0, 1) := by decide +kernel
theorem d_P_copyFrom_8 : decode c_P_copyFrom 8 = .ok (.invokevirtual 19, 3) := by decide +kernel
theorem d_P_copyFrom_11 : decode c_P_copyFrom 11 = .ok (.return_, 1) := by decide +kernel
theorem d_P_copyFrom_12 : decode c_P_copyFrom 12 = .ok (.aload_n 0, 1) := by decide +kernel
theorem d_P_copyFrom_13 : decode c_P_copyFrom 13 = .ok (.getfield 9, 3) := by decide +kernel
theorem d_P_copyFrom_16 : decode c_P_copyFrom 16 = .ok (.ifnonnull 12, 3) := by decide +kernel
theorem d_P_copyFrom_19 : decode c_P_copyFrom 19 = .ok (.aload_n 0, 1) := by decide +kernel
theorem d_P_copyFrom_20 : decode c_P_copyFrom 20 = .ok (.sipush 1024, 3) := by decide +kernel
theorem d_P_copyFrom_23 : decode c_P_copyFrom 23 = .ok (.newarray .byte, 2) := by decide +kernel
theorem d_P_copyFrom_25 : decode c_P_copyFrom 25 = .ok (.putfield 9, 3) := by decide +kernel
theorem d_P_copyFrom_28 : decode c_P_copyFrom 28 = .ok (.aload_n 1, 1) := by decide +kernel
theorem d_P_copyFrom_29 : decode c_P_copyFrom 29 = .ok (.getfield 9, 3) := by decide +kernel
theorem d_P_copyFrom_32 : decode c_P_copyFrom 32 = .ok (.iconst 0, 1) := by decide +kernel
theorem d_P_copyFrom_33 : decode c_P_copyFrom 33 = .ok (.aload_n 0, 1) := by decide +kernel
theorem d_P_copyFrom_34 : decode c_P_copyFrom 34 = .ok (.getfield 9, 3) := by decide +kernel
theorem d_P_copyFrom_37 : decode c_P_copyFrom 37 = .ok (.iconst 0, 1) := by decide +kernel
theorem d_P_copyFrom_38 : decode c_P_copyFrom 38 = .ok (.sipush 1024, 3) := by decide +kernel
theorem d_P_copyFrom_41 : decode c_P_copyFrom 41 = .ok (.invokestatic 22, 3) := by decide +kernel
theorem d_P_copyFrom_44 : decode c_P_copyFrom 44 = .ok (.return_, 1) := by decide +kernel
theorem d_P_makeZero_0 : decode c_P_makeZero 0 = .ok (.aload_n 0, 1) := by decide +kernel
theorem d_P_makeZero_1 : decode c_P_makeZero 1 = .ok (.getfield 9, 3) := by decide +kernel
theorem d_P_makeZero_4 : decode c_P_makeZero 4 = .ok (.ifnull 11, 3) := by decide +kernel
theorem d_P_makeZero_7 : decode c_P_makeZero 7 = .ok (.aload_n 0, 1) := by decide +kernel
theorem d_P_makeZero_8 : decode c_P_makeZero 8 = .ok (.getfield 9, 3) := by decide +kernel
theorem d_P_makeZero_11 : decode c_P_makeZero 11 = .ok (.iconst 0, 1) := by decide +kernel
theorem d_P_makeZero_12 : decode c_P_makeZero 12 = .ok (.invokestatic 28, 3) := by decide +kernel
theorem d_P_makeZero_15 : decode c_P_makeZero 15 = .ok (.return_, 1) := by decide +kernel
theorem d_A_fill_0 : decode c_A_fill 0 = .ok (.iconst 0, 1) := by decide +kernel
theorem d_A_fill_1 : decode c_A_fill 1 = .ok (.istore_n 2, 1) := by decide +kernel
theorem d_A_fill_2 : decode c_A_fill 2 = .ok (.aload_n 0, 1) := by decide +kernel
theorem d_A_fill_3 : decode c_A_fill 3 = .ok (.arraylength, 1) := by decide +kernel
theorem d_A_fill_4 : decode c_A_fill 4 = .ok (.istore_n 3, 1) := by decide +kernel
theorem d_A_fill_5 : decode c_A_fill 5 = .ok (.iload_n 2, 1) := by decide +kernel
theorem d_A_fill_6 : decode c_A_fill 6 = .ok (.iload_n 3, 1) := by decide +kernel
theorem d_A_fill_7 : decode c_A_fill 7 = .ok (.if_icmp .ge 13, 3) := by decide +kernel
theorem d_A_fill_10 : decode c_A_fill 10 = .ok (.aload_n 0, 1) := by decide +kernel
theorem d_A_fill_11 : decode c_A_fill 11 = .ok (.iload_n 2, 1) := by decide +kernel
theorem d_A_fill_12 : decode c_A_fill 12 = .ok (.iload_n 1, 1) := by decide +kernel
theorem d_A_fill_13 : decode c_A_fill 13 = .ok (.bastore, 1) := by decide +kernel
theorem d_A_fill_14 : decode c_A_fill 14 = .ok (.iinc 2 1, 3) := by decide +kernel
theorem d_A_fill_17 : decode c_A_fill 17 = .ok (.goto (-12), 3) := by decide +kernel
theorem d_A_fill_20 : decode c_A_fill 20 = .ok (.return_, 1) := by decide +kernel
theorem d_L_bringHome_0 : decode c_L_bringHome 0 = .ok (.aload_n 1, 1) := by decide +kernel
theorem d_L_bringHome_1 : decode c_L_bringHome 1 = .ok (.iconst 2, 1) := by decide +kernel
theorem d_L_bringHome_2 : decode c_L_bringHome 2 = .ok (.aload_n 0, 1) := by decide +kernel
theorem d_L_bringHome_3 : decode c_L_bringHome 3 = .ok (.getfield 12, 3) := by decide +kernel
theorem d_L_bringHome_6 : decode c_L_bringHome 6 = .ok (.invokevirtual 61, 3) := by decide +kernel
theorem d_L_bringHome_9 : decode c_L_bringHome 9 = .ok (.aload_n 0, 1) := by decide +kernel
theorem d_L_bringHome_10 : decode c_L_bringHome 10 = .ok (.getfield 12, 3) := by decide +kernel
theorem d_L_bringHome_13 : decode c_L_bringHome 13 = .ok (.iconst 0, 1) := by decide +kernel
theorem d_L_bringHome_14 : decode c_L_bringHome 14 = .ok (.invokevirtual 65, 3) := by decide +kernel
theorem d_L_bringHome_17 : decode c_L_bringHome 17 = .ok (.bipush 30, 2) := by decide +kernel
theorem d_L_bringHome_19 : decode c_L_bringHome 19 = .ok (.invokestatic 69, 3) := by decide +kernel
theorem d_L_bringHome_22 : decode c_L_bringHome 22 = .ok (.istore_n 2, 1) := by decide +kernel
theorem d_L_bringHome_23 : decode c_L_bringHome 23 = .ok (.iload_n 2, 1) := by decide +kernel
theorem d_L_bringHome_24 : decode c_L_bringHome 24 = .ok (.ifCond .ne 5, 3) := by decide +kernel
theorem d_L_bringHome_27 : decode c_L_bringHome 27 = .ok (.iconst 0, 1) := by decide +kernel
theorem d_L_bringHome_28 : decode c_L_bringHome 28 = .ok (.ireturn, 1) := by decide +kernel
theorem d_L_bringHome_29 : decode c_L_bringHome 29 = .ok (.iconst 1, 1) := by decide +kernel
theorem d_L_bringHome_30 : decode c_L_bringHome 30 = .ok (.istore_n 3, 1) := by decide +kernel
theorem d_L_bringHome_31 : decode c_L_bringHome 31 = .ok (.iload_n 3, 1) := by decide +kernel
theorem d_L_bringHome_32 : decode c_L_bringHome 32 = .ok (.iload_n 2, 1) := by decide +kernel
theorem d_L_bringHome_33 : decode c_L_bringHome 33 = .ok (.if_icmp .gt 41, 3) := by decide +kernel
theorem d_L_bringHome_36 : decode c_L_bringHome 36 = .ok (.aload_n 1, 1) := by decide +kernel
theorem d_L_bringHome_37 : decode c_L_bringHome 37 = .ok (.iconst 2, 1) := by decide +kernel
theorem d_L_bringHome_38 : decode c_L_bringHome 38 = .ok (.iload_n 3, 1) := by decide +kernel
theorem d_L_bringHome_39 : decode c_L_bringHome 39 = .ok (.iadd, 1) := by decide +kernel
theorem d_L_bringHome_40 : decode c_L_bringHome 40 = .ok (.aload_n 0, 1) := by decide +kernel
theorem d_L_bringHome_41 : decode c_L_bringHome 41 = .ok (.getfield 18, 3) := by decide +kernel
theorem d_L_bringHome_44 : decode c_L_bringHome 44 = .ok (.invokevirtual 61, 3) := by decide +kernel
theorem d_L_bringHome_47 : decode c_L_bringHome 47 = .ok (.aload_n 1, 1) := by decide +kernel
theorem d_L_bringHome_48 : decode c_L_bringHome 48 = .ok (.aload_n 0, 1) := by decide +kernel
theorem d_L_bringHome_49 : decode c_L_bringHome 49 = .ok (.getfield 12, 3) := by decide +kernel
theorem d_L_bringHome_52 : decode c_L_bringHome 52 = .ok (.iload_n 3, 1) := by decide +kernel
theorem d_L_bringHome_53 : decode c_L_bringHome 53 = .ok (.invokevirtual 65, 3) := by decide +kernel
theorem d_L_bringHome_56 : decode c_L_bringHome 56 = .ok (.aload_n 0, 1) := by decide +kernel
theorem d_L_bringHome_57 : decode c_L_bringHome 57 = .ok (.getfield 18, 3) := by decide +kernel
theorem d_L_bringHome_60 : decode c_L_bringHome 60 = .ok (.invokevirtual 29, 3) := by decide +kernel
theorem d_L_bringHome_63 : decode c_L_bringHome 63 = .ok (.ifCond .ne 5, 3) := by decide +kernel
theorem d_L_bringHome_66 : decode c_L_bringHome 66 = .ok (.iconst (-1), 1) := by decide +kernel
theorem d_L_bringHome_67 : decode c_L_bringHome 67 = .ok (.ireturn, 1) := by decide +kernel
theorem d_L_bringHome_68 : decode c_L_bringHome 68 = .ok (.iinc 3 1, 3) := by decide +kernel
theorem d_L_bringHome_71 : decode c_L_bringHome 71 = .ok (.goto (-40), 3) := by decide +kernel
theorem d_L_bringHome_74 : decode c_L_bringHome 74 = .ok (.aload_n 0, 1) := by decide +kernel
theorem d_L_bringHome_75 : decode c_L_bringHome 75 = .ok (.getfield 12, 3) := by decide +kernel
theorem d_L_bringHome_78 : decode c_L_bringHome 78 = .ok (.iconst 0, 1) := by decide +kernel
theorem d_L_bringHome_79 : decode c_L_bringHome 79 = .ok (.iconst 1, 1) := by decide +kernel
theorem d_L_bringHome_80 : decode c_L_bringHome 80 = .ok (.iconst 0, 1) := by decide +kernel
theorem d_L_bringHome_81 : decode c_L_bringHome 81 = .ok (.invokevirtual 54, 3) := by decide +kernel
theorem d_L_bringHome_84 : decode c_L_bringHome 84 = .ok (.aload_n 1, 1) := by decide +kernel
theorem d_L_bringHome_85 : decode c_L_bringHome 85 = .ok (.iconst 2, 1) := by decide +kernel
theorem d_L_bringHome_86 : decode c_L_bringHome 86 = .ok (.aload_n 0, 1) := by decide +kernel
theorem d_L_bringHome_87 : decode c_L_bringHome 87 = .ok (.getfield 12, 3) := by decide +kernel
theorem d_L_bringHome_90 : decode c_L_bringHome 90 = .ok (.invokevirtual 29, 3) := by decide +kernel
theorem d_L_bringHome_93 : decode c_L_bringHome 93 = .ok (.ifCond .eq 7, 3) := by decide +kernel
theorem d_L_bringHome_96 : decode c_L_bringHome 96 = .ok (.iload_n 2, 1) := by decide +kernel
theorem d_L_bringHome_97 : decode c_L_bringHome 97 = .ok (.goto 4, 3) := by decide +kernel
theorem d_L_bringHome_100 : decode c_L_bringHome 100 = .ok (.iconst (-1), 1) := by decide +kernel
theorem d_L_bringHome_101 : decode c_L_bringHome 101 = .ok (.ireturn, 1) := by decide +kernel
theorem d_D_read_0 : decode c_D_read 0 = .ok (.iload_n 1, 1) := by decide +kernel
theorem d_D_read_1 : decode c_D_read 1 = .ok (.ifCond .lt 22, 3) := by decide +kernel
theorem d_D_read_4 : decode c_D_read 4 = .ok (.iload_n 1, 1) := by decide +kernel
theorem d_D_read_5 : decode c_D_read 5 = .ok (.aload_n 0, 1) := by decide +kernel
theorem d_D_read_6 : decode c_D_read 6 = .ok (.getfield 11, 3) := by decide +kernel
theorem d_D_read_9 : decode c_D_read 9 = .ok (.arraylength, 1) := by decide +kernel
theorem d_D_read_10 : decode c_D_read 10 = .ok (.if_icmp .ge 13, 3) := by decide +kernel
theorem d_D_read_13 : decode c_D_read 13 = .ok (.aload_n 2, 1) := by decide +kernel
theorem d_D_read_14 : decode c_D_read 14 = .ok (.aload_n 0, 1) := by decide +kernel
theorem d_D_read_15 : decode c_D_read 15 = .ok (.getfield 11, 3) := by decide +kernel
theorem d_D_read_18 : decode c_D_read 18 = .ok (.iload_n 1, 1) := by decide +kernel
theorem d_D_read_19 : decode c_D_read 19 = .ok (.aaload, 1) := by decide +kernel
theorem d_D_read_20 : decode c_D_read 20 = .ok (.invokevirtual 29, 3) := by decide +kernel
theorem d_D_read_23 : decode c_D_read 23 = .ok (.return_, 1) := by decide +kernel
theorem d_P_byteAt_0 : decode c_P_byteAt 0 = .ok (.aload_n 0, 1) := by decide +kernel
theorem d_P_byteAt_1 : decode c_P_byteAt 1 = .ok (.getfield 9, 3) := by decide +kernel
theorem d_P_byteAt_4 : decode c_P_byteAt 4 = .ok (.ifnull 16, 3) := by decide +kernel
theorem d_P_byteAt_7 : decode c_P_byteAt 7 = .ok (.iload_n 1, 1) := by decide +kernel
theorem d_P_byteAt_8 : decode c_P_byteAt 8 = .ok (.ifCond .lt 12, 3) := by decide +kernel
theorem d_P_byteAt_11 : decode c_P_byteAt 11 = .ok (.iload_n 1, 1) := by decide +kernel
theorem d_P_byteAt_12 : decode c_P_byteAt 12 = .ok (.aload_n 0, 1) := by decide +kernel
theorem d_P_byteAt_13 : decode c_P_byteAt 13 = .ok (.getfield 9, 3) := by decide +kernel
theorem d_P_byteAt_16 : decode c_P_byteAt 16 = .ok (.arraylength, 1) := by decide +kernel
theorem d_P_byteAt_17 : decode c_P_byteAt 17 = .ok (.if_icmp .lt 5, 3) := by decide +kernel
theorem d_P_byteAt_20 : decode c_P_byteAt 20 = .ok (.iconst 0, 1) := by decide +kernel
theorem d_P_byteAt_21 : decode c_P_byteAt 21 = .ok (.ireturn, 1) := by decide +kernel
theorem d_P_byteAt_22 : decode c_P_byteAt 22 = .ok (.aload_n 0, 1) := by decide +kernel
theorem d_P_byteAt_23 : decode c_P_byteAt 23 = .ok (.getfield 9, 3) := by decide +kernel
theorem d_P_byteAt_26 : decode c_P_byteAt 26 = .ok (.iload_n 1, 1) := by decide +kernel
theorem d_P_byteAt_27 : decode c_P_byteAt 27 = .ok (.baload, 1) := by decide +kernel
theorem d_P_byteAt_28 : decode c_P_byteAt 28 = .ok (.sipush 255, 3) := by decide +kernel
theorem d_P_byteAt_31 : decode c_P_byteAt 31 = .ok (.iand, 1) := by decide +kernel
theorem d_P_byteAt_32 : decode c_P_byteAt 32 = .ok (.ireturn, 1) := by decide +kernel
theorem d_C_releaseHeld_0 : decode c_C_releaseHeld 0 = .ok (.aload_n 0, 1) := by decide +kernel
theorem d_C_releaseHeld_1 : decode c_C_releaseHeld 1 = .ok (.getfield 11, 3) := by decide +kernel
theorem d_C_releaseHeld_4 : decode c_C_releaseHeld 4 = .ok (.astore_n 1, 1) := by decide +kernel
theorem d_C_releaseHeld_5 : decode c_C_releaseHeld 5 = .ok (.aload_n 1, 1) := by decide +kernel
theorem d_C_releaseHeld_6 : decode c_C_releaseHeld 6 = .ok (.arraylength, 1) := by decide +kernel
theorem d_C_releaseHeld_7 : decode c_C_releaseHeld 7 = .ok (.istore_n 2, 1) := by decide +kernel
theorem d_C_releaseHeld_8 : decode c_C_releaseHeld 8 = .ok (.iconst 0, 1) := by decide +kernel
theorem d_C_releaseHeld_9 : decode c_C_releaseHeld 9 = .ok (.istore_n 3, 1) := by decide +kernel
theorem d_C_releaseHeld_10 : decode c_C_releaseHeld 10 = .ok (.iload_n 3, 1) := by decide +kernel
theorem d_C_releaseHeld_11 : decode c_C_releaseHeld 11 = .ok (.iload_n 2, 1) := by decide +kernel
theorem d_C_releaseHeld_12 : decode c_C_releaseHeld 12 = .ok (.if_icmp .ge 20, 3) := by decide +kernel
theorem d_C_releaseHeld_15 : decode c_C_releaseHeld 15 = .ok (.aload_n 1, 1) := by decide +kernel
theorem d_C_releaseHeld_16 : decode c_C_releaseHeld 16 = .ok (.iload_n 3, 1) := by decide +kernel
theorem d_C_releaseHeld_17 : decode c_C_releaseHeld 17 = .ok (.aaload, 1) := by decide +kernel
theorem d_C_releaseHeld_18 : decode c_C_releaseHeld 18 = .ok (.astore 4, 2) := by decide +kernel
theorem d_C_releaseHeld_20 : decode c_C_releaseHeld 20 = .ok (.aload 4, 2) := by decide +kernel
theorem d_C_releaseHeld_22 : decode c_C_releaseHeld 22 = .ok (.iconst 0, 1) := by decide +kernel
theorem d_C_releaseHeld_23 : decode c_C_releaseHeld 23 = .ok (.putfield 53, 3) := by decide +kernel
theorem d_C_releaseHeld_26 : decode c_C_releaseHeld 26 = .ok (.iinc 3 1, 3) := by decide +kernel
theorem d_C_releaseHeld_29 : decode c_C_releaseHeld 29 = .ok (.goto (-19), 3) := by decide +kernel
theorem d_C_releaseHeld_32 : decode c_C_releaseHeld 32 = .ok (.return_, 1) := by decide +kernel
theorem d_C_makeEmpty_0 : decode c_C_makeEmpty 0 = .ok (.aload_n 0, 1) := by decide +kernel
theorem d_C_makeEmpty_1 : decode c_C_makeEmpty 1 = .ok (.getfield 11, 3) := by decide +kernel
theorem d_C_makeEmpty_4 : decode c_C_makeEmpty 4 = .ok (.astore_n 1, 1) := by decide +kernel
theorem d_C_makeEmpty_5 : decode c_C_makeEmpty 5 = .ok (.aload_n 1, 1) := by decide +kernel
theorem d_C_makeEmpty_6 : decode c_C_makeEmpty 6 = .ok (.arraylength, 1) := by decide +kernel
theorem d_C_makeEmpty_7 : decode c_C_makeEmpty 7 = .ok (.istore_n 2, 1) := by decide +kernel
theorem d_C_makeEmpty_8 : decode c_C_makeEmpty 8 = .ok (.iconst 0, 1) := by decide +kernel
theorem d_C_makeEmpty_9 : decode c_C_makeEmpty 9 = .ok (.istore_n 3, 1) := by decide +kernel
theorem d_C_makeEmpty_10 : decode c_C_makeEmpty 10 = .ok (.iload_n 3, 1) := by decide +kernel
theorem d_C_makeEmpty_11 : decode c_C_makeEmpty 11 = .ok (.iload_n 2, 1) := by decide +kernel
theorem d_C_makeEmpty_12 : decode c_C_makeEmpty 12 = .ok (.if_icmp .ge 19, 3) := by decide +kernel
theorem d_C_makeEmpty_15 : decode c_C_makeEmpty 15 = .ok (.aload_n 1, 1) := by decide +kernel
theorem d_C_makeEmpty_16 : decode c_C_makeEmpty 16 = .ok (.iload_n 3, 1) := by decide +kernel
theorem d_C_makeEmpty_17 : decode c_C_makeEmpty 17 = .ok (.aaload, 1) := by decide +kernel
theorem d_C_makeEmpty_18 : decode c_C_makeEmpty 18 = .ok (.astore 4, 2) := by decide +kernel
theorem d_C_makeEmpty_20 : decode c_C_makeEmpty 20 = .ok (.aload 4, 2) := by decide +kernel
theorem d_C_makeEmpty_22 : decode c_C_makeEmpty 22 = .ok (.invokevirtual 60, 3) := by decide +kernel
theorem d_C_makeEmpty_25 : decode c_C_makeEmpty 25 = .ok (.iinc 3 1, 3) := by decide +kernel
theorem d_C_makeEmpty_28 : decode c_C_makeEmpty 28 = .ok (.goto (-18), 3) := by decide +kernel
theorem d_C_makeEmpty_31 : decode c_C_makeEmpty 31 = .ok (.return_, 1) := by decide +kernel
theorem d_R_makeEmpty_0 : decode c_R_makeEmpty 0 = .ok (.aload_n 0, 1) := by decide +kernel
theorem d_R_makeEmpty_1 : decode c_R_makeEmpty 1 = .ok (.iconst (-1), 1) := by decide +kernel
theorem d_R_makeEmpty_2 : decode c_R_makeEmpty 2 = .ok (.putfield 18, 3) := by decide +kernel
theorem d_R_makeEmpty_5 : decode c_R_makeEmpty 5 = .ok (.aload_n 0, 1) := by decide +kernel
theorem d_R_makeEmpty_6 : decode c_R_makeEmpty 6 = .ok (.iconst 0, 1) := by decide +kernel
theorem d_R_makeEmpty_7 : decode c_R_makeEmpty 7 = .ok (.putfield 22, 3) := by decide +kernel
theorem d_R_makeEmpty_10 : decode c_R_makeEmpty 10 = .ok (.aload_n 0, 1) := by decide +kernel
theorem d_R_makeEmpty_11 : decode c_R_makeEmpty 11 = .ok (.iconst 0, 1) := by decide +kernel
theorem d_R_makeEmpty_12 : decode c_R_makeEmpty 12 = .ok (.putfield 25, 3) := by decide +kernel
theorem d_R_makeEmpty_15 : decode c_R_makeEmpty 15 = .ok (.aload_n 0, 1) := by decide +kernel
theorem d_R_makeEmpty_16 : decode c_R_makeEmpty 16 = .ok (.iconst 0, 1) := by decide +kernel
theorem d_R_makeEmpty_17 : decode c_R_makeEmpty 17 = .ok (.putfield 29, 3) := by decide +kernel
theorem d_R_makeEmpty_20 : decode c_R_makeEmpty 20 = .ok (.return_, 1) := by decide +kernel
theorem d_V_flush_0 : decode c_V_flush 0 = .ok (.aload_n 0, 1) := by decide +kernel
theorem d_V_flush_1 : decode c_V_flush 1 = .ok (.getfield 25, 3) := by decide +kernel
theorem d_V_flush_4 : decode c_V_flush 4 = .ok (.invokevirtual 47, 3) := by decide +kernel
theorem d_V_flush_7 : decode c_V_flush 7 = .ok (.ifCond .eq 10, 3) := by decide +kernel
theorem d_V_flush_10 : decode c_V_flush 10 = .ok (.aload_n 0, 1) := by decide +kernel
theorem d_V_flush_11 : decode c_V_flush 11 = .ok (.getfield 43, 3) := by decide +kernel
theorem d_V_flush_14 : decode c_V_flush 14 = .ok (.ifCond .eq 5, 3) := by decide +kernel
theorem d_V_flush_17 : decode c_V_flush 17 = .ok (.iconst (-1), 1) := by decide +kernel
theorem d_V_flush_18 : decode c_V_flush 18 = .ok (.ireturn, 1) := by decide +kernel
theorem d_V_flush_19 : decode c_V_flush 19 = .ok (.aload_n 0, 1) := by decide +kernel
theorem d_V_flush_20 : decode c_V_flush 20 = .ok (.getfield 32, 3) := by decide +kernel
theorem d_V_flush_23 : decode c_V_flush 23 = .ok (.invokevirtual 54, 3) := by decide +kernel
theorem d_V_flush_26 : decode c_V_flush 26 = .ok (.istore_n 1, 1) := by decide +kernel
theorem d_V_flush_27 : decode c_V_flush 27 = .ok (.iload_n 1, 1) := by decide +kernel
theorem d_V_flush_28 : decode c_V_flush 28 = .ok (.ifCond .ne 5, 3) := by decide +kernel
theorem d_V_flush_31 : decode c_V_flush 31 = .ok (.iconst 0, 1) := by decide +kernel
theorem d_V_flush_32 : decode c_V_flush 32 = .ok (.ireturn, 1) := by decide +kernel
theorem d_V_flush_33 : decode c_V_flush 33 = .ok (.aload_n 0, 1) := by decide +kernel
theorem d_V_flush_34 : decode c_V_flush 34 = .ok (.invokevirtual 58, 3) := by decide +kernel
theorem d_V_flush_37 : decode c_V_flush 37 = .ok (.ifCond .eq 7, 3) := by decide +kernel
theorem d_V_flush_40 : decode c_V_flush 40 = .ok (.iload_n 1, 1) := by decide +kernel
theorem d_V_flush_41 : decode c_V_flush 41 = .ok (.goto 4, 3) := by decide +kernel
theorem d_V_flush_44 : decode c_V_flush 44 = .ok (.iconst (-1), 1) := by decide +kernel
theorem d_V_flush_45 : decode c_V_flush 45 = .ok (.ireturn, 1) := by decide +kernel
theorem d_V_get_0 : decode c_V_get 0 = .ok (.aload_n 0, 1) := by decide +kernel
theorem d_V_get_1 : decode c_V_get 1 = .ok (.getfield 25, 3) := by decide +kernel
theorem d_V_get_4 : decode c_V_get 4 = .ok (.invokevirtual 47, 3) := by decide +kernel
theorem d_V_get_7 : decode c_V_get 7 = .ok (.ifCond .eq 22, 3) := by decide +kernel
theorem d_V_get_10 : decode c_V_get 10 = .ok (.aload_n 0, 1) := by decide +kernel
theorem d_V_get_11 : decode c_V_get 11 = .ok (.iload_n 1, 1) := by decide +kernel
theorem d_V_get_12 : decode c_V_get 12 = .ok (.invokevirtual 61, 3) := by decide +kernel
theorem d_V_get_15 : decode c_V_get 15 = .ok (.ifCond .eq 14, 3) := by decide +kernel
theorem d_V_get_18 : decode c_V_get 18 = .ok (.iload_n 2, 1) := by decide +kernel
theorem d_V_get_19 : decode c_V_get 19 = .ok (.ifCond .lt 10, 3) := by decide +kernel
theorem d_V_get_22 : decode c_V_get 22 = .ok (.iload_n 2, 1) := by decide +kernel
theorem d_V_get_23 : decode c_V_get 23 = .ok (.sipush 1024, 3) := by decide +kernel
theorem d_V_get_26 : decode c_V_get 26 = .ok (.if_icmp .lt 5, 3) := by decide +kernel
theorem d_V_get_29 : decode c_V_get 29 = .ok (.iconst (-1), 1) := by decide +kernel
theorem d_V_get_30 : decode c_V_get 30 = .ok (.ireturn, 1) := by decide +kernel
theorem d_V_get_31 : decode c_V_get 31 = .ok (.aload_n 0, 1) := by decide +kernel
theorem d_V_get_32 : decode c_V_get 32 = .ok (.getfield 32, 3) := by decide +kernel
theorem d_V_get_35 : decode c_V_get 35 = .ok (.iload_n 1, 1) := by decide +kernel
theorem d_V_get_36 : decode c_V_get 36 = .ok (.aload_n 0, 1) := by decide +kernel
theorem d_V_get_37 : decode c_V_get 37 = .ok (.getfield 25, 3) := by decide +kernel
theorem d_V_get_40 : decode c_V_get 40 = .ok (.invokevirtual 65, 3) := by decide +kernel
theorem d_V_get_43 : decode c_V_get 43 = .ok (.getfield 69, 3) := by decide +kernel
theorem d_V_get_46 : decode c_V_get 46 = .ok (.iload_n 2, 1) := by decide +kernel
theorem d_V_get_47 : decode c_V_get 47 = .ok (.invokevirtual 75, 3) := by decide +kernel
theorem d_V_get_50 : decode c_V_get 50 = .ok (.ireturn, 1) := by decide +kernel
theorem d_V_isBlock_0 : decode c_V_isBlock 0 = .ok (.iload_n 1, 1) := by decide +kernel
theorem d_V_isBlock_1 : decode c_V_isBlock 1 = .ok (.iconst 2, 1) := by decide +kernel
theorem d_V_isBlock_2 : decode c_V_isBlock 2 = .ok (.if_icmp .lt 13, 3) := by decide +kernel
theorem d_V_isBlock_5 : decode c_V_isBlock 5 = .ok (.iload_n 1, 1) := by decide +kernel
theorem d_V_isBlock_6 : decode c_V_isBlock 6 = .ok (.bipush 32, 2) := by decide +kernel
theorem d_V_isBlock_8 : decode c_V_isBlock 8 = .ok (.if_icmp .gt 7, 3) := by decide +kernel
theorem d_V_isBlock_11 : decode c_V_isBlock 11 = .ok (.iconst 1, 1) := by decide +kernel
theorem d_V_isBlock_12 : decode c_V_isBlock 12 = .ok (.goto 4, 3) := by decide +kernel
theorem d_V_isBlock_15 : decode c_V_isBlock 15 = .ok (.iconst 0, 1) := by decide +kernel
theorem d_V_isBlock_16 : decode c_V_isBlock 16 = .ok (.istore_n 2, 1) := by decide +kernel
theorem d_V_isBlock_17 : decode c_V_isBlock 17 = .ok (.iload_n 1, 1) := by decide +kernel
theorem d_V_isBlock_18 : decode c_V_isBlock 18 = .ok (.ifCond .lt 19, 3) := by decide +kernel
theorem d_V_isBlock_21 : decode c_V_isBlock 21 = .ok (.iload_n 1, 1) := by decide +kernel
theorem d_V_isBlock_22 : decode c_V_isBlock 22 = .ok (.aload_n 0, 1) := by decide +kernel
theorem d_V_isBlock_23 : decode c_V_isBlock 23 = .ok (.getfield 18, 3) := by decide +kernel
theorem d_V_isBlock_26 : decode c_V_isBlock 26 = .ok (.if_icmp .ge 11, 3) := by decide +kernel
theorem d_V_isBlock_29 : decode c_V_isBlock 29 = .ok (.iload_n 2, 1) := by decide +kernel
theorem d_V_isBlock_30 : decode c_V_isBlock 30 = .ok (.ifCond .ne 7, 3) := by decide +kernel
theorem d_V_isBlock_33 : decode c_V_isBlock 33 = .ok (.iconst 1, 1) := by decide +kernel
theorem d_V_isBlock_34 : decode c_V_isBlock 34 = .ok (.goto 4, 3) := by decide +kernel
theorem d_V_isBlock_37 : decode c_V_isBlock 37 = .ok (.iconst 0, 1) := by decide +kernel
theorem d_V_isBlock_38 : decode c_V_isBlock 38 = .ok (.ireturn, 1) := by decide +kernel
theorem d_C_lookAt_0 : decode c_C_lookAt 0 = .ok (.aload_n 0, 1) := by decide +kernel
theorem d_C_lookAt_1 : decode c_C_lookAt 1 = .ok (.iload_n 1, 1) := by decide +kernel
theorem d_C_lookAt_2 : decode c_C_lookAt 2 = .ok (.invokevirtual 28, 3) := by decide +kernel
theorem d_C_lookAt_5 : decode c_C_lookAt 5 = .ok (.astore_n 3, 1) := by decide +kernel
theorem d_C_lookAt_6 : decode c_C_lookAt 6 = .ok (.aload_n 3, 1) := by decide +kernel
theorem d_C_lookAt_7 : decode c_C_lookAt 7 = .ok (.ifnonnull 32, 3) := by decide +kernel
theorem d_C_lookAt_10 : decode c_C_lookAt 10 = .ok (.aload_n 0, 1) := by decide +kernel
theorem d_C_lookAt_11 : decode c_C_lookAt 11 = .ok (.invokevirtual 32, 3) := by decide +kernel
theorem d_C_lookAt_14 : decode c_C_lookAt 14 = .ok (.astore_n 3, 1) := by decide +kernel
theorem d_C_lookAt_15 : decode c_C_lookAt 15 = .ok (.aload_n 3, 1) := by decide +kernel
theorem d_C_lookAt_16 : decode c_C_lookAt 16 = .ok (.iload_n 1, 1) := by decide +kernel
theorem d_C_lookAt_17 : decode c_C_lookAt 17 = .ok (.putfield 25, 3) := by decide +kernel
theorem d_C_lookAt_20 : decode c_C_lookAt 20 = .ok (.aload_n 2, 1) := by decide +kernel
theorem d_C_lookAt_21 : decode c_C_lookAt 21 = .ok (.iload_n 1, 1) := by decide +kernel
theorem d_C_lookAt_22 : decode c_C_lookAt 22 = .ok (.aload_n 3, 1) := by decide +kernel
theorem d_C_lookAt_23 : decode c_C_lookAt 23 = .ok (.getfield 36, 3) := by decide +kernel
theorem d_C_lookAt_26 : decode c_C_lookAt 26 = .ok (.invokevirtual 40, 3) := by decide +kernel
theorem d_C_lookAt_29 : decode c_C_lookAt 29 = .ok (.aload_n 0, 1) := by decide +kernel
theorem d_C_lookAt_30 : decode c_C_lookAt 30 = .ok (.dup, 1) := by decide +kernel
theorem d_C_lookAt_31 : decode c_C_lookAt 31 = .ok (.getfield 22, 3) := by decide +kernel
theorem d_C_lookAt_34 : decode c_C_lookAt 34 = .ok (.iconst 1, 1) := by decide +kernel
theorem d_C_lookAt_35 : decode c_C_lookAt 35 = .ok (.iadd, 1) := by decide +kernel
theorem d_C_lookAt_36 : decode c_C_lookAt 36 = .ok (.putfield 22, 3) := by decide +kernel
theorem d_C_lookAt_39 : decode c_C_lookAt 39 = .ok (.aload_n 0, 1) := by decide +kernel
theorem d_C_lookAt_40 : decode c_C_lookAt 40 = .ok (.dup, 1) := by decide +kernel
theorem d_C_lookAt_41 : decode c_C_lookAt 41 = .ok (.getfield 18, 3) := by decide +kernel
theorem d_C_lookAt_44 : decode c_C_lookAt 44 = .ok (.iconst 1, 1) := by decide +kernel
theorem d_C_lookAt_45 : decode c_C_lookAt 45 = .ok (.iadd, 1) := by decide +kernel
theorem d_C_lookAt_46 : decode c_C_lookAt 46 = .ok (.putfield 18, 3) := by decide +kernel
theorem d_C_lookAt_49 : decode c_C_lookAt 49 = .ok (.aload_n 3, 1) := by decide +kernel
theorem d_C_lookAt_50 : decode c_C_lookAt 50 = .ok (.aload_n 0, 1) := by decide +kernel
theorem d_C_lookAt_51 : decode c_C_lookAt 51 = .ok (.getfield 18, 3) := by decide +kernel
theorem d_C_lookAt_54 : decode c_C_lookAt 54 = .ok (.putfield 46, 3) := by decide +kernel
theorem d_C_lookAt_57 : decode c_C_lookAt 57 = .ok (.aload_n 3, 1) := by decide +kernel
theorem d_C_lookAt_58 : decode c_C_lookAt 58 = .ok (.areturn, 1) := by decide +kernel
theorem d_C_rowOf_0 : decode c_C_rowOf 0 = .ok (.aload_n 0, 1) := by decide +kernel
theorem d_C_rowOf_1 : decode c_C_rowOf 1 = .ok (.getfield 11, 3) := by decide +kernel
theorem d_C_rowOf_4 : decode c_C_rowOf 4 = .ok (.astore_n 2, 1) := by decide +kernel
theorem d_C_rowOf_5 : decode c_C_rowOf 5 = .ok (.aload_n 2, 1) := by decide +kernel
theorem d_C_rowOf_6 : decode c_C_rowOf 6 = .ok (.arraylength, 1) := by decide +kernel
theorem d_C_rowOf_7 : decode c_C_rowOf 7 = .ok (.istore_n 3, 1) := by decide +kernel
theorem d_C_rowOf_8 : decode c_C_rowOf 8 = .ok (.iconst 0, 1) := by decide +kernel
theorem d_C_rowOf_9 : decode c_C_rowOf 9 = .ok (.istore 4, 2) := by decide +kernel
theorem d_C_rowOf_11 : decode c_C_rowOf 11 = .ok (.iload 4, 2) := by decide +kernel
theorem d_C_rowOf_13 : decode c_C_rowOf 13 = .ok (.iload_n 3, 1) := by decide +kernel
theorem d_C_rowOf_14 : decode c_C_rowOf 14 = .ok (.if_icmp .ge 27, 3) := by decide +kernel
theorem d_C_rowOf_17 : decode c_C_rowOf 17 = .ok (.aload_n 2, 1) := by decide +kernel
theorem d_C_rowOf_18 : decode c_C_rowOf 18 = .ok (.iload 4, 2) := by decide +kernel
theorem d_C_rowOf_20 : decode c_C_rowOf 20 = .ok (.aaload, 1) := by decide +kernel
theorem d_C_rowOf_21 : decode c_C_rowOf 21 = .ok (.astore 5, 2) := by decide +kernel
theorem d_C_rowOf_23 : decode c_C_rowOf 23 = .ok (.aload 5, 2) := by decide +kernel
theorem d_C_rowOf_25 : decode c_C_rowOf 25 = .ok (.getfield 25, 3) := by decide +kernel
theorem d_C_rowOf_28 : decode c_C_rowOf 28 = .ok (.iload_n 1, 1) := by decide +kernel
theorem d_C_rowOf_29 : decode c_C_rowOf 29 = .ok (.if_icmp .ne 6, 3) := by decide +kernel
theorem d_C_rowOf_32 : decode c_C_rowOf 32 = .ok (.aload 5, 2) := by decide +kernel
theorem d_C_rowOf_34 : decode c_C_rowOf 34 = .ok (.areturn, 1) := by decide +kernel
theorem d_C_rowOf_35 : decode c_C_rowOf 35 = .ok (.iinc 4 1, 3) := by decide +kernel
theorem d_C_rowOf_38 : decode c_C_rowOf 38 = .ok (.goto (-27), 3) := by decide +kernel
theorem d_C_rowOf_41 : decode c_C_rowOf 41 = .ok (.aconst_null, 1) := by decide +kernel
theorem d_C_rowOf_42 : decode c_C_rowOf 42 = .ok (.areturn, 1) := by decide +kernel
theorem d_C_rowToGive_0 : decode c_C_rowToGive 0 = .ok (.aload_n 0, 1) := by decide +kernel
theorem d_C_rowToGive_1 : decode c_C_rowToGive 1 = .ok (.getfield 11, 3) := by decide +kernel
theorem d_C_rowToGive_4 : decode c_C_rowToGive 4 = .ok (.iconst 0, 1) := by decide +kernel
theorem d_C_rowToGive_5 : decode c_C_rowToGive 5 = .ok (.aaload, 1) := by decide +kernel
theorem d_C_rowToGive_6 : decode c_C_rowToGive 6 = .ok (.astore_n 1, 1) := by decide +kernel
theorem d_C_rowToGive_7 : decode c_C_rowToGive 7 = .ok (.aload_n 0, 1) := by decide +kernel
theorem d_C_rowToGive_8 : decode c_C_rowToGive 8 = .ok (.getfield 11, 3) := by decide +kernel
theorem d_C_rowToGive_11 : decode c_C_rowToGive 11 = .ok (.astore_n 2, 1) := by decide +kernel
theorem d_C_rowToGive_12 : decode c_C_rowToGive 12 = .ok (.aload_n 2, 1) := by decide +kernel
theorem d_C_rowToGive_13 : decode c_C_rowToGive 13 = .ok (.arraylength, 1) := by decide +kernel
theorem d_C_rowToGive_14 : decode c_C_rowToGive 14 = .ok (.istore_n 3, 1) := by decide +kernel
theorem d_C_rowToGive_15 : decode c_C_rowToGive 15 = .ok (.iconst 0, 1) := by decide +kernel
theorem d_C_rowToGive_16 : decode c_C_rowToGive 16 = .ok (.istore 4, 2) := by decide +kernel
theorem d_C_rowToGive_18 : decode c_C_rowToGive 18 = .ok (.iload 4, 2) := by decide +kernel
theorem d_C_rowToGive_20 : decode c_C_rowToGive 20 = .ok (.iload_n 3, 1) := by decide +kernel
theorem d_C_rowToGive_21 : decode c_C_rowToGive 21 = .ok (.if_icmp .ge 27, 3) := by decide +kernel
theorem d_C_rowToGive_24 : decode c_C_rowToGive 24 = .ok (.aload_n 2, 1) := by decide +kernel
theorem d_C_rowToGive_25 : decode c_C_rowToGive 25 = .ok (.iload 4, 2) := by decide +kernel
theorem d_C_rowToGive_27 : decode c_C_rowToGive 27 = .ok (.aaload, 1) := by decide +kernel
theorem d_C_rowToGive_28 : decode c_C_rowToGive 28 = .ok (.astore 5, 2) := by decide +kernel
theorem d_C_rowToGive_30 : decode c_C_rowToGive 30 = .ok (.aload 5, 2) := by decide +kernel
theorem d_C_rowToGive_32 : decode c_C_rowToGive 32 = .ok (.aload_n 1, 1) := by decide +kernel
theorem d_C_rowToGive_33 : decode c_C_rowToGive 33 = .ok (.invokevirtual 49, 3) := by decide +kernel
theorem d_C_rowToGive_36 : decode c_C_rowToGive 36 = .ok (.ifCond .eq 6, 3) := by decide +kernel
theorem d_C_rowToGive_39 : decode c_C_rowToGive 39 = .ok (.aload 5, 2) := by decide +kernel
theorem d_C_rowToGive_41 : decode c_C_rowToGive 41 = .ok (.astore_n 1, 1) := by decide +kernel
theorem d_C_rowToGive_42 : decode c_C_rowToGive 42 = .ok (.iinc 4 1, 3) := by decide +kernel
theorem d_C_rowToGive_45 : decode c_C_rowToGive 45 = .ok (.goto (-27), 3) := by decide +kernel
theorem d_C_rowToGive_48 : decode c_C_rowToGive 48 = .ok (.aload_n 1, 1) := by decide +kernel
theorem d_C_rowToGive_49 : decode c_C_rowToGive 49 = .ok (.areturn, 1) := by decide +kernel
theorem d_R_givesWayBefore_0 : decode c_R_givesWayBefore 0 = .ok (.aload_n 0, 1) := by decide +kernel
theorem d_R_givesWayBefore_1 : decode c_R_givesWayBefore 1 = .ok (.getfield 25, 3) := by decide +kernel
theorem d_R_givesWayBefore_4 : decode c_R_givesWayBefore 4 = .ok (.aload_n 1, 1) := by decide +kernel
theorem d_R_givesWayBefore_5 : decode c_R_givesWayBefore 5 = .ok (.getfield 25, 3) := by decide +kernel
theorem d_R_givesWayBefore_8 : decode c_R_givesWayBefore 8 = .ok (.if_icmp .eq 8, 3) := by decide +kernel
theorem d_R_givesWayBefore_11 : decode c_R_givesWayBefore 11 = .ok (.aload_n 1, 1) := by decide +kernel
theorem d_R_givesWayBefore_12 : decode c_R_givesWayBefore 12 = .ok (.getfield 25, 3) := by decide +kernel
theorem d_R_givesWayBefore_15 : decode c_R_givesWayBefore 15 = .ok (.ireturn, 1) := by decide +kernel
theorem d_R_givesWayBefore_16 : decode c_R_givesWayBefore 16 = .ok (.aload_n 0, 1) := by decide +kernel
theorem d_R_givesWayBefore_17 : decode c_R_givesWayBefore 17 = .ok (.getfield 22, 3) := by decide +kernel
theorem d_R_givesWayBefore_20 : decode c_R_givesWayBefore 20 = .ok (.aload_n 1, 1) := by decide +kernel
theorem d_R_givesWayBefore_21 : decode c_R_givesWayBefore 21 = .ok (.getfield 22, 3) := by decide +kernel
theorem d_R_givesWayBefore_24 : decode c_R_givesWayBefore 24 = .ok (.if_icmp .ge 7, 3) := by decide +kernel
theorem d_R_givesWayBefore_27 : decode c_R_givesWayBefore 27 = .ok (.iconst 1, 1) := by decide +kernel
theorem d_R_givesWayBefore_28 : decode c_R_givesWayBefore 28 = .ok (.goto 4, 3) := by decide +kernel
theorem d_R_givesWayBefore_31 : decode c_R_givesWayBefore 31 = .ok (.iconst 0, 1) := by decide +kernel
theorem d_R_givesWayBefore_32 : decode c_R_givesWayBefore 32 = .ok (.ireturn, 1) := by decide +kernel
theorem d_V_fill_0 : decode c_V_fill 0 = .ok (.aload_n 0, 1) := by decide +kernel
theorem d_V_fill_1 : decode c_V_fill 1 = .ok (.getfield 25, 3) := by decide +kernel
theorem d_V_fill_4 : decode c_V_fill 4 = .ok (.invokevirtual 47, 3) := by decide +kernel
theorem d_V_fill_7 : decode c_V_fill 7 = .ok (.ifCond .eq 34, 3) := by decide +kernel
theorem d_V_fill_10 : decode c_V_fill 10 = .ok (.aload_n 0, 1) := by decide +kernel
theorem d_V_fill_11 : decode c_V_fill 11 = .ok (.getfield 43, 3) := by decide +kernel
theorem d_V_fill_14 : decode c_V_fill 14 = .ok (.ifCond .eq 27, 3) := by decide +kernel
theorem d_V_fill_17 : decode c_V_fill 17 = .ok (.aload_n 0, 1) := by decide +kernel
theorem d_V_fill_18 : decode c_V_fill 18 = .ok (.iload_n 1, 1) := by decide +kernel
theorem d_V_fill_19 : decode c_V_fill 19 = .ok (.invokevirtual 61, 3) := by decide +kernel
theorem d_V_fill_22 : decode c_V_fill 22 = .ok (.ifCond .eq 19, 3) := by decide +kernel
theorem d_V_fill_25 : decode c_V_fill 25 = .ok (.iload_n 2, 1) := by decide +kernel
theorem d_V_fill_26 : decode c_V_fill 26 = .ok (.iload_n 3, 1) := by decide +kernel
theorem d_V_fill_27 : decode c_V_fill 27 = .ok (.invokestatic 81, 3) := by decide +kernel
theorem d_V_fill_30 : decode c_V_fill 30 = .ok (.ifCond .eq 11, 3) := by decide +kernel
theorem d_V_fill_33 : decode c_V_fill 33 = .ok (.aload_n 0, 1) := by decide +kernel
theorem d_V_fill_34 : decode c_V_fill 34 = .ok (.iload_n 1, 1) := by decide +kernel
theorem d_V_fill_35 : decode c_V_fill 35 = .ok (.invokevirtual 85, 3) := by decide +kernel
theorem d_V_fill_38 : decode c_V_fill 38 = .ok (.ifCond .ne 5, 3) := by decide +kernel
theorem d_V_fill_41 : decode c_V_fill 41 = .ok (.iconst 0, 1) := by decide +kernel
theorem d_V_fill_42 : decode c_V_fill 42 = .ok (.ireturn, 1) := by decide +kernel
theorem d_V_fill_43 : decode c_V_fill 43 = .ok (.aload_n 0, 1) := by decide +kernel
theorem d_V_fill_44 : decode c_V_fill 44 = .ok (.getfield 32, 3) := by decide +kernel
theorem d_V_fill_47 : decode c_V_fill 47 = .ok (.iload_n 1, 1) := by decide +kernel
theorem d_V_fill_48 : decode c_V_fill 48 = .ok (.aload_n 0, 1) := by decide +kernel
theorem d_V_fill_49 : decode c_V_fill 49 = .ok (.getfield 25, 3) := by decide +kernel
theorem d_V_fill_52 : decode c_V_fill 52 = .ok (.invokevirtual 65, 3) := by decide +kernel
theorem d_V_fill_55 : decode c_V_fill 55 = .ok (.astore 5, 2) := by decide +kernel
theorem d_V_fill_57 : decode c_V_fill 57 = .ok (.aload 5, 2) := by decide +kernel
theorem d_V_fill_59 : decode c_V_fill 59 = .ok (.iconst 1, 1) := by decide +kernel
theorem d_V_fill_60 : decode c_V_fill 60 = .ok (.putfield 88, 3) := by decide +kernel
theorem d_V_fill_63 : decode c_V_fill 63 = .ok (.aload 5, 2) := by decide +kernel
theorem d_V_fill_65 : decode c_V_fill 65 = .ok (.iconst 1, 1) := by decide +kernel
theorem d_V_fill_66 : decode c_V_fill 66 = .ok (.putfield 91, 3) := by decide +kernel
theorem d_V_fill_69 : decode c_V_fill 69 = .ok (.aload 5, 2) := by decide +kernel
theorem d_V_fill_71 : decode c_V_fill 71 = .ok (.getfield 69, 3) := by decide +kernel
theorem d_V_fill_74 : decode c_V_fill 74 = .ok (.iload_n 2, 1) := by decide +kernel
theorem d_V_fill_75 : decode c_V_fill 75 = .ok (.iload_n 3, 1) := by decide +kernel
theorem d_V_fill_76 : decode c_V_fill 76 = .ok (.iload 4, 2) := by decide +kernel
theorem d_V_fill_78 : decode c_V_fill 78 = .ok (.invokevirtual 94, 3) := by decide +kernel
theorem d_V_fill_81 : decode c_V_fill 81 = .ok (.iconst 1, 1) := by decide +kernel
theorem d_V_fill_82 : decode c_V_fill 82 = .ok (.ireturn, 1) := by decide +kernel
theorem d_V_stepTakes_0 : decode c_V_stepTakes 0 = .ok (.aload_n 0, 1) := by decide +kernel
theorem d_V_stepTakes_1 : decode c_V_stepTakes 1 = .ok (.getfield 32, 3) := by decide +kernel
theorem d_V_stepTakes_4 : decode c_V_stepTakes 4 = .ok (.iload_n 1, 1) := by decide +kernel
theorem d_V_stepTakes_5 : decode c_V_stepTakes 5 = .ok (.invokevirtual 121, 3) := by decide +kernel
theorem d_V_stepTakes_8 : decode c_V_stepTakes 8 = .ok (.astore_n 2, 1) := by decide +kernel
theorem d_V_stepTakes_9 : decode c_V_stepTakes 9 = .ok (.aload_n 2, 1) := by decide +kernel
theorem d_V_stepTakes_10 : decode c_V_stepTakes 10 = .ok (.ifnull 14, 3) := by decide +kernel
theorem d_V_stepTakes_13 : decode c_V_stepTakes 13 = .ok (.aload_n 2, 1) := by decide +kernel
theorem d_V_stepTakes_14 : decode c_V_stepTakes 14 = .ok (.getfield 91, 3) := by decide +kernel
theorem d_V_stepTakes_17 : decode c_V_stepTakes 17 = .ok (.ifCond .eq 7, 3) := by decide +kernel
theorem d_V_stepTakes_20 : decode c_V_stepTakes 20 = .ok (.iconst 1, 1) := by decide +kernel
theorem d_V_stepTakes_21 : decode c_V_stepTakes 21 = .ok (.goto 4, 3) := by decide +kernel
theorem d_V_stepTakes_24 : decode c_V_stepTakes 24 = .ok (.iconst 0, 1) := by decide +kernel
theorem d_V_stepTakes_25 : decode c_V_stepTakes 25 = .ok (.istore_n 3, 1) := by decide +kernel
theorem d_V_stepTakes_26 : decode c_V_stepTakes 26 = .ok (.iload_n 3, 1) := by decide +kernel
theorem d_V_stepTakes_27 : decode c_V_stepTakes 27 = .ok (.ifCond .ne 15, 3) := by decide +kernel
theorem d_V_stepTakes_30 : decode c_V_stepTakes 30 = .ok (.aload_n 0, 1) := by decide +kernel
theorem d_V_stepTakes_31 : decode c_V_stepTakes 31 = .ok (.getfield 32, 3) := by decide +kernel
theorem d_V_stepTakes_34 : decode c_V_stepTakes 34 = .ok (.invokevirtual 109, 3) := by decide +kernel
theorem d_V_stepTakes_37 : decode c_V_stepTakes 37 = .ok (.bipush 10, 2) := by decide +kernel
theorem d_V_stepTakes_39 : decode c_V_stepTakes 39 = .ok (.if_icmp .ge 7, 3) := by decide +kernel
theorem d_V_stepTakes_42 : decode c_V_stepTakes 42 = .ok (.iconst 1, 1) := by decide +kernel
theorem d_V_stepTakes_43 : decode c_V_stepTakes 43 = .ok (.goto 4, 3) := by decide +kernel
theorem d_V_stepTakes_46 : decode c_V_stepTakes 46 = .ok (.iconst 0, 1) := by decide +kernel
theorem d_V_stepTakes_47 : decode c_V_stepTakes 47 = .ok (.ireturn, 1) := by decide +kernel
theorem d_C_stepRows_0 : decode c_C_stepRows 0 = .ok (.iconst 0, 1) := by decide +kernel
theorem d_C_stepRows_1 : decode c_C_stepRows 1 = .ok (.istore_n 1, 1) := by decide +kernel
theorem d_C_stepRows_2 : decode c_C_stepRows 2 = .ok (.aload_n 0, 1) := by decide +kernel
theorem d_C_stepRows_3 : decode c_C_stepRows 3 = .ok (.getfield 11, 3) := by decide +kernel
theorem d_C_stepRows_6 : decode c_C_stepRows 6 = .ok (.astore_n 2, 1) := by decide +kernel
theorem d_C_stepRows_7 : decode c_C_stepRows 7 = .ok (.aload_n 2, 1) := by decide +kernel
theorem d_C_stepRows_8 : decode c_C_stepRows 8 = .ok (.arraylength, 1) := by decide +kernel
theorem d_C_stepRows_9 : decode c_C_stepRows 9 = .ok (.istore_n 3, 1) := by decide +kernel
theorem d_C_stepRows_10 : decode c_C_stepRows 10 = .ok (.iconst 0, 1) := by decide +kernel
theorem d_C_stepRows_11 : decode c_C_stepRows 11 = .ok (.istore 4, 2) := by decide +kernel
theorem d_C_stepRows_13 : decode c_C_stepRows 13 = .ok (.iload 4, 2) := by decide +kernel
theorem d_C_stepRows_15 : decode c_C_stepRows 15 = .ok (.iload_n 3, 1) := by decide +kernel
theorem d_C_stepRows_16 : decode c_C_stepRows 16 = .ok (.if_icmp .ge 26, 3) := by decide +kernel
theorem d_C_stepRows_19 : decode c_C_stepRows 19 = .ok (.aload_n 2, 1) := by decide +kernel
theorem d_C_stepRows_20 : decode c_C_stepRows 20 = .ok (.iload 4, 2) := by decide +kernel
theorem d_C_stepRows_22 : decode c_C_stepRows 22 = .ok (.aaload, 1) := by decide +kernel
theorem d_C_stepRows_23 : decode c_C_stepRows 23 = .ok (.astore 5, 2) := by decide +kernel
theorem d_C_stepRows_25 : decode c_C_stepRows 25 = .ok (.aload 5, 2) := by decide +kernel
theorem d_C_stepRows_27 : decode c_C_stepRows 27 = .ok (.getfield 57, 3) := by decide +kernel
theorem d_C_stepRows_30 : decode c_C_stepRows 30 = .ok (.ifCond .eq 6, 3) := by decide +kernel
theorem d_C_stepRows_33 : decode c_C_stepRows 33 = .ok (.iinc 1 1, 3) := by decide +kernel
theorem d_C_stepRows_36 : decode c_C_stepRows 36 = .ok (.iinc 4 1, 3) := by decide +kernel
theorem d_C_stepRows_39 : decode c_C_stepRows 39 = .ok (.goto (-26), 3) := by decide +kernel
theorem d_C_stepRows_42 : decode c_C_stepRows 42 = .ok (.iload_n 1, 1) := by decide +kernel
theorem d_C_stepRows_43 : decode c_C_stepRows 43 = .ok (.ireturn, 1) := by decide +kernel
theorem d_V_cut_0 : decode c_V_cut 0 = .ok (.aload_n 0, 1) := by decide +kernel
theorem d_V_cut_1 : decode c_V_cut 1 = .ok (.getfield 25, 3) := by decide +kernel
theorem d_V_cut_4 : decode c_V_cut 4 = .ok (.invokevirtual 47, 3) := by decide +kernel
theorem d_V_cut_7 : decode c_V_cut 7 = .ok (.ifCond .ne 5, 3) := by decide +kernel
theorem d_V_cut_10 : decode c_V_cut 10 = .ok (.iconst 0, 1) := by decide +kernel
theorem d_V_cut_11 : decode c_V_cut 11 = .ok (.ireturn, 1) := by decide +kernel
theorem d_V_cut_12 : decode c_V_cut 12 = .ok (.aload_n 0, 1) := by decide +kernel
theorem d_V_cut_13 : decode c_V_cut 13 = .ok (.getfield 25, 3) := by decide +kernel
theorem d_V_cut_16 : decode c_V_cut 16 = .ok (.iload_n 1, 1) := by decide +kernel
theorem d_V_cut_17 : decode c_V_cut 17 = .ok (.invokevirtual 98, 3) := by decide +kernel
theorem d_V_cut_20 : decode c_V_cut 20 = .ok (.iconst 1, 1) := by decide +kernel
theorem d_V_cut_21 : decode c_V_cut 21 = .ok (.ireturn, 1) := by decide +kernel
theorem d_D_goAfter_0 : decode c_D_goAfter 0 = .ok (.aload_n 0, 1) := by decide +kernel
theorem d_D_goAfter_1 : decode c_D_goAfter 1 = .ok (.iload_n 1, 1) := by decide +kernel
theorem d_D_goAfter_2 : decode c_D_goAfter 2 = .ok (.putfield 22, 3) := by decide +kernel
theorem d_D_goAfter_5 : decode c_D_goAfter 5 = .ok (.return_, 1) := by decide +kernel
theorem d_V_power_0 : decode c_V_power 0 = .ok (.aload_n 0, 1) := by decide +kernel
theorem d_V_power_1 : decode c_V_power 1 = .ok (.getfield 25, 3) := by decide +kernel
theorem d_V_power_4 : decode c_V_power 4 = .ok (.invokevirtual 47, 3) := by decide +kernel
theorem d_V_power_7 : decode c_V_power 7 = .ok (.ifCond .eq 5, 3) := by decide +kernel
theorem d_V_power_10 : decode c_V_power 10 = .ok (.iconst (-1), 1) := by decide +kernel
theorem d_V_power_11 : decode c_V_power 11 = .ok (.ireturn, 1) := by decide +kernel
theorem d_V_power_12 : decode c_V_power 12 = .ok (.aload_n 0, 1) := by decide +kernel
theorem d_V_power_13 : decode c_V_power 13 = .ok (.getfield 25, 3) := by decide +kernel
theorem d_V_power_16 : decode c_V_power 16 = .ok (.invokevirtual 102, 3) := by decide +kernel
theorem d_V_power_19 : decode c_V_power 19 = .ok (.aload_n 0, 1) := by decide +kernel
theorem d_V_power_20 : decode c_V_power 20 = .ok (.getfield 25, 3) := by decide +kernel
theorem d_V_power_23 : decode c_V_power 23 = .ok (.iload_n 1, 1) := by decide +kernel
theorem d_V_power_24 : decode c_V_power 24 = .ok (.invokevirtual 98, 3) := by decide +kernel
theorem d_V_power_27 : decode c_V_power 27 = .ok (.aload_n 0, 1) := by decide +kernel
theorem d_V_power_28 : decode c_V_power 28 = .ok (.getfield 39, 3) := by decide +kernel
theorem d_V_power_31 : decode c_V_power 31 = .ok (.aload_n 0, 1) := by decide +kernel
theorem d_V_power_32 : decode c_V_power 32 = .ok (.getfield 25, 3) := by decide +kernel
theorem d_V_power_35 : decode c_V_power 35 = .ok (.invokevirtual 105, 3) := by decide +kernel
theorem d_V_power_38 : decode c_V_power 38 = .ok (.ireturn, 1) := by decide +kernel
theorem d_D_comeBack_0 : decode c_D_comeBack 0 = .ok (.aload_n 0, 1) := by decide +kernel
theorem d_D_comeBack_1 : decode c_D_comeBack 1 = .ok (.iconst 1, 1) := by decide +kernel
theorem d_D_comeBack_2 : decode c_D_comeBack 2 = .ok (.putfield 18, 3) := by decide +kernel
theorem d_D_comeBack_5 : decode c_D_comeBack 5 = .ok (.return_, 1) := by decide +kernel
theorem d_V_count_0 : decode c_V_count 0 = .ok (.iload_n 1, 1) := by decide +kernel
theorem d_V_count_1 : decode c_V_count 1 = .ok (.tableswitch 115 0 6 #[43, 59, 64, 72, 91, 99, 107], 43) := by decide +kernel
theorem d_V_count_44 : decode c_V_count 44 = .ok (.aload_n 0, 1) := by decide +kernel
theorem d_V_count_45 : decode c_V_count 45 = .ok (.getfield 25, 3) := by decide +kernel
theorem d_V_count_48 : decode c_V_count 48 = .ok (.invokevirtual 47, 3) := by decide +kernel
theorem d_V_count_51 : decode c_V_count 51 = .ok (.ifCond .eq 7, 3) := by decide +kernel
theorem d_V_count_54 : decode c_V_count 54 = .ok (.iconst 1, 1) := by decide +kernel
theorem d_V_count_55 : decode c_V_count 55 = .ok (.goto 4, 3) := by decide +kernel
theorem d_V_count_58 : decode c_V_count 58 = .ok (.iconst 0, 1) := by decide +kernel
theorem d_V_count_59 : decode c_V_count 59 = .ok (.ireturn, 1) := by decide +kernel
theorem d_V_count_60 : decode c_V_count 60 = .ok (.aload_n 0, 1) := by decide +kernel
theorem d_V_count_61 : decode c_V_count 61 = .ok (.getfield 18, 3) := by decide +kernel
theorem d_V_count_64 : decode c_V_count 64 = .ok (.ireturn, 1) := by decide +kernel
theorem d_V_count_65 : decode c_V_count 65 = .ok (.aload_n 0, 1) := by decide +kernel
theorem d_V_count_66 : decode c_V_count 66 = .ok (.getfield 32, 3) := by decide +kernel
theorem d_V_count_69 : decode c_V_count 69 = .ok (.invokevirtual 54, 3) := by decide +kernel
theorem d_V_count_72 : decode c_V_count 72 = .ok (.ireturn, 1) := by decide +kernel
theorem d_V_count_73 : decode c_V_count 73 = .ok (.aload_n 0, 1) := by decide +kernel
theorem d_V_count_74 : decode c_V_count 74 = .ok (.getfield 43, 3) := by decide +kernel
theorem d_V_count_77 : decode c_V_count 77 = .ok (.ifCond .eq 13, 3) := by decide +kernel
theorem d_V_count_80 : decode c_V_count 80 = .ok (.aload_n 0, 1) := by decide +kernel
theorem d_V_count_81 : decode c_V_count 81 = .ok (.getfield 32, 3) := by decide +kernel
theorem d_V_count_84 : decode c_V_count 84 = .ok (.invokevirtual 109, 3) := by decide +kernel
theorem d_V_count_87 : decode c_V_count 87 = .ok (.goto 4, 3) := by decide +kernel
theorem d_V_count_90 : decode c_V_count 90 = .ok (.iconst (-1), 1) := by decide +kernel
theorem d_V_count_91 : decode c_V_count 91 = .ok (.ireturn, 1) := by decide +kernel
theorem d_V_count_92 : decode c_V_count 92 = .ok (.aload_n 0, 1) := by decide +kernel
theorem d_V_count_93 : decode c_V_count 93 = .ok (.getfield 25, 3) := by decide +kernel
theorem d_V_count_96 : decode c_V_count 96 = .ok (.invokevirtual 112, 3) := by decide +kernel
theorem d_V_count_99 : decode c_V_count 99 = .ok (.ireturn, 1) := by decide +kernel
theorem d_V_count_100 : decode c_V_count 100 = .ok (.aload_n 0, 1) := by decide +kernel
theorem d_V_count_101 : decode c_V_count 101 = .ok (.getfield 32, 3) := by decide +kernel
theorem d_V_count_104 : decode c_V_count 104 = .ok (.invokevirtual 115, 3) := by decide +kernel
theorem d_V_count_107 : decode c_V_count 107 = .ok (.ireturn, 1) := by decide +kernel
theorem d_V_count_108 : decode c_V_count 108 = .ok (.aload_n 0, 1) := by decide +kernel
theorem d_V_count_109 : decode c_V_count 109 = .ok (.getfield 39, 3) := by decide +kernel
theorem d_V_count_112 : decode c_V_count 112 = .ok (.invokevirtual 118, 3) := by decide +kernel
theorem d_V_count_115 : decode c_V_count 115 = .ok (.ireturn, 1) := by decide +kernel
theorem d_V_count_116 : decode c_V_count 116 = .ok (.iconst (-1), 1) := by decide +kernel
theorem d_V_count_117 : decode c_V_count 117 = .ok (.ireturn, 1) := by decide +kernel
theorem d_D_writesMade_0 : decode c_D_writesMade 0 = .ok (.aload_n 0, 1) := by decide +kernel
theorem d_D_writesMade_1 : decode c_D_writesMade 1 = .ok (.getfield 26, 3) := by decide +kernel
theorem d_D_writesMade_4 : decode c_D_writesMade 4 = .ok (.ireturn, 1) := by decide +kernel
theorem d_C_readsMade_0 : decode c_C_readsMade 0 = .ok (.aload_n 0, 1) := by decide +kernel
theorem d_C_readsMade_1 : decode c_C_readsMade 1 = .ok (.getfield 22, 3) := by decide +kernel
theorem d_C_readsMade_4 : decode c_C_readsMade 4 = .ok (.ireturn, 1) := by decide +kernel
theorem d_L_commitsCounted_0 : decode c_L_commitsCounted 0 = .ok (.aload_n 0, 1) := by decide +kernel
theorem d_L_commitsCounted_1 : decode c_L_commitsCounted 1 = .ok (.getfield 21, 3) := by decide +kernel
theorem d_L_commitsCounted_4 : decode c_L_commitsCounted 4 = .ok (.ireturn, 1) := by decide +kernel
theorem d_V_held_0 : decode c_V_held 0 = .ok (.aload_n 0, 1) := by decide +kernel
theorem d_V_held_1 : decode c_V_held 1 = .ok (.getfield 25, 3) := by decide +kernel
theorem d_V_held_4 : decode c_V_held 4 = .ok (.invokevirtual 47, 3) := by decide +kernel
theorem d_V_held_7 : decode c_V_held 7 = .ok (.ifCond .eq 11, 3) := by decide +kernel
theorem d_V_held_10 : decode c_V_held 10 = .ok (.aload_n 0, 1) := by decide +kernel
theorem d_V_held_11 : decode c_V_held 11 = .ok (.iload_n 1, 1) := by decide +kernel
theorem d_V_held_12 : decode c_V_held 12 = .ok (.invokevirtual 61, 3) := by decide +kernel
theorem d_V_held_15 : decode c_V_held 15 = .ok (.ifCond .ne 5, 3) := by decide +kernel
theorem d_V_held_18 : decode c_V_held 18 = .ok (.iconst 0, 1) := by decide +kernel
theorem d_V_held_19 : decode c_V_held 19 = .ok (.ireturn, 1) := by decide +kernel
theorem d_V_held_20 : decode c_V_held 20 = .ok (.aload_n 0, 1) := by decide +kernel
theorem d_V_held_21 : decode c_V_held 21 = .ok (.getfield 32, 3) := by decide +kernel
theorem d_V_held_24 : decode c_V_held 24 = .ok (.iload_n 1, 1) := by decide +kernel
theorem d_V_held_25 : decode c_V_held 25 = .ok (.invokevirtual 121, 3) := by decide +kernel
theorem d_V_held_28 : decode c_V_held 28 = .ok (.astore_n 2, 1) := by decide +kernel
theorem d_V_held_29 : decode c_V_held 29 = .ok (.aload_n 2, 1) := by decide +kernel
theorem d_V_held_30 : decode c_V_held 30 = .ok (.ifnull 14, 3) := by decide +kernel
theorem d_V_held_33 : decode c_V_held 33 = .ok (.aload_n 2, 1) := by decide +kernel
theorem d_V_held_34 : decode c_V_held 34 = .ok (.getfield 88, 3) := by decide +kernel
theorem d_V_held_37 : decode c_V_held 37 = .ok (.ifCond .eq 7, 3) := by decide +kernel
theorem d_V_held_40 : decode c_V_held 40 = .ok (.iconst 1, 1) := by decide +kernel
theorem d_V_held_41 : decode c_V_held 41 = .ok (.goto 4, 3) := by decide +kernel
theorem d_V_held_44 : decode c_V_held 44 = .ok (.iconst 0, 1) := by decide +kernel
theorem d_V_held_45 : decode c_V_held 45 = .ok (.ireturn, 1) := by decide +kernel
theorem d_V_cached_0 : decode c_V_cached 0 = .ok (.aload_n 0, 1) := by decide +kernel
theorem d_V_cached_1 : decode c_V_cached 1 = .ok (.getfield 25, 3) := by decide +kernel
theorem d_V_cached_4 : decode c_V_cached 4 = .ok (.invokevirtual 47, 3) := by decide +kernel
theorem d_V_cached_7 : decode c_V_cached 7 = .ok (.ifCond .eq 26, 3) := by decide +kernel
theorem d_V_cached_10 : decode c_V_cached 10 = .ok (.aload_n 0, 1) := by decide +kernel
theorem d_V_cached_11 : decode c_V_cached 11 = .ok (.iload_n 1, 1) := by decide +kernel
theorem d_V_cached_12 : decode c_V_cached 12 = .ok (.invokevirtual 61, 3) := by decide +kernel
theorem d_V_cached_15 : decode c_V_cached 15 = .ok (.ifCond .eq 18, 3) := by decide +kernel
theorem d_V_cached_18 : decode c_V_cached 18 = .ok (.aload_n 0, 1) := by decide +kernel
theorem d_V_cached_19 : decode c_V_cached 19 = .ok (.getfield 32, 3) := by decide +kernel
theorem d_V_cached_22 : decode c_V_cached 22 = .ok (.iload_n 1, 1) := by decide +kernel
theorem d_V_cached_23 : decode c_V_cached 23 = .ok (.invokevirtual 121, 3) := by decide +kernel
theorem d_V_cached_26 : decode c_V_cached 26 = .ok (.ifnull 7, 3) := by decide +kernel
theorem d_V_cached_29 : decode c_V_cached 29 = .ok (.iconst 1, 1) := by decide +kernel
theorem d_V_cached_30 : decode c_V_cached 30 = .ok (.goto 4, 3) := by decide +kernel
theorem d_V_cached_33 : decode c_V_cached 33 = .ok (.iconst 0, 1) := by decide +kernel
theorem d_V_cached_34 : decode c_V_cached 34 = .ok (.ireturn, 1) := by decide +kernel
theorem d_W_cell_0 : decode c_W_cell 0 = .ok (.iload_n 1, 1) := by decide +kernel
theorem d_W_cell_1 : decode c_W_cell 1 = .ok (.aload_n 0, 1) := by decide +kernel
theorem d_W_cell_2 : decode c_W_cell 2 = .ok (.arraylength, 1) := by decide +kernel
theorem d_W_cell_3 : decode c_W_cell 3 = .ok (.if_icmp .ge 9, 3) := by decide +kernel
theorem d_W_cell_6 : decode c_W_cell 6 = .ok (.aload_n 0, 1) := by decide +kernel
theorem d_W_cell_7 : decode c_W_cell 7 = .ok (.iload_n 1, 1) := by decide +kernel
theorem d_W_cell_8 : decode c_W_cell 8 = .ok (.iaload, 1) := by decide +kernel
theorem d_W_cell_9 : decode c_W_cell 9 = .ok (.goto 4, 3) := by decide +kernel
theorem d_W_cell_12 : decode c_W_cell 12 = .ok (.iconst 0, 1) := by decide +kernel
theorem d_W_cell_13 : decode c_W_cell 13 = .ok (.ireturn, 1) := by decide +kernel
theorem d_M_init_0 : decode c_M_init 0 = .ok (.aload_n 0, 1) := by decide +kernel
theorem d_M_init_1 : decode c_M_init 1 = .ok (.invokespecial 1, 3) := by decide +kernel
theorem d_M_init_4 : decode c_M_init 4 = .ok (.aload_n 0, 1) := by decide +kernel
theorem d_M_init_5 : decode c_M_init 5 = .ok (.ldc 7, 2) := by decide +kernel
theorem d_M_init_7 : decode c_M_init 7 = .ok (.newarray .byte, 2) := by decide +kernel
theorem d_M_init_9 : decode c_M_init 9 = .ok (.putfield 8, 3) := by decide +kernel
theorem d_M_init_12 : decode c_M_init 12 = .ok (.aload_n 0, 1) := by decide +kernel
theorem d_M_init_13 : decode c_M_init 13 = .ok (.ldc 7, 2) := by decide +kernel
theorem d_M_init_15 : decode c_M_init 15 = .ok (.newarray .byte, 2) := by decide +kernel
theorem d_M_init_17 : decode c_M_init 17 = .ok (.putfield 14, 3) := by decide +kernel
theorem d_M_init_20 : decode c_M_init 20 = .ok (.aload_n 0, 1) := by decide +kernel
theorem d_M_init_21 : decode c_M_init 21 = .ok (.bipush 80, 2) := by decide +kernel
theorem d_M_init_23 : decode c_M_init 23 = .ok (.newarray .boolean, 2) := by decide +kernel
theorem d_M_init_25 : decode c_M_init 25 = .ok (.putfield 17, 3) := by decide +kernel
theorem d_M_init_28 : decode c_M_init 28 = .ok (.aload_n 0, 1) := by decide +kernel
theorem d_M_init_29 : decode c_M_init 29 = .ok (.bipush 80, 2) := by decide +kernel
theorem d_M_init_31 : decode c_M_init 31 = .ok (.newarray .boolean, 2) := by decide +kernel
theorem d_M_init_33 : decode c_M_init 33 = .ok (.putfield 21, 3) := by decide +kernel
theorem d_M_init_36 : decode c_M_init 36 = .ok (.aload_n 0, 1) := by decide +kernel
theorem d_M_init_37 : decode c_M_init 37 = .ok (.bipush 80, 2) := by decide +kernel
theorem d_M_init_39 : decode c_M_init 39 = .ok (.newarray .int, 2) := by decide +kernel
theorem d_M_init_41 : decode c_M_init 41 = .ok (.putfield 24, 3) := by decide +kernel
theorem d_M_init_44 : decode c_M_init 44 = .ok (.aload_n 0, 1) := by decide +kernel
theorem d_M_init_45 : decode c_M_init 45 = .ok (.iconst 1, 1) := by decide +kernel
theorem d_M_init_46 : decode c_M_init 46 = .ok (.putfield 28, 3) := by decide +kernel
theorem d_M_init_49 : decode c_M_init 49 = .ok (.aload_n 0, 1) := by decide +kernel
theorem d_M_init_50 : decode c_M_init 50 = .ok (.iconst (-1), 1) := by decide +kernel
theorem d_M_init_51 : decode c_M_init 51 = .ok (.putfield 32, 3) := by decide +kernel
theorem d_M_init_54 : decode c_M_init 54 = .ok (.aload_n 0, 1) := by decide +kernel
theorem d_M_init_55 : decode c_M_init 55 = .ok (.iconst (-1), 1) := by decide +kernel
theorem d_M_init_56 : decode c_M_init 56 = .ok (.putfield 36, 3) := by decide +kernel
theorem d_M_init_59 : decode c_M_init 59 = .ok (.aload_n 0, 1) := by decide +kernel
theorem d_M_init_60 : decode c_M_init 60 = .ok (.iload_n 1, 1) := by decide +kernel
theorem d_M_init_61 : decode c_M_init 61 = .ok (.bipush 40, 2) := by decide +kernel
theorem d_M_init_63 : decode c_M_init 63 = .ok (.if_icmp .ge 8, 3) := by decide +kernel
theorem d_M_init_66 : decode c_M_init 66 = .ok (.bipush 40, 2) := by decide +kernel
theorem d_M_init_68 : decode c_M_init 68 = .ok (.goto 15, 3) := by decide +kernel
theorem d_M_init_71 : decode c_M_init 71 = .ok (.iload_n 1, 1) := by decide +kernel
theorem d_M_init_72 : decode c_M_init 72 = .ok (.bipush 80, 2) := by decide +kernel
theorem d_M_init_74 : decode c_M_init 74 = .ok (.if_icmp .le 8, 3) := by decide +kernel
theorem d_M_init_77 : decode c_M_init 77 = .ok (.bipush 80, 2) := by decide +kernel
theorem d_M_init_79 : decode c_M_init 79 = .ok (.goto 4, 3) := by decide +kernel
theorem d_M_init_82 : decode c_M_init 82 = .ok (.iload_n 1, 1) := by decide +kernel
theorem d_M_init_83 : decode c_M_init 83 = .ok (.putfield 39, 3) := by decide +kernel
theorem d_M_init_86 : decode c_M_init 86 = .ok (.return_, 1) := by decide +kernel
theorem d_M_begin_0 : decode c_M_begin 0 = .ok (.aload_n 0, 1) := by decide +kernel
theorem d_M_begin_1 : decode c_M_begin 1 = .ok (.iconst 0, 1) := by decide +kernel
theorem d_M_begin_2 : decode c_M_begin 2 = .ok (.putfield 42, 3) := by decide +kernel
theorem d_M_begin_5 : decode c_M_begin 5 = .ok (.aload_n 0, 1) := by decide +kernel
theorem d_M_begin_6 : decode c_M_begin 6 = .ok (.getfield 28, 3) := by decide +kernel
theorem d_M_begin_9 : decode c_M_begin 9 = .ok (.ifCond .eq 10, 3) := by decide +kernel
theorem d_M_begin_12 : decode c_M_begin 12 = .ok (.aload_n 0, 1) := by decide +kernel
theorem d_M_begin_13 : decode c_M_begin 13 = .ok (.getfield 45, 3) := by decide +kernel
theorem d_M_begin_16 : decode c_M_begin 16 = .ok (.ifCond .eq 5, 3) := by decide +kernel
theorem d_M_begin_19 : decode c_M_begin 19 = .ok (.iconst 0, 1) := by decide +kernel
theorem d_M_begin_20 : decode c_M_begin 20 = .ok (.ireturn, 1) := by decide +kernel
theorem d_M_begin_21 : decode c_M_begin 21 = .ok (.aload_n 0, 1) := by decide +kernel
theorem d_M_begin_22 : decode c_M_begin 22 = .ok (.iconst 1, 1) := by decide +kernel
theorem d_M_begin_23 : decode c_M_begin 23 = .ok (.putfield 45, 3) := by decide +kernel
theorem d_M_begin_26 : decode c_M_begin 26 = .ok (.iconst 0, 1) := by decide +kernel
theorem d_M_begin_27 : decode c_M_begin 27 = .ok (.istore_n 1, 1) := by decide +kernel
theorem d_M_begin_28 : decode c_M_begin 28 = .ok (.iload_n 1, 1) := by decide +kernel
theorem d_M_begin_29 : decode c_M_begin 29 = .ok (.bipush 80, 2) := by decide +kernel
theorem d_M_begin_31 : decode c_M_begin 31 = .ok (.if_icmp .ge 16, 3) := by decide +kernel
theorem d_M_begin_34 : decode c_M_begin 34 = .ok (.aload_n 0, 1) := by decide +kernel
theorem d_M_begin_35 : decode c_M_begin 35 = .ok (.getfield 21, 3) := by decide +kernel
theorem d_M_begin_38 : decode c_M_begin 38 = .ok (.iload_n 1, 1) := by decide +kernel
theorem d_M_begin_39 : decode c_M_begin 39 = .ok (.iconst 0, 1) := by decide +kernel
theorem d_M_begin_40 : decode c_M_begin 40 = .ok (.bastore, 1) := by decide +kernel
theorem d_M_begin_41 : decode c_M_begin 41 = .ok (.iinc 1 1, 3) := by decide +kernel
theorem d_M_begin_44 : decode c_M_begin 44 = .ok (.goto (-16), 3) := by decide +kernel
theorem d_M_begin_47 : decode c_M_begin 47 = .ok (.iconst 1, 1) := by decide +kernel
theorem d_M_begin_48 : decode c_M_begin 48 = .ok (.ireturn, 1) := by decide +kernel
theorem d_M_end_0 : decode c_M_end 0 = .ok (.aload_n 0, 1) := by decide +kernel
theorem d_M_end_1 : decode c_M_end 1 = .ok (.iconst 0, 1) := by decide +kernel
theorem d_M_end_2 : decode c_M_end 2 = .ok (.putfield 42, 3) := by decide +kernel
theorem d_M_end_5 : decode c_M_end 5 = .ok (.aload_n 0, 1) := by decide +kernel
theorem d_M_end_6 : decode c_M_end 6 = .ok (.getfield 28, 3) := by decide +kernel
theorem d_M_end_9 : decode c_M_end 9 = .ok (.ifCond .eq 10, 3) := by decide +kernel
theorem d_M_end_12 : decode c_M_end 12 = .ok (.aload_n 0, 1) := by decide +kernel
theorem d_M_end_13 : decode c_M_end 13 = .ok (.getfield 45, 3) := by decide +kernel
theorem d_M_end_16 : decode c_M_end 16 = .ok (.ifCond .ne 5, 3) := by decide +kernel
theorem d_M_end_19 : decode c_M_end 19 = .ok (.iconst (-1), 1) := by decide +kernel
theorem d_M_end_20 : decode c_M_end 20 = .ok (.ireturn, 1) := by decide +kernel
theorem d_M_end_21 : decode c_M_end 21 = .ok (.aload_n 0, 1) := by decide +kernel
theorem d_M_end_22 : decode c_M_end 22 = .ok (.iconst 0, 1) := by decide +kernel
theorem d_M_end_23 : decode c_M_end 23 = .ok (.putfield 45, 3) := by decide +kernel
theorem d_M_end_26 : decode c_M_end 26 = .ok (.aload_n 0, 1) := by decide +kernel
theorem d_M_end_27 : decode c_M_end 27 = .ok (.getfield 17, 3) := by decide +kernel
theorem d_M_end_30 : decode c_M_end 30 = .ok (.invokestatic 51, 3) := by decide +kernel
theorem d_M_end_33 : decode c_M_end 33 = .ok (.istore_n 1, 1) := by decide +kernel
theorem d_M_end_34 : decode c_M_end 34 = .ok (.iload_n 1, 1) := by decide +kernel
theorem d_M_end_35 : decode c_M_end 35 = .ok (.bipush 20, 2) := by decide +kernel
theorem d_M_end_37 : decode c_M_end 37 = .ok (.if_icmp .gt 5, 3) := by decide +kernel
theorem d_M_end_40 : decode c_M_end 40 = .ok (.iload_n 1, 1) := by decide +kernel
theorem d_M_end_41 : decode c_M_end 41 = .ok (.ireturn, 1) := by decide +kernel
theorem d_M_end_42 : decode c_M_end 42 = .ok (.aload_n 0, 1) := by decide +kernel
theorem d_M_end_43 : decode c_M_end 43 = .ok (.invokevirtual 66, 3) := by decide +kernel
theorem d_M_end_46 : decode c_M_end 46 = .ok (.ifCond .eq 7, 3) := by decide +kernel
theorem d_M_end_49 : decode c_M_end 49 = .ok (.iconst 0, 1) := by decide +kernel
theorem d_M_end_50 : decode c_M_end 50 = .ok (.goto 4, 3) := by decide +kernel
theorem d_M_end_53 : decode c_M_end 53 = .ok (.iconst (-1), 1) := by decide +kernel
theorem d_M_end_54 : decode c_M_end 54 = .ok (.ireturn, 1) := by decide +kernel
theorem d_M_many_0 : decode c_M_many 0 = .ok (.iconst 0, 1) := by decide +kernel
theorem d_M_many_1 : decode c_M_many 1 = .ok (.istore_n 1, 1) := by decide +kernel
theorem d_M_many_2 : decode c_M_many 2 = .ok (.iconst 0, 1) := by decide +kernel
theorem d_M_many_3 : decode c_M_many 3 = .ok (.istore_n 2, 1) := by decide +kernel
theorem d_M_many_4 : decode c_M_many 4 = .ok (.iload_n 2, 1) := by decide +kernel
theorem d_M_many_5 : decode c_M_many 5 = .ok (.bipush 80, 2) := by decide +kernel
theorem d_M_many_7 : decode c_M_many 7 = .ok (.if_icmp .ge 23, 3) := by decide +kernel
theorem d_M_many_10 : decode c_M_many 10 = .ok (.iload_n 1, 1) := by decide +kernel
theorem d_M_many_11 : decode c_M_many 11 = .ok (.aload_n 0, 1) := by decide +kernel
theorem d_M_many_12 : decode c_M_many 12 = .ok (.iload_n 2, 1) := by decide +kernel
theorem d_M_many_13 : decode c_M_many 13 = .ok (.baload, 1) := by decide +kernel
theorem d_M_many_14 : decode c_M_many 14 = .ok (.ifCond .eq 7, 3) := by decide +kernel
theorem d_M_many_17 : decode c_M_many 17 = .ok (.iconst 1, 1) := by decide +kernel
theorem d_M_many_18 : decode c_M_many 18 = .ok (.goto 4, 3) := by decide +kernel
theorem d_M_many_21 : decode c_M_many 21 = .ok (.iconst 0, 1) := by decide +kernel
theorem d_M_many_22 : decode c_M_many 22 = .ok (.iadd, 1) := by decide +kernel
theorem d_M_many_23 : decode c_M_many 23 = .ok (.istore_n 1, 1) := by decide +kernel
theorem d_M_many_24 : decode c_M_many 24 = .ok (.iinc 2 1, 3) := by decide +kernel
theorem d_M_many_27 : decode c_M_many 27 = .ok (.goto (-23), 3) := by decide +kernel
theorem d_M_many_30 : decode c_M_many 30 = .ok (.iload_n 1, 1) := by decide +kernel
theorem d_M_many_31 : decode c_M_many 31 = .ok (.ireturn, 1) := by decide +kernel
theorem d_M_commit_0 : decode c_M_commit 0 = .ok (.aload_n 0, 1) := by decide +kernel
theorem d_M_commit_1 : decode c_M_commit 1 = .ok (.getfield 17, 3) := by decide +kernel
theorem d_M_commit_4 : decode c_M_commit 4 = .ok (.invokestatic 51, 3) := by decide +kernel
theorem d_M_commit_7 : decode c_M_commit 7 = .ok (.istore_n 1, 1) := by decide +kernel
theorem d_M_commit_8 : decode c_M_commit 8 = .ok (.aload_n 0, 1) := by decide +kernel
theorem d_M_commit_9 : decode c_M_commit 9 = .ok (.iload_n 1, 1) := by decide +kernel
theorem d_M_commit_10 : decode c_M_commit 10 = .ok (.iconst 1, 1) := by decide +kernel
theorem d_M_commit_11 : decode c_M_commit 11 = .ok (.iadd, 1) := by decide +kernel
theorem d_M_commit_12 : decode c_M_commit 12 = .ok (.invokevirtual 55, 3) := by decide +kernel
theorem d_M_commit_15 : decode c_M_commit 15 = .ok (.ifCond .ne 5, 3) := by decide +kernel
theorem d_M_commit_18 : decode c_M_commit 18 = .ok (.iconst 0, 1) := by decide +kernel
theorem d_M_commit_19 : decode c_M_commit 19 = .ok (.ireturn, 1) := by decide +kernel
theorem d_M_commit_20 : decode c_M_commit 20 = .ok (.aload_n 0, 1) := by decide +kernel
theorem d_M_commit_21 : decode c_M_commit 21 = .ok (.dup, 1) := by decide +kernel
theorem d_M_commit_22 : decode c_M_commit 22 = .ok (.getfield 59, 3) := by decide +kernel
theorem d_M_commit_25 : decode c_M_commit 25 = .ok (.iconst 1, 1) := by decide +kernel
theorem d_M_commit_26 : decode c_M_commit 26 = .ok (.iadd, 1) := by decide +kernel
theorem d_M_commit_27 : decode c_M_commit 27 = .ok (.putfield 59, 3) := by decide +kernel
theorem d_M_commit_30 : decode c_M_commit 30 = .ok (.iconst 0, 1) := by decide +kernel
theorem d_M_commit_31 : decode c_M_commit 31 = .ok (.istore_n 2, 1) := by decide +kernel
theorem d_M_commit_32 : decode c_M_commit 32 = .ok (.iload_n 2, 1) := by decide +kernel
theorem d_M_commit_33 : decode c_M_commit 33 = .ok (.aload_n 0, 1) := by decide +kernel
theorem d_M_commit_34 : decode c_M_commit 34 = .ok (.getfield 39, 3) := by decide +kernel
theorem d_M_commit_37 : decode c_M_commit 37 = .ok (.if_icmp .ge 62, 3) := by decide +kernel
theorem d_M_commit_40 : decode c_M_commit 40 = .ok (.sipush 1024, 3) := by decide +kernel
theorem d_M_commit_43 : decode c_M_commit 43 = .ok (.iload_n 2, 1) := by decide +kernel
theorem d_M_commit_44 : decode c_M_commit 44 = .ok (.imul, 1) := by decide +kernel
theorem d_M_commit_45 : decode c_M_commit 45 = .ok (.istore_n 3, 1) := by decide +kernel
theorem d_M_commit_46 : decode c_M_commit 46 = .ok (.iload_n 3, 1) := by decide +kernel
theorem d_M_commit_47 : decode c_M_commit 47 = .ok (.sipush 1024, 3) := by decide +kernel
theorem d_M_commit_50 : decode c_M_commit 50 = .ok (.iload_n 2, 1) := by decide +kernel
theorem d_M_commit_51 : decode c_M_commit 51 = .ok (.imul, 1) := by decide +kernel
theorem d_M_commit_52 : decode c_M_commit 52 = .ok (.sipush 1024, 3) := by decide +kernel
theorem d_M_commit_55 : decode c_M_commit 55 = .ok (.iadd, 1) := by decide +kernel
theorem d_M_commit_56 : decode c_M_commit 56 = .ok (.if_icmp .ge 30, 3) := by decide +kernel
theorem d_M_commit_59 : decode c_M_commit 59 = .ok (.aload_n 0, 1) := by decide +kernel
theorem d_M_commit_60 : decode c_M_commit 60 = .ok (.getfield 17, 3) := by decide +kernel
theorem d_M_commit_63 : decode c_M_commit 63 = .ok (.iload_n 2, 1) := by decide +kernel
theorem d_M_commit_64 : decode c_M_commit 64 = .ok (.baload, 1) := by decide +kernel
theorem d_M_commit_65 : decode c_M_commit 65 = .ok (.ifCond .eq 21, 3) := by decide +kernel
theorem d_M_commit_68 : decode c_M_commit 68 = .ok (.aload_n 0, 1) := by decide +kernel
theorem d_M_commit_69 : decode c_M_commit 69 = .ok (.getfield 8, 3) := by decide +kernel
theorem d_M_commit_72 : decode c_M_commit 72 = .ok (.iload_n 3, 1) := by decide +kernel
theorem d_M_commit_73 : decode c_M_commit 73 = .ok (.aload_n 0, 1) := by decide +kernel
theorem d_M_commit_74 : decode c_M_commit 74 = .ok (.getfield 14, 3) := by decide +kernel
theorem d_M_commit_77 : decode c_M_commit 77 = .ok (.iload_n 3, 1) := by decide +kernel
theorem d_M_commit_78 : decode c_M_commit 78 = .ok (.baload, 1) := by decide +kernel
theorem d_M_commit_79 : decode c_M_commit 79 = .ok (.bastore, 1) := by decide +kernel
theorem d_M_commit_80 : decode c_M_commit 80 = .ok (.iinc 3 1, 3) := by decide +kernel
theorem d_M_commit_83 : decode c_M_commit 83 = .ok (.goto (-37), 3) := by decide +kernel
theorem d_M_commit_86 : decode c_M_commit 86 = .ok (.aload_n 0, 1) := by decide +kernel
theorem d_M_commit_87 : decode c_M_commit 87 = .ok (.getfield 17, 3) := by decide +kernel
theorem d_M_commit_90 : decode c_M_commit 90 = .ok (.iload_n 2, 1) := by decide +kernel
theorem d_M_commit_91 : decode c_M_commit 91 = .ok (.iconst 0, 1) := by decide +kernel
theorem d_M_commit_92 : decode c_M_commit 92 = .ok (.bastore, 1) := by decide +kernel
theorem d_M_commit_93 : decode c_M_commit 93 = .ok (.iinc 2 1, 3) := by decide +kernel
theorem d_M_commit_96 : decode c_M_commit 96 = .ok (.goto (-64), 3) := by decide +kernel
theorem d_M_commit_99 : decode c_M_commit 99 = .ok (.aload_n 0, 1) := by decide +kernel
theorem d_M_commit_100 : decode c_M_commit 100 = .ok (.iload_n 1, 1) := by decide +kernel
theorem d_M_commit_101 : decode c_M_commit 101 = .ok (.putfield 36, 3) := by decide +kernel
theorem d_M_commit_104 : decode c_M_commit 104 = .ok (.aload_n 0, 1) := by decide +kernel
theorem d_M_commit_105 : decode c_M_commit 105 = .ok (.invokevirtual 62, 3) := by decide +kernel
theorem d_M_commit_108 : decode c_M_commit 108 = .ok (.ireturn, 1) := by decide +kernel
theorem d_M_written_0 : decode c_M_written 0 = .ok (.aload_n 0, 1) := by decide +kernel
theorem d_M_written_1 : decode c_M_written 1 = .ok (.getfield 32, 3) := by decide +kernel
theorem d_M_written_4 : decode c_M_written 4 = .ok (.ifCond .lt 11, 3) := by decide +kernel
theorem d_M_written_7 : decode c_M_written 7 = .ok (.aload_n 0, 1) := by decide +kernel
theorem d_M_written_8 : decode c_M_written 8 = .ok (.getfield 32, 3) := by decide +kernel
theorem d_M_written_11 : decode c_M_written 11 = .ok (.iload_n 1, 1) := by decide +kernel
theorem d_M_written_12 : decode c_M_written 12 = .ok (.if_icmp .lt 39, 3) := by decide +kernel
theorem d_M_written_15 : decode c_M_written 15 = .ok (.aload_n 0, 1) := by decide +kernel
theorem d_M_written_16 : decode c_M_written 16 = .ok (.dup, 1) := by decide +kernel
theorem d_M_written_17 : decode c_M_written 17 = .ok (.getfield 48, 3) := by decide +kernel
theorem d_M_written_20 : decode c_M_written 20 = .ok (.iload_n 1, 1) := by decide +kernel
theorem d_M_written_21 : decode c_M_written 21 = .ok (.iadd, 1) := by decide +kernel
theorem d_M_written_22 : decode c_M_written 22 = .ok (.putfield 48, 3) := by decide +kernel
theorem d_M_written_25 : decode c_M_written 25 = .ok (.aload_n 0, 1) := by decide +kernel
theorem d_M_written_26 : decode c_M_written 26 = .ok (.aload_n 0, 1) := by decide +kernel
theorem d_M_written_27 : decode c_M_written 27 = .ok (.getfield 32, 3) := by decide +kernel
theorem d_M_written_30 : decode c_M_written 30 = .ok (.ifCond .ge 10, 3) := by decide +kernel
theorem d_M_written_33 : decode c_M_written 33 = .ok (.aload_n 0, 1) := by decide +kernel
theorem d_M_written_34 : decode c_M_written 34 = .ok (.getfield 32, 3) := by decide +kernel
theorem d_M_written_37 : decode c_M_written 37 = .ok (.goto 9, 3) := by decide +kernel
theorem d_M_written_40 : decode c_M_written 40 = .ok (.aload_n 0, 1) := by decide +kernel
theorem d_M_written_41 : decode c_M_written 41 = .ok (.getfield 32, 3) := by decide +kernel
theorem d_M_written_44 : decode c_M_written 44 = .ok (.iload_n 1, 1) := by decide +kernel
theorem d_M_written_45 : decode c_M_written 45 = .ok (.isub, 1) := by decide +kernel
theorem d_M_written_46 : decode c_M_written 46 = .ok (.putfield 32, 3) := by decide +kernel
theorem d_M_written_49 : decode c_M_written 49 = .ok (.iconst 1, 1) := by decide +kernel
theorem d_M_written_50 : decode c_M_written 50 = .ok (.ireturn, 1) := by decide +kernel
theorem d_M_written_51 : decode c_M_written 51 = .ok (.aload_n 0, 1) := by decide +kernel
theorem d_M_written_52 : decode c_M_written 52 = .ok (.dup, 1) := by decide +kernel
theorem d_M_written_53 : decode c_M_written 53 = .ok (.getfield 48, 3) := by decide +kernel
theorem d_M_written_56 : decode c_M_written 56 = .ok (.aload_n 0, 1) := by decide +kernel
theorem d_M_written_57 : decode c_M_written 57 = .ok (.getfield 32, 3) := by decide +kernel
theorem d_M_written_60 : decode c_M_written 60 = .ok (.iadd, 1) := by decide +kernel
theorem d_M_written_61 : decode c_M_written 61 = .ok (.putfield 48, 3) := by decide +kernel
theorem d_M_written_64 : decode c_M_written 64 = .ok (.aload_n 0, 1) := by decide +kernel
theorem d_M_written_65 : decode c_M_written 65 = .ok (.iconst (-1), 1) := by decide +kernel
theorem d_M_written_66 : decode c_M_written 66 = .ok (.putfield 32, 3) := by decide +kernel
theorem d_M_written_69 : decode c_M_written 69 = .ok (.aload_n 0, 1) := by decide +kernel
theorem d_M_written_70 : decode c_M_written 70 = .ok (.iconst 0, 1) := by decide +kernel
theorem d_M_written_71 : decode c_M_written 71 = .ok (.putfield 28, 3) := by decide +kernel
theorem d_M_written_74 : decode c_M_written 74 = .ok (.iconst 0, 1) := by decide +kernel
theorem d_M_written_75 : decode c_M_written 75 = .ok (.ireturn, 1) := by decide +kernel
theorem d_M_ended_0 : decode c_M_ended 0 = .ok (.aload_n 0, 1) := by decide +kernel
theorem d_M_ended_1 : decode c_M_ended 1 = .ok (.aload_n 0, 1) := by decide +kernel
theorem d_M_ended_2 : decode c_M_ended 2 = .ok (.getfield 36, 3) := by decide +kernel
theorem d_M_ended_5 : decode c_M_ended 5 = .ok (.iconst 1, 1) := by decide +kernel
theorem d_M_ended_6 : decode c_M_ended 6 = .ok (.iadd, 1) := by decide +kernel
theorem d_M_ended_7 : decode c_M_ended 7 = .ok (.invokevirtual 55, 3) := by decide +kernel
theorem d_M_ended_10 : decode c_M_ended 10 = .ok (.istore_n 1, 1) := by decide +kernel
theorem d_M_ended_11 : decode c_M_ended 11 = .ok (.aload_n 0, 1) := by decide +kernel
theorem d_M_ended_12 : decode c_M_ended 12 = .ok (.iload_n 1, 1) := by decide +kernel
theorem d_M_ended_13 : decode c_M_ended 13 = .ok (.ifCond .eq 7, 3) := by decide +kernel
theorem d_M_ended_16 : decode c_M_ended 16 = .ok (.iconst (-1), 1) := by decide +kernel
theorem d_M_ended_17 : decode c_M_ended 17 = .ok (.goto 7, 3) := by decide +kernel
theorem d_M_ended_20 : decode c_M_ended 20 = .ok (.aload_n 0, 1) := by decide +kernel
theorem d_M_ended_21 : decode c_M_ended 21 = .ok (.getfield 36, 3) := by decide +kernel
theorem d_M_ended_24 : decode c_M_ended 24 = .ok (.putfield 36, 3) := by decide +kernel
theorem d_M_ended_27 : decode c_M_ended 27 = .ok (.iload_n 1, 1) := by decide +kernel
theorem d_M_ended_28 : decode c_M_ended 28 = .ok (.ireturn, 1) := by decide +kernel
theorem d_M_flush_0 : decode c_M_flush 0 = .ok (.aload_n 0, 1) := by decide +kernel
theorem d_M_flush_1 : decode c_M_flush 1 = .ok (.iconst 0, 1) := by decide +kernel
theorem d_M_flush_2 : decode c_M_flush 2 = .ok (.putfield 42, 3) := by decide +kernel
theorem d_M_flush_5 : decode c_M_flush 5 = .ok (.aload_n 0, 1) := by decide +kernel
theorem d_M_flush_6 : decode c_M_flush 6 = .ok (.getfield 28, 3) := by decide +kernel
theorem d_M_flush_9 : decode c_M_flush 9 = .ok (.ifCond .eq 10, 3) := by decide +kernel
theorem d_M_flush_12 : decode c_M_flush 12 = .ok (.aload_n 0, 1) := by decide +kernel
theorem d_M_flush_13 : decode c_M_flush 13 = .ok (.getfield 45, 3) := by decide +kernel
theorem d_M_flush_16 : decode c_M_flush 16 = .ok (.ifCond .eq 5, 3) := by decide +kernel
theorem d_M_flush_19 : decode c_M_flush 19 = .ok (.iconst (-1), 1) := by decide +kernel
theorem d_M_flush_20 : decode c_M_flush 20 = .ok (.ireturn, 1) := by decide +kernel
theorem d_M_flush_21 : decode c_M_flush 21 = .ok (.aload_n 0, 1) := by decide +kernel
theorem d_M_flush_22 : decode c_M_flush 22 = .ok (.getfield 17, 3) := by decide +kernel
theorem d_M_flush_25 : decode c_M_flush 25 = .ok (.invokestatic 51, 3) := by decide +kernel
theorem d_M_flush_28 : decode c_M_flush 28 = .ok (.istore_n 1, 1) := by decide +kernel
theorem d_M_flush_29 : decode c_M_flush 29 = .ok (.iload_n 1, 1) := by decide +kernel
theorem d_M_flush_30 : decode c_M_flush 30 = .ok (.ifCond .eq 10, 3) := by decide +kernel
theorem d_M_flush_33 : decode c_M_flush 33 = .ok (.aload_n 0, 1) := by decide +kernel
theorem d_M_flush_34 : decode c_M_flush 34 = .ok (.invokevirtual 66, 3) := by decide +kernel
theorem d_M_flush_37 : decode c_M_flush 37 = .ok (.ifCond .eq 7, 3) := by decide +kernel
theorem d_M_flush_40 : decode c_M_flush 40 = .ok (.iload_n 1, 1) := by decide +kernel
theorem d_M_flush_41 : decode c_M_flush 41 = .ok (.goto 4, 3) := by decide +kernel
theorem d_M_flush_44 : decode c_M_flush 44 = .ok (.iconst (-1), 1) := by decide +kernel
theorem d_M_flush_45 : decode c_M_flush 45 = .ok (.ireturn, 1) := by decide +kernel
theorem d_M_get_0 : decode c_M_get 0 = .ok (.aload_n 0, 1) := by decide +kernel
theorem d_M_get_1 : decode c_M_get 1 = .ok (.iconst 0, 1) := by decide +kernel
theorem d_M_get_2 : decode c_M_get 2 = .ok (.putfield 42, 3) := by decide +kernel
theorem d_M_get_5 : decode c_M_get 5 = .ok (.aload_n 0, 1) := by decide +kernel
theorem d_M_get_6 : decode c_M_get 6 = .ok (.getfield 28, 3) := by decide +kernel
theorem d_M_get_9 : decode c_M_get 9 = .ok (.ifCond .eq 22, 3) := by decide +kernel
theorem d_M_get_12 : decode c_M_get 12 = .ok (.aload_n 0, 1) := by decide +kernel
theorem d_M_get_13 : decode c_M_get 13 = .ok (.iload_n 1, 1) := by decide +kernel
theorem d_M_get_14 : decode c_M_get 14 = .ok (.invokevirtual 75, 3) := by decide +kernel
theorem d_M_get_17 : decode c_M_get 17 = .ok (.ifCond .eq 14, 3) := by decide +kernel
theorem d_M_get_20 : decode c_M_get 20 = .ok (.iload_n 2, 1) := by decide +kernel
theorem d_M_get_21 : decode c_M_get 21 = .ok (.ifCond .lt 10, 3) := by decide +kernel
theorem d_M_get_24 : decode c_M_get 24 = .ok (.iload_n 2, 1) := by decide +kernel
theorem d_M_get_25 : decode c_M_get 25 = .ok (.sipush 1023, 3) := by decide +kernel
theorem d_M_get_28 : decode c_M_get 28 = .ok (.if_icmp .le 5, 3) := by decide +kernel
theorem d_M_get_31 : decode c_M_get 31 = .ok (.iconst (-1), 1) := by decide +kernel
theorem d_M_get_32 : decode c_M_get 32 = .ok (.ireturn, 1) := by decide +kernel
theorem d_M_get_33 : decode c_M_get 33 = .ok (.aload_n 0, 1) := by decide +kernel
theorem d_M_get_34 : decode c_M_get 34 = .ok (.iload_n 1, 1) := by decide +kernel
theorem d_M_get_35 : decode c_M_get 35 = .ok (.invokevirtual 78, 3) := by decide +kernel
theorem d_M_get_38 : decode c_M_get 38 = .ok (.aload_n 0, 1) := by decide +kernel
theorem d_M_get_39 : decode c_M_get 39 = .ok (.getfield 14, 3) := by decide +kernel
theorem d_M_get_42 : decode c_M_get 42 = .ok (.sipush 1024, 3) := by decide +kernel
theorem d_M_get_45 : decode c_M_get 45 = .ok (.iload_n 1, 1) := by decide +kernel
theorem d_M_get_46 : decode c_M_get 46 = .ok (.imul, 1) := by decide +kernel
theorem d_M_get_47 : decode c_M_get 47 = .ok (.iload_n 2, 1) := by decide +kernel
theorem d_M_get_48 : decode c_M_get 48 = .ok (.iadd, 1) := by decide +kernel
theorem d_M_get_49 : decode c_M_get 49 = .ok (.baload, 1) := by decide +kernel
theorem d_M_get_50 : decode c_M_get 50 = .ok (.sipush 255, 3) := by decide +kernel
theorem d_M_get_53 : decode c_M_get 53 = .ok (.iand, 1) := by decide +kernel
theorem d_M_get_54 : decode c_M_get 54 = .ok (.ireturn, 1) := by decide +kernel
theorem d_M_isBlock_0 : decode c_M_isBlock 0 = .ok (.iload_n 1, 1) := by decide +kernel
theorem d_M_isBlock_1 : decode c_M_isBlock 1 = .ok (.ifCond .lt 26, 3) := by decide +kernel
theorem d_M_isBlock_4 : decode c_M_isBlock 4 = .ok (.iload_n 1, 1) := by decide +kernel
theorem d_M_isBlock_5 : decode c_M_isBlock 5 = .ok (.aload_n 0, 1) := by decide +kernel
theorem d_M_isBlock_6 : decode c_M_isBlock 6 = .ok (.getfield 39, 3) := by decide +kernel
theorem d_M_isBlock_9 : decode c_M_isBlock 9 = .ok (.if_icmp .ge 18, 3) := by decide +kernel
theorem d_M_isBlock_12 : decode c_M_isBlock 12 = .ok (.iload_n 1, 1) := by decide +kernel
theorem d_M_isBlock_13 : decode c_M_isBlock 13 = .ok (.iconst 2, 1) := by decide +kernel
theorem d_M_isBlock_14 : decode c_M_isBlock 14 = .ok (.if_icmp .lt 9, 3) := by decide +kernel
theorem d_M_isBlock_17 : decode c_M_isBlock 17 = .ok (.iload_n 1, 1) := by decide +kernel
theorem d_M_isBlock_18 : decode c_M_isBlock 18 = .ok (.bipush 32, 2) := by decide +kernel
theorem d_M_isBlock_20 : decode c_M_isBlock 20 = .ok (.if_icmp .le 7, 3) := by decide +kernel
theorem d_M_isBlock_23 : decode c_M_isBlock 23 = .ok (.iconst 1, 1) := by decide +kernel
theorem d_M_isBlock_24 : decode c_M_isBlock 24 = .ok (.goto 4, 3) := by decide +kernel
theorem d_M_isBlock_27 : decode c_M_isBlock 27 = .ok (.iconst 0, 1) := by decide +kernel
theorem d_M_isBlock_28 : decode c_M_isBlock 28 = .ok (.ireturn, 1) := by decide +kernel
theorem d_M_look_0 : decode c_M_look 0 = .ok (.aload_n 0, 1) := by decide +kernel
theorem d_M_look_1 : decode c_M_look 1 = .ok (.getfield 24, 3) := by decide +kernel
theorem d_M_look_4 : decode c_M_look 4 = .ok (.iload_n 1, 1) := by decide +kernel
theorem d_M_look_5 : decode c_M_look 5 = .ok (.iaload, 1) := by decide +kernel
theorem d_M_look_6 : decode c_M_look 6 = .ok (.ifCond .ne 109, 3) := by decide +kernel
theorem d_M_look_9 : decode c_M_look 9 = .ok (.aload_n 0, 1) := by decide +kernel
theorem d_M_look_10 : decode c_M_look 10 = .ok (.dup, 1) := by decide +kernel
theorem d_M_look_11 : decode c_M_look 11 = .ok (.getfield 69, 3) := by decide +kernel
theorem d_M_look_14 : decode c_M_look 14 = .ok (.iconst 1, 1) := by decide +kernel
theorem d_M_look_15 : decode c_M_look 15 = .ok (.iadd, 1) := by decide +kernel
theorem d_M_look_16 : decode c_M_look 16 = .ok (.putfield 69, 3) := by decide +kernel
theorem d_M_look_19 : decode c_M_look 19 = .ok (.iconst 0, 1) := by decide +kernel
theorem d_M_look_20 : decode c_M_look 20 = .ok (.istore_n 2, 1) := by decide +kernel
theorem d_M_look_21 : decode c_M_look 21 = .ok (.iconst (-1), 1) := by decide +kernel
theorem d_M_look_22 : decode c_M_look 22 = .ok (.istore_n 3, 1) := by decide +kernel
theorem d_M_look_23 : decode c_M_look 23 = .ok (.iconst 0, 1) := by decide +kernel
theorem d_M_look_24 : decode c_M_look 24 = .ok (.istore 4, 2) := by decide +kernel
theorem d_M_look_26 : decode c_M_look 26 = .ok (.iload 4, 2) := by decide +kernel
theorem d_M_look_28 : decode c_M_look 28 = .ok (.aload_n 0, 1) := by decide +kernel
theorem d_M_look_29 : decode c_M_look 29 = .ok (.getfield 39, 3) := by decide +kernel
theorem d_M_look_32 : decode c_M_look 32 = .ok (.if_icmp .ge 70, 3) := by decide +kernel
theorem d_M_look_35 : decode c_M_look 35 = .ok (.iload_n 2, 1) := by decide +kernel
theorem d_M_look_36 : decode c_M_look 36 = .ok (.aload_n 0, 1) := by decide +kernel
theorem d_M_look_37 : decode c_M_look 37 = .ok (.getfield 24, 3) := by decide +kernel
theorem d_M_look_40 : decode c_M_look 40 = .ok (.iload 4, 2) := by decide +kernel
theorem d_M_look_42 : decode c_M_look 42 = .ok (.iaload, 1) := by decide +kernel
theorem d_M_look_43 : decode c_M_look 43 = .ok (.ifCond .le 7, 3) := by decide +kernel
theorem d_M_look_46 : decode c_M_look 46 = .ok (.iconst 1, 1) := by decide +kernel
theorem d_M_look_47 : decode c_M_look 47 = .ok (.goto 4, 3) := by decide +kernel
theorem d_M_look_50 : decode c_M_look 50 = .ok (.iconst 0, 1) := by decide +kernel
theorem d_M_look_51 : decode c_M_look 51 = .ok (.iadd, 1) := by decide +kernel
theorem d_M_look_52 : decode c_M_look 52 = .ok (.istore_n 2, 1) := by decide +kernel
theorem d_M_look_53 : decode c_M_look 53 = .ok (.aload_n 0, 1) := by decide +kernel
theorem d_M_look_54 : decode c_M_look 54 = .ok (.getfield 24, 3) := by decide +kernel
theorem d_M_look_57 : decode c_M_look 57 = .ok (.iload 4, 2) := by decide +kernel
theorem d_M_look_59 : decode c_M_look 59 = .ok (.iaload, 1) := by decide +kernel
theorem d_M_look_60 : decode c_M_look 60 = .ok (.ifCond .le 36, 3) := by decide +kernel
theorem d_M_look_63 : decode c_M_look 63 = .ok (.aload_n 0, 1) := by decide +kernel
theorem d_M_look_64 : decode c_M_look 64 = .ok (.getfield 17, 3) := by decide +kernel
theorem d_M_look_67 : decode c_M_look 67 = .ok (.iload 4, 2) := by decide +kernel
theorem d_M_look_69 : decode c_M_look 69 = .ok (.baload, 1) := by decide +kernel
theorem d_M_look_70 : decode c_M_look 70 = .ok (.ifCond .ne 26, 3) := by decide +kernel
theorem d_M_look_73 : decode c_M_look 73 = .ok (.iload_n 3, 1) := by decide +kernel
theorem d_M_look_74 : decode c_M_look 74 = .ok (.ifCond .lt 19, 3) := by decide +kernel
theorem d_M_look_77 : decode c_M_look 77 = .ok (.aload_n 0, 1) := by decide +kernel
theorem d_M_look_78 : decode c_M_look 78 = .ok (.getfield 24, 3) := by decide +kernel
theorem d_M_look_81 : decode c_M_look 81 = .ok (.iload 4, 2) := by decide +kernel
theorem d_M_look_83 : decode c_M_look 83 = .ok (.iaload, 1) := by decide +kernel
theorem d_M_look_84 : decode c_M_look 84 = .ok (.aload_n 0, 1) := by decide +kernel
theorem d_M_look_85 : decode c_M_look 85 = .ok (.getfield 24, 3) := by decide +kernel
theorem d_M_look_88 : decode c_M_look 88 = .ok (.iload_n 3, 1) := by decide +kernel
theorem d_M_look_89 : decode c_M_look 89 = .ok (.iaload, 1) := by decide +kernel
theorem d_M_look_90 : decode c_M_look 90 = .ok (.if_icmp .ge 6, 3) := by decide +kernel
theorem d_M_look_93 : decode c_M_look 93 = .ok (.iload 4, 2) := by decide +kernel
theorem d_M_look_95 : decode c_M_look 95 = .ok (.istore_n 3, 1) := by decide +kernel
theorem d_M_look_96 : decode c_M_look 96 = .ok (.iinc 4 1, 3) := by decide +kernel
theorem d_M_look_99 : decode c_M_look 99 = .ok (.goto (-73), 3) := by decide +kernel
theorem d_M_look_102 : decode c_M_look 102 = .ok (.iload_n 2, 1) := by decide +kernel
theorem d_M_look_103 : decode c_M_look 103 = .ok (.bipush 34, 2) := by decide +kernel
theorem d_M_look_105 : decode c_M_look 105 = .ok (.if_icmp .ne 10, 3) := by decide +kernel
theorem d_M_look_108 : decode c_M_look 108 = .ok (.aload_n 0, 1) := by decide +kernel
theorem d_M_look_109 : decode c_M_look 109 = .ok (.getfield 24, 3) := by decide +kernel
theorem d_M_look_112 : decode c_M_look 112 = .ok (.iload_n 3, 1) := by decide +kernel
theorem d_M_look_113 : decode c_M_look 113 = .ok (.iconst 0, 1) := by decide +kernel
theorem d_M_look_114 : decode c_M_look 114 = .ok (.iastore, 1) := by decide +kernel
theorem d_M_look_115 : decode c_M_look 115 = .ok (.aload_n 0, 1) := by decide +kernel
theorem d_M_look_116 : decode c_M_look 116 = .ok (.dup, 1) := by decide +kernel
theorem d_M_look_117 : decode c_M_look 117 = .ok (.getfield 72, 3) := by decide +kernel
theorem d_M_look_120 : decode c_M_look 120 = .ok (.iconst 1, 1) := by decide +kernel
theorem d_M_look_121 : decode c_M_look 121 = .ok (.iadd, 1) := by decide +kernel
theorem d_M_look_122 : decode c_M_look 122 = .ok (.putfield 72, 3) := by decide +kernel
theorem d_M_look_125 : decode c_M_look 125 = .ok (.aload_n 0, 1) := by decide +kernel
theorem d_M_look_126 : decode c_M_look 126 = .ok (.getfield 24, 3) := by decide +kernel
theorem d_M_look_129 : decode c_M_look 129 = .ok (.iload_n 1, 1) := by decide +kernel
theorem d_M_look_130 : decode c_M_look 130 = .ok (.aload_n 0, 1) := by decide +kernel
theorem d_M_look_131 : decode c_M_look 131 = .ok (.getfield 72, 3) := by decide +kernel
theorem d_M_look_134 : decode c_M_look 134 = .ok (.iastore, 1) := by decide +kernel
theorem d_M_look_135 : decode c_M_look 135 = .ok (.return_, 1) := by decide +kernel
theorem d_M_fill_0 : decode c_M_fill 0 = .ok (.aload_n 0, 1) := by decide +kernel
theorem d_M_fill_1 : decode c_M_fill 1 = .ok (.iconst 0, 1) := by decide +kernel
theorem d_M_fill_2 : decode c_M_fill 2 = .ok (.putfield 42, 3) := by decide +kernel
theorem d_M_fill_5 : decode c_M_fill 5 = .ok (.aload_n 0, 1) := by decide +kernel
theorem d_M_fill_6 : decode c_M_fill 6 = .ok (.getfield 28, 3) := by decide +kernel
theorem d_M_fill_9 : decode c_M_fill 9 = .ok (.ifCond .eq 64, 3) := by decide +kernel
theorem d_M_fill_12 : decode c_M_fill 12 = .ok (.aload_n 0, 1) := by decide +kernel
theorem d_M_fill_13 : decode c_M_fill 13 = .ok (.getfield 45, 3) := by decide +kernel
theorem d_M_fill_16 : decode c_M_fill 16 = .ok (.ifCond .eq 57, 3) := by decide +kernel
theorem d_M_fill_19 : decode c_M_fill 19 = .ok (.aload_n 0, 1) := by decide +kernel
theorem d_M_fill_20 : decode c_M_fill 20 = .ok (.iload_n 1, 1) := by decide +kernel
theorem d_M_fill_21 : decode c_M_fill 21 = .ok (.invokevirtual 75, 3) := by decide +kernel
theorem d_M_fill_24 : decode c_M_fill 24 = .ok (.ifCond .eq 49, 3) := by decide +kernel
theorem d_M_fill_27 : decode c_M_fill 27 = .ok (.iload_n 3, 1) := by decide +kernel
theorem d_M_fill_28 : decode c_M_fill 28 = .ok (.iconst 1, 1) := by decide +kernel
theorem d_M_fill_29 : decode c_M_fill 29 = .ok (.if_icmp .lt 44, 3) := by decide +kernel
theorem d_M_fill_32 : decode c_M_fill 32 = .ok (.iload_n 3, 1) := by decide +kernel
theorem d_M_fill_33 : decode c_M_fill 33 = .ok (.sipush 1024, 3) := by decide +kernel
theorem d_M_fill_36 : decode c_M_fill 36 = .ok (.if_icmp .gt 37, 3) := by decide +kernel
theorem d_M_fill_39 : decode c_M_fill 39 = .ok (.iload_n 2, 1) := by decide +kernel
theorem d_M_fill_40 : decode c_M_fill 40 = .ok (.ifCond .lt 33, 3) := by decide +kernel
theorem d_M_fill_43 : decode c_M_fill 43 = .ok (.iload_n 2, 1) := by decide +kernel
theorem d_M_fill_44 : decode c_M_fill 44 = .ok (.sipush 1024, 3) := by decide +kernel
theorem d_M_fill_47 : decode c_M_fill 47 = .ok (.iload_n 3, 1) := by decide +kernel
theorem d_M_fill_48 : decode c_M_fill 48 = .ok (.isub, 1) := by decide +kernel
theorem d_M_fill_49 : decode c_M_fill 49 = .ok (.if_icmp .gt 24, 3) := by decide +kernel
theorem d_M_fill_52 : decode c_M_fill 52 = .ok (.aload_n 0, 1) := by decide +kernel
theorem d_M_fill_53 : decode c_M_fill 53 = .ok (.getfield 21, 3) := by decide +kernel
theorem d_M_fill_56 : decode c_M_fill 56 = .ok (.iload_n 1, 1) := by decide +kernel
theorem d_M_fill_57 : decode c_M_fill 57 = .ok (.baload, 1) := by decide +kernel
theorem d_M_fill_58 : decode c_M_fill 58 = .ok (.ifCond .ne 17, 3) := by decide +kernel
theorem d_M_fill_61 : decode c_M_fill 61 = .ok (.aload_n 0, 1) := by decide +kernel
theorem d_M_fill_62 : decode c_M_fill 62 = .ok (.getfield 21, 3) := by decide +kernel
theorem d_M_fill_65 : decode c_M_fill 65 = .ok (.invokestatic 51, 3) := by decide +kernel
theorem d_M_fill_68 : decode c_M_fill 68 = .ok (.bipush 10, 2) := by decide +kernel
theorem d_M_fill_70 : decode c_M_fill 70 = .ok (.if_icmp .ne 5, 3) := by decide +kernel
theorem d_M_fill_73 : decode c_M_fill 73 = .ok (.iconst 0, 1) := by decide +kernel
theorem d_M_fill_74 : decode c_M_fill 74 = .ok (.ireturn, 1) := by decide +kernel
theorem d_M_fill_75 : decode c_M_fill 75 = .ok (.aload_n 0, 1) := by decide +kernel
theorem d_M_fill_76 : decode c_M_fill 76 = .ok (.iload_n 1, 1) := by decide +kernel
theorem d_M_fill_77 : decode c_M_fill 77 = .ok (.invokevirtual 78, 3) := by decide +kernel
theorem d_M_fill_80 : decode c_M_fill 80 = .ok (.aload_n 0, 1) := by decide +kernel
theorem d_M_fill_81 : decode c_M_fill 81 = .ok (.getfield 21, 3) := by decide +kernel
theorem d_M_fill_84 : decode c_M_fill 84 = .ok (.iload_n 1, 1) := by decide +kernel
theorem d_M_fill_85 : decode c_M_fill 85 = .ok (.iconst 1, 1) := by decide +kernel
theorem d_M_fill_86 : decode c_M_fill 86 = .ok (.bastore, 1) := by decide +kernel
theorem d_M_fill_87 : decode c_M_fill 87 = .ok (.aload_n 0, 1) := by decide +kernel
theorem d_M_fill_88 : decode c_M_fill 88 = .ok (.getfield 17, 3) := by decide +kernel
theorem d_M_fill_91 : decode c_M_fill 91 = .ok (.iload_n 1, 1) := by decide +kernel
theorem d_M_fill_92 : decode c_M_fill 92 = .ok (.iconst 1, 1) := by decide +kernel
theorem d_M_fill_93 : decode c_M_fill 93 = .ok (.bastore, 1) := by decide +kernel
theorem d_M_fill_94 : decode c_M_fill 94 = .ok (.iconst 0, 1) := by decide +kernel
theorem d_M_fill_95 : decode c_M_fill 95 = .ok (.istore 5, 2) := by decide +kernel
theorem d_M_fill_97 : decode c_M_fill 97 = .ok (.iload 5, 2) := by decide +kernel
theorem d_M_fill_99 : decode c_M_fill 99 = .ok (.iload_n 3, 1) := by decide +kernel
theorem d_M_fill_100 : decode c_M_fill 100 = .ok (.if_icmp .ge 30, 3) := by decide +kernel
theorem d_M_fill_103 : decode c_M_fill 103 = .ok (.aload_n 0, 1) := by decide +kernel
theorem d_M_fill_104 : decode c_M_fill 104 = .ok (.getfield 14, 3) := by decide +kernel
theorem d_M_fill_107 : decode c_M_fill 107 = .ok (.sipush 1024, 3) := by decide +kernel
theorem d_M_fill_110 : decode c_M_fill 110 = .ok (.iload_n 1, 1) := by decide +kernel
theorem d_M_fill_111 : decode c_M_fill 111 = .ok (.imul, 1) := by decide +kernel
theorem d_M_fill_112 : decode c_M_fill 112 = .ok (.iload_n 2, 1) := by decide +kernel
theorem d_M_fill_113 : decode c_M_fill 113 = .ok (.iadd, 1) := by decide +kernel
theorem d_M_fill_114 : decode c_M_fill 114 = .ok (.iload 5, 2) := by decide +kernel
theorem d_M_fill_116 : decode c_M_fill 116 = .ok (.iadd, 1) := by decide +kernel
theorem d_M_fill_117 : decode c_M_fill 117 = .ok (.iload 4, 2) := by decide +kernel
theorem d_M_fill_119 : decode c_M_fill 119 = .ok (.iload 5, 2) := by decide +kernel
theorem d_M_fill_121 : decode c_M_fill 121 = .ok (.iadd, 1) := by decide +kernel
theorem d_M_fill_122 : decode c_M_fill 122 = .ok (.i2b, 1) := by decide +kernel
theorem d_M_fill_123 : decode c_M_fill 123 = .ok (.bastore, 1) := by decide +kernel
theorem d_M_fill_124 : decode c_M_fill 124 = .ok (.iinc 5 1, 3) := by decide +kernel
theorem d_M_fill_127 : decode c_M_fill 127 = .ok (.goto (-30), 3) := by decide +kernel
theorem d_M_fill_130 : decode c_M_fill 130 = .ok (.iconst 1, 1) := by decide +kernel
theorem d_M_fill_131 : decode c_M_fill 131 = .ok (.ireturn, 1) := by decide +kernel
theorem d_M_cut_0 : decode c_M_cut 0 = .ok (.aload_n 0, 1) := by decide +kernel
theorem d_M_cut_1 : decode c_M_cut 1 = .ok (.iconst 0, 1) := by decide +kernel
theorem d_M_cut_2 : decode c_M_cut 2 = .ok (.putfield 42, 3) := by decide +kernel
theorem d_M_cut_5 : decode c_M_cut 5 = .ok (.aload_n 0, 1) := by decide +kernel
theorem d_M_cut_6 : decode c_M_cut 6 = .ok (.getfield 28, 3) := by decide +kernel
theorem d_M_cut_9 : decode c_M_cut 9 = .ok (.ifCond .ne 5, 3) := by decide +kernel
theorem d_M_cut_12 : decode c_M_cut 12 = .ok (.iconst 0, 1) := by decide +kernel
theorem d_M_cut_13 : decode c_M_cut 13 = .ok (.ireturn, 1) := by decide +kernel
theorem d_M_cut_14 : decode c_M_cut 14 = .ok (.aload_n 0, 1) := by decide +kernel
theorem d_M_cut_15 : decode c_M_cut 15 = .ok (.iload_n 1, 1) := by decide +kernel
theorem d_M_cut_16 : decode c_M_cut 16 = .ok (.ifCond .ge 7, 3) := by decide +kernel
theorem d_M_cut_19 : decode c_M_cut 19 = .ok (.iconst (-1), 1) := by decide +kernel
theorem d_M_cut_20 : decode c_M_cut 20 = .ok (.goto 4, 3) := by decide +kernel
theorem d_M_cut_23 : decode c_M_cut 23 = .ok (.iload_n 1, 1) := by decide +kernel
theorem d_M_cut_24 : decode c_M_cut 24 = .ok (.putfield 32, 3) := by decide +kernel
theorem d_M_cut_27 : decode c_M_cut 27 = .ok (.iconst 1, 1) := by decide +kernel
theorem d_M_cut_28 : decode c_M_cut 28 = .ok (.ireturn, 1) := by decide +kernel
theorem d_M_power_0 : decode c_M_power 0 = .ok (.aload_n 0, 1) := by decide +kernel
theorem d_M_power_1 : decode c_M_power 1 = .ok (.iconst 0, 1) := by decide +kernel
theorem d_M_power_2 : decode c_M_power 2 = .ok (.putfield 42, 3) := by decide +kernel
theorem d_M_power_5 : decode c_M_power 5 = .ok (.aload_n 0, 1) := by decide +kernel
theorem d_M_power_6 : decode c_M_power 6 = .ok (.getfield 28, 3) := by decide +kernel
theorem d_M_power_9 : decode c_M_power 9 = .ok (.ifCond .eq 5, 3) := by decide +kernel
theorem d_M_power_12 : decode c_M_power 12 = .ok (.iconst (-1), 1) := by decide +kernel
theorem d_M_power_13 : decode c_M_power 13 = .ok (.ireturn, 1) := by decide +kernel
theorem d_M_power_14 : decode c_M_power 14 = .ok (.aload_n 0, 1) := by decide +kernel
theorem d_M_power_15 : decode c_M_power 15 = .ok (.iconst 1, 1) := by decide +kernel
theorem d_M_power_16 : decode c_M_power 16 = .ok (.putfield 28, 3) := by decide +kernel
theorem d_M_power_19 : decode c_M_power 19 = .ok (.aload_n 0, 1) := by decide +kernel
theorem d_M_power_20 : decode c_M_power 20 = .ok (.iconst 0, 1) := by decide +kernel
theorem d_M_power_21 : decode c_M_power 21 = .ok (.putfield 45, 3) := by decide +kernel
theorem d_M_power_24 : decode c_M_power 24 = .ok (.aload_n 0, 1) := by decide +kernel
theorem d_M_power_25 : decode c_M_power 25 = .ok (.iload_n 1, 1) := by decide +kernel
theorem d_M_power_26 : decode c_M_power 26 = .ok (.ifCond .ge 7, 3) := by decide +kernel
theorem d_M_power_29 : decode c_M_power 29 = .ok (.iconst (-1), 1) := by decide +kernel
theorem d_M_power_30 : decode c_M_power 30 = .ok (.goto 4, 3) := by decide +kernel
theorem d_M_power_33 : decode c_M_power 33 = .ok (.iload_n 1, 1) := by decide +kernel
theorem d_M_power_34 : decode c_M_power 34 = .ok (.putfield 32, 3) := by decide +kernel
theorem d_M_power_37 : decode c_M_power 37 = .ok (.iconst 0, 1) := by decide +kernel
theorem d_M_power_38 : decode c_M_power 38 = .ok (.istore_n 2, 1) := by decide +kernel
theorem d_M_power_39 : decode c_M_power 39 = .ok (.iload_n 2, 1) := by decide +kernel
theorem d_M_power_40 : decode c_M_power 40 = .ok (.ldc 7, 2) := by decide +kernel
theorem d_M_power_42 : decode c_M_power 42 = .ok (.if_icmp .ge 21, 3) := by decide +kernel
theorem d_M_power_45 : decode c_M_power 45 = .ok (.aload_n 0, 1) := by decide +kernel
theorem d_M_power_46 : decode c_M_power 46 = .ok (.getfield 14, 3) := by decide +kernel
theorem d_M_power_49 : decode c_M_power 49 = .ok (.iload_n 2, 1) := by decide +kernel
theorem d_M_power_50 : decode c_M_power 50 = .ok (.aload_n 0, 1) := by decide +kernel
theorem d_M_power_51 : decode c_M_power 51 = .ok (.getfield 8, 3) := by decide +kernel
theorem d_M_power_54 : decode c_M_power 54 = .ok (.iload_n 2, 1) := by decide +kernel
theorem d_M_power_55 : decode c_M_power 55 = .ok (.baload, 1) := by decide +kernel
theorem d_M_power_56 : decode c_M_power 56 = .ok (.bastore, 1) := by decide +kernel
theorem d_M_power_57 : decode c_M_power 57 = .ok (.iinc 2 1, 3) := by decide +kernel
theorem d_M_power_60 : decode c_M_power 60 = .ok (.goto (-21), 3) := by decide +kernel
theorem d_M_power_63 : decode c_M_power 63 = .ok (.iconst 0, 1) := by decide +kernel
theorem d_M_power_64 : decode c_M_power 64 = .ok (.istore_n 2, 1) := by decide +kernel
theorem d_M_power_65 : decode c_M_power 65 = .ok (.iload_n 2, 1) := by decide +kernel
theorem d_M_power_66 : decode c_M_power 66 = .ok (.bipush 80, 2) := by decide +kernel
theorem d_M_power_68 : decode c_M_power 68 = .ok (.if_icmp .ge 23, 3) := by decide +kernel
theorem d_M_power_71 : decode c_M_power 71 = .ok (.aload_n 0, 1) := by decide +kernel
theorem d_M_power_72 : decode c_M_power 72 = .ok (.getfield 17, 3) := by decide +kernel
theorem d_M_power_75 : decode c_M_power 75 = .ok (.iload_n 2, 1) := by decide +kernel
theorem d_M_power_76 : decode c_M_power 76 = .ok (.iconst 0, 1) := by decide +kernel
theorem d_M_power_77 : decode c_M_power 77 = .ok (.bastore, 1) := by decide +kernel
theorem d_M_power_78 : decode c_M_power 78 = .ok (.aload_n 0, 1) := by decide +kernel
theorem d_M_power_79 : decode c_M_power 79 = .ok (.getfield 24, 3) := by decide +kernel
theorem d_M_power_82 : decode c_M_power 82 = .ok (.iload_n 2, 1) := by decide +kernel
theorem d_M_power_83 : decode c_M_power 83 = .ok (.iconst 0, 1) := by decide +kernel
theorem d_M_power_84 : decode c_M_power 84 = .ok (.iastore, 1) := by decide +kernel
theorem d_M_power_85 : decode c_M_power 85 = .ok (.iinc 2 1, 3) := by decide +kernel
theorem d_M_power_88 : decode c_M_power 88 = .ok (.goto (-23), 3) := by decide +kernel
theorem d_M_power_91 : decode c_M_power 91 = .ok (.aload_n 0, 1) := by decide +kernel
theorem d_M_power_92 : decode c_M_power 92 = .ok (.getfield 36, 3) := by decide +kernel
theorem d_M_power_95 : decode c_M_power 95 = .ok (.istore_n 2, 1) := by decide +kernel
theorem d_M_power_96 : decode c_M_power 96 = .ok (.iload_n 2, 1) := by decide +kernel
theorem d_M_power_97 : decode c_M_power 97 = .ok (.ifCond .ge 5, 3) := by decide +kernel
theorem d_M_power_100 : decode c_M_power 100 = .ok (.iconst 0, 1) := by decide +kernel
theorem d_M_power_101 : decode c_M_power 101 = .ok (.ireturn, 1) := by decide +kernel
theorem d_M_power_102 : decode c_M_power 102 = .ok (.aload_n 0, 1) := by decide +kernel
theorem d_M_power_103 : decode c_M_power 103 = .ok (.invokevirtual 62, 3) := by decide +kernel
theorem d_M_power_106 : decode c_M_power 106 = .ok (.ifCond .eq 7, 3) := by decide +kernel
theorem d_M_power_109 : decode c_M_power 109 = .ok (.iload_n 2, 1) := by decide +kernel
theorem d_M_power_110 : decode c_M_power 110 = .ok (.goto 4, 3) := by decide +kernel
theorem d_M_power_113 : decode c_M_power 113 = .ok (.iconst (-1), 1) := by decide +kernel
theorem d_M_power_114 : decode c_M_power 114 = .ok (.ireturn, 1) := by decide +kernel
theorem d_M_count_0 : decode c_M_count 0 = .ok (.aload_n 0, 1) := by decide +kernel
theorem d_M_count_1 : decode c_M_count 1 = .ok (.iconst 0, 1) := by decide +kernel
theorem d_M_count_2 : decode c_M_count 2 = .ok (.putfield 42, 3) := by decide +kernel
theorem d_M_count_5 : decode c_M_count 5 = .ok (.iload_n 1, 1) := by decide +kernel
theorem d_M_count_6 : decode c_M_count 6 = .ok (.tableswitch 120 0 6 #[42, 55, 60, 79, 105, 110, 115], 42) := by decide +kernel
theorem d_M_count_48 : decode c_M_count 48 = .ok (.aload_n 0, 1) := by decide +kernel
theorem d_M_count_49 : decode c_M_count 49 = .ok (.getfield 28, 3) := by decide +kernel
theorem d_M_count_52 : decode c_M_count 52 = .ok (.ifCond .eq 7, 3) := by decide +kernel
theorem d_M_count_55 : decode c_M_count 55 = .ok (.iconst 1, 1) := by decide +kernel
theorem d_M_count_56 : decode c_M_count 56 = .ok (.goto 4, 3) := by decide +kernel
theorem d_M_count_59 : decode c_M_count 59 = .ok (.iconst 0, 1) := by decide +kernel
theorem d_M_count_60 : decode c_M_count 60 = .ok (.ireturn, 1) := by decide +kernel
theorem d_M_count_61 : decode c_M_count 61 = .ok (.aload_n 0, 1) := by decide +kernel
theorem d_M_count_62 : decode c_M_count 62 = .ok (.getfield 39, 3) := by decide +kernel
theorem d_M_count_65 : decode c_M_count 65 = .ok (.ireturn, 1) := by decide +kernel
theorem d_M_count_66 : decode c_M_count 66 = .ok (.aload_n 0, 1) := by decide +kernel
theorem d_M_count_67 : decode c_M_count 67 = .ok (.getfield 28, 3) := by decide +kernel
theorem d_M_count_70 : decode c_M_count 70 = .ok (.ifCond .eq 13, 3) := by decide +kernel
theorem d_M_count_73 : decode c_M_count 73 = .ok (.aload_n 0, 1) := by decide +kernel
theorem d_M_count_74 : decode c_M_count 74 = .ok (.getfield 17, 3) := by decide +kernel
theorem d_M_count_77 : decode c_M_count 77 = .ok (.invokestatic 51, 3) := by decide +kernel
theorem d_M_count_80 : decode c_M_count 80 = .ok (.goto 4, 3) := by decide +kernel
theorem d_M_count_83 : decode c_M_count 83 = .ok (.iconst 0, 1) := by decide +kernel
theorem d_M_count_84 : decode c_M_count 84 = .ok (.ireturn, 1) := by decide +kernel
theorem d_M_count_85 : decode c_M_count 85 = .ok (.aload_n 0, 1) := by decide +kernel
theorem d_M_count_86 : decode c_M_count 86 = .ok (.getfield 28, 3) := by decide +kernel
theorem d_M_count_89 : decode c_M_count 89 = .ok (.ifCond .eq 20, 3) := by decide +kernel
theorem d_M_count_92 : decode c_M_count 92 = .ok (.aload_n 0, 1) := by decide +kernel
theorem d_M_count_93 : decode c_M_count 93 = .ok (.getfield 45, 3) := by decide +kernel
theorem d_M_count_96 : decode c_M_count 96 = .ok (.ifCond .eq 13, 3) := by decide +kernel
theorem d_M_count_99 : decode c_M_count 99 = .ok (.aload_n 0, 1) := by decide +kernel
theorem d_M_count_100 : decode c_M_count 100 = .ok (.getfield 21, 3) := by decide +kernel
theorem d_M_count_103 : decode c_M_count 103 = .ok (.invokestatic 51, 3) := by decide +kernel
theorem d_M_count_106 : decode c_M_count 106 = .ok (.goto 4, 3) := by decide +kernel
theorem d_M_count_109 : decode c_M_count 109 = .ok (.iconst (-1), 1) := by decide +kernel
theorem d_M_count_110 : decode c_M_count 110 = .ok (.ireturn, 1) := by decide +kernel
theorem d_M_count_111 : decode c_M_count 111 = .ok (.aload_n 0, 1) := by decide +kernel
theorem d_M_count_112 : decode c_M_count 112 = .ok (.getfield 48, 3) := by decide +kernel
theorem d_M_count_115 : decode c_M_count 115 = .ok (.ireturn, 1) := by decide +kernel
theorem d_M_count_116 : decode c_M_count 116 = .ok (.aload_n 0, 1) := by decide +kernel
theorem d_M_count_117 : decode c_M_count 117 = .ok (.getfield 69, 3) := by decide +kernel
theorem d_M_count_120 : decode c_M_count 120 = .ok (.ireturn, 1) := by decide +kernel
theorem d_M_count_121 : decode c_M_count 121 = .ok (.aload_n 0, 1) := by decide +kernel
theorem d_M_count_122 : decode c_M_count 122 = .ok (.getfield 59, 3) := by decide +kernel
theorem d_M_count_125 : decode c_M_count 125 = .ok (.ireturn, 1) := by decide +kernel
theorem d_M_count_126 : decode c_M_count 126 = .ok (.iconst (-1), 1) := by decide +kernel
theorem d_M_count_127 : decode c_M_count 127 = .ok (.ireturn, 1) := by decide +kernel
theorem d_M_held_0 : decode c_M_held 0 = .ok (.aload_n 0, 1) := by decide +kernel
theorem d_M_held_1 : decode c_M_held 1 = .ok (.iconst 0, 1) := by decide +kernel
theorem d_M_held_2 : decode c_M_held 2 = .ok (.putfield 42, 3) := by decide +kernel
theorem d_M_held_5 : decode c_M_held 5 = .ok (.aload_n 0, 1) := by decide +kernel
theorem d_M_held_6 : decode c_M_held 6 = .ok (.getfield 28, 3) := by decide +kernel
theorem d_M_held_9 : decode c_M_held 9 = .ok (.ifCond .eq 24, 3) := by decide +kernel
theorem d_M_held_12 : decode c_M_held 12 = .ok (.aload_n 0, 1) := by decide +kernel
theorem d_M_held_13 : decode c_M_held 13 = .ok (.iload_n 1, 1) := by decide +kernel
theorem d_M_held_14 : decode c_M_held 14 = .ok (.invokevirtual 75, 3) := by decide +kernel
theorem d_M_held_17 : decode c_M_held 17 = .ok (.ifCond .eq 16, 3) := by decide +kernel
theorem d_M_held_20 : decode c_M_held 20 = .ok (.aload_n 0, 1) := by decide +kernel
theorem d_M_held_21 : decode c_M_held 21 = .ok (.getfield 17, 3) := by decide +kernel
theorem d_M_held_24 : decode c_M_held 24 = .ok (.iload_n 1, 1) := by decide +kernel
theorem d_M_held_25 : decode c_M_held 25 = .ok (.baload, 1) := by decide +kernel
theorem d_M_held_26 : decode c_M_held 26 = .ok (.ifCond .eq 7, 3) := by decide +kernel
theorem d_M_held_29 : decode c_M_held 29 = .ok (.iconst 1, 1) := by decide +kernel
theorem d_M_held_30 : decode c_M_held 30 = .ok (.goto 4, 3) := by decide +kernel
theorem d_M_held_33 : decode c_M_held 33 = .ok (.iconst 0, 1) := by decide +kernel
theorem d_M_held_34 : decode c_M_held 34 = .ok (.ireturn, 1) := by decide +kernel
theorem d_M_cached_0 : decode c_M_cached 0 = .ok (.aload_n 0, 1) := by decide +kernel
theorem d_M_cached_1 : decode c_M_cached 1 = .ok (.iconst 0, 1) := by decide +kernel
theorem d_M_cached_2 : decode c_M_cached 2 = .ok (.putfield 42, 3) := by decide +kernel
theorem d_M_cached_5 : decode c_M_cached 5 = .ok (.aload_n 0, 1) := by decide +kernel
theorem d_M_cached_6 : decode c_M_cached 6 = .ok (.getfield 28, 3) := by decide +kernel
theorem d_M_cached_9 : decode c_M_cached 9 = .ok (.ifCond .eq 24, 3) := by decide +kernel
theorem d_M_cached_12 : decode c_M_cached 12 = .ok (.aload_n 0, 1) := by decide +kernel
theorem d_M_cached_13 : decode c_M_cached 13 = .ok (.iload_n 1, 1) := by decide +kernel
theorem d_M_cached_14 : decode c_M_cached 14 = .ok (.invokevirtual 75, 3) := by decide +kernel
theorem d_M_cached_17 : decode c_M_cached 17 = .ok (.ifCond .eq 16, 3) := by decide +kernel
theorem d_M_cached_20 : decode c_M_cached 20 = .ok (.aload_n 0, 1) := by decide +kernel
theorem d_M_cached_21 : decode c_M_cached 21 = .ok (.getfield 24, 3) := by decide +kernel
theorem d_M_cached_24 : decode c_M_cached 24 = .ok (.iload_n 1, 1) := by decide +kernel
theorem d_M_cached_25 : decode c_M_cached 25 = .ok (.iaload, 1) := by decide +kernel
theorem d_M_cached_26 : decode c_M_cached 26 = .ok (.ifCond .le 7, 3) := by decide +kernel
theorem d_M_cached_29 : decode c_M_cached 29 = .ok (.iconst 1, 1) := by decide +kernel
theorem d_M_cached_30 : decode c_M_cached 30 = .ok (.goto 4, 3) := by decide +kernel
theorem d_M_cached_33 : decode c_M_cached 33 = .ok (.iconst 0, 1) := by decide +kernel
theorem d_M_cached_34 : decode c_M_cached 34 = .ok (.ireturn, 1) := by decide +kernel
theorem d_W_law_0 : decode c_W_law 0 = .ok (.new 7, 3) := by decide +kernel
theorem d_W_law_3 : decode c_W_law 3 = .ok (.dup, 1) := by decide +kernel
theorem d_W_law_4 : decode c_W_law 4 = .ok (.aload_n 0, 1) := by decide +kernel
theorem d_W_law_5 : decode c_W_law 5 = .ok (.iconst 0, 1) := by decide +kernel
theorem d_W_law_6 : decode c_W_law 6 = .ok (.invokestatic 9, 3) := by decide +kernel
theorem d_W_law_9 : decode c_W_law 9 = .ok (.invokespecial 15, 3) := by decide +kernel
theorem d_W_law_12 : decode c_W_law 12 = .ok (.astore_n 1, 1) := by decide +kernel
theorem d_W_law_13 : decode c_W_law 13 = .ok (.new 18, 3) := by decide +kernel
theorem d_W_law_16 : decode c_W_law 16 = .ok (.dup, 1) := by decide +kernel
theorem d_W_law_17 : decode c_W_law 17 = .ok (.aload_n 0, 1) := by decide +kernel
theorem d_W_law_18 : decode c_W_law 18 = .ok (.iconst 0, 1) := by decide +kernel
theorem d_W_law_19 : decode c_W_law 19 = .ok (.invokestatic 9, 3) := by decide +kernel
theorem d_W_law_22 : decode c_W_law 22 = .ok (.invokespecial 20, 3) := by decide +kernel
theorem d_W_law_25 : decode c_W_law 25 = .ok (.astore_n 2, 1) := by decide +kernel
theorem d_W_law_26 : decode c_W_law 26 = .ok (.iconst 1, 1) := by decide +kernel
theorem d_W_law_27 : decode c_W_law 27 = .ok (.istore_n 3, 1) := by decide +kernel
theorem d_W_law_28 : decode c_W_law 28 = .ok (.iload_n 3, 1) := by decide +kernel
theorem d_W_law_29 : decode c_W_law 29 = .ok (.aload_n 0, 1) := by decide +kernel
theorem d_W_law_30 : decode c_W_law 30 = .ok (.arraylength, 1) := by decide +kernel
theorem d_W_law_31 : decode c_W_law 31 = .ok (.iconst 5, 1) := by decide +kernel
theorem d_W_law_32 : decode c_W_law 32 = .ok (.isub, 1) := by decide +kernel
theorem d_W_law_33 : decode c_W_law 33 = .ok (.if_icmp .gt 309, 3) := by decide +kernel
theorem d_W_law_36 : decode c_W_law 36 = .ok (.aload_n 0, 1) := by decide +kernel
theorem d_W_law_37 : decode c_W_law 37 = .ok (.iload_n 3, 1) := by decide +kernel
theorem d_W_law_38 : decode c_W_law 38 = .ok (.iaload, 1) := by decide +kernel
theorem d_W_law_39 : decode c_W_law 39 = .ok (.bipush 15, 2) := by decide +kernel
theorem d_W_law_41 : decode c_W_law 41 = .ok (.iand, 1) := by decide +kernel
theorem d_W_law_42 : decode c_W_law 42 = .ok (.tableswitch 294 0 9 #[54, 67, 80, 93, 126, 179, 202, 225, 248, 271], 54) := by decide +kernel
theorem d_W_law_96 : decode c_W_law 96 = .ok (.aload_n 1, 1) := by decide +kernel
theorem d_W_law_97 : decode c_W_law 97 = .ok (.invokevirtual 21, 3) := by decide +kernel
theorem d_W_law_100 : decode c_W_law 100 = .ok (.aload_n 2, 1) := by decide +kernel
theorem d_W_law_101 : decode c_W_law 101 = .ok (.invokevirtual 25, 3) := by decide +kernel
theorem d_W_law_104 : decode c_W_law 104 = .ok (.if_icmp .eq 232, 3) := by decide +kernel
theorem d_W_law_107 : decode c_W_law 107 = .ok (.iconst 0, 1) := by decide +kernel
theorem d_W_law_108 : decode c_W_law 108 = .ok (.ireturn, 1) := by decide +kernel
theorem d_W_law_109 : decode c_W_law 109 = .ok (.aload_n 1, 1) := by decide +kernel
theorem d_W_law_110 : decode c_W_law 110 = .ok (.invokevirtual 26, 3) := by decide +kernel
theorem d_W_law_113 : decode c_W_law 113 = .ok (.aload_n 2, 1) := by decide +kernel
theorem d_W_law_114 : decode c_W_law 114 = .ok (.invokevirtual 30, 3) := by decide +kernel
theorem d_W_law_117 : decode c_W_law 117 = .ok (.if_icmp .eq 219, 3) := by decide +kernel
theorem d_W_law_120 : decode c_W_law 120 = .ok (.iconst 0, 1) := by decide +kernel
theorem d_W_law_121 : decode c_W_law 121 = .ok (.ireturn, 1) := by decide +kernel
theorem d_W_law_122 : decode c_W_law 122 = .ok (.aload_n 1, 1) := by decide +kernel
theorem d_W_law_123 : decode c_W_law 123 = .ok (.invokevirtual 31, 3) := by decide +kernel
theorem d_W_law_126 : decode c_W_law 126 = .ok (.aload_n 2, 1) := by decide +kernel
theorem d_W_law_127 : decode c_W_law 127 = .ok (.invokevirtual 34, 3) := by decide +kernel
theorem d_W_law_130 : decode c_W_law 130 = .ok (.if_icmp .eq 206, 3) := by decide +kernel
theorem d_W_law_133 : decode c_W_law 133 = .ok (.iconst 0, 1) := by decide +kernel
theorem d_W_law_134 : decode c_W_law 134 = .ok (.ireturn, 1) := by decide +kernel
theorem d_W_law_135 : decode c_W_law 135 = .ok (.aload_n 1, 1) := by decide +kernel
theorem d_W_law_136 : decode c_W_law 136 = .ok (.aload_n 0, 1) := by decide +kernel
theorem d_W_law_137 : decode c_W_law 137 = .ok (.iload_n 3, 1) := by decide +kernel
theorem d_W_law_138 : decode c_W_law 138 = .ok (.iconst 1, 1) := by decide +kernel
theorem d_W_law_139 : decode c_W_law 139 = .ok (.iadd, 1) := by decide +kernel
theorem d_W_law_140 : decode c_W_law 140 = .ok (.iaload, 1) := by decide +kernel
theorem d_W_law_141 : decode c_W_law 141 = .ok (.aload_n 0, 1) := by decide +kernel
theorem d_W_law_142 : decode c_W_law 142 = .ok (.iload_n 3, 1) := by decide +kernel
theorem d_W_law_143 : decode c_W_law 143 = .ok (.iconst 2, 1) := by decide +kernel
theorem d_W_law_144 : decode c_W_law 144 = .ok (.iadd, 1) := by decide +kernel
theorem d_W_law_145 : decode c_W_law 145 = .ok (.iaload, 1) := by decide +kernel
theorem d_W_law_146 : decode c_W_law 146 = .ok (.invokevirtual 35, 3) := by decide +kernel
theorem d_W_law_149 : decode c_W_law 149 = .ok (.aload_n 2, 1) := by decide +kernel
theorem d_W_law_150 : decode c_W_law 150 = .ok (.aload_n 0, 1) := by decide +kernel
theorem d_W_law_151 : decode c_W_law 151 = .ok (.iload_n 3, 1) := by decide +kernel
theorem d_W_law_152 : decode c_W_law 152 = .ok (.iconst 1, 1) := by decide +kernel
theorem d_W_law_153 : decode c_W_law 153 = .ok (.iadd, 1) := by decide +kernel
theorem d_W_law_154 : decode c_W_law 154 = .ok (.iaload, 1) := by decide +kernel
theorem d_W_law_155 : decode c_W_law 155 = .ok (.aload_n 0, 1) := by decide +kernel
theorem d_W_law_156 : decode c_W_law 156 = .ok (.iload_n 3, 1) := by decide +kernel
theorem d_W_law_157 : decode c_W_law 157 = .ok (.iconst 2, 1) := by decide +kernel
theorem d_W_law_158 : decode c_W_law 158 = .ok (.iadd, 1) := by decide +kernel
theorem d_W_law_159 : decode c_W_law 159 = .ok (.iaload, 1) := by decide +kernel
theorem d_W_law_160 : decode c_W_law 160 = .ok (.invokevirtual 39, 3) := by decide +kernel
theorem d_W_law_163 : decode c_W_law 163 = .ok (.if_icmp .eq 173, 3) := by decide +kernel
theorem d_W_law_166 : decode c_W_law 166 = .ok (.iconst 0, 1) := by decide +kernel
theorem d_W_law_167 : decode c_W_law 167 = .ok (.ireturn, 1) := by decide +kernel
theorem d_W_law_168 : decode c_W_law 168 = .ok (.aload_n 1, 1) := by decide +kernel
theorem d_W_law_169 : decode c_W_law 169 = .ok (.aload_n 0, 1) := by decide +kernel
theorem d_W_law_170 : decode c_W_law 170 = .ok (.iload_n 3, 1) := by decide +kernel
theorem d_W_law_171 : decode c_W_law 171 = .ok (.iconst 1, 1) := by decide +kernel
theorem d_W_law_172 : decode c_W_law 172 = .ok (.iadd, 1) := by decide +kernel
theorem d_W_law_173 : decode c_W_law 173 = .ok (.iaload, 1) := by decide +kernel
theorem d_W_law_174 : decode c_W_law 174 = .ok (.aload_n 0, 1) := by decide +kernel
theorem d_W_law_175 : decode c_W_law 175 = .ok (.iload_n 3, 1) := by decide +kernel
theorem d_W_law_176 : decode c_W_law 176 = .ok (.iconst 2, 1) := by decide +kernel
theorem d_W_law_177 : decode c_W_law 177 = .ok (.iadd, 1) := by decide +kernel
theorem d_W_law_178 : decode c_W_law 178 = .ok (.iaload, 1) := by decide +kernel
theorem d_W_law_179 : decode c_W_law 179 = .ok (.aload_n 0, 1) := by decide +kernel
theorem d_W_law_180 : decode c_W_law 180 = .ok (.iload_n 3, 1) := by decide +kernel
theorem d_W_law_181 : decode c_W_law 181 = .ok (.iconst 3, 1) := by decide +kernel
theorem d_W_law_182 : decode c_W_law 182 = .ok (.iadd, 1) := by decide +kernel
theorem d_W_law_183 : decode c_W_law 183 = .ok (.iaload, 1) := by decide +kernel
theorem d_W_law_184 : decode c_W_law 184 = .ok (.aload_n 0, 1) := by decide +kernel
theorem d_W_law_185 : decode c_W_law 185 = .ok (.iload_n 3, 1) := by decide +kernel
theorem d_W_law_186 : decode c_W_law 186 = .ok (.iconst 4, 1) := by decide +kernel
theorem d_W_law_187 : decode c_W_law 187 = .ok (.iadd, 1) := by decide +kernel
theorem d_W_law_188 : decode c_W_law 188 = .ok (.iaload, 1) := by decide +kernel
theorem d_W_law_189 : decode c_W_law 189 = .ok (.invokevirtual 40, 3) := by decide +kernel
theorem d_W_law_192 : decode c_W_law 192 = .ok (.aload_n 2, 1) := by decide +kernel
theorem d_W_law_193 : decode c_W_law 193 = .ok (.aload_n 0, 1) := by decide +kernel
theorem d_W_law_194 : decode c_W_law 194 = .ok (.iload_n 3, 1) := by decide +kernel
theorem d_W_law_195 : decode c_W_law 195 = .ok (.iconst 1, 1) := by decide +kernel
theorem d_W_law_196 : decode c_W_law 196 = .ok (.iadd, 1) := by decide +kernel
theorem d_W_law_197 : decode c_W_law 197 = .ok (.iaload, 1) := by decide +kernel
theorem d_W_law_198 : decode c_W_law 198 = .ok (.aload_n 0, 1) := by decide +kernel
theorem d_W_law_199 : decode c_W_law 199 = .ok (.iload_n 3, 1) := by decide +kernel
theorem d_W_law_200 : decode c_W_law 200 = .ok (.iconst 2, 1) := by decide +kernel
theorem d_W_law_201 : decode c_W_law 201 = .ok (.iadd, 1) := by decide +kernel
theorem d_W_law_202 : decode c_W_law 202 = .ok (.iaload, 1) := by decide +kernel
theorem d_W_law_203 : decode c_W_law 203 = .ok (.aload_n 0, 1) := by decide +kernel
theorem d_W_law_204 : decode c_W_law 204 = .ok (.iload_n 3, 1) := by decide +kernel
theorem d_W_law_205 : decode c_W_law 205 = .ok (.iconst 3, 1) := by decide +kernel
theorem d_W_law_206 : decode c_W_law 206 = .ok (.iadd, 1) := by decide +kernel
theorem d_W_law_207 : decode c_W_law 207 = .ok (.iaload, 1) := by decide +kernel
theorem d_W_law_208 : decode c_W_law 208 = .ok (.aload_n 0, 1) := by decide +kernel
theorem d_W_law_209 : decode c_W_law 209 = .ok (.iload_n 3, 1) := by decide +kernel
theorem d_W_law_210 : decode c_W_law 210 = .ok (.iconst 4, 1) := by decide +kernel
theorem d_W_law_211 : decode c_W_law 211 = .ok (.iadd, 1) := by decide +kernel
theorem d_W_law_212 : decode c_W_law 212 = .ok (.iaload, 1) := by decide +kernel
theorem d_W_law_213 : decode c_W_law 213 = .ok (.invokevirtual 44, 3) := by decide +kernel
theorem d_W_law_216 : decode c_W_law 216 = .ok (.if_icmp .eq 120, 3) := by decide +kernel
theorem d_W_law_219 : decode c_W_law 219 = .ok (.iconst 0, 1) := by decide +kernel
theorem d_W_law_220 : decode c_W_law 220 = .ok (.ireturn, 1) := by decide +kernel
theorem d_W_law_221 : decode c_W_law 221 = .ok (.aload_n 1, 1) := by decide +kernel
theorem d_W_law_222 : decode c_W_law 222 = .ok (.aload_n 0, 1) := by decide +kernel
theorem d_W_law_223 : decode c_W_law 223 = .ok (.iload_n 3, 1) := by decide +kernel
theorem d_W_law_224 : decode c_W_law 224 = .ok (.iconst 1, 1) := by decide +kernel
theorem d_W_law_225 : decode c_W_law 225 = .ok (.iadd, 1) := by decide +kernel
theorem d_W_law_226 : decode c_W_law 226 = .ok (.iaload, 1) := by decide +kernel
theorem d_W_law_227 : decode c_W_law 227 = .ok (.invokevirtual 45, 3) := by decide +kernel
theorem d_W_law_230 : decode c_W_law 230 = .ok (.aload_n 2, 1) := by decide +kernel
theorem d_W_law_231 : decode c_W_law 231 = .ok (.aload_n 0, 1) := by decide +kernel
theorem d_W_law_232 : decode c_W_law 232 = .ok (.iload_n 3, 1) := by decide +kernel
theorem d_W_law_233 : decode c_W_law 233 = .ok (.iconst 1, 1) := by decide +kernel
theorem d_W_law_234 : decode c_W_law 234 = .ok (.iadd, 1) := by decide +kernel
theorem d_W_law_235 : decode c_W_law 235 = .ok (.iaload, 1) := by decide +kernel
theorem d_W_law_236 : decode c_W_law 236 = .ok (.invokevirtual 49, 3) := by decide +kernel
theorem d_W_law_239 : decode c_W_law 239 = .ok (.if_icmp .eq 97, 3) := by decide +kernel
theorem d_W_law_242 : decode c_W_law 242 = .ok (.iconst 0, 1) := by decide +kernel
theorem d_W_law_243 : decode c_W_law 243 = .ok (.ireturn, 1) := by decide +kernel
theorem d_W_law_244 : decode c_W_law 244 = .ok (.aload_n 1, 1) := by decide +kernel
theorem d_W_law_245 : decode c_W_law 245 = .ok (.aload_n 0, 1) := by decide +kernel
theorem d_W_law_246 : decode c_W_law 246 = .ok (.iload_n 3, 1) := by decide +kernel
theorem d_W_law_247 : decode c_W_law 247 = .ok (.iconst 1, 1) := by decide +kernel
theorem d_W_law_248 : decode c_W_law 248 = .ok (.iadd, 1) := by decide +kernel
theorem d_W_law_249 : decode c_W_law 249 = .ok (.iaload, 1) := by decide +kernel
theorem d_W_law_250 : decode c_W_law 250 = .ok (.invokevirtual 50, 3) := by decide +kernel
theorem d_W_law_253 : decode c_W_law 253 = .ok (.aload_n 2, 1) := by decide +kernel
theorem d_W_law_254 : decode c_W_law 254 = .ok (.aload_n 0, 1) := by decide +kernel
theorem d_W_law_255 : decode c_W_law 255 = .ok (.iload_n 3, 1) := by decide +kernel
theorem d_W_law_256 : decode c_W_law 256 = .ok (.iconst 1, 1) := by decide +kernel
theorem d_W_law_257 : decode c_W_law 257 = .ok (.iadd, 1) := by decide +kernel
theorem d_W_law_258 : decode c_W_law 258 = .ok (.iaload, 1) := by decide +kernel
theorem d_W_law_259 : decode c_W_law 259 = .ok (.invokevirtual 54, 3) := by decide +kernel
theorem d_W_law_262 : decode c_W_law 262 = .ok (.if_icmp .eq 74, 3) := by decide +kernel
theorem d_W_law_265 : decode c_W_law 265 = .ok (.iconst 0, 1) := by decide +kernel
theorem d_W_law_266 : decode c_W_law 266 = .ok (.ireturn, 1) := by decide +kernel
theorem d_W_law_267 : decode c_W_law 267 = .ok (.aload_n 1, 1) := by decide +kernel
theorem d_W_law_268 : decode c_W_law 268 = .ok (.aload_n 0, 1) := by decide +kernel
theorem d_W_law_269 : decode c_W_law 269 = .ok (.iload_n 3, 1) := by decide +kernel
theorem d_W_law_270 : decode c_W_law 270 = .ok (.iconst 1, 1) := by decide +kernel
theorem d_W_law_271 : decode c_W_law 271 = .ok (.iadd, 1) := by decide +kernel
theorem d_W_law_272 : decode c_W_law 272 = .ok (.iaload, 1) := by decide +kernel
theorem d_W_law_273 : decode c_W_law 273 = .ok (.invokevirtual 55, 3) := by decide +kernel
theorem d_W_law_276 : decode c_W_law 276 = .ok (.aload_n 2, 1) := by decide +kernel
theorem d_W_law_277 : decode c_W_law 277 = .ok (.aload_n 0, 1) := by decide +kernel
theorem d_W_law_278 : decode c_W_law 278 = .ok (.iload_n 3, 1) := by decide +kernel
theorem d_W_law_279 : decode c_W_law 279 = .ok (.iconst 1, 1) := by decide +kernel
theorem d_W_law_280 : decode c_W_law 280 = .ok (.iadd, 1) := by decide +kernel
theorem d_W_law_281 : decode c_W_law 281 = .ok (.iaload, 1) := by decide +kernel
theorem d_W_law_282 : decode c_W_law 282 = .ok (.invokevirtual 58, 3) := by decide +kernel
theorem d_W_law_285 : decode c_W_law 285 = .ok (.if_icmp .eq 51, 3) := by decide +kernel
theorem d_W_law_288 : decode c_W_law 288 = .ok (.iconst 0, 1) := by decide +kernel
theorem d_W_law_289 : decode c_W_law 289 = .ok (.ireturn, 1) := by decide +kernel
theorem d_W_law_290 : decode c_W_law 290 = .ok (.aload_n 1, 1) := by decide +kernel
theorem d_W_law_291 : decode c_W_law 291 = .ok (.aload_n 0, 1) := by decide +kernel
theorem d_W_law_292 : decode c_W_law 292 = .ok (.iload_n 3, 1) := by decide +kernel
theorem d_W_law_293 : decode c_W_law 293 = .ok (.iconst 1, 1) := by decide +kernel
theorem d_W_law_294 : decode c_W_law 294 = .ok (.iadd, 1) := by decide +kernel
theorem d_W_law_295 : decode c_W_law 295 = .ok (.iaload, 1) := by decide +kernel
theorem d_W_law_296 : decode c_W_law 296 = .ok (.invokevirtual 59, 3) := by decide +kernel
theorem d_W_law_299 : decode c_W_law 299 = .ok (.aload_n 2, 1) := by decide +kernel
theorem d_W_law_300 : decode c_W_law 300 = .ok (.aload_n 0, 1) := by decide +kernel
theorem d_W_law_301 : decode c_W_law 301 = .ok (.iload_n 3, 1) := by decide +kernel
theorem d_W_law_302 : decode c_W_law 302 = .ok (.iconst 1, 1) := by decide +kernel
theorem d_W_law_303 : decode c_W_law 303 = .ok (.iadd, 1) := by decide +kernel
theorem d_W_law_304 : decode c_W_law 304 = .ok (.iaload, 1) := by decide +kernel
theorem d_W_law_305 : decode c_W_law 305 = .ok (.invokevirtual 62, 3) := by decide +kernel
theorem d_W_law_308 : decode c_W_law 308 = .ok (.if_icmp .eq 28, 3) := by decide +kernel
theorem d_W_law_311 : decode c_W_law 311 = .ok (.iconst 0, 1) := by decide +kernel
theorem d_W_law_312 : decode c_W_law 312 = .ok (.ireturn, 1) := by decide +kernel
theorem d_W_law_313 : decode c_W_law 313 = .ok (.aload_n 1, 1) := by decide +kernel
theorem d_W_law_314 : decode c_W_law 314 = .ok (.aload_n 0, 1) := by decide +kernel
theorem d_W_law_315 : decode c_W_law 315 = .ok (.iload_n 3, 1) := by decide +kernel
theorem d_W_law_316 : decode c_W_law 316 = .ok (.iconst 1, 1) := by decide +kernel
theorem d_W_law_317 : decode c_W_law 317 = .ok (.iadd, 1) := by decide +kernel
theorem d_W_law_318 : decode c_W_law 318 = .ok (.iaload, 1) := by decide +kernel
theorem d_W_law_319 : decode c_W_law 319 = .ok (.invokevirtual 63, 3) := by decide +kernel
theorem d_W_law_322 : decode c_W_law 322 = .ok (.aload_n 2, 1) := by decide +kernel
theorem d_W_law_323 : decode c_W_law 323 = .ok (.aload_n 0, 1) := by decide +kernel
theorem d_W_law_324 : decode c_W_law 324 = .ok (.iload_n 3, 1) := by decide +kernel
theorem d_W_law_325 : decode c_W_law 325 = .ok (.iconst 1, 1) := by decide +kernel
theorem d_W_law_326 : decode c_W_law 326 = .ok (.iadd, 1) := by decide +kernel
theorem d_W_law_327 : decode c_W_law 327 = .ok (.iaload, 1) := by decide +kernel
theorem d_W_law_328 : decode c_W_law 328 = .ok (.invokevirtual 66, 3) := by decide +kernel
theorem d_W_law_331 : decode c_W_law 331 = .ok (.if_icmp .eq 5, 3) := by decide +kernel
theorem d_W_law_334 : decode c_W_law 334 = .ok (.iconst 0, 1) := by decide +kernel
theorem d_W_law_335 : decode c_W_law 335 = .ok (.ireturn, 1) := by decide +kernel
theorem d_W_law_336 : decode c_W_law 336 = .ok (.iinc 3 5, 3) := by decide +kernel
theorem d_W_law_339 : decode c_W_law 339 = .ok (.goto (-311), 3) := by decide +kernel
theorem d_W_law_342 : decode c_W_law 342 = .ok (.iconst 1, 1) := by decide +kernel
theorem d_W_law_343 : decode c_W_law 343 = .ok (.ireturn, 1) := by decide +kernel
end
section
set_option maxHeartbeats 4000000 in
set_option maxRecDepth 100000 in
theorem m_D_isOn (l : Launch) (D : va_G) (B : Nat) (cA : Nat → ClassId) (sh : Nat → Nat) (V P : VV) (hon : V 267 1 = 0 ∨ V 267 1 = 1) : Met l y_D_isOn w_D_isOn ({ frames := 0, cells := 0, slots := 0, locals := 0 } : Room) (va_Pc [.ref (sh 267)] (JC D B cA sh (V, P))) (va_Qi (fun (r : Int32) (u : VV × VV) => (r, u.1, u.2) = (V 267 1, V, P)) (JC D B cA sh) (hm_A B)) 0 0 (hm_A B) := by
  refine Met.ofW (cc := c_D_isOn) (maxL := 1) (ret := (some FieldType.boolean)) (by decide) rfl ?_
  intro p e s m args below meth c s₁ Bd hml hv
  obtain ⟨rfl, hW, hK, hN⟩ := hv
  have hx := Bd.exec
  have hb := Bd.bytes
  have hr := Bd.returns
  have hts := atoms_spec (ws := w_D_isOn) Bd.pre
  have hT : ∀ w ∈ WG, w.before ([.ref (sh 267)] : List Value).toArray s = true := fun w h => hts w (List.mem_cons_of_mem _ h)
  have hown : s.vm.findClass "BlockVault$Disk" = some m.cls := findClass_of_methodNamed Bd.named
  have hlocks := Bd.notSynchronized
  have hW : JW D B cA sh V P s.heap := hW
  have hBs : B ≤ s.heap.size := hW.ge
  have hS : va_S (hm_A B) s.heap s.heap [] := va_S.rf
  have hl := lv_entry ([.ref (sh 267)]) (n := 1) (Nat.le_of_ble_eq_true rfl)
  rw [lg_entry_eq]
  generalize (lg_sl ([.ref (sh 267)]) ++ List.replicate (1 - (lg_sl ([.ref (sh 267)])).length) Slot.unset).toArray = ls at hl ⊢
  have hl : lv_has ls 1 [(0, .ref (sh 267))] := hl
  refine lv_aload_n hx hb d_D_isOn_0 rfl (lv_at hl 0 rfl) ?_
  refine va_get (D := D) (ci := 1) (v := .int (V 267 1)) (C := "BlockVault$Disk") (T := T_D) (N := 4) hx hb hT in_D hown hK (hW.obj rfl) 0 rfl rfl 1 (by decide) (hT _ k43) (fun _ h9 => h9) rfl d_D_isOn_1 ?_
  refine W.widen (k := 0) (n := 0) (by omega) (by omega) ?_
  exact W.zret (ty := .boolean) (v := (V 267 1)) hx hb hr (by rcases hon with h | h <;> rw [h] <;> rfl) (fun t9 ht9 hwz => ⟨⟨(V 267 1), (V, P), rfl, rfl, by rw [ht9]; exact hW, va_K.moved hwz.alike hK, hN.warm hwz⟩, hS.F ht9⟩) hS.2.2 d_D_isOn_4

set_option maxHeartbeats 4000000 in
set_option maxRecDepth 100000 in
theorem m_D_comeBack (l : Launch) (D : va_G) (B : Nat) (cA : Nat → ClassId) (sh : Nat → Nat) (V P : VV) : Met l y_D_comeBack w_D_comeBack ({ frames := 0, cells := 0, slots := 0, locals := 0 } : Room) (va_Pc [.ref (sh 267)] (JC D B cA sh (V, P))) (va_Qv (fun (u : VV × VV) => u = (v2 V 267 1 1, P)) (JC D B cA sh) (hm_A B)) 0 0 (hm_A B) := by
  refine Met.ofW (cc := c_D_comeBack) (maxL := 1) (ret := none) (by decide) rfl ?_
  intro p e s m args below meth c s₁ Bd hml hv
  obtain ⟨rfl, hW, hK, hN⟩ := hv
  have hx := Bd.exec
  have hb := Bd.bytes
  have hr := Bd.returns
  have hts := atoms_spec (ws := w_D_comeBack) Bd.pre
  have hT : ∀ w ∈ WG, w.before ([.ref (sh 267)] : List Value).toArray s = true := fun w h => hts w (List.mem_cons_of_mem _ h)
  have hown : s.vm.findClass "BlockVault$Disk" = some m.cls := findClass_of_methodNamed Bd.named
  have hlocks := Bd.notSynchronized
  have hW : JW D B cA sh V P s.heap := hW
  have hBs : B ≤ s.heap.size := hW.ge
  have hS : va_S (hm_A B) s.heap s.heap [] := va_S.rf
  have hl := lv_entry ([.ref (sh 267)]) (n := 1) (Nat.le_of_ble_eq_true rfl)
  rw [lg_entry_eq]
  generalize (lg_sl ([.ref (sh 267)]) ++ List.replicate (1 - (lg_sl ([.ref (sh 267)])).length) Slot.unset).toArray = ls at hl ⊢
  have hl : lv_has ls 1 [(0, .ref (sh 267))] := hl
  refine lv_aload_n hx hb d_D_comeBack_0 rfl (lv_at hl 0 rfl) ?_
  refine lv_iconst (v := 1) hx hb d_D_comeBack_1 (by decide) ?_
  refine jw_put (ci := 1) (x := 1) (ty := .boolean) (C := "BlockVault$Disk") (T := T_D) (N := 4) hx hb hT in_D t_D t_D_ok n_D hown hK hW hS rfl rfl 1 (by decide) rfl (hT _ k43) (fun _ h9 => h9) rfl (by decide +kernel) rfl rfl d_D_comeBack_2 (fun H locs hW hS => ?_)
  refine W.widen (k := 0) (n := 0) (by omega) (by omega) ?_
  exact W.vret hx hb hr (fun t9 ht9 hwz => ⟨⟨((v2 V 267 1 1), P), rfl, rfl, by rw [ht9]; exact hW, va_K.moved hwz.alike hK, hN.warm hwz⟩, hS.F ht9⟩) hS.2.2 d_D_comeBack_5

set_option maxHeartbeats 4000000 in
set_option maxRecDepth 100000 in
theorem m_D_goAfter (l : Launch) (D : va_G) (B : Nat) (cA : Nat → ClassId) (sh : Nat → Nat) (V P : VV) (k : Int32) : Met l y_D_goAfter w_D_goAfter ({ frames := 0, cells := 0, slots := 0, locals := 0 } : Room) (va_Pc [.ref (sh 267), .int k] (JC D B cA sh (V, P))) (va_Qv (fun (u : VV × VV) => u = (v2 V 267 2 k, P)) (JC D B cA sh) (hm_A B)) 0 0 (hm_A B) := by
  refine Met.ofW (cc := c_D_goAfter) (maxL := 2) (ret := none) (by decide) rfl ?_
  intro p e s m args below meth c s₁ Bd hml hv
  obtain ⟨rfl, hW, hK, hN⟩ := hv
  have hx := Bd.exec
  have hb := Bd.bytes
  have hr := Bd.returns
  have hts := atoms_spec (ws := w_D_goAfter) Bd.pre
  have hT : ∀ w ∈ WG, w.before ([.ref (sh 267), .int k] : List Value).toArray s = true := fun w h => hts w (List.mem_cons_of_mem _ h)
  have hown : s.vm.findClass "BlockVault$Disk" = some m.cls := findClass_of_methodNamed Bd.named
  have hlocks := Bd.notSynchronized
  have hW : JW D B cA sh V P s.heap := hW
  have hBs : B ≤ s.heap.size := hW.ge
  have hS : va_S (hm_A B) s.heap s.heap [] := va_S.rf
  have hl := lv_entry ([.ref (sh 267), .int k]) (n := 2) (Nat.le_of_ble_eq_true rfl)
  rw [lg_entry_eq]
  generalize (lg_sl ([.ref (sh 267), .int k]) ++ List.replicate (2 - (lg_sl ([.ref (sh 267), .int k])).length) Slot.unset).toArray = ls at hl ⊢
  have hl : lv_has ls 2 [(0, .ref (sh 267)), (1, .int k)] := hl
  refine lv_aload_n hx hb d_D_goAfter_0 rfl (lv_at hl 0 rfl) ?_
  refine lv_iload_n hx hb d_D_goAfter_1 rfl (lv_at hl 1 rfl) ?_
  refine jw_put (ci := 1) (x := k) (ty := .int) (C := "BlockVault$Disk") (T := T_D) (N := 4) hx hb hT in_D t_D t_D_ok n_D hown hK hW hS rfl rfl 2 (by decide) rfl (hT _ k44) (fun _ h9 => h9) rfl (by decide +kernel) rfl rfl d_D_goAfter_2 (fun H locs hW hS => ?_)
  refine W.widen (k := 0) (n := 0) (by omega) (by omega) ?_
  exact W.vret hx hb hr (fun t9 ht9 hwz => ⟨⟨((v2 V 267 2 k), P), rfl, rfl, by rw [ht9]; exact hW, va_K.moved hwz.alike hK, hN.warm hwz⟩, hS.F ht9⟩) hS.2.2 d_D_goAfter_5

set_option maxHeartbeats 4000000 in
set_option maxRecDepth 100000 in
theorem m_D_writesMade (l : Launch) (D : va_G) (B : Nat) (cA : Nat → ClassId) (sh : Nat → Nat) (V P : VV) : Met l y_D_writesMade w_D_writesMade ({ frames := 0, cells := 0, slots := 0, locals := 0 } : Room) (va_Pc [.ref (sh 267)] (JC D B cA sh (V, P))) (va_Qi (fun (r : Int32) (u : VV × VV) => (r, u.1, u.2) = (V 267 3, V, P)) (JC D B cA sh) (hm_A B)) 0 0 (hm_A B) := by
  refine Met.ofW (cc := c_D_writesMade) (maxL := 1) (ret := (some FieldType.int)) (by decide) rfl ?_
  intro p e s m args below meth c s₁ Bd hml hv
  obtain ⟨rfl, hW, hK, hN⟩ := hv
  have hx := Bd.exec
  have hb := Bd.bytes
  have hr := Bd.returns
  have hts := atoms_spec (ws := w_D_writesMade) Bd.pre
  have hT : ∀ w ∈ WG, w.before ([.ref (sh 267)] : List Value).toArray s = true := fun w h => hts w (List.mem_cons_of_mem _ h)
  have hown : s.vm.findClass "BlockVault$Disk" = some m.cls := findClass_of_methodNamed Bd.named
  have hlocks := Bd.notSynchronized
  have hW : JW D B cA sh V P s.heap := hW
  have hBs : B ≤ s.heap.size := hW.ge
  have hS : va_S (hm_A B) s.heap s.heap [] := va_S.rf
  have hl := lv_entry ([.ref (sh 267)]) (n := 1) (Nat.le_of_ble_eq_true rfl)
  rw [lg_entry_eq]
  generalize (lg_sl ([.ref (sh 267)]) ++ List.replicate (1 - (lg_sl ([.ref (sh 267)])).length) Slot.unset).toArray = ls at hl ⊢
  have hl : lv_has ls 1 [(0, .ref (sh 267))] := hl
  refine lv_aload_n hx hb d_D_writesMade_0 rfl (lv_at hl 0 rfl) ?_
  refine va_get (D := D) (ci := 1) (v := .int (V 267 3)) (C := "BlockVault$Disk") (T := T_D) (N := 4) hx hb hT in_D hown hK (hW.obj rfl) 0 rfl rfl 3 (by decide) (hT _ k45) (fun _ h9 => h9) rfl d_D_writesMade_1 ?_
  refine W.widen (k := 0) (n := 0) (by omega) (by omega) ?_
  exact W.iret (v := (V 267 3)) hx hb hr (fun t9 ht9 hwz => ⟨⟨(V 267 3), (V, P), rfl, rfl, by rw [ht9]; exact hW, va_K.moved hwz.alike hK, hN.warm hwz⟩, hS.F ht9⟩) hS.2.2 d_D_writesMade_4

set_option maxHeartbeats 4000000 in
set_option maxRecDepth 100000 in
theorem m_C_readsMade (l : Launch) (D : va_G) (B : Nat) (cA : Nat → ClassId) (sh : Nat → Nat) (V P : VV) : Met l y_C_readsMade w_C_readsMade ({ frames := 0, cells := 0, slots := 0, locals := 0 } : Room) (va_Pc [.ref (sh 268)] (JC D B cA sh (V, P))) (va_Qi (fun (r : Int32) (u : VV × VV) => (r, u.1, u.2) = (V 268 2, V, P)) (JC D B cA sh) (hm_A B)) 0 0 (hm_A B) := by
  refine Met.ofW (cc := c_C_readsMade) (maxL := 1) (ret := (some FieldType.int)) (by decide) rfl ?_
  intro p e s m args below meth c s₁ Bd hml hv
  obtain ⟨rfl, hW, hK, hN⟩ := hv
  have hx := Bd.exec
  have hb := Bd.bytes
  have hr := Bd.returns
  have hts := atoms_spec (ws := w_C_readsMade) Bd.pre
  have hT : ∀ w ∈ WG, w.before ([.ref (sh 268)] : List Value).toArray s = true := fun w h => hts w (List.mem_cons_of_mem _ h)
  have hown : s.vm.findClass "BlockVault$Cache" = some m.cls := findClass_of_methodNamed Bd.named
  have hlocks := Bd.notSynchronized
  have hW : JW D B cA sh V P s.heap := hW
  have hBs : B ≤ s.heap.size := hW.ge
  have hS : va_S (hm_A B) s.heap s.heap [] := va_S.rf
  have hl := lv_entry ([.ref (sh 268)]) (n := 1) (Nat.le_of_ble_eq_true rfl)
  rw [lg_entry_eq]
  generalize (lg_sl ([.ref (sh 268)]) ++ List.replicate (1 - (lg_sl ([.ref (sh 268)])).length) Slot.unset).toArray = ls at hl ⊢
  have hl : lv_has ls 1 [(0, .ref (sh 268))] := hl
  refine lv_aload_n hx hb d_C_readsMade_0 rfl (lv_at hl 0 rfl) ?_
  refine va_get (D := D) (ci := 0) (v := .int (V 268 2)) (C := "BlockVault$Cache") (T := T_C) (N := 3) hx hb hT in_C hown hK (hW.obj rfl) 0 rfl rfl 2 (by decide) (hT _ k100) (fun _ h9 => h9) rfl d_C_readsMade_1 ?_
  refine W.widen (k := 0) (n := 0) (by omega) (by omega) ?_
  exact W.iret (v := (V 268 2)) hx hb hr (fun t9 ht9 hwz => ⟨⟨(V 268 2), (V, P), rfl, rfl, by rw [ht9]; exact hW, va_K.moved hwz.alike hK, hN.warm hwz⟩, hS.F ht9⟩) hS.2.2 d_C_readsMade_4

set_option maxHeartbeats 4000000 in
set_option maxRecDepth 100000 in
theorem m_L_commitsCounted (l : Launch) (D : va_G) (B : Nat) (cA : Nat → ClassId) (sh : Nat → Nat) (V P : VV) : Met l y_L_commitsCounted w_L_commitsCounted ({ frames := 0, cells := 0, slots := 0, locals := 0 } : Room) (va_Pc [.ref (sh 269)] (JC D B cA sh (V, P))) (va_Qi (fun (r : Int32) (u : VV × VV) => (r, u.1, u.2) = (V 269 2, V, P)) (JC D B cA sh) (hm_A B)) 0 0 (hm_A B) := by
  refine Met.ofW (cc := c_L_commitsCounted) (maxL := 1) (ret := (some FieldType.int)) (by decide) rfl ?_
  intro p e s m args below meth c s₁ Bd hml hv
  obtain ⟨rfl, hW, hK, hN⟩ := hv
  have hx := Bd.exec
  have hb := Bd.bytes
  have hr := Bd.returns
  have hts := atoms_spec (ws := w_L_commitsCounted) Bd.pre
  have hT : ∀ w ∈ WG, w.before ([.ref (sh 269)] : List Value).toArray s = true := fun w h => hts w (List.mem_cons_of_mem _ h)
  have hown : s.vm.findClass "BlockVault$Log" = some m.cls := findClass_of_methodNamed Bd.named
  have hlocks := Bd.notSynchronized
  have hW : JW D B cA sh V P s.heap := hW
  have hBs : B ≤ s.heap.size := hW.ge
  have hS : va_S (hm_A B) s.heap s.heap [] := va_S.rf
  have hl := lv_entry ([.ref (sh 269)]) (n := 1) (Nat.le_of_ble_eq_true rfl)
  rw [lg_entry_eq]
  generalize (lg_sl ([.ref (sh 269)]) ++ List.replicate (1 - (lg_sl ([.ref (sh 269)])).length) Slot.unset).toArray = ls at hl ⊢
  have hl : lv_has ls 1 [(0, .ref (sh 269))] := hl
  refine lv_aload_n hx hb d_L_commitsCounted_0 rfl (lv_at hl 0 rfl) ?_
  refine va_get (D := D) (ci := 2) (v := .int (V 269 2)) (C := "BlockVault$Log") (T := T_L) (N := 3) hx hb hT in_L hown hK (hW.obj rfl) 0 rfl rfl 2 (by decide) (hT _ k118) (fun _ h9 => h9) rfl d_L_commitsCounted_1 ?_
  refine W.widen (k := 0) (n := 0) (by omega) (by omega) ?_
  exact W.iret (v := (V 269 2)) hx hb hr (fun t9 ht9 hwz => ⟨⟨(V 269 2), (V, P), rfl, rfl, by rw [ht9]; exact hW, va_K.moved hwz.alike hK, hN.warm hwz⟩, hS.F ht9⟩) hS.2.2 d_L_commitsCounted_4

set_option maxHeartbeats 4000000 in
set_option maxRecDepth 100000 in
theorem m_R_makeEmpty (l : Launch) (D : va_G) (B : Nat) (cA : Nat → ClassId) (sh : Nat → Nat) (V P : VV) (i : Nat) (hi : i < 34) : Met l y_R_makeEmpty w_R_makeEmpty ({ frames := 0, cells := 0, slots := 0, locals := 0 } : Room) (va_Pc [.ref (sh (232 + i))] (JC D B cA sh (V, P))) (va_Qv (fun (u : VV × VV) => u = (mEmp V i, P)) (JC D B cA sh) (hm_A B)) 0 0 (hm_A B) := by
  refine Met.ofW (cc := c_R_makeEmpty) (maxL := 1) (ret := none) (by decide) rfl ?_
  intro p e s m args below meth c s₁ Bd hml hv
  obtain ⟨rfl, hW, hK, hN⟩ := hv
  have hx := Bd.exec
  have hb := Bd.bytes
  have hr := Bd.returns
  have hts := atoms_spec (ws := w_R_makeEmpty) Bd.pre
  have hT : ∀ w ∈ WG, w.before ([.ref (sh (232 + i))] : List Value).toArray s = true := fun w h => hts w (List.mem_cons_of_mem _ h)
  have hown : s.vm.findClass "BlockVault$Row" = some m.cls := findClass_of_methodNamed Bd.named
  have hlocks := Bd.notSynchronized
  have hW : JW D B cA sh V P s.heap := hW
  have hBs : B ≤ s.heap.size := hW.ge
  have hS : va_S (hm_A B) s.heap s.heap [] := va_S.rf
  have hl := lv_entry ([.ref (sh (232 + i))]) (n := 1) (Nat.le_of_ble_eq_true rfl)
  rw [lg_entry_eq]
  generalize (lg_sl ([.ref (sh (232 + i))]) ++ List.replicate (1 - (lg_sl ([.ref (sh (232 + i))])).length) Slot.unset).toArray = ls at hl ⊢
  have hl : lv_has ls 1 [(0, .ref (sh (232 + i)))] := hl
  refine lv_aload_n hx hb d_R_makeEmpty_0 rfl (lv_at hl 0 rfl) ?_
  refine lv_iconst (v := (-1)) hx hb d_R_makeEmpty_1 (by decide) ?_
  refine jw_put (ci := 4) (x := (-1)) (ty := .int) (C := "BlockVault$Row") (T := T_R) (N := 5) hx hb hT in_R t_R t_R_ok n_R hown hK hW hS (lay_row hi) rfl 1 (by decide) rfl (hT _ k74) (fun _ h9 => h9) rfl (by decide +kernel) rfl rfl d_R_makeEmpty_2 (fun H locs hW hS => ?_)
  refine lv_aload_n hx hb d_R_makeEmpty_5 rfl (lv_at hl 0 rfl) ?_
  refine lv_iconst (v := 0) hx hb d_R_makeEmpty_6 (by decide) ?_
  refine jw_put (ci := 4) (x := 0) (ty := .int) (C := "BlockVault$Row") (T := T_R) (N := 5) hx hb hT in_R t_R t_R_ok n_R hown hK hW hS (lay_row hi) rfl 2 (by decide) rfl (hT _ k77) (fun _ h9 => h9) rfl (by decide +kernel) rfl rfl d_R_makeEmpty_7 (fun H locs hW hS => ?_)
  refine lv_aload_n hx hb d_R_makeEmpty_10 rfl (lv_at hl 0 rfl) ?_
  refine lv_iconst (v := 0) hx hb d_R_makeEmpty_11 (by decide) ?_
  refine jw_put (ci := 4) (x := 0) (ty := .boolean) (C := "BlockVault$Row") (T := T_R) (N := 5) hx hb hT in_R t_R t_R_ok n_R hown hK hW hS (lay_row hi) rfl 3 (by decide) rfl (hT _ k79) (fun _ h9 => h9) rfl (by decide +kernel) rfl rfl d_R_makeEmpty_12 (fun H locs hW hS => ?_)
  refine lv_aload_n hx hb d_R_makeEmpty_15 rfl (lv_at hl 0 rfl) ?_
  refine lv_iconst (v := 0) hx hb d_R_makeEmpty_16 (by decide) ?_
  refine jw_put (ci := 4) (x := 0) (ty := .boolean) (C := "BlockVault$Row") (T := T_R) (N := 5) hx hb hT in_R t_R t_R_ok n_R hown hK hW hS (lay_row hi) rfl 4 (by decide) rfl (hT _ k83) (fun _ h9 => h9) rfl (by decide +kernel) rfl rfl d_R_makeEmpty_17 (fun H locs hW hS => ?_)
  refine W.widen (k := 0) (n := 0) (by omega) (by omega) ?_
  exact W.vret hx hb hr (fun t9 ht9 hwz => ⟨⟨((v2 (v2 (v2 (v2 V (232 + i) 1 (-1)) (232 + i) 2 0) (232 + i) 3 0) (232 + i) 4 0), P), rfl, rfl, by rw [ht9]; exact hW, va_K.moved hwz.alike hK, hN.warm hwz⟩, hS.F ht9⟩) hS.2.2 d_R_makeEmpty_20

set_option maxHeartbeats 4000000 in
set_option maxRecDepth 100000 in
theorem m_R_givesWayBefore (l : Launch) (D : va_G) (B : Nat) (cA : Nat → ClassId) (sh : Nat → Nat) (V P : VV) (i j : Nat) (hi : i < 34) (hj : j < 34) (h3 : V (232 + j) 3 = 0 ∨ V (232 + j) 3 = 1) : Met l y_R_givesWayBefore w_R_givesWayBefore ({ frames := 0, cells := 0, slots := 0, locals := 0 } : Room) (va_Pc [.ref (sh (232 + i)), .ref (sh (232 + j))] (JC D B cA sh (V, P))) (va_Qi (fun (r : Int32) (u : VV × VV) => (r, u.1, u.2) = (mGW V i j, V, P)) (JC D B cA sh) (hm_A B)) 0 0 (hm_A B) := by
  refine Met.ofW (cc := c_R_givesWayBefore) (maxL := 2) (ret := (some FieldType.boolean)) (by decide) rfl ?_
  intro p e s m args below meth c s₁ Bd hml hv
  obtain ⟨rfl, hW, hK, hN⟩ := hv
  have hx := Bd.exec
  have hb := Bd.bytes
  have hr := Bd.returns
  have hts := atoms_spec (ws := w_R_givesWayBefore) Bd.pre
  have hT : ∀ w ∈ WG, w.before ([.ref (sh (232 + i)), .ref (sh (232 + j))] : List Value).toArray s = true := fun w h => hts w (List.mem_cons_of_mem _ h)
  have hown : s.vm.findClass "BlockVault$Row" = some m.cls := findClass_of_methodNamed Bd.named
  have hlocks := Bd.notSynchronized
  have hW : JW D B cA sh V P s.heap := hW
  have hBs : B ≤ s.heap.size := hW.ge
  have hS : va_S (hm_A B) s.heap s.heap [] := va_S.rf
  have hl := lv_entry ([.ref (sh (232 + i)), .ref (sh (232 + j))]) (n := 2) (Nat.le_of_ble_eq_true rfl)
  rw [lg_entry_eq]
  generalize (lg_sl ([.ref (sh (232 + i)), .ref (sh (232 + j))]) ++ List.replicate (2 - (lg_sl ([.ref (sh (232 + i)), .ref (sh (232 + j))])).length) Slot.unset).toArray = ls at hl ⊢
  have hl : lv_has ls 2 [(0, .ref (sh (232 + i))), (1, .ref (sh (232 + j)))] := hl
  refine lv_aload_n hx hb d_R_givesWayBefore_0 rfl (lv_at hl 0 rfl) ?_
  refine va_get (D := D) (ci := 4) (v := .int (V (232 + i) 3)) (C := "BlockVault$Row") (T := T_R) (N := 5) hx hb hT in_R hown hK (hW.obj (lay_row hi)) 0 rfl rfl 3 (by decide) (hT _ k79) (fun _ h9 => h9) rfl d_R_givesWayBefore_1 ?_
  refine lv_aload_n hx hb d_R_givesWayBefore_4 rfl (lv_at hl 1 rfl) ?_
  refine va_get (D := D) (ci := 4) (v := .int (V (232 + j) 3)) (C := "BlockVault$Row") (T := T_R) (N := 5) hx hb hT in_R hown hK (hW.obj (lay_row hj)) 0 rfl rfl 3 (by decide) (hT _ k79) (fun _ h9 => h9) rfl d_R_givesWayBefore_5 ?_
  refine lv_icmp_eq (tgt := 16) hx hb d_R_givesWayBefore_8 (by decide) (fun c1 => ?_) (fun c1 => ?_)
  · refine lv_aload_n hx hb d_R_givesWayBefore_16 rfl (lv_at hl 0 rfl) ?_
    refine va_get (D := D) (ci := 4) (v := .int (V (232 + i) 2)) (C := "BlockVault$Row") (T := T_R) (N := 5) hx hb hT in_R hown hK (hW.obj (lay_row hi)) 0 rfl rfl 2 (by decide) (hT _ k77) (fun _ h9 => h9) rfl d_R_givesWayBefore_17 ?_
    refine lv_aload_n hx hb d_R_givesWayBefore_20 rfl (lv_at hl 1 rfl) ?_
    refine va_get (D := D) (ci := 4) (v := .int (V (232 + j) 2)) (C := "BlockVault$Row") (T := T_R) (N := 5) hx hb hT in_R hown hK (hW.obj (lay_row hj)) 0 rfl rfl 2 (by decide) (hT _ k77) (fun _ h9 => h9) rfl d_R_givesWayBefore_21 ?_
    refine lv_icmp_ge (tgt := 31) hx hb d_R_givesWayBefore_24 (by decide) (fun c2 => ?_) (fun c2 => ?_)
    · refine lv_iconst (v := 0) hx hb d_R_givesWayBefore_31 (by decide) ?_
      refine W.widen (k := 0) (n := 0) (by omega) (by omega) ?_
      exact W.zret (ty := .boolean) (v := 0) hx hb hr rfl (fun t9 ht9 hwz => ⟨⟨0, (V, P), rfl, (by simp [mGW, c1, c2]), by rw [ht9]; exact hW, va_K.moved hwz.alike hK, hN.warm hwz⟩, hS.F ht9⟩) hS.2.2 d_R_givesWayBefore_32
    · refine lv_iconst (v := 1) hx hb d_R_givesWayBefore_27 (by decide) ?_
      refine lv_goto (tgt := 32) hx hb d_R_givesWayBefore_28 (by decide) ?_
      refine W.widen (k := 0) (n := 0) (by omega) (by omega) ?_
      exact W.zret (ty := .boolean) (v := 1) hx hb hr rfl (fun t9 ht9 hwz => ⟨⟨1, (V, P), rfl, (by simp [mGW, c1, c2]), by rw [ht9]; exact hW, va_K.moved hwz.alike hK, hN.warm hwz⟩, hS.F ht9⟩) hS.2.2 d_R_givesWayBefore_32
  · refine lv_aload_n hx hb d_R_givesWayBefore_11 rfl (lv_at hl 1 rfl) ?_
    refine va_get (D := D) (ci := 4) (v := .int (V (232 + j) 3)) (C := "BlockVault$Row") (T := T_R) (N := 5) hx hb hT in_R hown hK (hW.obj (lay_row hj)) 0 rfl rfl 3 (by decide) (hT _ k79) (fun _ h9 => h9) rfl d_R_givesWayBefore_12 ?_
    refine W.widen (k := 0) (n := 0) (by omega) (by omega) ?_
    exact W.zret (ty := .boolean) (v := (V (232 + j) 3)) hx hb hr (by rcases h3 with h | h <;> rw [h] <;> rfl) (fun t9 ht9 hwz => ⟨⟨(V (232 + j) 3), (V, P), rfl, (by simp [mGW, c1]), by rw [ht9]; exact hW, va_K.moved hwz.alike hK, hN.warm hwz⟩, hS.F ht9⟩) hS.2.2 d_R_givesWayBefore_15

set_option maxHeartbeats 4000000 in
set_option maxRecDepth 100000 in
theorem m_V_isBlock (l : Launch) (D : va_G) (B : Nat) (cA : Nat → ClassId) (sh : Nat → Nat) (V P : VV) (b : Int32) : Met l y_V_isBlock w_V_isBlock ({ frames := 0, cells := 0, slots := 0, locals := 0 } : Room) (va_Pc [.ref (sh 266), .int b] (JC D B cA sh (V, P))) (va_Qi (fun (r : Int32) (u : VV × VV) => (r, u.1, u.2) = (if mIsBlock V b then 1 else 0, V, P)) (JC D B cA sh) (hm_A B)) 0 0 (hm_A B) := by
  refine Met.ofW (cc := c_V_isBlock) (maxL := 3) (ret := (some FieldType.boolean)) (by decide) rfl ?_
  intro p e s m args below meth c s₁ Bd hml hv
  obtain ⟨rfl, hW, hK, hN⟩ := hv
  have hx := Bd.exec
  have hb := Bd.bytes
  have hr := Bd.returns
  have hts := atoms_spec (ws := w_V_isBlock) Bd.pre
  have hT : ∀ w ∈ WG, w.before ([.ref (sh 266), .int b] : List Value).toArray s = true := fun w h => hts w (List.mem_cons_of_mem _ h)
  have hown : s.vm.findClass "BlockVault" = some m.cls := findClass_of_methodNamed Bd.named
  have hlocks := Bd.notSynchronized
  have hW : JW D B cA sh V P s.heap := hW
  have hBs : B ≤ s.heap.size := hW.ge
  have hS : va_S (hm_A B) s.heap s.heap [] := va_S.rf
  have hl := lv_entry ([.ref (sh 266), .int b]) (n := 3) (Nat.le_of_ble_eq_true rfl)
  rw [lg_entry_eq]
  generalize (lg_sl ([.ref (sh 266), .int b]) ++ List.replicate (3 - (lg_sl ([.ref (sh 266), .int b])).length) Slot.unset).toArray = ls at hl ⊢
  have hl : lv_has ls 3 [(0, .ref (sh 266)), (1, .int b)] := hl
  refine lv_iload_n hx hb d_V_isBlock_0 rfl (lv_at hl 1 rfl) ?_
  refine lv_iconst (v := 2) hx hb d_V_isBlock_1 (by decide) ?_
  refine lv_icmp_lt (tgt := 15) hx hb d_V_isBlock_2 (by decide) (fun c1 => ?_) (fun c1 => ?_)
  · refine lv_iconst (v := 0) hx hb d_V_isBlock_15 (by decide) ?_
    refine lv_istore_n (lv' := [(2, .int 0), (0, .ref (sh 266)), (1, .int b)]) hx hb d_V_isBlock_16 rfl hl (by decide) rfl (fun ls hl => ?_)
    refine lv_iload_n hx hb d_V_isBlock_17 rfl (lv_at hl 2 rfl) ?_
    refine lv_if_lt (tgt := 37) hx hb d_V_isBlock_18 (by decide) (fun c2 => ?_) (fun c2 => ?_)
    · refine lv_iconst (v := 0) hx hb d_V_isBlock_37 (by decide) ?_
      refine W.widen (k := 0) (n := 0) (by omega) (by omega) ?_
      exact W.zret (ty := .boolean) (v := 0) hx hb hr rfl (fun t9 ht9 hwz => ⟨⟨0, (V, P), rfl, (by simp [mIsBlock, c1, c2]), by rw [ht9]; exact hW, va_K.moved hwz.alike hK, hN.warm hwz⟩, hS.F ht9⟩) hS.2.2 d_V_isBlock_38
    · refine lv_iload_n hx hb d_V_isBlock_21 rfl (lv_at hl 2 rfl) ?_
      refine lv_aload_n hx hb d_V_isBlock_22 rfl (lv_at hl 1 rfl) ?_
      refine va_get (D := D) (ci := 5) (v := .int (V 266 0)) (C := "BlockVault") (T := T_V) (N := 5) hx hb hT in_V hown hK (hW.obj rfl) 0 rfl rfl 0 (by decide) (hT _ k126) (fun _ h9 => h9) rfl d_V_isBlock_23 ?_
      refine lv_icmp_ge (tgt := 37) hx hb d_V_isBlock_26 (by decide) (fun c3 => ?_) (fun c3 => ?_)
      · refine lv_iconst (v := 0) hx hb d_V_isBlock_37 (by decide) ?_
        refine W.widen (k := 0) (n := 0) (by omega) (by omega) ?_
        exact W.zret (ty := .boolean) (v := 0) hx hb hr rfl (fun t9 ht9 hwz => ⟨⟨0, (V, P), rfl, (by simp [mIsBlock, c1, c2, c3]), by rw [ht9]; exact hW, va_K.moved hwz.alike hK, hN.warm hwz⟩, hS.F ht9⟩) hS.2.2 d_V_isBlock_38
      · refine lv_iload_n hx hb d_V_isBlock_29 rfl (lv_at hl 0 rfl) ?_
        refine lv_if_ne (tgt := 37) hx hb d_V_isBlock_30 (by decide) (fun c4 => ?_) (fun c4 => ?_)
        · exact absurd rfl c4
        · refine lv_iconst (v := 1) hx hb d_V_isBlock_33 (by decide) ?_
          refine lv_goto (tgt := 38) hx hb d_V_isBlock_34 (by decide) ?_
          refine W.widen (k := 0) (n := 0) (by omega) (by omega) ?_
          exact W.zret (ty := .boolean) (v := 1) hx hb hr rfl (fun t9 ht9 hwz => ⟨⟨1, (V, P), rfl, (by simp [mIsBlock, c1, c2, c3, c4]), by rw [ht9]; exact hW, va_K.moved hwz.alike hK, hN.warm hwz⟩, hS.F ht9⟩) hS.2.2 d_V_isBlock_38
  · refine lv_iload_n hx hb d_V_isBlock_5 rfl (lv_at hl 1 rfl) ?_
    refine lv_bipush (v := 32) hx hb d_V_isBlock_6 (by decide) ?_
    refine lv_icmp_gt (tgt := 15) hx hb d_V_isBlock_8 (by decide) (fun c5 => ?_) (fun c5 => ?_)
    · refine lv_iconst (v := 0) hx hb d_V_isBlock_15 (by decide) ?_
      refine lv_istore_n (lv' := [(2, .int 0), (0, .ref (sh 266)), (1, .int b)]) hx hb d_V_isBlock_16 rfl hl (by decide) rfl (fun ls hl => ?_)
      refine lv_iload_n hx hb d_V_isBlock_17 rfl (lv_at hl 2 rfl) ?_
      refine lv_if_lt (tgt := 37) hx hb d_V_isBlock_18 (by decide) (fun c6 => ?_) (fun c6 => ?_)
      · refine lv_iconst (v := 0) hx hb d_V_isBlock_37 (by decide) ?_
        refine W.widen (k := 0) (n := 0) (by omega) (by omega) ?_
        exact W.zret (ty := .boolean) (v := 0) hx hb hr rfl (fun t9 ht9 hwz => ⟨⟨0, (V, P), rfl, (by simp [mIsBlock, c1, c5, c6]), by rw [ht9]; exact hW, va_K.moved hwz.alike hK, hN.warm hwz⟩, hS.F ht9⟩) hS.2.2 d_V_isBlock_38
      · refine lv_iload_n hx hb d_V_isBlock_21 rfl (lv_at hl 2 rfl) ?_
        refine lv_aload_n hx hb d_V_isBlock_22 rfl (lv_at hl 1 rfl) ?_
        refine va_get (D := D) (ci := 5) (v := .int (V 266 0)) (C := "BlockVault") (T := T_V) (N := 5) hx hb hT in_V hown hK (hW.obj rfl) 0 rfl rfl 0 (by decide) (hT _ k126) (fun _ h9 => h9) rfl d_V_isBlock_23 ?_
        refine lv_icmp_ge (tgt := 37) hx hb d_V_isBlock_26 (by decide) (fun c7 => ?_) (fun c7 => ?_)
        · refine lv_iconst (v := 0) hx hb d_V_isBlock_37 (by decide) ?_
          refine W.widen (k := 0) (n := 0) (by omega) (by omega) ?_
          exact W.zret (ty := .boolean) (v := 0) hx hb hr rfl (fun t9 ht9 hwz => ⟨⟨0, (V, P), rfl, (by simp [mIsBlock, c1, c5, c6, c7]), by rw [ht9]; exact hW, va_K.moved hwz.alike hK, hN.warm hwz⟩, hS.F ht9⟩) hS.2.2 d_V_isBlock_38
        · refine lv_iload_n hx hb d_V_isBlock_29 rfl (lv_at hl 0 rfl) ?_
          refine lv_if_ne (tgt := 37) hx hb d_V_isBlock_30 (by decide) (fun c8 => ?_) (fun c8 => ?_)
          · exact absurd rfl c8
          · refine lv_iconst (v := 1) hx hb d_V_isBlock_33 (by decide) ?_
            refine lv_goto (tgt := 38) hx hb d_V_isBlock_34 (by decide) ?_
            refine W.widen (k := 0) (n := 0) (by omega) (by omega) ?_
            exact W.zret (ty := .boolean) (v := 1) hx hb hr rfl (fun t9 ht9 hwz => ⟨⟨1, (V, P), rfl, (by simp [mIsBlock, c1, c5, c6, c7, c8]), by rw [ht9]; exact hW, va_K.moved hwz.alike hK, hN.warm hwz⟩, hS.F ht9⟩) hS.2.2 d_V_isBlock_38
    · refine lv_iconst (v := 1) hx hb d_V_isBlock_11 (by decide) ?_
      refine lv_goto (tgt := 16) hx hb d_V_isBlock_12 (by decide) ?_
      refine lv_istore_n (lv' := [(2, .int 1), (0, .ref (sh 266)), (1, .int b)]) hx hb d_V_isBlock_16 rfl hl (by decide) rfl (fun ls hl => ?_)
      refine lv_iload_n hx hb d_V_isBlock_17 rfl (lv_at hl 2 rfl) ?_
      refine lv_if_lt (tgt := 37) hx hb d_V_isBlock_18 (by decide) (fun c9 => ?_) (fun c9 => ?_)
      · refine lv_iconst (v := 0) hx hb d_V_isBlock_37 (by decide) ?_
        refine W.widen (k := 0) (n := 0) (by omega) (by omega) ?_
        exact W.zret (ty := .boolean) (v := 0) hx hb hr rfl (fun t9 ht9 hwz => ⟨⟨0, (V, P), rfl, (by simp [mIsBlock, c1, c5, c9]), by rw [ht9]; exact hW, va_K.moved hwz.alike hK, hN.warm hwz⟩, hS.F ht9⟩) hS.2.2 d_V_isBlock_38
      · refine lv_iload_n hx hb d_V_isBlock_21 rfl (lv_at hl 2 rfl) ?_
        refine lv_aload_n hx hb d_V_isBlock_22 rfl (lv_at hl 1 rfl) ?_
        refine va_get (D := D) (ci := 5) (v := .int (V 266 0)) (C := "BlockVault") (T := T_V) (N := 5) hx hb hT in_V hown hK (hW.obj rfl) 0 rfl rfl 0 (by decide) (hT _ k126) (fun _ h9 => h9) rfl d_V_isBlock_23 ?_
        refine lv_icmp_ge (tgt := 37) hx hb d_V_isBlock_26 (by decide) (fun c10 => ?_) (fun c10 => ?_)
        · refine lv_iconst (v := 0) hx hb d_V_isBlock_37 (by decide) ?_
          refine W.widen (k := 0) (n := 0) (by omega) (by omega) ?_
          exact W.zret (ty := .boolean) (v := 0) hx hb hr rfl (fun t9 ht9 hwz => ⟨⟨0, (V, P), rfl, (by simp [mIsBlock, c1, c5, c9, c10]), by rw [ht9]; exact hW, va_K.moved hwz.alike hK, hN.warm hwz⟩, hS.F ht9⟩) hS.2.2 d_V_isBlock_38
        · refine lv_iload_n hx hb d_V_isBlock_29 rfl (lv_at hl 0 rfl) ?_
          refine lv_if_ne (tgt := 37) hx hb d_V_isBlock_30 (by decide) (fun c11 => ?_) (fun c11 => ?_)
          · refine lv_iconst (v := 0) hx hb d_V_isBlock_37 (by decide) ?_
            refine W.widen (k := 0) (n := 0) (by omega) (by omega) ?_
            exact W.zret (ty := .boolean) (v := 0) hx hb hr rfl (fun t9 ht9 hwz => ⟨⟨0, (V, P), rfl, (by simp [mIsBlock, c1, c5, c9, c10, c11]), by rw [ht9]; exact hW, va_K.moved hwz.alike hK, hN.warm hwz⟩, hS.F ht9⟩) hS.2.2 d_V_isBlock_38
          · exact absurd c11 (by decide)

set_option maxHeartbeats 4000000 in
set_option maxRecDepth 100000 in
theorem m_V_isRun (l : Launch) (D : va_G) (B : Nat) (cA : Nat → ClassId) (sh : Nat → Nat) (V P : VV) (k n : Int32) : Met l y_V_isRun w_V_isRun ({ frames := 0, cells := 0, slots := 0, locals := 0 } : Room) (va_Pc [.int k, .int n] (JC D B cA sh (V, P))) (va_Qi (fun (r : Int32) (u : VV × VV) => (r, u.1, u.2) = (if mIsRun k n then 1 else 0, V, P)) (JC D B cA sh) (hm_A B)) 0 0 (hm_A B) := by
  refine Met.ofW (cc := c_V_isRun) (maxL := 2) (ret := (some FieldType.boolean)) (by decide) rfl ?_
  intro p e s m args below meth c s₁ Bd hml hv
  obtain ⟨rfl, hW, hK, hN⟩ := hv
  have hx := Bd.exec
  have hb := Bd.bytes
  have hr := Bd.returns
  have hts := atoms_spec (ws := w_V_isRun) Bd.pre
  have hT : ∀ w ∈ WG, w.before ([.int k, .int n] : List Value).toArray s = true := fun w h => hts w (List.mem_cons_of_mem _ h)
  have hown : s.vm.findClass "BlockVault" = some m.cls := findClass_of_methodNamed Bd.named
  have hlocks := Bd.notSynchronized
  have hW : JW D B cA sh V P s.heap := hW
  have hBs : B ≤ s.heap.size := hW.ge
  have hS : va_S (hm_A B) s.heap s.heap [] := va_S.rf
  have hl := lv_entry ([.int k, .int n]) (n := 2) (Nat.le_of_ble_eq_true rfl)
  rw [lg_entry_eq]
  generalize (lg_sl ([.int k, .int n]) ++ List.replicate (2 - (lg_sl ([.int k, .int n])).length) Slot.unset).toArray = ls at hl ⊢
  have hl : lv_has ls 2 [(0, .int k), (1, .int n)] := hl
  refine lv_iload_n hx hb d_V_isRun_0 rfl (lv_at hl 1 rfl) ?_
  refine lv_iconst (v := 1) hx hb d_V_isRun_1 (by decide) ?_
  refine lv_icmp_lt (tgt := 29) hx hb d_V_isRun_2 (by decide) (fun c1 => ?_) (fun c1 => ?_)
  · refine lv_iconst (v := 0) hx hb d_V_isRun_29 (by decide) ?_
    refine W.widen (k := 0) (n := 0) (by omega) (by omega) ?_
    exact W.zret (ty := .boolean) (v := 0) hx hb hr rfl (fun t9 ht9 hwz => ⟨⟨0, (V, P), rfl, (by simp [mIsRun, c1]), by rw [ht9]; exact hW, va_K.moved hwz.alike hK, hN.warm hwz⟩, hS.F ht9⟩) hS.2.2 d_V_isRun_30
  · refine lv_iload_n hx hb d_V_isRun_5 rfl (lv_at hl 1 rfl) ?_
    refine lv_sipush (v := 1024) hx hb d_V_isRun_6 (by decide) ?_
    refine lv_icmp_gt (tgt := 29) hx hb d_V_isRun_9 (by decide) (fun c2 => ?_) (fun c2 => ?_)
    · refine lv_iconst (v := 0) hx hb d_V_isRun_29 (by decide) ?_
      refine W.widen (k := 0) (n := 0) (by omega) (by omega) ?_
      exact W.zret (ty := .boolean) (v := 0) hx hb hr rfl (fun t9 ht9 hwz => ⟨⟨0, (V, P), rfl, (by simp [mIsRun, c1, c2]), by rw [ht9]; exact hW, va_K.moved hwz.alike hK, hN.warm hwz⟩, hS.F ht9⟩) hS.2.2 d_V_isRun_30
    · refine lv_iload_n hx hb d_V_isRun_12 rfl (lv_at hl 0 rfl) ?_
      refine lv_if_lt (tgt := 29) hx hb d_V_isRun_13 (by decide) (fun c3 => ?_) (fun c3 => ?_)
      · refine lv_iconst (v := 0) hx hb d_V_isRun_29 (by decide) ?_
        refine W.widen (k := 0) (n := 0) (by omega) (by omega) ?_
        exact W.zret (ty := .boolean) (v := 0) hx hb hr rfl (fun t9 ht9 hwz => ⟨⟨0, (V, P), rfl, (by simp [mIsRun, c1, c2, c3]), by rw [ht9]; exact hW, va_K.moved hwz.alike hK, hN.warm hwz⟩, hS.F ht9⟩) hS.2.2 d_V_isRun_30
      · refine lv_iload_n hx hb d_V_isRun_16 rfl (lv_at hl 0 rfl) ?_
        refine lv_sipush (v := 1024) hx hb d_V_isRun_17 (by decide) ?_
        refine lv_iload_n hx hb d_V_isRun_20 rfl (lv_at hl 1 rfl) ?_
        refine lv_isub hx hb d_V_isRun_21 ?_
        refine lv_icmp_gt (tgt := 29) hx hb d_V_isRun_22 (by decide) (fun c4 => ?_) (fun c4 => ?_)
        · refine lv_iconst (v := 0) hx hb d_V_isRun_29 (by decide) ?_
          refine W.widen (k := 0) (n := 0) (by omega) (by omega) ?_
          exact W.zret (ty := .boolean) (v := 0) hx hb hr rfl (fun t9 ht9 hwz => ⟨⟨0, (V, P), rfl, (by simp [mIsRun, c1, c2, c3, c4]), by rw [ht9]; exact hW, va_K.moved hwz.alike hK, hN.warm hwz⟩, hS.F ht9⟩) hS.2.2 d_V_isRun_30
        · refine lv_iconst (v := 1) hx hb d_V_isRun_25 (by decide) ?_
          refine lv_goto (tgt := 30) hx hb d_V_isRun_26 (by decide) ?_
          refine W.widen (k := 0) (n := 0) (by omega) (by omega) ?_
          exact W.zret (ty := .boolean) (v := 1) hx hb hr rfl (fun t9 ht9 hwz => ⟨⟨1, (V, P), rfl, (by simp [mIsRun, c1, c2, c3, c4]), by rw [ht9]; exact hW, va_K.moved hwz.alike hK, hN.warm hwz⟩, hS.F ht9⟩) hS.2.2 d_V_isRun_30
end
section
theorem t3 {r a : Int32} {V1 V P1 P : VV} (h : (r, V1, P1) = (a, V, P)) : a = r ∧ V = V1 ∧ P = P1 := by
  cases h
  exact ⟨rfl, rfl, rfl⟩
theorem tq {V1 V P1 P : VV} (h : (V1, P1) = (V, P)) : V = V1 ∧ P = P1 := by
  cases h
  exact ⟨rfl, rfl⟩

set_option maxHeartbeats 4000000 in
set_option maxRecDepth 100000 in
theorem m_C_heldRows (l : Launch) (D : va_G) (B : Nat) (cA : Nat → ClassId) (sh : Nat → Nat) (V P : VV) : Met l y_C_heldRows w_C_heldRows ({ frames := 0, cells := 0, slots := 0, locals := 0 } : Room) (va_Pc [.ref (sh 268)] (JC D B cA sh (V, P))) (va_Qi (fun (r : Int32) (u : VV × VV) => (r, u.1, u.2) = (mCnt V 3, V, P)) (JC D B cA sh) (hm_A B)) 0 0 (hm_A B) := by
  refine Met.ofW (cc := c_C_heldRows) (maxL := 6) (ret := (some FieldType.int)) (by decide) rfl ?_
  intro p e s m args below meth c s₁ Bd hml hv
  obtain ⟨rfl, hW, hK, hN⟩ := hv
  have hx := Bd.exec
  have hb := Bd.bytes
  have hr := Bd.returns
  have hts := atoms_spec (ws := w_C_heldRows) Bd.pre
  have hT : ∀ w ∈ WG, w.before ([.ref (sh 268)] : List Value).toArray s = true := fun w h => hts w (List.mem_cons_of_mem _ h)
  have hown : s.vm.findClass "BlockVault$Cache" = some m.cls := findClass_of_methodNamed Bd.named
  have hlocks := Bd.notSynchronized
  have hW : JW D B cA sh V P s.heap := hW
  have hBs : B ≤ s.heap.size := hW.ge
  have hS : va_S (hm_A B) s.heap s.heap [] := va_S.rf
  have hl := lv_entry ([.ref (sh 268)]) (n := 6) (Nat.le_of_ble_eq_true rfl)
  rw [lg_entry_eq]
  generalize (lg_sl ([.ref (sh 268)]) ++ List.replicate (6 - (lg_sl ([.ref (sh 268)])).length) Slot.unset).toArray = ls at hl ⊢
  have hl : lv_has ls 6 [(0, .ref (sh 268))] := hl
  refine lv_iconst (v := 0) hx hb d_C_heldRows_0 (by decide) ?_
  refine lv_istore_n (lv' := [(1, .int 0), (0, .ref (sh 268))]) hx hb d_C_heldRows_1 rfl hl (by decide) rfl (fun ls hl => ?_)
  refine lv_aload_n hx hb d_C_heldRows_2 rfl (lv_at hl 1 rfl) ?_
  refine va_get (D := D) (ci := 0) (v := .ref (sh 271)) (C := "BlockVault$Cache") (T := T_C) (N := 3) hx hb hT in_C hown hK (hW.obj rfl) 0 rfl rfl 0 (by decide) (hT _ k97) (fun _ h9 => h9) rfl d_C_heldRows_3 ?_
  refine lv_astore_n (lv' := [(2, .ref (sh 271)), (1, .int 0), (0, .ref (sh 268))]) hx hb d_C_heldRows_6 rfl hl (by decide) rfl (fun ls hl => ?_)
  refine lv_aload_n hx hb d_C_heldRows_7 rfl (lv_at hl 0 rfl) ?_
  refine jw_alenR hx hb hK hW d_C_heldRows_8 ?_
  refine lv_istore_n (lv' := [(3, .int 34), (2, .ref (sh 271)), (1, .int 0), (0, .ref (sh 268))]) hx hb d_C_heldRows_9 rfl hl (by decide) rfl (fun ls hl => ?_)
  refine lv_iconst (v := 0) hx hb d_C_heldRows_10 (by decide) ?_
  refine lv_istore (lv' := [(4, .int 0), (3, .int 34), (2, .ref (sh 271)), (1, .int 0), (0, .ref (sh 268))]) hx hb d_C_heldRows_11 hl (by decide) rfl (fun ls hl => ?_)
  have loop : ∀ (n i : Nat) (a : Int32) (H : Heap) (locs : List Loc) (ls : Array Slot), i + n = 34 → (cR V 3 n i a = mCnt V 3) → JW D B cA sh V P H → va_S (hm_A B) s.heap H locs → lv_has ls 6 [(4, .int (nI i)), (3, .int 34), (2, .ref (sh 271)), (1, .int a), (0, .ref (sh 268))] → W p l e (headSpec w_C_heldRows ({ frames := 0, cells := 0, slots := 0, locals := 0 } : Room)).room s m ([.ref (sh 268)] : List Value).toArray below meth c H locs 0 0 (MQ below (va_Qi (fun (r : Int32) (u : VV × VV) => (r, u.1, u.2) = (mCnt V 3, V, P)) (JC D B cA sh) (hm_A B)) ([.ref (sh 268)] : List Value).toArray s 0 0 (hm_A B)) (F0 m 13 ls []) := by
    intro n
    induction n with
    | zero =>
      intro i a H locs ls hin hinv hW hS hl
      obtain rfl : i = 34 := by omega
      refine lv_iload hx hb d_C_heldRows_13 (lv_at hl 0 rfl) ?_
      refine lv_iload_n hx hb d_C_heldRows_15 rfl (lv_at hl 1 rfl) ?_
      refine lv_icmp_ge (tgt := 42) hx hb d_C_heldRows_16 (by decide) (fun c1 => ?_) (fun c1 => ?_)
      · refine lv_iload_n hx hb d_C_heldRows_42 rfl (lv_at hl 3 rfl) ?_
        refine W.widen (k := 0) (n := 0) (by omega) (by omega) ?_
        exact W.iret (v := a) hx hb hr (fun t9 ht9 hwz => ⟨⟨a, (V, P), rfl, (by rw [← hinv]; rfl), by rw [ht9]; exact hW, va_K.moved hwz.alike hK, hN.warm hwz⟩, hS.F ht9⟩) hS.2.2 d_C_heldRows_43
      · exact absurd (by decide) c1
    | succ n ih =>
      intro i a H locs ls hin hinv hW hS hl
      have hi : i < 34 := by omega
      refine lv_iload hx hb d_C_heldRows_13 (lv_at hl 0 rfl) ?_
      refine lv_iload_n hx hb d_C_heldRows_15 rfl (lv_at hl 1 rfl) ?_
      refine lv_icmp_ge (tgt := 42) hx hb d_C_heldRows_16 (by decide) (fun c2 => ?_) (fun c2 => ?_)
      · exact absurd c2 (nI_ge (b := 34) (by omega) (by omega))
      · refine lv_aload_n hx hb d_C_heldRows_19 rfl (lv_at hl 2 rfl) ?_
        refine lv_iload hx hb d_C_heldRows_20 (lv_at hl 0 rfl) ?_
        refine jw_aldR (i := i) hx hb hK hW rfl (by omega) d_C_heldRows_22 ?_
        refine lv_astore (lv' := [(5, .ref (sh (232 + i))), (4, .int (nI i)), (3, .int 34), (2, .ref (sh 271)), (1, .int a), (0, .ref (sh 268))]) hx hb d_C_heldRows_23 hl (by decide) rfl (fun ls hl => ?_)
        refine lv_aload hx hb d_C_heldRows_25 (lv_at hl 0 rfl) ?_
        refine va_getN (D := D) (ci := 4) (v := .int (V (232 + i) 3)) (C := "BlockVault$Row") (T := T_R) (N := 5) hx hb hT in_R hown hK (hW.obj (lay_row hi)) 0 rfl rfl 3 (by decide) (nf7 hN) (fun _ h9 => h9) rfl d_C_heldRows_27 ?_
        refine lv_if_eq (tgt := 36) hx hb d_C_heldRows_30 (by decide) (fun c3 => ?_) (fun c3 => ?_)
        · refine lv_iinc (v := ((nI i) + 1)) (lv' := [(4, .int ((nI i) + 1)), (5, .ref (sh (232 + i))), (3, .int 34), (2, .ref (sh 271)), (1, .int a), (0, .ref (sh 268))]) hx hb d_C_heldRows_36 hl (k := 1) rfl rfl (by decide) rfl (fun ls hl => ?_)
          refine lv_goto (tgt := 13) hx hb d_C_heldRows_39 (by decide) ?_
          exact ih (i + 1) a H locs ls (by omega) (by rw [← hinv]; simp [cR, c3]) hW hS (by rw [← nI_1]; exact lv_sub hl [0, 2, 3, 4, 5] rfl)
        · refine lv_iinc (v := (a + 1)) (lv' := [(1, .int (a + 1)), (5, .ref (sh (232 + i))), (4, .int (nI i)), (3, .int 34), (2, .ref (sh 271)), (0, .ref (sh 268))]) hx hb d_C_heldRows_33 hl (k := 4) rfl rfl (by decide) rfl (fun ls hl => ?_)
          refine lv_iinc (v := ((nI i) + 1)) (lv' := [(4, .int ((nI i) + 1)), (1, .int (a + 1)), (5, .ref (sh (232 + i))), (3, .int 34), (2, .ref (sh 271)), (0, .ref (sh 268))]) hx hb d_C_heldRows_36 hl (k := 2) rfl rfl (by decide) rfl (fun ls hl => ?_)
          refine lv_goto (tgt := 13) hx hb d_C_heldRows_39 (by decide) ?_
          exact ih (i + 1) (a + 1) H locs ls (by omega) (by rw [← hinv]; simp [cR, c3]) hW hS (by rw [← nI_1]; exact lv_sub hl [0, 3, 4, 1, 5] rfl)
  exact loop 34 0 0 _ _ ls (by omega) (rfl) hW hS (lv_sub hl [0, 1, 2, 3, 4] rfl)

set_option maxHeartbeats 4000000 in
set_option maxRecDepth 100000 in
theorem m_C_stepRows (l : Launch) (D : va_G) (B : Nat) (cA : Nat → ClassId) (sh : Nat → Nat) (V P : VV) : Met l y_C_stepRows w_C_stepRows ({ frames := 0, cells := 0, slots := 0, locals := 0 } : Room) (va_Pc [.ref (sh 268)] (JC D B cA sh (V, P))) (va_Qi (fun (r : Int32) (u : VV × VV) => (r, u.1, u.2) = (mCnt V 4, V, P)) (JC D B cA sh) (hm_A B)) 0 0 (hm_A B) := by
  refine Met.ofW (cc := c_C_stepRows) (maxL := 6) (ret := (some FieldType.int)) (by decide) rfl ?_
  intro p e s m args below meth c s₁ Bd hml hv
  obtain ⟨rfl, hW, hK, hN⟩ := hv
  have hx := Bd.exec
  have hb := Bd.bytes
  have hr := Bd.returns
  have hts := atoms_spec (ws := w_C_stepRows) Bd.pre
  have hT : ∀ w ∈ WG, w.before ([.ref (sh 268)] : List Value).toArray s = true := fun w h => hts w (List.mem_cons_of_mem _ h)
  have hown : s.vm.findClass "BlockVault$Cache" = some m.cls := findClass_of_methodNamed Bd.named
  have hlocks := Bd.notSynchronized
  have hW : JW D B cA sh V P s.heap := hW
  have hBs : B ≤ s.heap.size := hW.ge
  have hS : va_S (hm_A B) s.heap s.heap [] := va_S.rf
  have hl := lv_entry ([.ref (sh 268)]) (n := 6) (Nat.le_of_ble_eq_true rfl)
  rw [lg_entry_eq]
  generalize (lg_sl ([.ref (sh 268)]) ++ List.replicate (6 - (lg_sl ([.ref (sh 268)])).length) Slot.unset).toArray = ls at hl ⊢
  have hl : lv_has ls 6 [(0, .ref (sh 268))] := hl
  refine lv_iconst (v := 0) hx hb d_C_stepRows_0 (by decide) ?_
  refine lv_istore_n (lv' := [(1, .int 0), (0, .ref (sh 268))]) hx hb d_C_stepRows_1 rfl hl (by decide) rfl (fun ls hl => ?_)
  refine lv_aload_n hx hb d_C_stepRows_2 rfl (lv_at hl 1 rfl) ?_
  refine va_get (D := D) (ci := 0) (v := .ref (sh 271)) (C := "BlockVault$Cache") (T := T_C) (N := 3) hx hb hT in_C hown hK (hW.obj rfl) 0 rfl rfl 0 (by decide) (hT _ k97) (fun _ h9 => h9) rfl d_C_stepRows_3 ?_
  refine lv_astore_n (lv' := [(2, .ref (sh 271)), (1, .int 0), (0, .ref (sh 268))]) hx hb d_C_stepRows_6 rfl hl (by decide) rfl (fun ls hl => ?_)
  refine lv_aload_n hx hb d_C_stepRows_7 rfl (lv_at hl 0 rfl) ?_
  refine jw_alenR hx hb hK hW d_C_stepRows_8 ?_
  refine lv_istore_n (lv' := [(3, .int 34), (2, .ref (sh 271)), (1, .int 0), (0, .ref (sh 268))]) hx hb d_C_stepRows_9 rfl hl (by decide) rfl (fun ls hl => ?_)
  refine lv_iconst (v := 0) hx hb d_C_stepRows_10 (by decide) ?_
  refine lv_istore (lv' := [(4, .int 0), (3, .int 34), (2, .ref (sh 271)), (1, .int 0), (0, .ref (sh 268))]) hx hb d_C_stepRows_11 hl (by decide) rfl (fun ls hl => ?_)
  have loop : ∀ (n i : Nat) (a : Int32) (H : Heap) (locs : List Loc) (ls : Array Slot), i + n = 34 → (cR V 4 n i a = mCnt V 4) → JW D B cA sh V P H → va_S (hm_A B) s.heap H locs → lv_has ls 6 [(4, .int (nI i)), (3, .int 34), (2, .ref (sh 271)), (1, .int a), (0, .ref (sh 268))] → W p l e (headSpec w_C_stepRows ({ frames := 0, cells := 0, slots := 0, locals := 0 } : Room)).room s m ([.ref (sh 268)] : List Value).toArray below meth c H locs 0 0 (MQ below (va_Qi (fun (r : Int32) (u : VV × VV) => (r, u.1, u.2) = (mCnt V 4, V, P)) (JC D B cA sh) (hm_A B)) ([.ref (sh 268)] : List Value).toArray s 0 0 (hm_A B)) (F0 m 13 ls []) := by
    intro n
    induction n with
    | zero =>
      intro i a H locs ls hin hinv hW hS hl
      obtain rfl : i = 34 := by omega
      refine lv_iload hx hb d_C_stepRows_13 (lv_at hl 0 rfl) ?_
      refine lv_iload_n hx hb d_C_stepRows_15 rfl (lv_at hl 1 rfl) ?_
      refine lv_icmp_ge (tgt := 42) hx hb d_C_stepRows_16 (by decide) (fun c1 => ?_) (fun c1 => ?_)
      · refine lv_iload_n hx hb d_C_stepRows_42 rfl (lv_at hl 3 rfl) ?_
        refine W.widen (k := 0) (n := 0) (by omega) (by omega) ?_
        exact W.iret (v := a) hx hb hr (fun t9 ht9 hwz => ⟨⟨a, (V, P), rfl, (by rw [← hinv]; rfl), by rw [ht9]; exact hW, va_K.moved hwz.alike hK, hN.warm hwz⟩, hS.F ht9⟩) hS.2.2 d_C_stepRows_43
      · exact absurd (by decide) c1
    | succ n ih =>
      intro i a H locs ls hin hinv hW hS hl
      have hi : i < 34 := by omega
      refine lv_iload hx hb d_C_stepRows_13 (lv_at hl 0 rfl) ?_
      refine lv_iload_n hx hb d_C_stepRows_15 rfl (lv_at hl 1 rfl) ?_
      refine lv_icmp_ge (tgt := 42) hx hb d_C_stepRows_16 (by decide) (fun c2 => ?_) (fun c2 => ?_)
      · exact absurd c2 (nI_ge (b := 34) (by omega) (by omega))
      · refine lv_aload_n hx hb d_C_stepRows_19 rfl (lv_at hl 2 rfl) ?_
        refine lv_iload hx hb d_C_stepRows_20 (lv_at hl 0 rfl) ?_
        refine jw_aldR (i := i) hx hb hK hW rfl (by omega) d_C_stepRows_22 ?_
        refine lv_astore (lv' := [(5, .ref (sh (232 + i))), (4, .int (nI i)), (3, .int 34), (2, .ref (sh 271)), (1, .int a), (0, .ref (sh 268))]) hx hb d_C_stepRows_23 hl (by decide) rfl (fun ls hl => ?_)
        refine lv_aload hx hb d_C_stepRows_25 (lv_at hl 0 rfl) ?_
        refine va_getN (D := D) (ci := 4) (v := .int (V (232 + i) 4)) (C := "BlockVault$Row") (T := T_R) (N := 5) hx hb hT in_R hown hK (hW.obj (lay_row hi)) 0 rfl rfl 4 (by decide) (nf10 hN) (fun _ h9 => h9) rfl d_C_stepRows_27 ?_
        refine lv_if_eq (tgt := 36) hx hb d_C_stepRows_30 (by decide) (fun c3 => ?_) (fun c3 => ?_)
        · refine lv_iinc (v := ((nI i) + 1)) (lv' := [(4, .int ((nI i) + 1)), (5, .ref (sh (232 + i))), (3, .int 34), (2, .ref (sh 271)), (1, .int a), (0, .ref (sh 268))]) hx hb d_C_stepRows_36 hl (k := 1) rfl rfl (by decide) rfl (fun ls hl => ?_)
          refine lv_goto (tgt := 13) hx hb d_C_stepRows_39 (by decide) ?_
          exact ih (i + 1) a H locs ls (by omega) (by rw [← hinv]; simp [cR, c3]) hW hS (by rw [← nI_1]; exact lv_sub hl [0, 2, 3, 4, 5] rfl)
        · refine lv_iinc (v := (a + 1)) (lv' := [(1, .int (a + 1)), (5, .ref (sh (232 + i))), (4, .int (nI i)), (3, .int 34), (2, .ref (sh 271)), (0, .ref (sh 268))]) hx hb d_C_stepRows_33 hl (k := 4) rfl rfl (by decide) rfl (fun ls hl => ?_)
          refine lv_iinc (v := ((nI i) + 1)) (lv' := [(4, .int ((nI i) + 1)), (1, .int (a + 1)), (5, .ref (sh (232 + i))), (3, .int 34), (2, .ref (sh 271)), (0, .ref (sh 268))]) hx hb d_C_stepRows_36 hl (k := 2) rfl rfl (by decide) rfl (fun ls hl => ?_)
          refine lv_goto (tgt := 13) hx hb d_C_stepRows_39 (by decide) ?_
          exact ih (i + 1) (a + 1) H locs ls (by omega) (by rw [← hinv]; simp [cR, c3]) hW hS (by rw [← nI_1]; exact lv_sub hl [0, 3, 4, 1, 5] rfl)
  exact loop 34 0 0 _ _ ls (by omega) (rfl) hW hS (lv_sub hl [0, 1, 2, 3, 4] rfl)

set_option maxHeartbeats 4000000 in
set_option maxRecDepth 100000 in
theorem m_C_closeStep (l : Launch) (D : va_G) (B : Nat) (cA : Nat → ClassId) (sh : Nat → Nat) (V P : VV) : Met l y_C_closeStep w_C_closeStep ({ frames := 0, cells := 0, slots := 0, locals := 0 } : Room) (va_Pc [.ref (sh 268)] (JC D B cA sh (V, P))) (va_Qv (fun (u : VV × VV) => u = (zR 4 34 0 V, P)) (JC D B cA sh) (hm_A B)) 0 0 (hm_A B) := by
  refine Met.ofW (cc := c_C_closeStep) (maxL := 5) (ret := none) (by decide) rfl ?_
  intro p e s m args below meth c s₁ Bd hml hv
  obtain ⟨rfl, hW, hK, hN⟩ := hv
  have hx := Bd.exec
  have hb := Bd.bytes
  have hr := Bd.returns
  have hts := atoms_spec (ws := w_C_closeStep) Bd.pre
  have hT : ∀ w ∈ WG, w.before ([.ref (sh 268)] : List Value).toArray s = true := fun w h => hts w (List.mem_cons_of_mem _ h)
  have hown : s.vm.findClass "BlockVault$Cache" = some m.cls := findClass_of_methodNamed Bd.named
  have hlocks := Bd.notSynchronized
  have hW : JW D B cA sh V P s.heap := hW
  have hBs : B ≤ s.heap.size := hW.ge
  have hS : va_S (hm_A B) s.heap s.heap [] := va_S.rf
  have hl := lv_entry ([.ref (sh 268)]) (n := 5) (Nat.le_of_ble_eq_true rfl)
  rw [lg_entry_eq]
  generalize (lg_sl ([.ref (sh 268)]) ++ List.replicate (5 - (lg_sl ([.ref (sh 268)])).length) Slot.unset).toArray = ls at hl ⊢
  have hl : lv_has ls 5 [(0, .ref (sh 268))] := hl
  refine lv_aload_n hx hb d_C_closeStep_0 rfl (lv_at hl 0 rfl) ?_
  refine va_get (D := D) (ci := 0) (v := .ref (sh 271)) (C := "BlockVault$Cache") (T := T_C) (N := 3) hx hb hT in_C hown hK (hW.obj rfl) 0 rfl rfl 0 (by decide) (hT _ k97) (fun _ h9 => h9) rfl d_C_closeStep_1 ?_
  refine lv_astore_n (lv' := [(1, .ref (sh 271)), (0, .ref (sh 268))]) hx hb d_C_closeStep_4 rfl hl (by decide) rfl (fun ls hl => ?_)
  refine lv_aload_n hx hb d_C_closeStep_5 rfl (lv_at hl 0 rfl) ?_
  refine jw_alenR hx hb hK hW d_C_closeStep_6 ?_
  refine lv_istore_n (lv' := [(2, .int 34), (1, .ref (sh 271)), (0, .ref (sh 268))]) hx hb d_C_closeStep_7 rfl hl (by decide) rfl (fun ls hl => ?_)
  refine lv_iconst (v := 0) hx hb d_C_closeStep_8 (by decide) ?_
  refine lv_istore_n (lv' := [(3, .int 0), (2, .int 34), (1, .ref (sh 271)), (0, .ref (sh 268))]) hx hb d_C_closeStep_9 rfl hl (by decide) rfl (fun ls hl => ?_)
  have loop : ∀ (n i : Nat) (Va Pa : VV) (H : Heap) (locs : List Loc) (ls : Array Slot), i + n = 34 → ((zR 4 n i Va, Pa) = (zR 4 34 0 V, P)) → JW D B cA sh Va Pa H → va_S (hm_A B) s.heap H locs → lv_has ls 5 [(3, .int (nI i)), (2, .int 34), (1, .ref (sh 271)), (0, .ref (sh 268))] → W p l e (headSpec w_C_closeStep ({ frames := 0, cells := 0, slots := 0, locals := 0 } : Room)).room s m ([.ref (sh 268)] : List Value).toArray below meth c H locs 0 0 (MQ below (va_Qv (fun (u : VV × VV) => u = (zR 4 34 0 V, P)) (JC D B cA sh) (hm_A B)) ([.ref (sh 268)] : List Value).toArray s 0 0 (hm_A B)) (F0 m 10 ls []) := by
    intro n
    induction n with
    | zero =>
      intro i Va Pa H locs ls hin hinv hW hS hl
      obtain rfl : i = 34 := by omega
      refine lv_iload_n hx hb d_C_closeStep_10 rfl (lv_at hl 0 rfl) ?_
      refine lv_iload_n hx hb d_C_closeStep_11 rfl (lv_at hl 1 rfl) ?_
      refine lv_icmp_ge (tgt := 32) hx hb d_C_closeStep_12 (by decide) (fun c1 => ?_) (fun c1 => ?_)
      · refine W.widen (k := 0) (n := 0) (by omega) (by omega) ?_
        exact W.vret hx hb hr (fun t9 ht9 hwz => ⟨⟨(Va, Pa), rfl, (by rw [← hinv]; rfl), by rw [ht9]; exact hW, va_K.moved hwz.alike hK, hN.warm hwz⟩, hS.F ht9⟩) hS.2.2 d_C_closeStep_32
      · exact absurd (by decide) c1
    | succ n ih =>
      intro i Va Pa H locs ls hin hinv hW hS hl
      have hi : i < 34 := by omega
      refine lv_iload_n hx hb d_C_closeStep_10 rfl (lv_at hl 0 rfl) ?_
      refine lv_iload_n hx hb d_C_closeStep_11 rfl (lv_at hl 1 rfl) ?_
      refine lv_icmp_ge (tgt := 32) hx hb d_C_closeStep_12 (by decide) (fun c2 => ?_) (fun c2 => ?_)
      · exact absurd c2 (nI_ge (b := 34) (by omega) (by omega))
      · refine lv_aload_n hx hb d_C_closeStep_15 rfl (lv_at hl 2 rfl) ?_
        refine lv_iload_n hx hb d_C_closeStep_16 rfl (lv_at hl 0 rfl) ?_
        refine jw_aldR (i := i) hx hb hK hW rfl (by omega) d_C_closeStep_17 ?_
        refine lv_astore (lv' := [(4, .ref (sh (232 + i))), (3, .int (nI i)), (2, .int 34), (1, .ref (sh 271)), (0, .ref (sh 268))]) hx hb d_C_closeStep_18 hl (by decide) rfl (fun ls hl => ?_)
        refine lv_aload hx hb d_C_closeStep_20 (lv_at hl 0 rfl) ?_
        refine lv_iconst (v := 0) hx hb d_C_closeStep_22 (by decide) ?_
        refine jw_putN (ci := 4) (x := 0) (ty := .boolean) (C := "BlockVault$Row") (T := T_R) (N := 5) hx hb hT in_R t_R t_R_ok n_R hown hK hW hS (lay_row hi) rfl 4 (by decide) rfl (nf10 hN) (fun _ h9 => h9) rfl (by decide +kernel) rfl rfl d_C_closeStep_23 (fun H locs hW hS => ?_)
        refine lv_iinc (v := ((nI i) + 1)) (lv' := [(3, .int ((nI i) + 1)), (4, .ref (sh (232 + i))), (2, .int 34), (1, .ref (sh 271)), (0, .ref (sh 268))]) hx hb d_C_closeStep_26 hl (k := 1) rfl rfl (by decide) rfl (fun ls hl => ?_)
        refine lv_goto (tgt := 10) hx hb d_C_closeStep_29 (by decide) ?_
        exact ih (i + 1) (v2 Va (232 + i) 4 0) Pa H locs ls (by omega) (by rw [← hinv]; rfl) hW hS (by rw [← nI_1]; exact lv_sub hl [0, 2, 3, 4] rfl)
  exact loop 34 0 V P _ _ ls (by omega) (rfl) hW hS (lv_sub hl [0, 1, 2, 3] rfl)

set_option maxHeartbeats 4000000 in
set_option maxRecDepth 100000 in
theorem m_C_releaseHeld (l : Launch) (D : va_G) (B : Nat) (cA : Nat → ClassId) (sh : Nat → Nat) (V P : VV) : Met l y_C_releaseHeld w_C_releaseHeld ({ frames := 0, cells := 0, slots := 0, locals := 0 } : Room) (va_Pc [.ref (sh 268)] (JC D B cA sh (V, P))) (va_Qv (fun (u : VV × VV) => u = (zR 3 34 0 V, P)) (JC D B cA sh) (hm_A B)) 0 0 (hm_A B) := by
  refine Met.ofW (cc := c_C_releaseHeld) (maxL := 5) (ret := none) (by decide) rfl ?_
  intro p e s m args below meth c s₁ Bd hml hv
  obtain ⟨rfl, hW, hK, hN⟩ := hv
  have hx := Bd.exec
  have hb := Bd.bytes
  have hr := Bd.returns
  have hts := atoms_spec (ws := w_C_releaseHeld) Bd.pre
  have hT : ∀ w ∈ WG, w.before ([.ref (sh 268)] : List Value).toArray s = true := fun w h => hts w (List.mem_cons_of_mem _ h)
  have hown : s.vm.findClass "BlockVault$Cache" = some m.cls := findClass_of_methodNamed Bd.named
  have hlocks := Bd.notSynchronized
  have hW : JW D B cA sh V P s.heap := hW
  have hBs : B ≤ s.heap.size := hW.ge
  have hS : va_S (hm_A B) s.heap s.heap [] := va_S.rf
  have hl := lv_entry ([.ref (sh 268)]) (n := 5) (Nat.le_of_ble_eq_true rfl)
  rw [lg_entry_eq]
  generalize (lg_sl ([.ref (sh 268)]) ++ List.replicate (5 - (lg_sl ([.ref (sh 268)])).length) Slot.unset).toArray = ls at hl ⊢
  have hl : lv_has ls 5 [(0, .ref (sh 268))] := hl
  refine lv_aload_n hx hb d_C_releaseHeld_0 rfl (lv_at hl 0 rfl) ?_
  refine va_get (D := D) (ci := 0) (v := .ref (sh 271)) (C := "BlockVault$Cache") (T := T_C) (N := 3) hx hb hT in_C hown hK (hW.obj rfl) 0 rfl rfl 0 (by decide) (hT _ k97) (fun _ h9 => h9) rfl d_C_releaseHeld_1 ?_
  refine lv_astore_n (lv' := [(1, .ref (sh 271)), (0, .ref (sh 268))]) hx hb d_C_releaseHeld_4 rfl hl (by decide) rfl (fun ls hl => ?_)
  refine lv_aload_n hx hb d_C_releaseHeld_5 rfl (lv_at hl 0 rfl) ?_
  refine jw_alenR hx hb hK hW d_C_releaseHeld_6 ?_
  refine lv_istore_n (lv' := [(2, .int 34), (1, .ref (sh 271)), (0, .ref (sh 268))]) hx hb d_C_releaseHeld_7 rfl hl (by decide) rfl (fun ls hl => ?_)
  refine lv_iconst (v := 0) hx hb d_C_releaseHeld_8 (by decide) ?_
  refine lv_istore_n (lv' := [(3, .int 0), (2, .int 34), (1, .ref (sh 271)), (0, .ref (sh 268))]) hx hb d_C_releaseHeld_9 rfl hl (by decide) rfl (fun ls hl => ?_)
  have loop : ∀ (n i : Nat) (Va Pa : VV) (H : Heap) (locs : List Loc) (ls : Array Slot), i + n = 34 → ((zR 3 n i Va, Pa) = (zR 3 34 0 V, P)) → JW D B cA sh Va Pa H → va_S (hm_A B) s.heap H locs → lv_has ls 5 [(3, .int (nI i)), (2, .int 34), (1, .ref (sh 271)), (0, .ref (sh 268))] → W p l e (headSpec w_C_releaseHeld ({ frames := 0, cells := 0, slots := 0, locals := 0 } : Room)).room s m ([.ref (sh 268)] : List Value).toArray below meth c H locs 0 0 (MQ below (va_Qv (fun (u : VV × VV) => u = (zR 3 34 0 V, P)) (JC D B cA sh) (hm_A B)) ([.ref (sh 268)] : List Value).toArray s 0 0 (hm_A B)) (F0 m 10 ls []) := by
    intro n
    induction n with
    | zero =>
      intro i Va Pa H locs ls hin hinv hW hS hl
      obtain rfl : i = 34 := by omega
      refine lv_iload_n hx hb d_C_releaseHeld_10 rfl (lv_at hl 0 rfl) ?_
      refine lv_iload_n hx hb d_C_releaseHeld_11 rfl (lv_at hl 1 rfl) ?_
      refine lv_icmp_ge (tgt := 32) hx hb d_C_releaseHeld_12 (by decide) (fun c1 => ?_) (fun c1 => ?_)
      · refine W.widen (k := 0) (n := 0) (by omega) (by omega) ?_
        exact W.vret hx hb hr (fun t9 ht9 hwz => ⟨⟨(Va, Pa), rfl, (by rw [← hinv]; rfl), by rw [ht9]; exact hW, va_K.moved hwz.alike hK, hN.warm hwz⟩, hS.F ht9⟩) hS.2.2 d_C_releaseHeld_32
      · exact absurd (by decide) c1
    | succ n ih =>
      intro i Va Pa H locs ls hin hinv hW hS hl
      have hi : i < 34 := by omega
      refine lv_iload_n hx hb d_C_releaseHeld_10 rfl (lv_at hl 0 rfl) ?_
      refine lv_iload_n hx hb d_C_releaseHeld_11 rfl (lv_at hl 1 rfl) ?_
      refine lv_icmp_ge (tgt := 32) hx hb d_C_releaseHeld_12 (by decide) (fun c2 => ?_) (fun c2 => ?_)
      · exact absurd c2 (nI_ge (b := 34) (by omega) (by omega))
      · refine lv_aload_n hx hb d_C_releaseHeld_15 rfl (lv_at hl 2 rfl) ?_
        refine lv_iload_n hx hb d_C_releaseHeld_16 rfl (lv_at hl 0 rfl) ?_
        refine jw_aldR (i := i) hx hb hK hW rfl (by omega) d_C_releaseHeld_17 ?_
        refine lv_astore (lv' := [(4, .ref (sh (232 + i))), (3, .int (nI i)), (2, .int 34), (1, .ref (sh 271)), (0, .ref (sh 268))]) hx hb d_C_releaseHeld_18 hl (by decide) rfl (fun ls hl => ?_)
        refine lv_aload hx hb d_C_releaseHeld_20 (lv_at hl 0 rfl) ?_
        refine lv_iconst (v := 0) hx hb d_C_releaseHeld_22 (by decide) ?_
        refine jw_putN (ci := 4) (x := 0) (ty := .boolean) (C := "BlockVault$Row") (T := T_R) (N := 5) hx hb hT in_R t_R t_R_ok n_R hown hK hW hS (lay_row hi) rfl 3 (by decide) rfl (nf7 hN) (fun _ h9 => h9) rfl (by decide +kernel) rfl rfl d_C_releaseHeld_23 (fun H locs hW hS => ?_)
        refine lv_iinc (v := ((nI i) + 1)) (lv' := [(3, .int ((nI i) + 1)), (4, .ref (sh (232 + i))), (2, .int 34), (1, .ref (sh 271)), (0, .ref (sh 268))]) hx hb d_C_releaseHeld_26 hl (k := 1) rfl rfl (by decide) rfl (fun ls hl => ?_)
        refine lv_goto (tgt := 10) hx hb d_C_releaseHeld_29 (by decide) ?_
        exact ih (i + 1) (v2 Va (232 + i) 3 0) Pa H locs ls (by omega) (by rw [← hinv]; rfl) hW hS (by rw [← nI_1]; exact lv_sub hl [0, 2, 3, 4] rfl)
  exact loop 34 0 V P _ _ ls (by omega) (rfl) hW hS (lv_sub hl [0, 1, 2, 3] rfl)

set_option maxHeartbeats 4000000 in
set_option maxRecDepth 100000 in
theorem m_C_makeEmpty (l : Launch) (D : va_G) (B : Nat) (cA : Nat → ClassId) (sh : Nat → Nat) (V P : VV) : Met l y_C_makeEmpty w_C_makeEmpty ({ frames := 1, cells := 0, slots := 0, locals := 20 } : Room) (va_Pc [.ref (sh 268)] (JC D B cA sh (V, P))) (va_Qv (fun (u : VV × VV) => u = (eR 34 0 V, P)) (JC D B cA sh) (hm_A B)) 0 0 (hm_A B) := by
  refine Met.ofW (cc := c_C_makeEmpty) (maxL := 5) (ret := none) (by decide) rfl ?_
  intro p e s m args below meth c s₁ Bd hml hv
  obtain ⟨rfl, hW, hK, hN⟩ := hv
  have hx := Bd.exec
  have hb := Bd.bytes
  have hr := Bd.returns
  have hts := atoms_spec (ws := w_C_makeEmpty) Bd.pre
  have hT : ∀ w ∈ WG, w.before ([.ref (sh 268)] : List Value).toArray s = true := fun w h => hts w (List.mem_cons_of_mem _ h)
  have hown : s.vm.findClass "BlockVault$Cache" = some m.cls := findClass_of_methodNamed Bd.named
  have hlocks := Bd.notSynchronized
  have hW : JW D B cA sh V P s.heap := hW
  have hBs : B ≤ s.heap.size := hW.ge
  have hS : va_S (hm_A B) s.heap s.heap [] := va_S.rf
  have hl := lv_entry ([.ref (sh 268)]) (n := 5) (Nat.le_of_ble_eq_true rfl)
  rw [lg_entry_eq]
  generalize (lg_sl ([.ref (sh 268)]) ++ List.replicate (5 - (lg_sl ([.ref (sh 268)])).length) Slot.unset).toArray = ls at hl ⊢
  have hl : lv_has ls 5 [(0, .ref (sh 268))] := hl
  refine lv_aload_n hx hb d_C_makeEmpty_0 rfl (lv_at hl 0 rfl) ?_
  refine va_get (D := D) (ci := 0) (v := .ref (sh 271)) (C := "BlockVault$Cache") (T := T_C) (N := 3) hx hb hT in_C hown hK (hW.obj rfl) 0 rfl rfl 0 (by decide) (hT _ k97) (fun _ h9 => h9) rfl d_C_makeEmpty_1 ?_
  refine lv_astore_n (lv' := [(1, .ref (sh 271)), (0, .ref (sh 268))]) hx hb d_C_makeEmpty_4 rfl hl (by decide) rfl (fun ls hl => ?_)
  refine lv_aload_n hx hb d_C_makeEmpty_5 rfl (lv_at hl 0 rfl) ?_
  refine jw_alenR hx hb hK hW d_C_makeEmpty_6 ?_
  refine lv_istore_n (lv' := [(2, .int 34), (1, .ref (sh 271)), (0, .ref (sh 268))]) hx hb d_C_makeEmpty_7 rfl hl (by decide) rfl (fun ls hl => ?_)
  refine lv_iconst (v := 0) hx hb d_C_makeEmpty_8 (by decide) ?_
  refine lv_istore_n (lv' := [(3, .int 0), (2, .int 34), (1, .ref (sh 271)), (0, .ref (sh 268))]) hx hb d_C_makeEmpty_9 rfl hl (by decide) rfl (fun ls hl => ?_)
  have loop : ∀ (n i : Nat) (Va Pa : VV) (H : Heap) (locs : List Loc) (ls : Array Slot), i + n = 34 → ((eR n i Va, Pa) = (eR 34 0 V, P)) → JW D B cA sh Va Pa H → va_S (hm_A B) s.heap H locs → lv_has ls 5 [(3, .int (nI i)), (2, .int 34), (1, .ref (sh 271)), (0, .ref (sh 268))] → W p l e (headSpec w_C_makeEmpty ({ frames := 1, cells := 0, slots := 0, locals := 20 } : Room)).room s m ([.ref (sh 268)] : List Value).toArray below meth c H locs 0 0 (MQ below (va_Qv (fun (u : VV × VV) => u = (eR 34 0 V, P)) (JC D B cA sh) (hm_A B)) ([.ref (sh 268)] : List Value).toArray s 0 0 (hm_A B)) (F0 m 10 ls []) := by
    intro n
    induction n with
    | zero =>
      intro i Va Pa H locs ls hin hinv hW hS hl
      obtain rfl : i = 34 := by omega
      refine lv_iload_n hx hb d_C_makeEmpty_10 rfl (lv_at hl 0 rfl) ?_
      refine lv_iload_n hx hb d_C_makeEmpty_11 rfl (lv_at hl 1 rfl) ?_
      refine lv_icmp_ge (tgt := 31) hx hb d_C_makeEmpty_12 (by decide) (fun c1 => ?_) (fun c1 => ?_)
      · refine W.widen (k := 0) (n := 0) (by omega) (by omega) ?_
        exact W.vret hx hb hr (fun t9 ht9 hwz => ⟨⟨(Va, Pa), rfl, (by rw [← hinv]; rfl), by rw [ht9]; exact hW, va_K.moved hwz.alike hK, hN.warm hwz⟩, hS.F ht9⟩) hS.2.2 d_C_makeEmpty_31
      · exact absurd (by decide) c1
    | succ n ih =>
      intro i Va Pa H locs ls hin hinv hW hS hl
      have hi : i < 34 := by omega
      refine lv_iload_n hx hb d_C_makeEmpty_10 rfl (lv_at hl 0 rfl) ?_
      refine lv_iload_n hx hb d_C_makeEmpty_11 rfl (lv_at hl 1 rfl) ?_
      refine lv_icmp_ge (tgt := 31) hx hb d_C_makeEmpty_12 (by decide) (fun c2 => ?_) (fun c2 => ?_)
      · exact absurd c2 (nI_ge (b := 34) (by omega) (by omega))
      · refine lv_aload_n hx hb d_C_makeEmpty_15 rfl (lv_at hl 2 rfl) ?_
        refine lv_iload_n hx hb d_C_makeEmpty_16 rfl (lv_at hl 0 rfl) ?_
        refine jw_aldR (i := i) hx hb hK hW rfl (by omega) d_C_makeEmpty_17 ?_
        refine lv_astore (lv' := [(4, .ref (sh (232 + i))), (3, .int (nI i)), (2, .int 34), (1, .ref (sh 271)), (0, .ref (sh 268))]) hx hb d_C_makeEmpty_18 hl (by decide) rfl (fun ls hl => ?_)
        refine lv_aload hx hb d_C_makeEmpty_20 (lv_at hl 0 rfl) ?_
        refine jw_callv (va_runV (As := []) (rest := []) ⟨hx, hb, hml, hown, hT⟩ (m_R_makeEmpty l D B cA sh Va Pa i hi) (cwV 0 hT (gV k220 k221 k222 k6 kc_R_makeEmpty) rfl rfl rfl (by decide +kernel) ⟨Nat.le_of_ble_eq_true rfl, Nat.le_of_ble_eq_true rfl⟩) (jw_preV (q := ("BlockVault$Row", T_R, 5)) hW hK hN (lay_row hi) rfl) rfl rfl hl.1 rfl (lv_room (Nat.le_of_ble_eq_true rfl)) d_C_makeEmpty_22 ⟨Nat.le_of_ble_eq_true rfl, Nat.le_of_ble_eq_true rfl⟩) hS (fun V4 P5 H locs hw6 hW hS => ?_)
        cases hw6
        refine lv_iinc (v := ((nI i) + 1)) (lv' := [(3, .int ((nI i) + 1)), (4, .ref (sh (232 + i))), (2, .int 34), (1, .ref (sh 271)), (0, .ref (sh 268))]) hx hb d_C_makeEmpty_25 hl (k := 1) rfl rfl (by decide) rfl (fun ls hl => ?_)
        refine lv_goto (tgt := 10) hx hb d_C_makeEmpty_28 (by decide) ?_
        exact ih (i + 1) (mEmp Va i) Pa H locs ls (by omega) (by rw [← hinv]; rfl) hW hS (by rw [← nI_1]; exact lv_sub hl [0, 2, 3, 4] rfl)
  exact loop 34 0 V P _ _ ls (by omega) (rfl) hW hS (lv_sub hl [0, 1, 2, 3] rfl)

set_option maxHeartbeats 4000000 in
set_option maxRecDepth 100000 in
theorem m_C_rowOf (l : Launch) (D : va_G) (B : Nat) (cA : Nat → ClassId) (sh : Nat → Nat) (V P : VV) (b : Int32) : Met l y_C_rowOf w_C_rowOf ({ frames := 0, cells := 0, slots := 0, locals := 0 } : Room) (va_Pc [.ref (sh 268), .int b] (JC D B cA sh (V, P))) (va_Qq (fun (r : Option Nat) (u : VV × VV) => r = (mRow V b).map (fun x => sh (232 + x)) ∧ u = (V, P)) (JC D B cA sh) (hm_A B)) 0 0 (hm_A B) := by
  refine Met.ofW (cc := c_C_rowOf) (maxL := 6) (ret := (some (FieldType.object "BlockVault$Row"))) (by decide) rfl ?_
  intro p e s m args below meth c s₁ Bd hml hv
  obtain ⟨rfl, hW, hK, hN⟩ := hv
  have hx := Bd.exec
  have hb := Bd.bytes
  have hr := Bd.returns
  have hts := atoms_spec (ws := w_C_rowOf) Bd.pre
  have hT : ∀ w ∈ WG, w.before ([.ref (sh 268), .int b] : List Value).toArray s = true := fun w h => hts w (List.mem_cons_of_mem _ h)
  have hown : s.vm.findClass "BlockVault$Cache" = some m.cls := findClass_of_methodNamed Bd.named
  have hlocks := Bd.notSynchronized
  have hW : JW D B cA sh V P s.heap := hW
  have hBs : B ≤ s.heap.size := hW.ge
  have hS : va_S (hm_A B) s.heap s.heap [] := va_S.rf
  have hl := lv_entry ([.ref (sh 268), .int b]) (n := 6) (Nat.le_of_ble_eq_true rfl)
  rw [lg_entry_eq]
  generalize (lg_sl ([.ref (sh 268), .int b]) ++ List.replicate (6 - (lg_sl ([.ref (sh 268), .int b])).length) Slot.unset).toArray = ls at hl ⊢
  have hl : lv_has ls 6 [(0, .ref (sh 268)), (1, .int b)] := hl
  refine lv_aload_n hx hb d_C_rowOf_0 rfl (lv_at hl 0 rfl) ?_
  refine va_get (D := D) (ci := 0) (v := .ref (sh 271)) (C := "BlockVault$Cache") (T := T_C) (N := 3) hx hb hT in_C hown hK (hW.obj rfl) 0 rfl rfl 0 (by decide) (hT _ k97) (fun _ h9 => h9) rfl d_C_rowOf_1 ?_
  refine lv_astore_n (lv' := [(2, .ref (sh 271)), (0, .ref (sh 268)), (1, .int b)]) hx hb d_C_rowOf_4 rfl hl (by decide) rfl (fun ls hl => ?_)
  refine lv_aload_n hx hb d_C_rowOf_5 rfl (lv_at hl 0 rfl) ?_
  refine jw_alenR hx hb hK hW d_C_rowOf_6 ?_
  refine lv_istore_n (lv' := [(3, .int 34), (2, .ref (sh 271)), (0, .ref (sh 268)), (1, .int b)]) hx hb d_C_rowOf_7 rfl hl (by decide) rfl (fun ls hl => ?_)
  refine lv_iconst (v := 0) hx hb d_C_rowOf_8 (by decide) ?_
  refine lv_istore (lv' := [(4, .int 0), (3, .int 34), (2, .ref (sh 271)), (0, .ref (sh 268)), (1, .int b)]) hx hb d_C_rowOf_9 hl (by decide) rfl (fun ls hl => ?_)
  have loop : ∀ (n i : Nat) (H : Heap) (locs : List Loc) (ls : Array Slot), i + n = 34 → (fd (fun x => decide (V (232 + x) 1 = b)) n i = mRow V b) → JW D B cA sh V P H → va_S (hm_A B) s.heap H locs → lv_has ls 6 [(4, .int (nI i)), (3, .int 34), (2, .ref (sh 271)), (0, .ref (sh 268)), (1, .int b)] → W p l e (headSpec w_C_rowOf ({ frames := 0, cells := 0, slots := 0, locals := 0 } : Room)).room s m ([.ref (sh 268), .int b] : List Value).toArray below meth c H locs 0 0 (MQ below (va_Qq (fun (r : Option Nat) (u : VV × VV) => r = (mRow V b).map (fun x => sh (232 + x)) ∧ u = (V, P)) (JC D B cA sh) (hm_A B)) ([.ref (sh 268), .int b] : List Value).toArray s 0 0 (hm_A B)) (F0 m 11 ls []) := by
    intro n
    induction n with
    | zero =>
      intro i H locs ls hin hinv hW hS hl
      obtain rfl : i = 34 := by omega
      refine lv_iload hx hb d_C_rowOf_11 (lv_at hl 0 rfl) ?_
      refine lv_iload_n hx hb d_C_rowOf_13 rfl (lv_at hl 1 rfl) ?_
      refine lv_icmp_ge (tgt := 41) hx hb d_C_rowOf_14 (by decide) (fun c1 => ?_) (fun c1 => ?_)
      · refine lv_null hx hb d_C_rowOf_41 ?_
        refine W.widen (k := 0) (n := 0) (by omega) (by omega) ?_
        exact W.aret (v := va_rf none) hx hb hr (Or.inl ⟨_, rfl⟩) (va_rf_or _) (fun t9 ht9 hwz => ⟨⟨none, (V, P), rfl, ⟨by rw [← hinv]; simp [fd], rfl⟩, by rw [ht9]; exact hW, va_K.moved hwz.alike hK, hN.warm hwz⟩, hS.F ht9⟩) hS.2.2 d_C_rowOf_42
      · exact absurd (by decide) c1
    | succ n ih =>
      intro i H locs ls hin hinv hW hS hl
      have hi : i < 34 := by omega
      refine lv_iload hx hb d_C_rowOf_11 (lv_at hl 0 rfl) ?_
      refine lv_iload_n hx hb d_C_rowOf_13 rfl (lv_at hl 1 rfl) ?_
      refine lv_icmp_ge (tgt := 41) hx hb d_C_rowOf_14 (by decide) (fun c2 => ?_) (fun c2 => ?_)
      · exact absurd c2 (nI_ge (b := 34) (by omega) (by omega))
      · refine lv_aload_n hx hb d_C_rowOf_17 rfl (lv_at hl 2 rfl) ?_
        refine lv_iload hx hb d_C_rowOf_18 (lv_at hl 0 rfl) ?_
        refine jw_aldR (i := i) hx hb hK hW rfl (by omega) d_C_rowOf_20 ?_
        refine lv_astore (lv' := [(5, .ref (sh (232 + i))), (4, .int (nI i)), (3, .int 34), (2, .ref (sh 271)), (0, .ref (sh 268)), (1, .int b)]) hx hb d_C_rowOf_21 hl (by decide) rfl (fun ls hl => ?_)
        refine lv_aload hx hb d_C_rowOf_23 (lv_at hl 0 rfl) ?_
        refine va_getN (D := D) (ci := 4) (v := .int (V (232 + i) 1)) (C := "BlockVault$Row") (T := T_R) (N := 5) hx hb hT in_R hown hK (hW.obj (lay_row hi)) 0 rfl rfl 1 (by decide) (nf3 hN) (fun _ h9 => h9) rfl d_C_rowOf_25 ?_
        refine lv_iload_n hx hb d_C_rowOf_28 rfl (lv_at hl 5 rfl) ?_
        refine lv_icmp_ne (tgt := 35) hx hb d_C_rowOf_29 (by decide) (fun c3 => ?_) (fun c3 => ?_)
        · refine lv_iinc (v := ((nI i) + 1)) (lv' := [(4, .int ((nI i) + 1)), (5, .ref (sh (232 + i))), (3, .int 34), (2, .ref (sh 271)), (0, .ref (sh 268)), (1, .int b)]) hx hb d_C_rowOf_35 hl (k := 1) rfl rfl (by decide) rfl (fun ls hl => ?_)
          refine lv_goto (tgt := 11) hx hb d_C_rowOf_38 (by decide) ?_
          exact ih (i + 1) H locs ls (by omega) (by rw [← hinv]; simp [fd, c3]) hW hS (by rw [← nI_1]; exact lv_sub hl [0, 2, 3, 4, 5] rfl)
        · refine lv_aload hx hb d_C_rowOf_32 (lv_at hl 0 rfl) ?_
          refine W.widen (k := 0) (n := 0) (by omega) (by omega) ?_
          exact W.aret (v := va_rf (some (sh (232 + i)))) hx hb hr (Or.inl ⟨_, rfl⟩) (va_rf_or _) (fun t9 ht9 hwz => ⟨⟨(some (sh (232 + i))), (V, P), rfl, ⟨by rw [← hinv]; simp [fd, c3], rfl⟩, by rw [ht9]; exact hW, va_K.moved hwz.alike hK, hN.warm hwz⟩, hS.F ht9⟩) hS.2.2 d_C_rowOf_34
  exact loop 34 0 _ _ ls (by omega) (rfl) hW hS (lv_sub hl [0, 1, 2, 3, 4] rfl)

set_option maxHeartbeats 4000000 in
set_option maxRecDepth 100000 in
theorem m_C_rowToGive (l : Launch) (D : va_G) (B : Nat) (cA : Nat → ClassId) (sh : Nat → Nat) (V P : VV) (h3 : ∀ i, i < 34 → V (232 + i) 3 = 0 ∨ V (232 + i) 3 = 1) : Met l y_C_rowToGive w_C_rowToGive ({ frames := 1, cells := 0, slots := 0, locals := 21 } : Room) (va_Pc [.ref (sh 268)] (JC D B cA sh (V, P))) (va_Qq (fun (r : Option Nat) (u : VV × VV) => r = some (sh (232 + mGive V)) ∧ u = (V, P)) (JC D B cA sh) (hm_A B)) 0 0 (hm_A B) := by
  refine Met.ofW (cc := c_C_rowToGive) (maxL := 6) (ret := (some (FieldType.object "BlockVault$Row"))) (by decide) rfl ?_
  intro p e s m args below meth c s₁ Bd hml hv
  obtain ⟨rfl, hW, hK, hN⟩ := hv
  have hx := Bd.exec
  have hb := Bd.bytes
  have hr := Bd.returns
  have hts := atoms_spec (ws := w_C_rowToGive) Bd.pre
  have hT : ∀ w ∈ WG, w.before ([.ref (sh 268)] : List Value).toArray s = true := fun w h => hts w (List.mem_cons_of_mem _ h)
  have hown : s.vm.findClass "BlockVault$Cache" = some m.cls := findClass_of_methodNamed Bd.named
  have hlocks := Bd.notSynchronized
  have hW : JW D B cA sh V P s.heap := hW
  have hBs : B ≤ s.heap.size := hW.ge
  have hS : va_S (hm_A B) s.heap s.heap [] := va_S.rf
  have hl := lv_entry ([.ref (sh 268)]) (n := 6) (Nat.le_of_ble_eq_true rfl)
  rw [lg_entry_eq]
  generalize (lg_sl ([.ref (sh 268)]) ++ List.replicate (6 - (lg_sl ([.ref (sh 268)])).length) Slot.unset).toArray = ls at hl ⊢
  have hl : lv_has ls 6 [(0, .ref (sh 268))] := hl
  refine lv_aload_n hx hb d_C_rowToGive_0 rfl (lv_at hl 0 rfl) ?_
  refine va_get (D := D) (ci := 0) (v := .ref (sh 271)) (C := "BlockVault$Cache") (T := T_C) (N := 3) hx hb hT in_C hown hK (hW.obj rfl) 0 rfl rfl 0 (by decide) (hT _ k97) (fun _ h9 => h9) rfl d_C_rowToGive_1 ?_
  refine lv_iconst (v := 0) hx hb d_C_rowToGive_4 (by decide) ?_
  refine jw_aldR (i := 0) hx hb hK hW rfl (by omega) d_C_rowToGive_5 ?_
  refine lv_astore_n (lv' := [(1, .ref (sh (232 + 0))), (0, .ref (sh 268))]) hx hb d_C_rowToGive_6 rfl hl (by decide) rfl (fun ls hl => ?_)
  refine lv_aload_n hx hb d_C_rowToGive_7 rfl (lv_at hl 1 rfl) ?_
  refine va_get (D := D) (ci := 0) (v := .ref (sh 271)) (C := "BlockVault$Cache") (T := T_C) (N := 3) hx hb hT in_C hown hK (hW.obj rfl) 0 rfl rfl 0 (by decide) (hT _ k97) (fun _ h9 => h9) rfl d_C_rowToGive_8 ?_
  refine lv_astore_n (lv' := [(2, .ref (sh 271)), (1, .ref (sh (232 + 0))), (0, .ref (sh 268))]) hx hb d_C_rowToGive_11 rfl hl (by decide) rfl (fun ls hl => ?_)
  refine lv_aload_n hx hb d_C_rowToGive_12 rfl (lv_at hl 0 rfl) ?_
  refine jw_alenR hx hb hK hW d_C_rowToGive_13 ?_
  refine lv_istore_n (lv' := [(3, .int 34), (2, .ref (sh 271)), (1, .ref (sh (232 + 0))), (0, .ref (sh 268))]) hx hb d_C_rowToGive_14 rfl hl (by decide) rfl (fun ls hl => ?_)
  refine lv_iconst (v := 0) hx hb d_C_rowToGive_15 (by decide) ?_
  refine lv_istore (lv' := [(4, .int 0), (3, .int 34), (2, .ref (sh 271)), (1, .ref (sh (232 + 0))), (0, .ref (sh 268))]) hx hb d_C_rowToGive_16 hl (by decide) rfl (fun ls hl => ?_)
  have loop : ∀ (n i : Nat) (f : Nat) (H : Heap) (locs : List Loc) (ls : Array Slot), i + n = 34 → (f < 34 ∧ gL V n i f = mGive V) → JW D B cA sh V P H → va_S (hm_A B) s.heap H locs → lv_has ls 6 [(4, .int (nI i)), (3, .int 34), (2, .ref (sh 271)), (1, .ref (sh (232 + f))), (0, .ref (sh 268))] → W p l e (headSpec w_C_rowToGive ({ frames := 1, cells := 0, slots := 0, locals := 21 } : Room)).room s m ([.ref (sh 268)] : List Value).toArray below meth c H locs 0 0 (MQ below (va_Qq (fun (r : Option Nat) (u : VV × VV) => r = some (sh (232 + mGive V)) ∧ u = (V, P)) (JC D B cA sh) (hm_A B)) ([.ref (sh 268)] : List Value).toArray s 0 0 (hm_A B)) (F0 m 18 ls []) := by
    intro n
    induction n with
    | zero =>
      intro i f H locs ls hin hinv hW hS hl
      obtain rfl : i = 34 := by omega
      refine lv_iload hx hb d_C_rowToGive_18 (lv_at hl 0 rfl) ?_
      refine lv_iload_n hx hb d_C_rowToGive_20 rfl (lv_at hl 1 rfl) ?_
      refine lv_icmp_ge (tgt := 48) hx hb d_C_rowToGive_21 (by decide) (fun c1 => ?_) (fun c1 => ?_)
      · refine lv_aload_n hx hb d_C_rowToGive_48 rfl (lv_at hl 3 rfl) ?_
        refine W.widen (k := 0) (n := 0) (by omega) (by omega) ?_
        exact W.aret (v := va_rf (some (sh (232 + f)))) hx hb hr (Or.inl ⟨_, rfl⟩) (va_rf_or _) (fun t9 ht9 hwz => ⟨⟨(some (sh (232 + f))), (V, P), rfl, ⟨by rw [← hinv.2]; rfl, rfl⟩, by rw [ht9]; exact hW, va_K.moved hwz.alike hK, hN.warm hwz⟩, hS.F ht9⟩) hS.2.2 d_C_rowToGive_49
      · exact absurd (by decide) c1
    | succ n ih =>
      intro i f H locs ls hin hinv hW hS hl
      have hi : i < 34 := by omega
      refine lv_iload hx hb d_C_rowToGive_18 (lv_at hl 0 rfl) ?_
      refine lv_iload_n hx hb d_C_rowToGive_20 rfl (lv_at hl 1 rfl) ?_
      refine lv_icmp_ge (tgt := 48) hx hb d_C_rowToGive_21 (by decide) (fun c2 => ?_) (fun c2 => ?_)
      · exact absurd c2 (nI_ge (b := 34) (by omega) (by omega))
      · refine lv_aload_n hx hb d_C_rowToGive_24 rfl (lv_at hl 2 rfl) ?_
        refine lv_iload hx hb d_C_rowToGive_25 (lv_at hl 0 rfl) ?_
        refine jw_aldR (i := i) hx hb hK hW rfl (by omega) d_C_rowToGive_27 ?_
        refine lv_astore (lv' := [(5, .ref (sh (232 + i))), (4, .int (nI i)), (3, .int 34), (2, .ref (sh 271)), (1, .ref (sh (232 + f))), (0, .ref (sh 268))]) hx hb d_C_rowToGive_28 hl (by decide) rfl (fun ls hl => ?_)
        refine lv_aload hx hb d_C_rowToGive_30 (lv_at hl 0 rfl) ?_
        refine lv_aload_n hx hb d_C_rowToGive_32 rfl (lv_at hl 4 rfl) ?_
        refine jw_calli (va_runV (As := [.ref (sh (232 + f))]) (rest := []) ⟨hx, hb, hml, hown, hT⟩ (m_R_givesWayBefore l D B cA sh V P i f hi hinv.1 (h3 f hinv.1)) (cwV 1 hT (gV k249 k250 k251 k6 kc_R_givesWayBefore) rfl rfl rfl (by decide +kernel) ⟨Nat.le_of_ble_eq_true rfl, Nat.le_of_ble_eq_true rfl⟩) (jw_preV (q := ("BlockVault$Row", T_R, 5)) hW hK hN (lay_row hi) rfl) rfl rfl hl.1 rfl (lv_room (Nat.le_of_ble_eq_true rfl)) d_C_rowToGive_33 ⟨Nat.le_of_ble_eq_true rfl, Nat.le_of_ble_eq_true rfl⟩) hS (fun r3 V4 P5 H locs hw6 hW hS => ?_)
        obtain ⟨hr7, rfl, rfl⟩ := t3 hw6
        refine lv_if_eq (tgt := 42) hx hb d_C_rowToGive_36 (by decide) (fun c8 => ?_) (fun c8 => ?_)
        · refine lv_iinc (v := ((nI i) + 1)) (lv' := [(4, .int ((nI i) + 1)), (5, .ref (sh (232 + i))), (3, .int 34), (2, .ref (sh 271)), (1, .ref (sh (232 + f))), (0, .ref (sh 268))]) hx hb d_C_rowToGive_42 hl (k := 1) rfl rfl (by decide) rfl (fun ls hl => ?_)
          refine lv_goto (tgt := 18) hx hb d_C_rowToGive_45 (by decide) ?_
          exact ih (i + 1) f H locs ls (by omega) (⟨by omega, by rw [← hinv.2]; simp [gL, hr7, c8]⟩) hW hS (by rw [← nI_1]; exact lv_sub hl [0, 2, 3, 4, 5] rfl)
        · refine lv_aload hx hb d_C_rowToGive_39 (lv_at hl 0 rfl) ?_
          refine lv_astore_n (lv' := [(1, .ref (sh (232 + i))), (5, .ref (sh (232 + i))), (4, .int (nI i)), (3, .int 34), (2, .ref (sh 271)), (0, .ref (sh 268))]) hx hb d_C_rowToGive_41 rfl hl (by decide) rfl (fun ls hl => ?_)
          refine lv_iinc (v := ((nI i) + 1)) (lv' := [(4, .int ((nI i) + 1)), (1, .ref (sh (232 + i))), (5, .ref (sh (232 + i))), (3, .int 34), (2, .ref (sh 271)), (0, .ref (sh 268))]) hx hb d_C_rowToGive_42 hl (k := 2) rfl rfl (by decide) rfl (fun ls hl => ?_)
          refine lv_goto (tgt := 18) hx hb d_C_rowToGive_45 (by decide) ?_
          exact ih (i + 1) i H locs ls (by omega) (⟨by omega, by rw [← hinv.2]; simp [gL, hr7, c8]⟩) hW hS (by rw [← nI_1]; exact lv_sub hl [0, 3, 4, 1, 5] rfl)
  exact loop 34 0 0 _ _ ls (by omega) (⟨by omega, rfl⟩) hW hS (lv_sub hl [0, 1, 2, 3, 4] rfl)
end
section
/-! ROWS BY THE MAP: puts of any value, new objects and arrays, stores of references, arraycopy of bytes -/
theorem hm_up_up {h : hm_T} {a : Nat} {x y : Nat × va_E} : hm_up (hm_up h a x) a y = hm_up h a y := by
  funext q
  by_cases hq : q = a
  · simp [hm_up, hq]
  · simp [hm_up, hq]
theorem va_S.nw {A : Nat → Prop} {H0 H H1 : Heap} {locs : List Loc} (h : va_S A H0 H locs) (z : H.size ≤ H1.size) (o : ∀ q : Nat, q < H.size → H1[q]? = H[q]?) : va_S A H0 H1 locs :=
  ⟨Nat.le_trans h.1 z, fun x h1 h2 => (o x (Nat.lt_of_lt_of_le h1 h.1)).trans (h.2.1 x h1 h2), h.2.2⟩
/-- the class of an array is the one that the tables name -/
theorem arr_cls {D : va_G} {cA : Nat → ClassId} {s : State} (hK : va_K D vwCl (tysA cA) s) {c0 : ClassId} (h : s.vm.findClass ("[" ++ (FieldType.byte).toString) = some c0) : c0 = cA 0 := by
  have h1 : s.vm.findClass ("[" ++ (FieldType.byte).toString) = some (cA 0) := (hK.2 0 (cA 0, .byte) rfl).2
  exact Option.some.inj (h.symm.trans h1)
section HMR
variable {p : Program} {l : Launch} {e : Env} {R : Room} {s : State} {m : MethodId} {args : Array Value} {below : List Frame} {meth : Method} {c : Code} {H : Heap} {locs : List Loc} {cells slots : Nat} {Q : State → Prop}
variable {cc : ByteArray} {pc : Nat} {ls : Array Slot} {rest : List Value} {D : va_G} {B : Nat} {cA : Nat → ClassId} {h : hm_T} {H0 : Heap} {tys : List (ClassId × FieldType)}
theorem hm_put (hexec : p.tables.exec = Jvm.exec) (hb : c.code = cc) {own ref C : String} {T : u_T} {N ci index : Nat} {Ts : List Cond} (hts : ∀ w ∈ Ts, w.before args s = true) (hin : ∀ w ∈ u_ws C T N, w ∈ Ts) (ty0 : Nat → FieldType) (hty : ∀ k, k < N → parseFieldDescriptor (T k).2.2.1 = some (ty0 k)) (hnm : ∀ a, a < N → ∀ b, b < N → a ≠ b → (T a).2.1 ≠ (T b).2.1) (hown : s.vm.findClass own = some m.cls) (hK : va_K D vwCl tys s) (hP : hm_P D vwCl B h H) (hS0 : va_S (hm_A B) H0 H locs)
    {a t : Nat} {fs : List Value} (he : h a = some (t, .inr (ci, fs))) (hc : vwCl[ci]? = some (C, T, N)) (k : Nat) (hk : k < N) (hlink : (Cond.fieldLink own index ref (T k).2.1 (T k).2.2.1).before args s = true) (hsame : ∀ x, s.fieldFound? (T k).1 (T k).2.1 (T k).2.2.1 = some x → s.fieldFound? ref (T k).2.1 (T k).2.2.1 = some x) (hfin : (T k).2.2.2 = false) {ty : FieldType} {v : Value} (hd : parseFieldDescriptor (T k).2.2.1 = some ty) (hn : narrow ty v = v) (hfit : fits ty v = true) (hl : k < fs.length)
    (hdg : decode cc pc = .ok (.putfield index, 3)) (kk : ∀ (H1 : Heap) (locs1 : List Loc), hm_P D vwCl B (hm_up h a (t, .inr (ci, fs.set k v))) H1 → va_S (hm_A B) H0 H1 locs1 → W p l e R s m args below meth c H1 locs1 cells slots Q (F0 m (pc + 3) ls rest)) : W p l e R s m args below meth c H locs cells slots Q (F0 m pc ls (v :: .ref a :: rest)) := by
  have hap := va_apart (own := own) hts hin ty0 hty hnm hK hc
  obtain ⟨r, h1, cell, q1, q2, q3, q4⟩ := (hP.2.1 _ _ _ he).2.2
  have hr : r = (C, T, N) := Option.some.inj (h1.symm.trans hc)
  subst hr
  obtain ⟨hS, hfc, kC, hkC, hkind⟩ := hK.1 ci _ hc
  obtain ⟨cf, kf, fi, f, hi, hsl⟩ := hS k hk
  have hlay := hts _ (hin _ (u_in_lay hk))
  unfold u_lay at hlay
  rw [if_neg (by rw [hfin]; decide)] at hlay
  have hst := (u_facts hfc hkC (u_lays hts hin hk) hi).1
  have h6 := u_store hfc hkC hkind hlay hi hd hn hfit
  refine W.putK hexec hb (f := f) ⟨hown, hlink, ⟨_, _, _, hsame _ hi⟩, hst⟩ (by rw [q2]; exact h6) q1 q3 (by rw [hsl]; exact k2_hasslot (q4 k hk)) rfl rfl hdg fun H' e1 e2 e3 => ?_
  rw [hsl] at e1 ⊢
  exact kk H' _ (hP.set (e := .inr (ci, fs.set k v)) he ⟨_, hc, t_OB.to (V := updV (vp_V fs) k v) ⟨_, e1, q2, q3, t_set q4 hap hk v⟩ (fun j _ => vp_updV_set hl v j)⟩ e2 e3 (fun c0 c1 g0 g1 => by
    rw [q1] at g0
    rw [e1] at g1
    cases g0
    cases g1
    exact k2_slotsz _ _ _)) (hS0.put e2 e3 (hP.ge he))
theorem hm_putF (hexec : p.tables.exec = Jvm.exec) (hb : c.code = cc) {own ref C : String} {T : u_T} {N ci index : Nat} {Ts : List Cond} (hts : ∀ w ∈ Ts, w.before args s = true) (hin : ∀ w ∈ u_ws C T N, w ∈ Ts) (ty0 : Nat → FieldType) (hty : ∀ k, k < N → parseFieldDescriptor (T k).2.2.1 = some (ty0 k)) (hnm : ∀ a, a < N → ∀ b, b < N → a ≠ b → (T a).2.1 ≠ (T b).2.1) (hown : s.vm.findClass own = some m.cls) (hK : va_K D vwCl tys s) (hP : hm_P D vwCl B h H) (hS0 : va_S (hm_A B) H0 H locs)
    {a t : Nat} {fs : List Value} (he : h a = some (t, .inr (ci, fs))) (hc : vwCl[ci]? = some (C, T, N)) (k : Nat) (hk : k < N) (hlink : (Cond.fieldLink own index ref (T k).2.1 (T k).2.2.1).before args s = true) (hsame : ∀ x, s.fieldFound? (T k).1 (T k).2.1 (T k).2.2.1 = some x → s.fieldFound? ref (T k).2.1 (T k).2.2.1 = some x) (hfin : (T k).2.2.2 = true) (hin2 : meth.name = "<init>") (hdecl : (T k).1 = own) {ty : FieldType} {v : Value} (hd : parseFieldDescriptor (T k).2.2.1 = some ty) (hn : narrow ty v = v) (hfit : fits ty v = true) (hl : k < fs.length)
    (hdg : decode cc pc = .ok (.putfield index, 3)) (kk : ∀ (H1 : Heap) (locs1 : List Loc), hm_P D vwCl B (hm_up h a (t, .inr (ci, fs.set k v))) H1 → va_S (hm_A B) H0 H1 locs1 → W p l e R s m args below meth c H1 locs1 cells slots Q (F0 m (pc + 3) ls rest)) : W p l e R s m args below meth c H locs cells slots Q (F0 m pc ls (v :: .ref a :: rest)) := by
  have hap := va_apart (own := own) hts hin ty0 hty hnm hK hc
  obtain ⟨r, h1, cell, q1, q2, q3, q4⟩ := (hP.2.1 _ _ _ he).2.2
  have hr : r = (C, T, N) := Option.some.inj (h1.symm.trans hc)
  subst hr
  obtain ⟨hS, hfc, kC, hkC, hkind⟩ := hK.1 ci _ hc
  obtain ⟨cf, kf, fi, f, hi, hsl⟩ := hS k hk
  have hlay := hts _ (hin _ (u_in_lay hk))
  unfold u_lay at hlay
  rw [if_pos hfin] at hlay
  have hst := (u_facts hfc hkC (u_lays hts hin hk) hi).1
  have hcf : m.cls = cf := by
    obtain ⟨_, _, c', _, _, _, -, -, hf', -, -, -, hown2, -⟩ := Cond.laysFinal_spec hlay
    have e1 : c' = cf := by have := hi.symm.trans hf'; simp at this; exact this.1.symm
    rw [hdecl] at hown2
    rw [← e1]; exact Option.some.inj (hown.symm.trans hown2)
  have h6 := u_fits hfc hkC hkind (Or.inr hlay) hi hd hn hfit
  refine W.putFinK hexec hb hown hlink (hsame _ hi) hst hcf hin2 (by rw [q2]; exact h6) q1 q3 (by rw [hsl]; exact k2_hasslot (q4 k hk)) rfl rfl hdg fun H' e1 e2 e3 => ?_
  rw [hsl] at e1 ⊢
  exact kk H' _ (hP.set (e := .inr (ci, fs.set k v)) he ⟨_, hc, t_OB.to (V := updV (vp_V fs) k v) ⟨_, e1, q2, q3, t_set q4 hap hk v⟩ (fun j _ => vp_updV_set hl v j)⟩ e2 e3 (fun c0 c1 g0 g1 => by
    rw [q1] at g0
    rw [e1] at g1
    cases g0
    cases g1
    exact k2_slotsz _ _ _)) (hS0.put e2 e3 (hP.ge he))
/-- a new object; t: its tag -/
theorem hm_new {c0 : Code} (hexec : p.tables.exec = Jvm.exec) (hb : c0.code = cc) {own C : String} {T : u_T} {N ci index : Nat} {Ts : List Cond} (hts : ∀ w ∈ Ts, w.before args s = true) (hin : ∀ w ∈ u_ws C T N, w ∈ Ts) (ty : Nat → FieldType) (hty : ∀ k, k < N → parseFieldDescriptor (T k).2.2.1 = some (ty k)) (hown : s.vm.findClass own = some m.cls) (hcl : (Cond.classLink own index C).before args s = true) (hinst : (Cond.instantiable C N).before args s = true) (hini : (Cond.initialized C).before args s = true)
    (hK : va_K D vwCl tys s) (hP : hm_P D vwCl B h H) (hS : va_S (hm_A B) H0 H locs) (hc : vwCl[ci]? = some (C, T, N)) {fs : List Value} (hfs : ∀ j, j < N → defaultValue (ty j) = vp_V fs j) (t : Nat) (ht : t < 278) (hm : N ≤ hm_mx t) (hfr : ∀ (q : Nat) (e' : va_E), h q ≠ some (t, e')) (hcells : cells + 1 ≤ R.cells) (hslots : slots + N ≤ R.slots) (hdg : decode cc pc = .ok (.new index, 3))
    (kk : ∀ (q : Nat) (H1 : Heap), h q = none → hm_P D vwCl B (hm_up h q (t, .inr (ci, fs))) H1 → va_S (hm_A B) H0 H1 locs →
      W p l e R s m args below meth c0 H1 locs (cells + 1) (slots + N) Q (F0 m (pc + 3) ls (.ref q :: rest))) : W p l e R s m args below meth c0 H locs cells slots Q (F0 m pc ls rest) := by
  have hKn := hK.1 ci _ hc
  obtain ⟨cC', kC', i1, i2, i3, i4⟩ := Cond.instantiable_spec hinst
  refine W.newcK hexec hb hown hcl hinst hini rfl hdg hcells hslots hKn.2.1 rfl fun H1 kC hkC e1 z1 o1 => ?_
  have hsz : (blank (D.1 ci) kC).slots.size ≤ hm_mx t := by
    have e2 : D.1 ci = cC' := Option.some.inj (hKn.2.1.symm.trans i1)
    rw [e2] at hkC
    have e3 : kC = kC' := Option.some.inj (hkC.symm.trans i2)
    have e4 : kC'.instanceTypes.size = N := by
      first
        | exact i4
        | exact i4.1
        | exact i4.2.2
    rw [e3]
    simp only [blank, Array.size_map]
    rw [e4]
    exact hm
  refine kk H.size H1 hP.fresh (hP.push (cell := blank (D.1 ci) kC) ?_ e1 hsz ht hfr z1 o1) (hS.nw (by omega) o1)
  exact ⟨_, hc, (u_born ty hts hin hKn hkC e1 hty).to hfs⟩
/-- a new array of bytes -/
theorem hm_newb (hexec : p.tables.exec = Jvm.exec) (hb : c.code = cc) (harr : (Cond.arrayClass .byte).before args s = true) (hK : va_K D vwCl (tysA cA) s) (hP : hm_P D vwCl B h H) (hS : va_S (hm_A B) H0 H locs)
    {n : Int32} {N' : Nat} (hn : ¬ n < 0) (hN : n.toNatClampNeg = N') (hbytes : N' ≤ 536870912) (t : Nat) (ht : t < 278) (hm : N' ≤ hm_mx t) (hfr : ∀ (q : Nat) (e' : va_E), h q ≠ some (t, e')) (hcells : cells + 1 ≤ R.cells) (hslots : slots + N' ≤ R.slots) (hdg : decode cc pc = .ok (.newarray .byte, 2))
    (kk : ∀ (q : Nat) (H1 : Heap), h q = none → hm_P D vwCl B (hm_up h q (t, aInt (cA 0) N' (fun _ => 0))) H1 → va_S (hm_A B) H0 H1 locs →
      W p l e R s m args below meth c H1 locs (cells + 1) (slots + N') Q (F0 m (pc + 2) ls (.ref q :: rest))) : W p l e R s m args below meth c H locs cells slots Q (F0 m pc ls (.int n :: rest)) := by
  have hbb : N' * componentBytes (newarray.typeOf .byte) ≤ 536870912 := by
    have : componentBytes (newarray.typeOf .byte) = 1 := rfl
    rw [this]
    omega
  refine va_newaK (atype := .byte) hexec hb harr rfl hdg rfl hn hN hbb hcells hslots rfl fun H1 c0 e1 z1 o1 hAr hNm => ?_
  have ec : c0 = cA 0 := arr_cls hK hNm
  subst ec
  refine kk H.size H1 hP.fresh (hP.push (cell := arrV (cA 0) N' (fun _ => .int 0)) ?_ e1 (by rw [arrV_size]; exact hm) ht hfr z1 o1) (hS.nw (by omega) o1)
  exact e1
/-- System.arraycopy between two arrays of bytes -/
theorem hm_copyb (hexec : p.tables.exec = Jvm.exec) (hb : c.code = cc) (hml : c.maxLocals = ls.size) {own : String} {index : Nat} (hown : s.vm.findClass own = some m.cls) (hlink : (Cond.methodLink own index arraycopyName).before args s = true) (hnat : (Cond.native arraycopyName).before args s = true) (hstat : (Cond.static arraycopyName).before args s = true) (hini : (Cond.initialized "java/lang/System").before args s = true)
    (hA : ArrOfT s (cA 0) .byte) (hP : hm_P D vwCl B h H) (hS : va_S (hm_A B) H0 H locs) {a0 a t0 t1 n0 n1 : Nat} {f g : Nat → Int32} (ha0 : h a0 = some (t0, aInt (cA 0) n0 f)) (ha1 : h a = some (t1, aInt (cA 0) n1 g))
    {sp dp n : Int32} (h1 : ¬ sp < 0) (h2 : ¬ dp < 0) (h3 : ¬ n < 0) (h4 : sp.toNatClampNeg + n.toNatClampNeg ≤ n0) (h5 : dp.toNatClampNeg + n.toNatClampNeg ≤ n1) (hfit : ∀ i, i < n.toNatClampNeg → fits .byte (.int (f (sp.toNatClampNeg + i))) = true)
    (hframes : 1 ≤ R.frames) (hlocals : (rest.map fun v => v.category).sum + (nativeFrameWords "java/lang/System" "arraycopy" 5 + 11) ≤ R.locals) (hdg : decode cc pc = .ok (.invokestatic index, 3))
    (kk : ∀ (H1 : Heap) (locs1 : List Loc), hm_P D vwCl B (hm_up h a (t1, aInt (cA 0) n1 (va_cpy f g sp.toNatClampNeg dp.toNatClampNeg n.toNatClampNeg))) H1 → va_S (hm_A B) H0 H1 locs1 → W p l e R s m args below meth c H1 locs1 cells slots Q (F0 m (pc + 3) ls rest)) : W p l e R s m args below meth c H locs cells slots Q (F0 m pc ls (.int n :: .int dp :: .ref a :: .int sp :: .ref a0 :: rest)) := by
  have nn : ∀ z : Int32, ¬ z < 0 → z.toInt = (z.toNatClampNeg : Int) := by
    intro z hz
    have hz0 : (0 : Int) ≤ z.toInt := by
      have := Int32.not_lt.mp hz
      simpa using Int32.le_iff_toInt_le.mp this
    show z.toInt = ((z.toInt.toNat : Nat) : Int)
    omega
  intro T hT X
  have hc0 : H[a0]? = some (vp_cell (cA 0) (n0, .inl f)) := (hP.2.1 _ _ _ ha0).2.2
  have hc1 : H[a]? = some (vp_cell (cA 0) (n1, .inl g)) := (hP.2.1 _ _ _ ha1).2.2
  obtain ⟨-, k0, hk0, cm0, hkk0⟩ := hA n0 (fun j => .int (f j))
  obtain ⟨-, k1, hk1, cm1, hkk1⟩ := hA n1 (fun j => .int (g j))
  obtain ⟨vm', X', step⟩ := X.arraycopy hexec hown hlink hnat hstat hini (src := a0) (dst := a) (cs := vp_cell (cA 0) (n0, .inl f)) (cd := vp_cell (cA 0) (n1, .inl g)) (srcPos := sp) (destPos := dp) (n := n) (by rw [hT]; exact hc0) (by rw [hT]; exact hc1)
    (fun _ h => by cases h) (fun _ h => by cases h) (fun h => by cases h) (fun h => by cases h) hk0 hk1 hkk0 hkk1 (by simp [refKind]) h1 h2 h3
    (by rw [nn sp h1, nn n h3]; show ¬ _ > ((arrV (cA 0) n0 (fun j => .int (f j))).slots.size : Int); rw [arrV_size]; omega)
    (by rw [nn dp h2, nn n h3]; show ¬ _ > ((arrV (cA 0) n1 (fun j => .int (g j))).slots.size : Int); rw [arrV_size]; omega)
    (fun vm₁ _ i hi => by
      have e : (vp_cell (cA 0) (n0, .inl f)).slots.getD (sp.toNatClampNeg + i) .null = .int (f (sp.toNatClampNeg + i)) := by
        show (arrV (cA 0) n0 (fun j => .int (f j))).slots.getD _ _ = _
        rw [Array.getD_eq_getD_getElem?, arrV_read _ _ (by omega)]
        rfl
      refine ⟨?_, ?_⟩
      · rw [e]
        exact hfit i hi
      · rw [e]
        exact trivial)
    (g := F0 m pc ls (.int n :: .int dp :: .ref a :: .int sp :: .ref a0 :: rest)) rfl (by rw [hml]) (rest := rest) rfl (by rw [hb]; exact hdg) hframes (by show 2 * 0 + _ + _ ≤ _; omega)
  have e1 : copied (vp_cell (cA 0) (n0, .inl f)) (vp_cell (cA 0) (n1, .inl g)) sp dp n = vp_cell (cA 0) (n1, .inl (va_cpy f g sp.toNatClampNeg dp.toNatClampNeg n.toNatClampNeg)) := va_copied (fun z => .int z) (cA 0) (cA 0) f g h4
  rw [e1] at X' step
  have hl : a < H.size := (Array.getElem?_eq_some_iff.mp hc1).1
  have hheap : ((T.setVm vm').setCell a (vp_cell (cA 0) (n1, .inl (va_cpy f g sp.toNatClampNeg dp.toNatClampNeg n.toNatClampNeg)))).heap = H.setIfInBounds a (vp_cell (cA 0) (n1, .inl (va_cpy f g sp.toNatClampNeg dp.toNatClampNeg n.toNatClampNeg))) := by rw [← hT]; rfl
  have oq : ∀ q : Nat, q ≠ a → (H.setIfInBounds a (vp_cell (cA 0) (n1, .inl (va_cpy f g sp.toNatClampNeg dp.toNatClampNeg n.toNatClampNeg))))[q]? = H[q]? := fun q hq => by simp [Array.getElem?_setIfInBounds, Ne.symm hq]
  have hat : (H.setIfInBounds a (vp_cell (cA 0) (n1, .inl (va_cpy f g sp.toNatClampNeg dp.toNatClampNeg n.toNatClampNeg))))[a]? = some (vp_cell (cA 0) (n1, .inl (va_cpy f g sp.toNatClampNeg dp.toNatClampNeg n.toNatClampNeg))) := by simp [Array.getElem?_setIfInBounds, hl]
  obtain ⟨t, a1, b1⟩ := kk _ _ (hP.set (e := aInt (cA 0) n1 (va_cpy f g sp.toNatClampNeg dp.toNatClampNeg n.toNatClampNeg)) ha1 hat (by simp) oq (fun c0 c1 g0 g1 => by rw [hc1] at g0; rw [hat] at g1; cases g0; cases g1; rw [vp_cell_i, vp_cell_i, arrV_size, arrV_size])) ⟨by simp; exact hS.1, fun q g1 g2 => by
      rw [oq q (fun e => g2 (by rw [e]; exact hP.ge ha1))]
      exact hS.2.1 q g1 g2, fun q hq => by
      rcases List.mem_append.mp hq with h | h
      · exact hS.2.2 q h
      · obtain ⟨z, -, hz⟩ := List.mem_map.mp h
        rw [← hz]
        exact hP.ge ha1⟩ _ hheap X'
  exact ⟨t, step t a1, b1⟩
end HMR
end
section
/-! PAGES: their two cells -/
theorem hm_up_id {h : hm_T} {a : Nat} {x : Nat × va_E} (ha : h a = some x) : hm_up h a x = h := by
  funext q
  by_cases hq : q = a
  · rw [hq, hm_up_s, ha]
  · rw [hm_up_n hq]
theorem p1_id {P : VV} {t : Nat} : p1 P t (P t) = P := by
  funext q
  by_cases hq : q = t
  · rw [hq, p1_s]
  · rw [p1_n hq]
def HC (D : va_G) (B : Nat) (cA : Nat → ClassId) (h : hm_T) (U : State) : Prop := hm_P D vwCl B h U.heap ∧ va_K D vwCl (tysA cA) U
theorem HC.blind {D : va_G} {B : Nat} {cA : Nat → ClassId} {h : hm_T} {av : List Value} : FrameBlind (va_Pc av (HC D B cA h)) := fun a U g mk q =>
  ⟨q.1, q.2.1, va_K.moved (u := U) (U := U.calling g mk a) (Vm.Alike.refl U.vm) q.2.2⟩
def gfill (x : Int32) (i : Nat) (g : Nat → Int32) : Nat → Int32 := fun j => if j < i then x.toInt8.toInt32 else g j
theorem gfill_s {x : Int32} {i : Nat} {g : Nat → Int32} : upd (gfill x i g) i x.toInt8.toInt32 = gfill x (i + 1) g := by
  funext j
  unfold upd gfill
  by_cases h1 : j = i
  · rw [if_pos h1, if_pos (by omega)]
  · rw [if_neg h1]
    by_cases h2 : j < i
    · rw [if_pos h2, if_pos (by omega)]
    · rw [if_neg h2, if_neg (by omega)]
theorem gfill_0 {x : Int32} {g : Nat → Int32} : gfill x 0 g = g := by
  funext j
  unfold gfill
  rw [if_neg (by omega)]
/-- the bytes of a page change -/
theorem JH.bytes {cA : Nat → ClassId} {sh : Nat → Nat} {V P : VV} {h : hm_T} (hJ : JH cA sh V P h) {t b : Nat} (ht : t < 116) {e0 : va_E} (a1 : h (sh t) = some (t, .inr (3, [.ref b]))) (a2 : h b = some (116 + t, e0)) {g1 g : Nat → Int32} (hg : ∀ k, k < 1024 → g1 k = g k) (hf : bfit g1 1024) : JH cA sh V (p1 P t g) (hm_up h b (116 + t, aInt (cA 0) 1024 g1)) := by
  refine hJ.page ht (fun q t' e h1 h2 hq => ?_) (fun q t' e h1 h2 hq => ?_) (Or.inr ⟨b, g1, ?_, hm_up_s, hg, hf⟩)
  · rw [hm_up_n (hm_ne hq a2 h2)]
    exact hq
  · by_cases hqb : q = b
    · subst hqb
      rw [hm_up_s] at hq
      cases hq
      exact absurd rfl h2
    · rw [hm_up_n hqb] at hq
      exact hq
  · rw [hm_up_n (hm_ne a1 a2 (by omega))]
    exact a1
/-- a page that had none gets its bytes -/
theorem JH.made {cA : Nat → ClassId} {sh : Nat → Nat} {V P : VV} {h : hm_T} (hJ : JH cA sh V P h) {t q : Nat} (ht : t < 116) (a1 : h (sh t) = some (t, .inr (3, [.null]))) (a2 : ∀ k, k < 1024 → P t k = 0) (hq : h q = none) : JH cA sh V P (hm_up (hm_up h q (116 + t, aInt (cA 0) 1024 (fun _ => 0))) (sh t) (t, .inr (3, [.ref q]))) := by
  have n1 : sh t ≠ q := hm_nn a1 hq
  have key : JH cA sh V (p1 P t (P t)) (hm_up (hm_up h q (116 + t, aInt (cA 0) 1024 (fun _ => 0))) (sh t) (t, .inr (3, [.ref q]))) := by
    refine hJ.page ht (fun x t' e h1 h2 hx => ?_) (fun x t' e h1 h2 hx => ?_) (Or.inr ⟨q, fun _ => 0, hm_up_s, ?_, fun k hk => (a2 k hk).symm, fun k _ => rfl⟩)
    · rw [hm_up_n (hm_ne hx a1 h1), hm_up_n (hm_nn hx hq)]
      exact hx
    · by_cases hxt : x = sh t
      · subst hxt
        rw [hm_up_s] at hx
        cases hx
        exact absurd rfl h1
      · rw [hm_up_n hxt] at hx
        by_cases hxq : x = q
        · subst hxq
          rw [hm_up_s] at hx
          cases hx
          exact absurd rfl h2
        · rw [hm_up_n hxq] at hx
          exact hx
    · rw [hm_up_n (Ne.symm n1), hm_up_s]
  rw [p1_id] at key
  exact key
theorem JH.null {cA : Nat → ClassId} {sh : Nat → Nat} {V P : VV} {h : hm_T} (hJ : JH cA sh V P h) {t : Nat} (ht : t < 116) (a1 : h (sh t) = some (t, .inr (3, [.null]))) (a3 : ∀ (q : Nat) (e : va_E), h q ≠ some (116 + t, e)) : JH cA sh V (p1 P t (fun _ => 0)) h :=
  hJ.page ht (fun _ _ _ _ _ h => h) (fun _ _ _ _ _ h => h) (Or.inl ⟨a1, fun _ _ => rfl, a3⟩)
theorem mByte_0 {g : Nat → Int32} {k : Int32} (h : ∀ k, k < 1024 → g k = 0) : mByte g k = 0 := by
  unfold mByte
  by_cases c : k < 0 ∨ 1024 ≤ k
  · rw [if_pos c]
  · rw [if_neg c]
    obtain ⟨x, x1, x2⟩ := nI_of (x := k) (fun q => c (Or.inl q))
    subst x2
    have hx : x < 1024 := by
      rcases Nat.lt_or_ge x 1024 with q | q
      · exact q
      · exact absurd (nI_le (a := 1024) q x1) (fun w => c (Or.inr w))
    rw [nI_clamp x1, h x hx]
    rfl
theorem in_1024 {k : Int32} (h1 : ¬ k < 0) (h2 : k < 1024) : vp_in k 1024 := by
  obtain ⟨x, x1, x2⟩ := nI_of h1
  subst x2
  exact vp_in_nI ((nI_ltI (b := 1024) x1 (by omega)).mp h2) (by omega)
/-- Arrays.fill over bytes -/
theorem m_A_fill (l : Launch) (D : va_G) (B : Nat) (cA : Nat → ClassId) (h : hm_T) (b t n : Nat) (g : Nat → Int32) (hbt : h b = some (t, aInt (cA 0) n g)) (hn : n < 2 ^ 31) (x : Int32) : Met l y_A_fill w_A_fill ({ frames := 0, cells := 0, slots := 0, locals := 0 } : Room) (va_Pc [.ref b, .int x] (HC D B cA h)) (va_Qv (fun (h' : hm_T) => h' = hm_up h b (t, aInt (cA 0) n (gfill x n g))) (HC D B cA) (hm_A B)) 0 0 (hm_A B) := by
  refine Met.ofW (cc := c_A_fill) (maxL := 4) (ret := none) (by decide) rfl ?_
  intro p e s m args below meth c s₁ Bd hml hv
  obtain ⟨rfl, hP, hK⟩ := hv
  have hx := Bd.exec
  have hb := Bd.bytes
  have hr := Bd.returns
  have hlocks := Bd.notSynchronized
  have hS : va_S (hm_A B) s.heap s.heap [] := va_S.rf
  have hl := lv_entry ([.ref b, .int x]) (n := 4) (Nat.le_of_ble_eq_true rfl)
  rw [lg_entry_eq]
  generalize (lg_sl ([.ref b, .int x]) ++ List.replicate (4 - (lg_sl ([.ref b, .int x])).length) Slot.unset).toArray = ls at hl ⊢
  have hl : lv_has ls 4 [(0, .ref b), (1, .int x)] := hl
  refine lv_iconst (v := 0) hx hb d_A_fill_0 (by decide) ?_
  refine lv_istore_n (lv' := [(2, .int 0), (0, .ref b), (1, .int x)]) hx hb d_A_fill_1 rfl hl (by decide) rfl (fun ls hl => ?_)
  refine lv_aload_n hx hb d_A_fill_2 rfl (lv_at hl 1 rfl) ?_
  refine va_alen hx hb hK (hP.one hbt) 0 0 rfl rfl (v := nI n) rfl d_A_fill_3 ?_
  refine lv_istore_n (lv' := [(3, .int (nI n)), (2, .int 0), (0, .ref b), (1, .int x)]) hx hb d_A_fill_4 rfl hl (by decide) rfl (fun ls hl => ?_)
  have loop : ∀ (k i : Nat) (H : Heap) (locs : List Loc) (ls : Array Slot), i + k = n → hm_P D vwCl B (hm_up h b (t, aInt (cA 0) n (gfill x i g))) H → va_S (hm_A B) s.heap H locs → lv_has ls 4 [(2, .int (nI i)), (3, .int (nI n)), (0, .ref b), (1, .int x)] →
      W p l e (headSpec w_A_fill ({ frames := 0, cells := 0, slots := 0, locals := 0 } : Room)).room s m ([.ref b, .int x] : List Value).toArray below meth c H locs 0 0 (MQ below (va_Qv (fun (h' : hm_T) => h' = hm_up h b (t, aInt (cA 0) n (gfill x n g))) (HC D B cA) (hm_A B)) ([.ref b, .int x] : List Value).toArray s 0 0 (hm_A B)) (F0 m 5 ls []) := by
    intro k
    induction k with
    | zero =>
      intro i H locs ls hin hP hS hl
      obtain rfl : i = n := by omega
      refine lv_iload_n hx hb d_A_fill_5 rfl (lv_at hl 0 rfl) ?_
      refine lv_iload_n hx hb d_A_fill_6 rfl (lv_at hl 1 rfl) ?_
      refine lv_icmp_ge (tgt := 20) hx hb d_A_fill_7 (by decide) (fun c1 => ?_) (fun c1 => ?_)
      · exact W.vret hx hb hr (fun t' ht hw9 => ⟨⟨_, rfl, rfl, by rw [ht]; exact hP, va_K.moved hw9.alike hK⟩, hS.F ht⟩) hS.2.2 d_A_fill_20
      · exact absurd (Int32.le_refl _) c1
    | succ k ih =>
      intro i H locs ls hin hP hS hl
      refine lv_iload_n hx hb d_A_fill_5 rfl (lv_at hl 0 rfl) ?_
      refine lv_iload_n hx hb d_A_fill_6 rfl (lv_at hl 1 rfl) ?_
      refine lv_icmp_ge (tgt := 20) hx hb d_A_fill_7 (by decide) (fun c1 => ?_) (fun c1 => ?_)
      · exact absurd c1 (nI_ge (by omega) hn)
      · refine lv_aload_n hx hb d_A_fill_10 rfl (lv_at hl 2 rfl) ?_
        refine lv_iload_n hx hb d_A_fill_11 rfl (lv_at hl 0 rfl) ?_
        refine lv_iload_n hx hb d_A_fill_12 rfl (lv_at hl 3 rfl) ?_
        refine hm_bast hx hb (hK.2 0 (cA 0, .byte) rfl).1 hP hm_up_s hS (vp_in_nI (show i < n by omega) hn) d_A_fill_13 (fun H locs hP hS => ?_)
        rw [hm_up_up, nI_clamp (by omega), gfill_s] at hP
        refine lv_iinc (v := (nI i + 1)) (lv' := [(2, .int (nI i + 1)), (3, .int (nI n)), (0, .ref b), (1, .int x)]) hx hb d_A_fill_14 hl (k := 0) rfl rfl (by decide) rfl (fun ls hl => ?_)
        refine lv_goto (tgt := 5) hx hb d_A_fill_17 (by decide) ?_
        exact ih (i + 1) H locs ls (by omega) hP hS (by rw [← nI_1]; exact lv_sub hl [0, 1, 2, 3] rfl)
  exact loop n 0 _ _ ls (by omega) (by rw [gfill_0, hm_up_id hbt]; exact hP) hS (lv_sub hl [1, 0, 2, 3] rfl)
end
section
theorem in_lt {k : Int32} (h1 : ¬ k < 0) (h2 : k < 1024) : k.toNatClampNeg < 1024 := Nat.not_le.mp fun q => in_1024 h1 h2 (Or.inr q)
theorem mByte_lo {g : Nat → Int32} {k : Int32} (h : k < 0) : mByte g k = 0 := by
  unfold mByte
  rw [if_pos (Or.inl h)]
theorem mByte_hi {g : Nat → Int32} {k : Int32} (h : ¬ k < 1024) : mByte g k = 0 := by
  unfold mByte
  rw [if_pos (Or.inr (Int32.not_lt.mp h))]
theorem mByte_in {g : Nat → Int32} {k : Int32} (h1 : ¬ k < 0) (h2 : k < 1024) : mByte g k = g k.toNatClampNeg &&& 255 := by
  unfold mByte
  rw [if_neg (fun q => q.elim h1 (fun w => Int32.not_lt.mpr w h2))]
theorem mPut_no {g : Nat → Int32} {k n v : Int32} (h : ¬ mIsRun k n) : mPut g k n v = g := by
  unfold mPut
  rw [if_neg h]

set_option maxHeartbeats 4000000 in
set_option maxRecDepth 100000 in
theorem m_P_byteAt (l : Launch) (D : va_G) (B : Nat) (cA : Nat → ClassId) (sh : Nat → Nat) (V P : VV) (t : Nat) (ht : t < 116) (k : Int32) : Met l y_P_byteAt w_P_byteAt ({ frames := 0, cells := 0, slots := 0, locals := 0 } : Room) (va_Pc [.ref (sh t), .int k] (JC D B cA sh (V, P))) (va_Qi (fun (r : Int32) (u : VV × VV) => (r, u.1, u.2) = (mByte (P t) k, V, P)) (JC D B cA sh) (hm_A B)) 0 0 (hm_A B) := by
  refine Met.ofW (cc := c_P_byteAt) (maxL := 2) (ret := (some FieldType.int)) (by decide) rfl ?_
  intro p e s m args below meth c s₁ Bd hml hv
  obtain ⟨rfl, hW, hK, hN⟩ := hv
  have hx := Bd.exec
  have hb := Bd.bytes
  have hr := Bd.returns
  have hts := atoms_spec (ws := w_P_byteAt) Bd.pre
  have hT : ∀ w ∈ WG, w.before ([.ref (sh t), .int k] : List Value).toArray s = true := fun w h => hts w (List.mem_cons_of_mem _ h)
  have hown : s.vm.findClass "BlockVault$Page" = some m.cls := findClass_of_methodNamed Bd.named
  have hlocks := Bd.notSynchronized
  have hW : JW D B cA sh V P s.heap := hW
  have hBs : B ≤ s.heap.size := hW.ge
  have hS : va_S (hm_A B) s.heap s.heap [] := va_S.rf
  have hl := lv_entry ([.ref (sh t), .int k]) (n := 2) (Nat.le_of_ble_eq_true rfl)
  rw [lg_entry_eq]
  generalize (lg_sl ([.ref (sh t), .int k]) ++ List.replicate (2 - (lg_sl ([.ref (sh t), .int k])).length) Slot.unset).toArray = ls at hl ⊢
  have hl : lv_has ls 2 [(0, .ref (sh t)), (1, .int k)] := hl
  obtain ⟨h, hP, hJ⟩ := id hW
  rcases hJ.2.2.2.1 t ht with ⟨a1, a2, a3⟩ | ⟨b, g0, a1, a2, a3, a4⟩
  · refine lv_aload_n hx hb d_P_byteAt_0 rfl (lv_at hl 0 rfl) ?_
    refine va_get (D := D) (ci := 3) (v := .null) (C := "BlockVault$Page") (T := T_P) (N := 1) hx hb hT in_P hown hK (hP.one a1) 0 rfl rfl 0 (by decide) (hT _ k38) (fun _ h9 => h9) rfl d_P_byteAt_1 ?_
    refine lv_ifnullN (tgt := 20) hx hb d_P_byteAt_4 (by decide) ?_
    refine lv_iconst (v := 0) hx hb d_P_byteAt_20 (by decide) ?_
    refine W.widen (k := 0) (n := 0) (by omega) (by omega) ?_
    exact W.iret (v := 0) hx hb hr (fun t9 ht9 hwz => ⟨⟨0, (V, P), rfl, (by rw [mByte_0 a2]), by rw [ht9]; exact hW, va_K.moved hwz.alike hK, hN.warm hwz⟩, hS.F ht9⟩) hS.2.2 d_P_byteAt_21
  · refine lv_aload_n hx hb d_P_byteAt_0 rfl (lv_at hl 0 rfl) ?_
    refine va_get (D := D) (ci := 3) (v := .ref b) (C := "BlockVault$Page") (T := T_P) (N := 1) hx hb hT in_P hown hK (hP.one a1) 0 rfl rfl 0 (by decide) (hT _ k38) (fun _ h9 => h9) rfl d_P_byteAt_1 ?_
    refine lv_ifnull hx hb d_P_byteAt_4 ?_
    refine lv_iload_n hx hb d_P_byteAt_7 rfl (lv_at hl 1 rfl) ?_
    refine lv_if_lt (tgt := 20) hx hb d_P_byteAt_8 (by decide) (fun c1 => ?_) (fun c1 => ?_)
    · refine lv_iconst (v := 0) hx hb d_P_byteAt_20 (by decide) ?_
      refine W.widen (k := 0) (n := 0) (by omega) (by omega) ?_
      exact W.iret (v := 0) hx hb hr (fun t9 ht9 hwz => ⟨⟨0, (V, P), rfl, (by rw [mByte_lo c1]), by rw [ht9]; exact hW, va_K.moved hwz.alike hK, hN.warm hwz⟩, hS.F ht9⟩) hS.2.2 d_P_byteAt_21
    · refine lv_iload_n hx hb d_P_byteAt_11 rfl (lv_at hl 1 rfl) ?_
      refine lv_aload_n hx hb d_P_byteAt_12 rfl (lv_at hl 0 rfl) ?_
      refine va_get (D := D) (ci := 3) (v := .ref b) (C := "BlockVault$Page") (T := T_P) (N := 1) hx hb hT in_P hown hK (hP.one a1) 0 rfl rfl 0 (by decide) (hT _ k38) (fun _ h9 => h9) rfl d_P_byteAt_13 ?_
      refine va_alen hx hb hK (hP.one a2) 0 0 rfl rfl (v := 1024) rfl d_P_byteAt_16 ?_
      refine lv_icmp_lt (tgt := 22) hx hb d_P_byteAt_17 (by decide) (fun c2 => ?_) (fun c2 => ?_)
      · refine lv_aload_n hx hb d_P_byteAt_22 rfl (lv_at hl 0 rfl) ?_
        refine va_get (D := D) (ci := 3) (v := .ref b) (C := "BlockVault$Page") (T := T_P) (N := 1) hx hb hT in_P hown hK (hP.one a1) 0 rfl rfl 0 (by decide) (hT _ k38) (fun _ h9 => h9) rfl d_P_byteAt_23 ?_
        refine lv_iload_n hx hb d_P_byteAt_26 rfl (lv_at hl 1 rfl) ?_
        refine va_bald hx hb hK (hP.one a2) 0 0 rfl rfl (in_1024 c1 c2) d_P_byteAt_27 ?_
        refine lv_sipush (v := 255) hx hb d_P_byteAt_28 (by decide) ?_
        refine lv_iand hx hb d_P_byteAt_31 ?_
        refine W.widen (k := 0) (n := 0) (by omega) (by omega) ?_
        exact W.iret (v := ((g0 k.toNatClampNeg) &&& 255)) hx hb hr (fun t9 ht9 hwz => ⟨⟨((g0 k.toNatClampNeg) &&& 255), (V, P), rfl, (by rw [mByte_in c1 c2, ← a3 _ (in_lt c1 c2)]), by rw [ht9]; exact hW, va_K.moved hwz.alike hK, hN.warm hwz⟩, hS.F ht9⟩) hS.2.2 d_P_byteAt_32
      · refine lv_iconst (v := 0) hx hb d_P_byteAt_20 (by decide) ?_
        refine W.widen (k := 0) (n := 0) (by omega) (by omega) ?_
        exact W.iret (v := 0) hx hb hr (fun t9 ht9 hwz => ⟨⟨0, (V, P), rfl, (by rw [mByte_hi c2]), by rw [ht9]; exact hW, va_K.moved hwz.alike hK, hN.warm hwz⟩, hS.F ht9⟩) hS.2.2 d_P_byteAt_21

set_option maxHeartbeats 4000000 in
set_option maxRecDepth 100000 in
theorem m_P_makeZero (l : Launch) (D : va_G) (B : Nat) (cA : Nat → ClassId) (sh : Nat → Nat) (V P : VV) (t : Nat) (ht : t < 116) : Met l y_P_makeZero w_P_makeZero ({ frames := 1, cells := 0, slots := 0, locals := 23 } : Room) (va_Pc [.ref (sh t)] (JC D B cA sh (V, P))) (va_Qv (fun (u : VV × VV) => u = (V, p1 P t (fun _ => 0))) (JC D B cA sh) (hm_A B)) 0 0 (hm_A B) := by
  refine Met.ofW (cc := c_P_makeZero) (maxL := 1) (ret := none) (by decide) rfl ?_
  intro p e s m args below meth c s₁ Bd hml hv
  obtain ⟨rfl, hW, hK, hN⟩ := hv
  have hx := Bd.exec
  have hb := Bd.bytes
  have hr := Bd.returns
  have hts := atoms_spec (ws := w_P_makeZero) Bd.pre
  have hT : ∀ w ∈ WG, w.before ([.ref (sh t)] : List Value).toArray s = true := fun w h => hts w (List.mem_cons_of_mem _ h)
  have hown : s.vm.findClass "BlockVault$Page" = some m.cls := findClass_of_methodNamed Bd.named
  have hlocks := Bd.notSynchronized
  have hW : JW D B cA sh V P s.heap := hW
  have hBs : B ≤ s.heap.size := hW.ge
  have hS : va_S (hm_A B) s.heap s.heap [] := va_S.rf
  have hl := lv_entry ([.ref (sh t)]) (n := 1) (Nat.le_of_ble_eq_true rfl)
  rw [lg_entry_eq]
  generalize (lg_sl ([.ref (sh t)]) ++ List.replicate (1 - (lg_sl ([.ref (sh t)])).length) Slot.unset).toArray = ls at hl ⊢
  have hl : lv_has ls 1 [(0, .ref (sh t))] := hl
  obtain ⟨h, hP, hJ⟩ := id hW
  rcases hJ.2.2.2.1 t ht with ⟨a1, a2, a3⟩ | ⟨b, g0, a1, a2, a3, a4⟩
  · refine lv_aload_n hx hb d_P_makeZero_0 rfl (lv_at hl 0 rfl) ?_
    refine va_get (D := D) (ci := 3) (v := .null) (C := "BlockVault$Page") (T := T_P) (N := 1) hx hb hT in_P hown hK (hP.one a1) 0 rfl rfl 0 (by decide) (hT _ k38) (fun _ h9 => h9) rfl d_P_makeZero_1 ?_
    refine lv_ifnullN (tgt := 15) hx hb d_P_makeZero_4 (by decide) ?_
    have hW : JW D B cA sh V (p1 P t (fun _ => 0)) s.heap := ⟨h, hP, hJ.null ht a1 a3⟩
    refine W.widen (k := 0) (n := 0) (by omega) (by omega) ?_
    exact W.vret hx hb hr (fun t9 ht9 hwz => ⟨⟨(V, (p1 P t (fun _ => 0))), rfl, rfl, by rw [ht9]; exact hW, va_K.moved hwz.alike hK, hN.warm hwz⟩, hS.F ht9⟩) hS.2.2 d_P_makeZero_15
  · refine lv_aload_n hx hb d_P_makeZero_0 rfl (lv_at hl 0 rfl) ?_
    refine va_get (D := D) (ci := 3) (v := .ref b) (C := "BlockVault$Page") (T := T_P) (N := 1) hx hb hT in_P hown hK (hP.one a1) 0 rfl rfl 0 (by decide) (hT _ k38) (fun _ h9 => h9) rfl d_P_makeZero_1 ?_
    refine lv_ifnull hx hb d_P_makeZero_4 ?_
    refine lv_aload_n hx hb d_P_makeZero_7 rfl (lv_at hl 0 rfl) ?_
    refine va_get (D := D) (ci := 3) (v := .ref b) (C := "BlockVault$Page") (T := T_P) (N := 1) hx hb hT in_P hown hK (hP.one a1) 0 rfl rfl 0 (by decide) (hT _ k38) (fun _ h9 => h9) rfl d_P_makeZero_8 ?_
    refine lv_iconst (v := 0) hx hb d_P_makeZero_11 (by decide) ?_
    refine va_callv (va_runS (As := [.ref b, .int 0]) (rest := []) ⟨hx, hb, hml, hown, hT⟩ (m_A_fill l D B cA h b (116 + t) 1024 g0 a2 (by omega) 0) (va_cwS 2 hT (gS k193 k194 k9 kc_A_fill) rfl rfl rfl (by decide +kernel) ⟨Nat.le_of_ble_eq_true rfl, Nat.le_of_ble_eq_true rfl⟩) ⟨HC.blind, fun U hU hw => ⟨rfl, by rw [hU]; exact hP, va_K.moved hw.alike hK⟩⟩ rfl rfl hl.1 rfl (lv_room (Nat.le_of_ble_eq_true rfl)) d_P_makeZero_12 ⟨Nat.le_of_ble_eq_true rfl, Nat.le_of_ble_eq_true rfl⟩) hS (fun _ _ h => h) (fun _ h => h) (fun u t9 H1 locs1 ht9 _ hw hB _ _ hS => ?_)
    subst hw
    have hP1 := hB.1
    rw [ht9] at hP1
    generalize H1 = H at hP1 hS ⊢
    have hW : JW D B cA sh V (p1 P t (fun _ => 0)) H := ⟨_, hP1, hJ.bytes ht a1 a2 (g := fun _ => 0) (fun k hk => by unfold gfill; rw [if_pos hk]; rfl) (fun k hk => by unfold gfill; rw [if_pos hk]; rfl)⟩
    refine W.widen (k := 0) (n := 0) (by omega) (by omega) ?_
    exact W.vret hx hb hr (fun t9 ht9 hwz => ⟨⟨(V, (p1 P t (fun _ => 0))), rfl, rfl, by rw [ht9]; exact hW, va_K.moved hwz.alike hK, hN.warm hwz⟩, hS.F ht9⟩) hS.2.2 d_P_makeZero_15

theorem pgAt.cong {cA : Nat → ClassId} {sh : Nat → Nat} {h : hm_T} {t : Nat} {g g' : Nat → Int32} (hp : pgAt cA sh h t g) (hg : ∀ k, k < 1024 → g k = g' k) : pgAt cA sh h t g' := by
  rcases hp with ⟨a1, a2, a3⟩ | ⟨b, g0, a1, a2, a3, a4⟩
  · exact Or.inl ⟨a1, fun k hk => by rw [← hg k hk]; exact a2 k hk, a3⟩
  · exact Or.inr ⟨b, g0, a1, a2, fun k hk => by rw [a3 k hk]; exact hg k hk, a4⟩
theorem JW.cong {D : va_G} {B : Nat} {cA : Nat → ClassId} {sh : Nat → Nat} {V P : VV} {H : Heap} {t : Nat} {g g' : Nat → Int32} (hW : JW D B cA sh V (p1 P t g) H) (ht : t < 116) (hg : ∀ k, k < 1024 → g k = g' k) : JW D B cA sh V (p1 P t g') H := by
  obtain ⟨h, hP, hJ⟩ := hW
  have hp := hJ.2.2.2.1 t ht
  rw [p1_s] at hp
  have key := hJ.page ht (fun _ _ _ _ _ h => h) (fun _ _ _ _ _ h => h) (hp.cong hg)
  have e : p1 (p1 P t g) t g' = p1 P t g' := by
    funext q
    by_cases hq : q = t
    · rw [hq, p1_s, p1_s]
    · rw [p1_n hq, p1_n hq, p1_n hq]
  rw [e] at key
  exact ⟨h, hP, key⟩
theorem c0_0 : (0 : Int32).toNatClampNeg = 0 := by decide
theorem c1024 : (1024 : Int32).toNatClampNeg = 1024 := by decide
theorem bb_8 (z : Int32) : z.toInt8.toInt32.toInt8.toInt32 = z.toInt8.toInt32 := pk_vb z
theorem mRun_s {G : Nat → Int32} {k i : Nat} {v : Int32} {g0 : Nat → Int32} (h : ∀ j, j < 1024 → g0 j = mRun G k v i j) : ∀ j, j < 1024 → upd g0 (k + i) (v + nI i).toInt8.toInt32 j = mRun G k v (i + 1) j := by
  intro j hj
  unfold upd
  by_cases e : j = k + i
  · rw [if_pos e, mRun_at, if_pos (by omega), e, show k + i - k = i by omega]
  · rw [if_neg e, h j hj, mRun_at, mRun_at]
    by_cases c : k ≤ j ∧ j < k + i
    · rw [if_pos c, if_pos (by omega)]
    · rw [if_neg c, if_neg (by omega)]

set_option maxHeartbeats 4000000 in
set_option maxRecDepth 100000 in
theorem m_P_copyFrom (l : Launch) (D : va_G) (B : Nat) (cA : Nat → ClassId) (sh : Nat → Nat) (V P : VV) (t t2 : Nat) (ht : t < 116) (ht2 : t2 < 116) (hne : t ≠ t2) : Met l y_P_copyFrom w_P_copyFrom ({ frames := 2, cells := 1, slots := 1024, locals := 60 } : Room) (va_Pc [.ref (sh t), .ref (sh t2)] (JC D B cA sh (V, P))) (va_Qv (fun (u : VV × VV) => u = (V, p1 P t (P t2))) (JC D B cA sh) (hm_A B)) 1 1024 (hm_A B) := by
  refine Met.ofW (cc := c_P_copyFrom) (maxL := 2) (ret := none) (by decide) rfl ?_
  intro p e s m args below meth c s₁ Bd hml hv
  obtain ⟨rfl, hW, hK, hN⟩ := hv
  have hx := Bd.exec
  have hb := Bd.bytes
  have hr := Bd.returns
  have hts := atoms_spec (ws := w_P_copyFrom) Bd.pre
  have hT : ∀ w ∈ WG, w.before ([.ref (sh t), .ref (sh t2)] : List Value).toArray s = true := fun w h => hts w (List.mem_cons_of_mem _ h)
  have hown : s.vm.findClass "BlockVault$Page" = some m.cls := findClass_of_methodNamed Bd.named
  have hlocks := Bd.notSynchronized
  have hW : JW D B cA sh V P s.heap := hW
  have hBs : B ≤ s.heap.size := hW.ge
  have hS : va_S (hm_A B) s.heap s.heap [] := va_S.rf
  have hl := lv_entry ([.ref (sh t), .ref (sh t2)]) (n := 2) (Nat.le_of_ble_eq_true rfl)
  rw [lg_entry_eq]
  generalize (lg_sl ([.ref (sh t), .ref (sh t2)]) ++ List.replicate (2 - (lg_sl ([.ref (sh t), .ref (sh t2)])).length) Slot.unset).toArray = ls at hl ⊢
  have hl : lv_has ls 2 [(0, .ref (sh t)), (1, .ref (sh t2))] := hl
  obtain ⟨h, hP, hJ⟩ := id hW
  rcases hJ.2.2.2.1 t2 ht2 with ⟨d1, d2, d3⟩ | ⟨b2, g2, d1, d2, d3, d4⟩
  · refine lv_aload_n hx hb d_P_copyFrom_0 rfl (lv_at hl 1 rfl) ?_
    refine va_get (D := D) (ci := 3) (v := .null) (C := "BlockVault$Page") (T := T_P) (N := 1) hx hb hT in_P hown hK (hP.one d1) 0 rfl rfl 0 (by decide) (hT _ k38) (fun _ h9 => h9) rfl d_P_copyFrom_1 ?_
    refine lv_ifnonnullN hx hb d_P_copyFrom_4 ?_
    refine lv_aload_n hx hb d_P_copyFrom_7 rfl (lv_at hl 0 rfl) ?_
    refine jw_callv (va_runV (As := []) (rest := []) ⟨hx, hb, hml, hown, hT⟩ (m_P_makeZero l D B cA sh V P t ht) (cwV 0 hT (gV k189 k190 k191 k4 kc_P_makeZero) rfl rfl rfl (by decide +kernel) ⟨Nat.le_of_ble_eq_true rfl, Nat.le_of_ble_eq_true rfl⟩) (jw_preP (q := ("BlockVault$Page", T_P, 1)) hW hK hN (by omega) rfl) rfl rfl hl.1 rfl (lv_room (Nat.le_of_ble_eq_true rfl)) d_P_copyFrom_8 ⟨Nat.le_of_ble_eq_true rfl, Nat.le_of_ble_eq_true rfl⟩) hS (fun V2 P3 H locs hw4 hW hS => ?_)
    cases hw4
    have hW := hW.cong ht (g' := P t2) (fun k hk => (d2 k hk).symm)
    refine W.widen (k := 1) (n := 1024) (by omega) (by omega) ?_
    exact W.vret hx hb hr (fun t9 ht9 hwz => ⟨⟨(V, (p1 P t (P t2))), rfl, rfl, by rw [ht9]; exact hW, va_K.moved hwz.alike hK, hN.warm hwz⟩, hS.F ht9⟩) hS.2.2 d_P_copyFrom_11
  · rcases hJ.2.2.2.1 t ht with ⟨a1, a2, a3⟩ | ⟨b, g0, a1, a2, a3, a4⟩
    · refine lv_aload_n hx hb d_P_copyFrom_0 rfl (lv_at hl 1 rfl) ?_
      refine va_get (D := D) (ci := 3) (v := .ref b2) (C := "BlockVault$Page") (T := T_P) (N := 1) hx hb hT in_P hown hK (hP.one d1) 0 rfl rfl 0 (by decide) (hT _ k38) (fun _ h9 => h9) rfl d_P_copyFrom_1 ?_
      refine lv_ifnonnull (tgt := 12) hx hb d_P_copyFrom_4 (by decide) ?_
      refine lv_aload_n hx hb d_P_copyFrom_12 rfl (lv_at hl 0 rfl) ?_
      refine va_get (D := D) (ci := 3) (v := .null) (C := "BlockVault$Page") (T := T_P) (N := 1) hx hb hT in_P hown hK (hP.one a1) 0 rfl rfl 0 (by decide) (hT _ k38) (fun _ h9 => h9) rfl d_P_copyFrom_13 ?_
      refine lv_ifnonnullN hx hb d_P_copyFrom_16 ?_
      refine lv_aload_n hx hb d_P_copyFrom_19 rfl (lv_at hl 0 rfl) ?_
      refine lv_sipush (v := 1024) hx hb d_P_copyFrom_20 (by decide) ?_
      refine hm_newb hx hb (hT _ k224) hK hP hS (N' := 1024) (by decide) (by decide) (by omega) (116 + t) (by omega) (by unfold hm_mx; rw [if_neg (by omega), if_pos (by omega)]; omega) a3 (Nat.le_of_ble_eq_true rfl) (Nat.le_of_ble_eq_true rfl) d_P_copyFrom_23 (fun q H hq hP hS => ?_)
      have n1 : sh t ≠ q := hm_nn a1 hq
      refine hm_put (ci := 3) (v := .ref q) (ty := .array .byte) (C := "BlockVault$Page") (T := T_P) (N := 1) hx hb hT in_P t_P t_P_ok n_P hown hK hP hS (by rw [hm_up_n n1]; exact a1) rfl 0 (by decide) (hT _ k38) (fun _ h9 => h9) rfl (by decide +kernel) rfl rfl (Nat.le_of_ble_eq_true rfl) d_P_copyFrom_25 (fun H locs hP hS => ?_)
      have hJ := hJ.made ht a1 a2 hq
      rw [show hm_up (hm_up h q (116 + t, aInt (cA 0) 1024 (fun _ => 0))) (sh t) (t, .inr (3, [Value.null].set 0 (.ref q))) = hm_up (hm_up h q (116 + t, aInt (cA 0) 1024 (fun _ => 0))) (sh t) (t, .inr (3, [.ref q])) from rfl] at hP
      have d1 : hm_up (hm_up h q (116 + t, aInt (cA 0) 1024 (fun _ => 0))) (sh t) (t, .inr (3, [.ref q])) (sh t2) = some (t2, .inr (3, [.ref b2])) := by rw [hm_up_n (hm_ne d1 a1 (Ne.symm hne)), hm_up_n (hm_nn d1 hq)]; exact d1
      have d2 : hm_up (hm_up h q (116 + t, aInt (cA 0) 1024 (fun _ => 0))) (sh t) (t, .inr (3, [.ref q])) b2 = some (116 + t2, aInt (cA 0) 1024 g2) := by rw [hm_up_n (hm_ne d2 a1 (by omega)), hm_up_n (hm_nn d2 hq)]; exact d2
      have a1 : hm_up (hm_up h q (116 + t, aInt (cA 0) 1024 (fun _ => 0))) (sh t) (t, .inr (3, [.ref q])) (sh t) = some (t, .inr (3, [.ref q])) := hm_up_s
      have a9 : hm_up (hm_up h q (116 + t, aInt (cA 0) 1024 (fun _ => 0))) (sh t) (t, .inr (3, [.ref q])) q = some (116 + t, aInt (cA 0) 1024 (fun _ => 0)) := by rw [hm_up_n (Ne.symm n1), hm_up_s]
      have a3 : ∀ k, k < 1024 → (fun _ : Nat => (0 : Int32)) k = P t k := fun k hk => (a2 k hk).symm
      have a4 : bfit (fun _ => 0) 1024 := fun k _ => rfl
      have a2 := a9
      generalize hm_up (hm_up h q (116 + t, aInt (cA 0) 1024 (fun _ => 0))) (sh t) (t, .inr (3, [.ref q])) = h at hP hJ a1 a2 d1 d2
      generalize (fun _ : Nat => (0 : Int32)) = g0 at a2 a3 a4
      generalize q = b at a1 a2
      refine lv_aload_n hx hb d_P_copyFrom_28 rfl (lv_at hl 1 rfl) ?_
      refine va_get (D := D) (ci := 3) (v := .ref b2) (C := "BlockVault$Page") (T := T_P) (N := 1) hx hb hT in_P hown hK (hP.one d1) 0 rfl rfl 0 (by decide) (hT _ k38) (fun _ h9 => h9) rfl d_P_copyFrom_29 ?_
      refine lv_iconst (v := 0) hx hb d_P_copyFrom_32 (by decide) ?_
      refine lv_aload_n hx hb d_P_copyFrom_33 rfl (lv_at hl 0 rfl) ?_
      refine va_get (D := D) (ci := 3) (v := .ref b) (C := "BlockVault$Page") (T := T_P) (N := 1) hx hb hT in_P hown hK (hP.one a1) 0 rfl rfl 0 (by decide) (hT _ k38) (fun _ h9 => h9) rfl d_P_copyFrom_34 ?_
      refine lv_iconst (v := 0) hx hb d_P_copyFrom_37 (by decide) ?_
      refine lv_sipush (v := 1024) hx hb d_P_copyFrom_38 (by decide) ?_
      refine hm_copyb hx hb (by rw [hml]; exact hl.1.symm) hown (hT _ k196) (hT _ k198) (hT _ k197) (hT _ k10) (hK.2 0 (cA 0, .byte) rfl).1 hP hS d2 a2 (by decide) (by decide) (by decide) (by rw [c0_0, c1024]; omega) (by rw [c0_0, c1024]; omega) (fun i hi => by rw [c1024] at hi; rw [c0_0, Nat.zero_add]; exact d4 i hi) (Nat.le_of_ble_eq_true rfl) (Nat.le_of_ble_eq_true rfl) d_P_copyFrom_41 (fun H locs hP hS => ?_)
      rw [c0_0, c1024] at hP
      have hW : JW D B cA sh V (p1 P t (P t2)) H := ⟨_, hP, hJ.bytes ht a1 a2 (fun k hk => by rw [sb_cpy0 hk]; exact d3 k hk) (fun k hk => by rw [sb_cpy0 hk]; exact d4 k hk)⟩
      refine W.widen (k := 1) (n := 1024) (by omega) (by omega) ?_
      exact W.vret hx hb hr (fun t9 ht9 hwz => ⟨⟨(V, (p1 P t (P t2))), rfl, rfl, by rw [ht9]; exact hW, va_K.moved hwz.alike hK, hN.warm hwz⟩, hS.F ht9⟩) hS.2.2 d_P_copyFrom_44
    · refine lv_aload_n hx hb d_P_copyFrom_0 rfl (lv_at hl 1 rfl) ?_
      refine va_get (D := D) (ci := 3) (v := .ref b2) (C := "BlockVault$Page") (T := T_P) (N := 1) hx hb hT in_P hown hK (hP.one d1) 0 rfl rfl 0 (by decide) (hT _ k38) (fun _ h9 => h9) rfl d_P_copyFrom_1 ?_
      refine lv_ifnonnull (tgt := 12) hx hb d_P_copyFrom_4 (by decide) ?_
      refine lv_aload_n hx hb d_P_copyFrom_12 rfl (lv_at hl 0 rfl) ?_
      refine va_get (D := D) (ci := 3) (v := .ref b) (C := "BlockVault$Page") (T := T_P) (N := 1) hx hb hT in_P hown hK (hP.one a1) 0 rfl rfl 0 (by decide) (hT _ k38) (fun _ h9 => h9) rfl d_P_copyFrom_13 ?_
      refine lv_ifnonnull (tgt := 28) hx hb d_P_copyFrom_16 (by decide) ?_
      refine lv_aload_n hx hb d_P_copyFrom_28 rfl (lv_at hl 1 rfl) ?_
      refine va_get (D := D) (ci := 3) (v := .ref b2) (C := "BlockVault$Page") (T := T_P) (N := 1) hx hb hT in_P hown hK (hP.one d1) 0 rfl rfl 0 (by decide) (hT _ k38) (fun _ h9 => h9) rfl d_P_copyFrom_29 ?_
      refine lv_iconst (v := 0) hx hb d_P_copyFrom_32 (by decide) ?_
      refine lv_aload_n hx hb d_P_copyFrom_33 rfl (lv_at hl 0 rfl) ?_
      refine va_get (D := D) (ci := 3) (v := .ref b) (C := "BlockVault$Page") (T := T_P) (N := 1) hx hb hT in_P hown hK (hP.one a1) 0 rfl rfl 0 (by decide) (hT _ k38) (fun _ h9 => h9) rfl d_P_copyFrom_34 ?_
      refine lv_iconst (v := 0) hx hb d_P_copyFrom_37 (by decide) ?_
      refine lv_sipush (v := 1024) hx hb d_P_copyFrom_38 (by decide) ?_
      refine hm_copyb hx hb (by rw [hml]; exact hl.1.symm) hown (hT _ k196) (hT _ k198) (hT _ k197) (hT _ k10) (hK.2 0 (cA 0, .byte) rfl).1 hP hS d2 a2 (by decide) (by decide) (by decide) (by rw [c0_0, c1024]; omega) (by rw [c0_0, c1024]; omega) (fun i hi => by rw [c1024] at hi; rw [c0_0, Nat.zero_add]; exact d4 i hi) (Nat.le_of_ble_eq_true rfl) (Nat.le_of_ble_eq_true rfl) d_P_copyFrom_41 (fun H locs hP hS => ?_)
      rw [c0_0, c1024] at hP
      have hW : JW D B cA sh V (p1 P t (P t2)) H := ⟨_, hP, hJ.bytes ht a1 a2 (fun k hk => by rw [sb_cpy0 hk]; exact d3 k hk) (fun k hk => by rw [sb_cpy0 hk]; exact d4 k hk)⟩
      refine W.widen (k := 1) (n := 1024) (by omega) (by omega) ?_
      exact W.vret hx hb hr (fun t9 ht9 hwz => ⟨⟨(V, (p1 P t (P t2))), rfl, rfl, by rw [ht9]; exact hW, va_K.moved hwz.alike hK, hN.warm hwz⟩, hS.F ht9⟩) hS.2.2 d_P_copyFrom_44

set_option maxHeartbeats 4000000 in
set_option maxRecDepth 100000 in
theorem lp_putRun {p : Program} {l : Launch} {e : Env} {R : Room} {s : State} {m : MethodId} {args : Array Value} {below : List Frame} {meth : Method} {c : Code} {cells slots : Nat} {Q : State → Prop} {D : va_G} {B : Nat} {cA : Nat → ClassId} {sh : Nat → Nat} {H0 : Heap} {h : hm_T} {t b kk nn : Nat} {v : Int32} {G : Nat → Int32} {e0 : va_E} (hx : p.tables.exec = Jvm.exec) (hb : c.code = c_P_putRun) (hT : ∀ w ∈ WG, w.before args s = true) (hown : s.vm.findClass "BlockVault$Page" = some m.cls) (hK : va_K D vwCl (tysA cA) s) (a1 : h (sh t) = some (t, .inr (3, [.ref b]))) (a2 : h b = some (116 + t, e0)) (hkn : kk + nn ≤ 1024)
    (fin : ∀ (g0 : Nat → Int32) (H : Heap) (locs : List Loc) (ls : Array Slot), (∀ j, j < 1024 → g0 j = mRun G kk v nn j) → bfit g0 1024 → hm_P D vwCl B (hm_up h b (116 + t, aInt (cA 0) 1024 g0)) H → va_S (hm_A B) H0 H locs → W p l e R s m args below meth c H locs cells slots Q (F0 m 54 ls [])) :
    ∀ (n i : Nat) (g0 : Nat → Int32) (H : Heap) (locs : List Loc) (ls : Array Slot), i + n = nn → (∀ j, j < 1024 → g0 j = mRun G kk v i j) → bfit g0 1024 → hm_P D vwCl B (hm_up h b (116 + t, aInt (cA 0) 1024 g0)) H → va_S (hm_A B) H0 H locs → lv_has ls 5 [(4, .int (nI i)), (0, .ref (sh t)), (1, .int (nI kk)), (2, .int (nI nn)), (3, .int v)] → W p l e R s m args below meth c H locs cells slots Q (F0 m 28 ls []) := by
  have n1 : sh t ≠ b := hm_ne a1 a2 (by omega)
  intro n
  induction n with
  | zero =>
    intro i g0 H locs ls hin hg hf hP hS hl
    obtain rfl : i = nn := by omega
    refine lv_iload hx hb d_P_putRun_28 (lv_at hl 0 rfl) ?_
    refine lv_iload_n hx hb d_P_putRun_30 rfl (lv_at hl 3 rfl) ?_
    refine lv_icmp_ge (tgt := 54) hx hb d_P_putRun_31 (by decide) (fun c1 => ?_) (fun c1 => ?_)
    · exact fin g0 H locs ls hg hf hP hS
    · exact absurd (Int32.le_refl _) c1
  | succ n ih =>
    intro i g0 H locs ls hin hg hf hP hS hl
    refine lv_iload hx hb d_P_putRun_28 (lv_at hl 0 rfl) ?_
    refine lv_iload_n hx hb d_P_putRun_30 rfl (lv_at hl 3 rfl) ?_
    refine lv_icmp_ge (tgt := 54) hx hb d_P_putRun_31 (by decide) (fun c1 => ?_) (fun c1 => ?_)
    · exact absurd c1 (nI_ge (by omega) (by omega))
    · refine lv_aload_n hx hb d_P_putRun_34 rfl (lv_at hl 1 rfl) ?_
      refine va_get (D := D) (ci := 3) (v := .ref b) (C := "BlockVault$Page") (T := T_P) (N := 1) hx hb hT in_P hown hK (hP.one (show hm_up h b (116 + t, aInt (cA 0) 1024 g0) (sh t) = some (t, .inr (3, [.ref b])) by rw [hm_up_n n1]; exact a1)) 0 rfl rfl 0 (by decide) (hT _ k38) (fun _ h9 => h9) rfl d_P_putRun_35 ?_
      refine lv_iload_n hx hb d_P_putRun_38 rfl (lv_at hl 2 rfl) ?_
      refine lv_iload hx hb d_P_putRun_39 (lv_at hl 0 rfl) ?_
      refine lv_iadd hx hb d_P_putRun_41 ?_
      refine lv_iload_n hx hb d_P_putRun_42 rfl (lv_at hl 4 rfl) ?_
      refine lv_iload hx hb d_P_putRun_43 (lv_at hl 0 rfl) ?_
      refine lv_iadd hx hb d_P_putRun_45 ?_
      refine lv_i2b (v := (v + nI i).toInt8.toInt32) hx hb d_P_putRun_46 rfl ?_
      rw [nI_add]
      refine hm_bast hx hb (hK.2 0 (cA 0, .byte) rfl).1 hP hm_up_s hS (vp_in_nI (show kk + i < 1024 by omega) (by omega)) d_P_putRun_47 (fun H locs hP hS => ?_)
      rw [hm_up_up, nI_clamp (by omega), bb_8] at hP
      refine lv_iinc (v := (nI i + 1)) (lv' := [(4, .int (nI i + 1)), (0, .ref (sh t)), (1, .int (nI kk)), (2, .int (nI nn)), (3, .int v)]) hx hb d_P_putRun_48 hl (k := 0) rfl rfl (by decide) rfl (fun ls hl => ?_)
      refine lv_goto (tgt := 28) hx hb d_P_putRun_51 (by decide) ?_
      exact ih (i + 1) _ H locs ls (by omega) (mRun_s hg) (fun k hk => by
        by_cases e : k = kk + i
        · rw [e, pk_us]
          exact pk_fb _
        · rw [pk_un e]
          exact hf k hk) hP hS (by rw [← nI_1]; exact lv_sub hl [0, 1, 2, 3, 4] rfl)

set_option maxHeartbeats 4000000 in
set_option maxRecDepth 100000 in
theorem m_P_putRun (l : Launch) (D : va_G) (B : Nat) (cA : Nat → ClassId) (sh : Nat → Nat) (V P : VV) (t : Nat) (ht : t < 116) (k n v : Int32) : Met l y_P_putRun w_P_putRun ({ frames := 1, cells := 1, slots := 1024, locals := 30 } : Room) (va_Pc [.ref (sh t), .int k, .int n, .int v] (JC D B cA sh (V, P))) (va_Qv (fun (u : VV × VV) => u = (V, p1 P t (mPut (P t) k n v))) (JC D B cA sh) (hm_A B)) 1 1024 (hm_A B) := by
  refine Met.ofW (cc := c_P_putRun) (maxL := 5) (ret := none) (by decide) rfl ?_
  intro p e s m args below meth c s₁ Bd hml hv
  obtain ⟨rfl, hW, hK, hN⟩ := hv
  have hx := Bd.exec
  have hb := Bd.bytes
  have hr := Bd.returns
  have hts := atoms_spec (ws := w_P_putRun) Bd.pre
  have hT : ∀ w ∈ WG, w.before ([.ref (sh t), .int k, .int n, .int v] : List Value).toArray s = true := fun w h => hts w (List.mem_cons_of_mem _ h)
  have hown : s.vm.findClass "BlockVault$Page" = some m.cls := findClass_of_methodNamed Bd.named
  have hlocks := Bd.notSynchronized
  have hW : JW D B cA sh V P s.heap := hW
  have hBs : B ≤ s.heap.size := hW.ge
  have hS : va_S (hm_A B) s.heap s.heap [] := va_S.rf
  have hl := lv_entry ([.ref (sh t), .int k, .int n, .int v]) (n := 5) (Nat.le_of_ble_eq_true rfl)
  rw [lg_entry_eq]
  generalize (lg_sl ([.ref (sh t), .int k, .int n, .int v]) ++ List.replicate (5 - (lg_sl ([.ref (sh t), .int k, .int n, .int v])).length) Slot.unset).toArray = ls at hl ⊢
  have hl : lv_has ls 5 [(0, .ref (sh t)), (1, .int k), (2, .int n), (3, .int v)] := hl
  refine lv_iload_n hx hb d_P_putRun_0 rfl (lv_at hl 1 rfl) ?_
  refine lv_iload_n hx hb d_P_putRun_1 rfl (lv_at hl 2 rfl) ?_
  refine jw_calli (va_runSN (As := [.int k, .int n]) (rest := []) ⟨hx, hb, hml, hown, hT⟩ (m_V_isRun l D B cA sh V P k n) ⟨va_cnB 2 hT (gI kc_V_isRun) rfl rfl rfl (nm3 hN) (hT _ k1) (by decide +kernel) ⟨Nat.le_of_ble_eq_true rfl, Nat.le_of_ble_eq_true rfl⟩, hT _ k179, trivial⟩ (jw_preS hW hK hN) rfl rfl hl.1 rfl (lv_room (Nat.le_of_ble_eq_true rfl)) d_P_putRun_2 ⟨Nat.le_of_ble_eq_true rfl, Nat.le_of_ble_eq_true rfl⟩) hS (fun r1 V2 P3 H locs hw4 hW hS => ?_)
  obtain ⟨hr5, rfl, rfl⟩ := t3 hw4
  refine lv_if_ne (tgt := 9) hx hb d_P_putRun_5 (by decide) (fun c6 => ?_) (fun c6 => ?_)
  · have hrun : mIsRun k n := Decidable.byContradiction fun q => by rw [if_neg q] at hr5; exact c6 hr5.symm
    obtain ⟨kk, nn, rfl, rfl, hn1, hkn⟩ := mIsRun_n hrun
    have hput : mRun (P t) kk v nn = mPut (P t) (nI kk) (nI nn) v := by unfold mPut; rw [if_pos hrun, nI_clamp (by omega), nI_clamp (by omega)]
    obtain ⟨h, hP, hJ⟩ := id hW
    rcases hJ.2.2.2.1 t ht with ⟨a1, a2, a3⟩ | ⟨b, g0, a1, a2, a3, a4⟩
    · refine lv_aload_n hx hb d_P_putRun_9 rfl (lv_at hl 0 rfl) ?_
      refine va_get (D := D) (ci := 3) (v := .null) (C := "BlockVault$Page") (T := T_P) (N := 1) hx hb hT in_P hown hK (hP.one a1) 0 rfl rfl 0 (by decide) (hT _ k38) (fun _ h9 => h9) rfl d_P_putRun_10 ?_
      refine lv_ifnonnullN hx hb d_P_putRun_13 ?_
      refine lv_aload_n hx hb d_P_putRun_16 rfl (lv_at hl 0 rfl) ?_
      refine lv_sipush (v := 1024) hx hb d_P_putRun_17 (by decide) ?_
      refine hm_newb hx hb (hT _ k224) hK hP hS (N' := 1024) (by decide) (by decide) (by omega) (116 + t) (by omega) (by unfold hm_mx; rw [if_neg (by omega), if_pos (by omega)]; omega) a3 (Nat.le_of_ble_eq_true rfl) (Nat.le_of_ble_eq_true rfl) d_P_putRun_20 (fun q H hq hP hS => ?_)
      have n1 : sh t ≠ q := hm_nn a1 hq
      refine hm_put (ci := 3) (v := .ref q) (ty := .array .byte) (C := "BlockVault$Page") (T := T_P) (N := 1) hx hb hT in_P t_P t_P_ok n_P hown hK hP hS (by rw [hm_up_n n1]; exact a1) rfl 0 (by decide) (hT _ k38) (fun _ h9 => h9) rfl (by decide +kernel) rfl rfl (Nat.le_of_ble_eq_true rfl) d_P_putRun_22 (fun H locs hP hS => ?_)
      have hJ := hJ.made ht a1 a2 hq
      rw [show hm_up (hm_up h q (116 + t, aInt (cA 0) 1024 (fun _ => 0))) (sh t) (t, .inr (3, [Value.null].set 0 (.ref q))) = hm_up (hm_up h q (116 + t, aInt (cA 0) 1024 (fun _ => 0))) (sh t) (t, .inr (3, [.ref q])) from rfl] at hP
      have a1 : hm_up (hm_up h q (116 + t, aInt (cA 0) 1024 (fun _ => 0))) (sh t) (t, .inr (3, [.ref q])) (sh t) = some (t, .inr (3, [.ref q])) := hm_up_s
      have a9 : hm_up (hm_up h q (116 + t, aInt (cA 0) 1024 (fun _ => 0))) (sh t) (t, .inr (3, [.ref q])) q = some (116 + t, aInt (cA 0) 1024 (fun _ => 0)) := by rw [hm_up_n (Ne.symm n1), hm_up_s]
      have a3 : ∀ k, k < 1024 → (fun _ : Nat => (0 : Int32)) k = P t k := fun k hk => (a2 k hk).symm
      have a4 : bfit (fun _ => 0) 1024 := fun k _ => rfl
      have a2 := a9
      generalize hm_up (hm_up h q (116 + t, aInt (cA 0) 1024 (fun _ => 0))) (sh t) (t, .inr (3, [.ref q])) = h at hP hJ a1 a2
      generalize (fun _ : Nat => (0 : Int32)) = g0 at a2 a3 a4
      generalize q = b at a1 a2
      refine lv_iconst (v := 0) hx hb d_P_putRun_25 (by decide) ?_
      refine lv_istore (lv' := [(4, .int 0), (0, .ref (sh t)), (1, .int (nI kk)), (2, .int (nI nn)), (3, .int v)]) hx hb d_P_putRun_26 hl (by decide) rfl (fun ls hl => ?_)
      refine lp_putRun (G := P t) (nn := nn) hx hb hT hown hK a1 a2 hkn (fun g0 H locs ls hg hf hP hS => ?_) nn 0 g0 _ _ ls (by omega) (fun j hj => by rw [mRun_at, if_neg (by omega)]; exact a3 j hj) a4 (by rw [hm_up_id a2]; exact hP) hS (lv_sub hl [0, 1, 2, 3, 4] rfl)
      have hW : JW D B cA sh V (p1 P t (mPut (P t) (nI kk) (nI nn) v)) H := by rw [← hput]; exact ⟨_, hP, hJ.bytes ht a1 a2 hg hf⟩
      refine W.widen (k := 1) (n := 1024) (by omega) (by omega) ?_
      exact W.vret hx hb hr (fun t9 ht9 hwz => ⟨⟨(V, (p1 P t (mPut (P t) (nI kk) (nI nn) v))), rfl, rfl, by rw [ht9]; exact hW, va_K.moved hwz.alike hK, hN.warm hwz⟩, hS.F ht9⟩) hS.2.2 d_P_putRun_54
    · refine lv_aload_n hx hb d_P_putRun_9 rfl (lv_at hl 0 rfl) ?_
      refine va_get (D := D) (ci := 3) (v := .ref b) (C := "BlockVault$Page") (T := T_P) (N := 1) hx hb hT in_P hown hK (hP.one a1) 0 rfl rfl 0 (by decide) (hT _ k38) (fun _ h9 => h9) rfl d_P_putRun_10 ?_
      refine lv_ifnonnull (tgt := 25) hx hb d_P_putRun_13 (by decide) ?_
      refine lv_iconst (v := 0) hx hb d_P_putRun_25 (by decide) ?_
      refine lv_istore (lv' := [(4, .int 0), (0, .ref (sh t)), (1, .int (nI kk)), (2, .int (nI nn)), (3, .int v)]) hx hb d_P_putRun_26 hl (by decide) rfl (fun ls hl => ?_)
      refine lp_putRun (G := P t) (nn := nn) hx hb hT hown hK a1 a2 hkn (fun g0 H locs ls hg hf hP hS => ?_) nn 0 g0 _ _ ls (by omega) (fun j hj => by rw [mRun_at, if_neg (by omega)]; exact a3 j hj) a4 (by rw [hm_up_id a2]; exact hP) hS (lv_sub hl [0, 1, 2, 3, 4] rfl)
      have hW : JW D B cA sh V (p1 P t (mPut (P t) (nI kk) (nI nn) v)) H := by rw [← hput]; exact ⟨_, hP, hJ.bytes ht a1 a2 hg hf⟩
      refine W.widen (k := 1) (n := 1024) (by omega) (by omega) ?_
      exact W.vret hx hb hr (fun t9 ht9 hwz => ⟨⟨(V, (p1 P t (mPut (P t) (nI kk) (nI nn) v))), rfl, rfl, by rw [ht9]; exact hW, va_K.moved hwz.alike hK, hN.warm hwz⟩, hS.F ht9⟩) hS.2.2 d_P_putRun_54
  · have hnr : ¬ mIsRun k n := fun q => by rw [if_pos q] at hr5; rw [← hr5] at c6; exact absurd c6 (by decide)
    have hW : JW D B cA sh V (p1 P t (mPut (P t) k n v)) H := by rw [mPut_no hnr, p1_id]; exact hW
    refine W.widen (k := 1) (n := 1024) (by omega) (by omega) ?_
    exact W.vret hx hb hr (fun t9 ht9 hwz => ⟨⟨(V, (p1 P t (mPut (P t) k n v))), rfl, rfl, by rw [ht9]; exact hW, va_K.moved hwz.alike hK, hN.warm hwz⟩, hS.F ht9⟩) hS.2.2 d_P_putRun_8
end
section
theorem ge0 {b : Int32} (h1 : ¬ b < 0) (h2 : b < 80) : ∃ x, x < 80 ∧ b = nI x ∧ b.toNatClampNeg = x := by
  obtain ⟨x, x1, x2⟩ := nI_of h1
  subst x2
  exact ⟨x, (nI_ltI (b := 80) x1 (by omega)).mp h2, rfl, nI_clamp x1⟩

set_option maxHeartbeats 4000000 in
set_option maxRecDepth 100000 in
theorem m_D_read (l : Launch) (D : va_G) (B : Nat) (cA : Nat → ClassId) (sh : Nat → Nat) (V P : VV) (b : Int32) (t : Nat) (ht : t < 116) (ht2 : 80 ≤ t) : Met l y_D_read w_D_read ({ frames := 3, cells := 1, slots := 1024, locals := 81 } : Room) (va_Pc [.ref (sh 267), .int b, .ref (sh t)] (JC D B cA sh (V, P))) (va_Qv (fun (u : VV × VV) => u = (V, mRead P b t)) (JC D B cA sh) (hm_A B)) 1 1024 (hm_A B) := by
  refine Met.ofW (cc := c_D_read) (maxL := 3) (ret := none) (by decide) rfl ?_
  intro p e s m args below meth c s₁ Bd hml hv
  obtain ⟨rfl, hW, hK, hN⟩ := hv
  have hx := Bd.exec
  have hb := Bd.bytes
  have hr := Bd.returns
  have hts := atoms_spec (ws := w_D_read) Bd.pre
  have hT : ∀ w ∈ WG, w.before ([.ref (sh 267), .int b, .ref (sh t)] : List Value).toArray s = true := fun w h => hts w (List.mem_cons_of_mem _ h)
  have hown : s.vm.findClass "BlockVault$Disk" = some m.cls := findClass_of_methodNamed Bd.named
  have hlocks := Bd.notSynchronized
  have hW : JW D B cA sh V P s.heap := hW
  have hBs : B ≤ s.heap.size := hW.ge
  have hS : va_S (hm_A B) s.heap s.heap [] := va_S.rf
  have hl := lv_entry ([.ref (sh 267), .int b, .ref (sh t)]) (n := 3) (Nat.le_of_ble_eq_true rfl)
  rw [lg_entry_eq]
  generalize (lg_sl ([.ref (sh 267), .int b, .ref (sh t)]) ++ List.replicate (3 - (lg_sl ([.ref (sh 267), .int b, .ref (sh t)])).length) Slot.unset).toArray = ls at hl ⊢
  have hl : lv_has ls 3 [(0, .ref (sh 267)), (1, .int b), (2, .ref (sh t))] := hl
  refine lv_iload_n hx hb d_D_read_0 rfl (lv_at hl 1 rfl) ?_
  refine lv_if_lt (tgt := 23) hx hb d_D_read_1 (by decide) (fun c1 => ?_) (fun c1 => ?_)
  · refine W.widen (k := 1) (n := 1024) (by omega) (by omega) ?_
    exact W.vret hx hb hr (fun t9 ht9 hwz => ⟨⟨(V, P), rfl, (by unfold mRead; rw [if_pos (Or.inl c1)]), by rw [ht9]; exact hW, va_K.moved hwz.alike hK, hN.warm hwz⟩, hS.F ht9⟩) hS.2.2 d_D_read_23
  · refine lv_iload_n hx hb d_D_read_4 rfl (lv_at hl 1 rfl) ?_
    refine lv_aload_n hx hb d_D_read_5 rfl (lv_at hl 0 rfl) ?_
    refine va_get (D := D) (ci := 1) (v := .ref (sh 270)) (C := "BlockVault$Disk") (T := T_D) (N := 4) hx hb hT in_D hown hK (hW.obj rfl) 0 rfl rfl 0 (by decide) (hT _ k42) (fun _ h9 => h9) rfl d_D_read_6 ?_
    refine jw_alenP hx hb hK hW d_D_read_9 ?_
    refine lv_icmp_ge (tgt := 23) hx hb d_D_read_10 (by decide) (fun c2 => ?_) (fun c2 => ?_)
    · refine W.widen (k := 1) (n := 1024) (by omega) (by omega) ?_
      exact W.vret hx hb hr (fun t9 ht9 hwz => ⟨⟨(V, P), rfl, (by unfold mRead; rw [if_pos (Or.inr c2)]), by rw [ht9]; exact hW, va_K.moved hwz.alike hK, hN.warm hwz⟩, hS.F ht9⟩) hS.2.2 d_D_read_23
    · obtain ⟨x, x1, ex, ec⟩ := ge0 c1 (Int32.not_le.mp c2)
      refine lv_aload_n hx hb d_D_read_13 rfl (lv_at hl 2 rfl) ?_
      refine lv_aload_n hx hb d_D_read_14 rfl (lv_at hl 0 rfl) ?_
      refine va_get (D := D) (ci := 1) (v := .ref (sh 270)) (C := "BlockVault$Disk") (T := T_D) (N := 4) hx hb hT in_D hown hK (hW.obj rfl) 0 rfl rfl 0 (by decide) (hT _ k42) (fun _ h9 => h9) rfl d_D_read_15 ?_
      refine lv_iload_n hx hb d_D_read_18 rfl (lv_at hl 1 rfl) ?_
      refine jw_aldP (i := x) hx hb hK hW ex (by omega) d_D_read_19 ?_
      refine jw_callv (va_runV (As := [.ref (sh x)]) (rest := []) ⟨hx, hb, hml, hown, hT⟩ (m_P_copyFrom l D B cA sh V P t x ht (by omega) (by omega)) (cwV 1 hT (gV k185 k186 k187 k4 kc_P_copyFrom) rfl rfl rfl (by decide +kernel) ⟨Nat.le_of_ble_eq_true rfl, Nat.le_of_ble_eq_true rfl⟩) (jw_preP (q := ("BlockVault$Page", T_P, 1)) hW hK hN (by omega) rfl) rfl rfl hl.1 rfl (lv_room (Nat.le_of_ble_eq_true rfl)) d_D_read_20 ⟨Nat.le_of_ble_eq_true rfl, Nat.le_of_ble_eq_true rfl⟩) hS (fun V4 P5 H locs hw6 hW hS => ?_)
      cases hw6
      refine W.widen (k := 1) (n := 1024) (by omega) (by omega) ?_
      exact W.vret hx hb hr (fun t9 ht9 hwz => ⟨⟨(V, (p1 P t (P x))), rfl, (by unfold mRead; rw [if_neg (fun q => q.elim c1 (fun z => c2 z)), ec]), by rw [ht9]; exact hW, va_K.moved hwz.alike hK, hN.warm hwz⟩, hS.F ht9⟩) hS.2.2 d_D_read_23

set_option maxHeartbeats 4000000 in
set_option maxRecDepth 100000 in
theorem m_D_write (l : Launch) (D : va_G) (B : Nat) (cA : Nat → ClassId) (sh : Nat → Nat) (V P : VV) (b : Int32) (t : Nat) (ht : t < 116) (ht2 : 80 ≤ t) : Met l y_D_write w_D_write ({ frames := 3, cells := 1, slots := 1024, locals := 81 } : Room) (va_Pc [.ref (sh 267), .int b, .ref (sh t)] (JC D B cA sh (V, P))) (va_Qi (fun (r : Int32) (u : VV × VV) => (r, u.1, u.2) = mWrite V P b t) (JC D B cA sh) (hm_A B)) 1 1024 (hm_A B) := by
  refine Met.ofW (cc := c_D_write) (maxL := 3) (ret := (some FieldType.boolean)) (by decide) rfl ?_
  intro p e s m args below meth c s₁ Bd hml hv
  obtain ⟨rfl, hW, hK, hN⟩ := hv
  have hx := Bd.exec
  have hb := Bd.bytes
  have hr := Bd.returns
  have hts := atoms_spec (ws := w_D_write) Bd.pre
  have hT : ∀ w ∈ WG, w.before ([.ref (sh 267), .int b, .ref (sh t)] : List Value).toArray s = true := fun w h => hts w (List.mem_cons_of_mem _ h)
  have hown : s.vm.findClass "BlockVault$Disk" = some m.cls := findClass_of_methodNamed Bd.named
  have hlocks := Bd.notSynchronized
  have hW : JW D B cA sh V P s.heap := hW
  have hBs : B ≤ s.heap.size := hW.ge
  have hS : va_S (hm_A B) s.heap s.heap [] := va_S.rf
  have hl := lv_entry ([.ref (sh 267), .int b, .ref (sh t)]) (n := 3) (Nat.le_of_ble_eq_true rfl)
  rw [lg_entry_eq]
  generalize (lg_sl ([.ref (sh 267), .int b, .ref (sh t)]) ++ List.replicate (3 - (lg_sl ([.ref (sh 267), .int b, .ref (sh t)])).length) Slot.unset).toArray = ls at hl ⊢
  have hl : lv_has ls 3 [(0, .ref (sh 267)), (1, .int b), (2, .ref (sh t))] := hl
  refine lv_aload_n hx hb d_D_write_0 rfl (lv_at hl 0 rfl) ?_
  refine va_get (D := D) (ci := 1) (v := .int (V 267 1)) (C := "BlockVault$Disk") (T := T_D) (N := 4) hx hb hT in_D hown hK (hW.obj rfl) 0 rfl rfl 1 (by decide) (hT _ k43) (fun _ h9 => h9) rfl d_D_write_1 ?_
  refine lv_if_eq (tgt := 20) hx hb d_D_write_4 (by decide) (fun c1 => ?_) (fun c1 => ?_)
  · refine lv_iconst (v := 0) hx hb d_D_write_20 (by decide) ?_
    refine W.widen (k := 1) (n := 1024) (by omega) (by omega) ?_
    exact W.zret (ty := .boolean) (v := 0) hx hb hr rfl (fun t9 ht9 hwz => ⟨⟨0, (V, P), rfl, (by unfold mWrite; rw [if_pos (Or.inl c1)]), by rw [ht9]; exact hW, va_K.moved hwz.alike hK, hN.warm hwz⟩, hS.F ht9⟩) hS.2.2 d_D_write_21
  · refine lv_iload_n hx hb d_D_write_7 rfl (lv_at hl 1 rfl) ?_
    refine lv_if_lt (tgt := 20) hx hb d_D_write_8 (by decide) (fun c2 => ?_) (fun c2 => ?_)
    · refine lv_iconst (v := 0) hx hb d_D_write_20 (by decide) ?_
      refine W.widen (k := 1) (n := 1024) (by omega) (by omega) ?_
      exact W.zret (ty := .boolean) (v := 0) hx hb hr rfl (fun t9 ht9 hwz => ⟨⟨0, (V, P), rfl, (by unfold mWrite; rw [if_pos (Or.inr (Or.inl c2))]), by rw [ht9]; exact hW, va_K.moved hwz.alike hK, hN.warm hwz⟩, hS.F ht9⟩) hS.2.2 d_D_write_21
    · refine lv_iload_n hx hb d_D_write_11 rfl (lv_at hl 1 rfl) ?_
      refine lv_aload_n hx hb d_D_write_12 rfl (lv_at hl 0 rfl) ?_
      refine va_get (D := D) (ci := 1) (v := .ref (sh 270)) (C := "BlockVault$Disk") (T := T_D) (N := 4) hx hb hT in_D hown hK (hW.obj rfl) 0 rfl rfl 0 (by decide) (hT _ k42) (fun _ h9 => h9) rfl d_D_write_13 ?_
      refine jw_alenP hx hb hK hW d_D_write_16 ?_
      refine lv_icmp_lt (tgt := 22) hx hb d_D_write_17 (by decide) (fun c3 => ?_) (fun c3 => ?_)
      · obtain ⟨x, x1, ex, ec⟩ := ge0 c2 c3
        refine lv_aload_n hx hb d_D_write_22 rfl (lv_at hl 0 rfl) ?_
        refine va_get (D := D) (ci := 1) (v := .int (V 267 2)) (C := "BlockVault$Disk") (T := T_D) (N := 4) hx hb hT in_D hown hK (hW.obj rfl) 0 rfl rfl 2 (by decide) (hT _ k44) (fun _ h9 => h9) rfl d_D_write_23 ?_
        refine lv_if_ne (tgt := 36) hx hb d_D_write_26 (by decide) (fun c4 => ?_) (fun c4 => ?_)
        · refine lv_aload_n hx hb d_D_write_36 rfl (lv_at hl 0 rfl) ?_
          refine va_get (D := D) (ci := 1) (v := .int (V 267 2)) (C := "BlockVault$Disk") (T := T_D) (N := 4) hx hb hT in_D hown hK (hW.obj rfl) 0 rfl rfl 2 (by decide) (hT _ k44) (fun _ h9 => h9) rfl d_D_write_37 ?_
          refine lv_if_le (tgt := 53) hx hb d_D_write_40 (by decide) (fun c5 => ?_) (fun c5 => ?_)
          · refine lv_aload_n hx hb d_D_write_53 rfl (lv_at hl 0 rfl) ?_
            refine lv_dup hx hb d_D_write_54 rfl ?_
            refine va_get (D := D) (ci := 1) (v := .int (V 267 3)) (C := "BlockVault$Disk") (T := T_D) (N := 4) hx hb hT in_D hown hK (hW.obj rfl) 0 rfl rfl 3 (by decide) (hT _ k45) (fun _ h9 => h9) rfl d_D_write_55 ?_
            refine lv_iconst (v := 1) hx hb d_D_write_58 (by decide) ?_
            refine lv_iadd hx hb d_D_write_59 ?_
            refine jw_put (ci := 1) (x := ((V 267 3) + 1)) (ty := .int) (C := "BlockVault$Disk") (T := T_D) (N := 4) hx hb hT in_D t_D t_D_ok n_D hown hK hW hS rfl rfl 3 (by decide) rfl (hT _ k45) (fun _ h9 => h9) rfl (by decide +kernel) rfl rfl d_D_write_60 (fun H locs hW hS => ?_)
            refine lv_aload_n hx hb d_D_write_63 rfl (lv_at hl 0 rfl) ?_
            refine va_get (D := D) (ci := 1) (v := .ref (sh 270)) (C := "BlockVault$Disk") (T := T_D) (N := 4) hx hb hT in_D hown hK (hW.obj rfl) 0 rfl rfl 0 (by decide) (hT _ k42) (fun _ h9 => h9) rfl d_D_write_64 ?_
            refine lv_iload_n hx hb d_D_write_67 rfl (lv_at hl 1 rfl) ?_
            refine jw_aldP (i := x) hx hb hK hW ex (by omega) d_D_write_68 ?_
            refine lv_aload_n hx hb d_D_write_69 rfl (lv_at hl 2 rfl) ?_
            refine jw_callv (va_runV (As := [.ref (sh t)]) (rest := []) ⟨hx, hb, hml, hown, hT⟩ (m_P_copyFrom l D B cA sh (v2 V 267 3 ((V 267 3) + 1)) P x t (by omega) ht (by omega)) (cwV 1 hT (gV k185 k186 k187 k4 kc_P_copyFrom) rfl rfl rfl (by decide +kernel) ⟨Nat.le_of_ble_eq_true rfl, Nat.le_of_ble_eq_true rfl⟩) (jw_preP (q := ("BlockVault$Page", T_P, 1)) hW hK hN (by omega) rfl) rfl rfl hl.1 rfl (lv_room (Nat.le_of_ble_eq_true rfl)) d_D_write_70 ⟨Nat.le_of_ble_eq_true rfl, Nat.le_of_ble_eq_true rfl⟩) hS (fun V7 P8 H locs hw9 hW hS => ?_)
            cases hw9
            refine lv_iconst (v := 1) hx hb d_D_write_73 (by decide) ?_
            refine W.widen (k := 1) (n := 1024) (by omega) (by omega) ?_
            exact W.zret (ty := .boolean) (v := 1) hx hb hr rfl (fun t9 ht9 hwz => ⟨⟨1, ((v2 V 267 3 ((V 267 3) + 1)), (p1 P x (P t))), rfl, (by unfold mWrite; rw [if_neg (fun q => by rcases q with q | q | q; exact c1 q; exact c2 q; exact q c3), if_neg c4, if_pos c5, ec]), by rw [ht9]; exact hW, va_K.moved hwz.alike hK, hN.warm hwz⟩, hS.F ht9⟩) hS.2.2 d_D_write_74
          · refine lv_aload_n hx hb d_D_write_43 rfl (lv_at hl 0 rfl) ?_
            refine lv_dup hx hb d_D_write_44 rfl ?_
            refine va_get (D := D) (ci := 1) (v := .int (V 267 2)) (C := "BlockVault$Disk") (T := T_D) (N := 4) hx hb hT in_D hown hK (hW.obj rfl) 0 rfl rfl 2 (by decide) (hT _ k44) (fun _ h9 => h9) rfl d_D_write_45 ?_
            refine lv_iconst (v := 1) hx hb d_D_write_48 (by decide) ?_
            refine lv_isub hx hb d_D_write_49 ?_
            refine jw_put (ci := 1) (x := ((V 267 2) - 1)) (ty := .int) (C := "BlockVault$Disk") (T := T_D) (N := 4) hx hb hT in_D t_D t_D_ok n_D hown hK hW hS rfl rfl 2 (by decide) rfl (hT _ k44) (fun _ h9 => h9) rfl (by decide +kernel) rfl rfl d_D_write_50 (fun H locs hW hS => ?_)
            refine lv_aload_n hx hb d_D_write_53 rfl (lv_at hl 0 rfl) ?_
            refine lv_dup hx hb d_D_write_54 rfl ?_
            refine va_get (D := D) (ci := 1) (v := .int ((v2 V 267 2 ((V 267 2) - 1)) 267 3)) (C := "BlockVault$Disk") (T := T_D) (N := 4) hx hb hT in_D hown hK (hW.obj rfl) 0 rfl rfl 3 (by decide) (hT _ k45) (fun _ h9 => h9) rfl d_D_write_55 ?_
            refine lv_iconst (v := 1) hx hb d_D_write_58 (by decide) ?_
            refine lv_iadd hx hb d_D_write_59 ?_
            refine jw_put (ci := 1) (x := (((v2 V 267 2 ((V 267 2) - 1)) 267 3) + 1)) (ty := .int) (C := "BlockVault$Disk") (T := T_D) (N := 4) hx hb hT in_D t_D t_D_ok n_D hown hK hW hS rfl rfl 3 (by decide) rfl (hT _ k45) (fun _ h9 => h9) rfl (by decide +kernel) rfl rfl d_D_write_60 (fun H locs hW hS => ?_)
            refine lv_aload_n hx hb d_D_write_63 rfl (lv_at hl 0 rfl) ?_
            refine va_get (D := D) (ci := 1) (v := .ref (sh 270)) (C := "BlockVault$Disk") (T := T_D) (N := 4) hx hb hT in_D hown hK (hW.obj rfl) 0 rfl rfl 0 (by decide) (hT _ k42) (fun _ h9 => h9) rfl d_D_write_64 ?_
            refine lv_iload_n hx hb d_D_write_67 rfl (lv_at hl 1 rfl) ?_
            refine jw_aldP (i := x) hx hb hK hW ex (by omega) d_D_write_68 ?_
            refine lv_aload_n hx hb d_D_write_69 rfl (lv_at hl 2 rfl) ?_
            refine jw_callv (va_runV (As := [.ref (sh t)]) (rest := []) ⟨hx, hb, hml, hown, hT⟩ (m_P_copyFrom l D B cA sh (v2 (v2 V 267 2 ((V 267 2) - 1)) 267 3 (((v2 V 267 2 ((V 267 2) - 1)) 267 3) + 1)) P x t (by omega) ht (by omega)) (cwV 1 hT (gV k185 k186 k187 k4 kc_P_copyFrom) rfl rfl rfl (by decide +kernel) ⟨Nat.le_of_ble_eq_true rfl, Nat.le_of_ble_eq_true rfl⟩) (jw_preP (q := ("BlockVault$Page", T_P, 1)) hW hK hN (by omega) rfl) rfl rfl hl.1 rfl (lv_room (Nat.le_of_ble_eq_true rfl)) d_D_write_70 ⟨Nat.le_of_ble_eq_true rfl, Nat.le_of_ble_eq_true rfl⟩) hS (fun V11 P12 H locs hw13 hW hS => ?_)
            cases hw13
            refine lv_iconst (v := 1) hx hb d_D_write_73 (by decide) ?_
            refine W.widen (k := 1) (n := 1024) (by omega) (by omega) ?_
            exact W.zret (ty := .boolean) (v := 1) hx hb hr rfl (fun t9 ht9 hwz => ⟨⟨1, ((v2 (v2 V 267 2 ((V 267 2) - 1)) 267 3 (((v2 V 267 2 ((V 267 2) - 1)) 267 3) + 1)), (p1 P x (P t))), rfl, (by unfold mWrite; rw [if_neg (fun q => by rcases q with q | q | q; exact c1 q; exact c2 q; exact q c3), if_neg c4, if_neg c5, ec, v2_k (show 3 ≠ 2 by omega)]), by rw [ht9]; exact hW, va_K.moved hwz.alike hK, hN.warm hwz⟩, hS.F ht9⟩) hS.2.2 d_D_write_74
        · refine lv_aload_n hx hb d_D_write_29 rfl (lv_at hl 0 rfl) ?_
          refine lv_iconst (v := 0) hx hb d_D_write_30 (by decide) ?_
          refine jw_put (ci := 1) (x := 0) (ty := .boolean) (C := "BlockVault$Disk") (T := T_D) (N := 4) hx hb hT in_D t_D t_D_ok n_D hown hK hW hS rfl rfl 1 (by decide) rfl (hT _ k43) (fun _ h9 => h9) rfl (by decide +kernel) rfl rfl d_D_write_31 (fun H locs hW hS => ?_)
          refine lv_iconst (v := 0) hx hb d_D_write_34 (by decide) ?_
          refine W.widen (k := 1) (n := 1024) (by omega) (by omega) ?_
          exact W.zret (ty := .boolean) (v := 0) hx hb hr rfl (fun t9 ht9 hwz => ⟨⟨0, ((v2 V 267 1 0), P), rfl, (by unfold mWrite; rw [if_neg (fun q => by rcases q with q | q | q; exact c1 q; exact c2 q; exact q c3), if_pos c4]), by rw [ht9]; exact hW, va_K.moved hwz.alike hK, hN.warm hwz⟩, hS.F ht9⟩) hS.2.2 d_D_write_35
      · refine lv_iconst (v := 0) hx hb d_D_write_20 (by decide) ?_
        refine W.widen (k := 1) (n := 1024) (by omega) (by omega) ?_
        exact W.zret (ty := .boolean) (v := 0) hx hb hr rfl (fun t9 ht9 hwz => ⟨⟨0, (V, P), rfl, (by unfold mWrite; rw [if_pos (Or.inr (Or.inr c3))]), by rw [ht9]; exact hW, va_K.moved hwz.alike hK, hN.warm hwz⟩, hS.F ht9⟩) hS.2.2 d_D_write_21
end
section
set_option maxHeartbeats 4000000 in
set_option maxRecDepth 100000 in
theorem m_C_lookAt (l : Launch) (D : va_G) (B : Nat) (cA : Nat → ClassId) (sh : Nat → Nat) (V P : VV) (b : Int32) (h3 : ∀ i, i < 34 → V (232 + i) 3 = 0 ∨ V (232 + i) 3 = 1) : Met l y_C_lookAt w_C_lookAt ({ frames := 4, cells := 1, slots := 1024, locals := 103 } : Room) (va_Pc [.ref (sh 268), .int b, .ref (sh 267)] (JC D B cA sh (V, P))) (va_Qq (fun (r : Option Nat) (u : VV × VV) => r = some (sh (232 + (mLook V P b).1)) ∧ u = (mLook V P b).2) (JC D B cA sh) (hm_A B)) 1 1024 (hm_A B) := by
  refine Met.ofW (cc := c_C_lookAt) (maxL := 4) (ret := (some (FieldType.object "BlockVault$Row"))) (by decide) rfl ?_
  intro p e s m args below meth c s₁ Bd hml hv
  obtain ⟨rfl, hW, hK, hN⟩ := hv
  have hx := Bd.exec
  have hb := Bd.bytes
  have hr := Bd.returns
  have hts := atoms_spec (ws := w_C_lookAt) Bd.pre
  have hT : ∀ w ∈ WG, w.before ([.ref (sh 268), .int b, .ref (sh 267)] : List Value).toArray s = true := fun w h => hts w (List.mem_cons_of_mem _ h)
  have hown : s.vm.findClass "BlockVault$Cache" = some m.cls := findClass_of_methodNamed Bd.named
  have hlocks := Bd.notSynchronized
  have hW : JW D B cA sh V P s.heap := hW
  have hBs : B ≤ s.heap.size := hW.ge
  have hS : va_S (hm_A B) s.heap s.heap [] := va_S.rf
  have hl := lv_entry ([.ref (sh 268), .int b, .ref (sh 267)]) (n := 4) (Nat.le_of_ble_eq_true rfl)
  rw [lg_entry_eq]
  generalize (lg_sl ([.ref (sh 268), .int b, .ref (sh 267)]) ++ List.replicate (4 - (lg_sl ([.ref (sh 268), .int b, .ref (sh 267)])).length) Slot.unset).toArray = ls at hl ⊢
  have hl : lv_has ls 4 [(0, .ref (sh 268)), (1, .int b), (2, .ref (sh 267))] := hl
  refine lv_aload_n hx hb d_C_lookAt_0 rfl (lv_at hl 0 rfl) ?_
  refine lv_iload_n hx hb d_C_lookAt_1 rfl (lv_at hl 1 rfl) ?_
  refine jw_callq (va_runV (As := [.int b]) (rest := []) ⟨hx, hb, hml, hown, hT⟩ (m_C_rowOf l D B cA sh V P b) (cwV 1 hT (gV k241 k242 k243 k5 kc_C_rowOf) rfl rfl rfl (by decide +kernel) ⟨Nat.le_of_ble_eq_true rfl, Nat.le_of_ble_eq_true rfl⟩) (jw_preV (q := ("BlockVault$Cache", T_C, 3)) hW hK hN rfl rfl) rfl rfl hl.1 rfl (lv_room (Nat.le_of_ble_eq_true rfl)) d_C_lookAt_2 ⟨Nat.le_of_ble_eq_true rfl, Nat.le_of_ble_eq_true rfl⟩) hS (fun r1 V2 P3 H locs hw4 hW hS => ?_)
  obtain ⟨hr0, hu0⟩ := hw4
  cases hu0
  cases hrow : mRow V b with
  | none =>
    rw [hrow] at hr0
    obtain rfl : r1 = none := hr0
    have hg := mGive_lt V
    refine lv_astore_nN (lv' := [(3, .null), (0, .ref (sh 268)), (1, .int b), (2, .ref (sh 267))]) hx hb d_C_lookAt_5 rfl hl (by decide) rfl (fun ls hl => ?_)
    refine lv_aload_nN hx hb d_C_lookAt_6 rfl (lv_at hl 0 rfl) ?_
    refine lv_ifnonnullN hx hb d_C_lookAt_7 ?_
    refine lv_aload_n hx hb d_C_lookAt_10 rfl (lv_at hl 1 rfl) ?_
    refine jw_callq (va_runV (As := []) (rest := []) ⟨hx, hb, hml, hown, hT⟩ (m_C_rowToGive l D B cA sh V P h3) (cwV 0 hT (gV k245 k247 ks3 k5 kc_C_rowToGive) rfl rfl rfl (by decide +kernel) ⟨Nat.le_of_ble_eq_true rfl, Nat.le_of_ble_eq_true rfl⟩) (jw_preV (q := ("BlockVault$Cache", T_C, 3)) hW hK hN rfl rfl) rfl rfl hl.1 rfl (lv_room (Nat.le_of_ble_eq_true rfl)) d_C_lookAt_11 ⟨Nat.le_of_ble_eq_true rfl, Nat.le_of_ble_eq_true rfl⟩) hS (fun r5 V6 P7 H locs hw8 hW hS => ?_)
    obtain ⟨rfl, hu1⟩ := hw8
    cases hu1
    refine lv_astore_n (lv' := [(3, .ref (sh (232 + mGive V))), (0, .ref (sh 268)), (1, .int b), (2, .ref (sh 267))]) hx hb d_C_lookAt_14 rfl hl (by decide) rfl (fun ls hl => ?_)
    refine lv_aload_n hx hb d_C_lookAt_15 rfl (lv_at hl 0 rfl) ?_
    refine lv_iload_n hx hb d_C_lookAt_16 rfl (lv_at hl 2 rfl) ?_
    refine jw_putN (ci := 4) (x := b) (ty := .int) (C := "BlockVault$Row") (T := T_R) (N := 5) hx hb hT in_R t_R t_R_ok n_R hown hK hW hS (lay_row hg) rfl 1 (by decide) rfl (nf3 hN) (fun _ h9 => h9) rfl (by decide +kernel) rfl rfl d_C_lookAt_17 (fun H locs hW hS => ?_)
    refine lv_aload_n hx hb d_C_lookAt_20 rfl (lv_at hl 3 rfl) ?_
    refine lv_iload_n hx hb d_C_lookAt_21 rfl (lv_at hl 2 rfl) ?_
    refine lv_aload_n hx hb d_C_lookAt_22 rfl (lv_at hl 0 rfl) ?_
    refine va_getN (D := D) (ci := 4) (v := .ref (sh (80 + mGive V))) (C := "BlockVault$Row") (T := T_R) (N := 5) hx hb hT in_R hown hK (hW.obj (lay_row hg)) 0 rfl rfl 0 (by decide) (nf0 hN) (fun _ h9 => h9) rfl d_C_lookAt_23 ?_
    refine jw_callv (va_runV (As := [.int b, .ref (sh (80 + mGive V))]) (rest := []) ⟨hx, hb, hml, hown, hT⟩ (m_D_read l D B cA sh (v2 V (232 + mGive V) 1 b) P b (80 + mGive V) (by omega) (by omega)) (cwV 2 hT (gV k253 k204 k205 k3 kc_D_read) rfl rfl rfl (by decide +kernel) ⟨Nat.le_of_ble_eq_true rfl, Nat.le_of_ble_eq_true rfl⟩) (jw_preV (q := ("BlockVault$Disk", T_D, 4)) hW hK hN rfl rfl) rfl rfl hl.1 rfl (lv_room (Nat.le_of_ble_eq_true rfl)) d_C_lookAt_26 ⟨Nat.le_of_ble_eq_true rfl, Nat.le_of_ble_eq_true rfl⟩) hS (fun V10 P11 H locs hw12 hW hS => ?_)
    cases hw12
    refine lv_aload_n hx hb d_C_lookAt_29 rfl (lv_at hl 1 rfl) ?_
    refine lv_dup hx hb d_C_lookAt_30 rfl ?_
    refine va_get (D := D) (ci := 0) (v := .int ((v2 V (232 + mGive V) 1 b) 268 2)) (C := "BlockVault$Cache") (T := T_C) (N := 3) hx hb hT in_C hown hK (hW.obj rfl) 0 rfl rfl 2 (by decide) (hT _ k100) (fun _ h9 => h9) rfl d_C_lookAt_31 ?_
    refine lv_iconst (v := 1) hx hb d_C_lookAt_34 (by decide) ?_
    refine lv_iadd hx hb d_C_lookAt_35 ?_
    refine jw_put (ci := 0) (x := (((v2 V (232 + mGive V) 1 b) 268 2) + 1)) (ty := .int) (C := "BlockVault$Cache") (T := T_C) (N := 3) hx hb hT in_C t_C t_C_ok n_C hown hK hW hS rfl rfl 2 (by decide) rfl (hT _ k100) (fun _ h9 => h9) rfl (by decide +kernel) rfl rfl d_C_lookAt_36 (fun H locs hW hS => ?_)
    refine lv_aload_n hx hb d_C_lookAt_39 rfl (lv_at hl 1 rfl) ?_
    refine lv_dup hx hb d_C_lookAt_40 rfl ?_
    refine va_get (D := D) (ci := 0) (v := .int ((v2 (v2 V (232 + mGive V) 1 b) 268 2 (((v2 V (232 + mGive V) 1 b) 268 2) + 1)) 268 1)) (C := "BlockVault$Cache") (T := T_C) (N := 3) hx hb hT in_C hown hK (hW.obj rfl) 0 rfl rfl 1 (by decide) (hT _ k99) (fun _ h9 => h9) rfl d_C_lookAt_41 ?_
    refine lv_iconst (v := 1) hx hb d_C_lookAt_44 (by decide) ?_
    refine lv_iadd hx hb d_C_lookAt_45 ?_
    refine jw_put (ci := 0) (x := (((v2 (v2 V (232 + mGive V) 1 b) 268 2 (((v2 V (232 + mGive V) 1 b) 268 2) + 1)) 268 1) + 1)) (ty := .int) (C := "BlockVault$Cache") (T := T_C) (N := 3) hx hb hT in_C t_C t_C_ok n_C hown hK hW hS rfl rfl 1 (by decide) rfl (hT _ k99) (fun _ h9 => h9) rfl (by decide +kernel) rfl rfl d_C_lookAt_46 (fun H locs hW hS => ?_)
    refine lv_aload_n hx hb d_C_lookAt_49 rfl (lv_at hl 0 rfl) ?_
    refine lv_aload_n hx hb d_C_lookAt_50 rfl (lv_at hl 1 rfl) ?_
    refine va_get (D := D) (ci := 0) (v := .int ((v2 (v2 (v2 V (232 + mGive V) 1 b) 268 2 (((v2 V (232 + mGive V) 1 b) 268 2) + 1)) 268 1 (((v2 (v2 V (232 + mGive V) 1 b) 268 2 (((v2 V (232 + mGive V) 1 b) 268 2) + 1)) 268 1) + 1)) 268 1)) (C := "BlockVault$Cache") (T := T_C) (N := 3) hx hb hT in_C hown hK (hW.obj rfl) 0 rfl rfl 1 (by decide) (hT _ k99) (fun _ h9 => h9) rfl d_C_lookAt_51 ?_
    refine jw_putN (ci := 4) (x := ((v2 (v2 (v2 V (232 + mGive V) 1 b) 268 2 (((v2 V (232 + mGive V) 1 b) 268 2) + 1)) 268 1 (((v2 (v2 V (232 + mGive V) 1 b) 268 2 (((v2 V (232 + mGive V) 1 b) 268 2) + 1)) 268 1) + 1)) 268 1)) (ty := .int) (C := "BlockVault$Row") (T := T_R) (N := 5) hx hb hT in_R t_R t_R_ok n_R hown hK hW hS (lay_row hg) rfl 2 (by decide) rfl (nf5 hN) (fun _ h9 => h9) rfl (by decide +kernel) rfl rfl d_C_lookAt_54 (fun H locs hW hS => ?_)
    refine lv_aload_n hx hb d_C_lookAt_57 rfl (lv_at hl 0 rfl) ?_
    refine W.widen (k := 1) (n := 1024) (by omega) (by omega) ?_
    exact W.aret (v := va_rf (some (sh (232 + mGive V)))) hx hb hr (Or.inl ⟨_, rfl⟩) (va_rf_or _) (fun t9 ht9 hwz => ⟨⟨(some (sh (232 + mGive V))), ((v2 (v2 (v2 (v2 V (232 + mGive V) 1 b) 268 2 (((v2 V (232 + mGive V) 1 b) 268 2) + 1)) 268 1 (((v2 (v2 V (232 + mGive V) 1 b) 268 2 (((v2 V (232 + mGive V) 1 b) 268 2) + 1)) 268 1) + 1)) (232 + mGive V) 2 ((v2 (v2 (v2 V (232 + mGive V) 1 b) 268 2 (((v2 V (232 + mGive V) 1 b) 268 2) + 1)) 268 1 (((v2 (v2 V (232 + mGive V) 1 b) 268 2 (((v2 V (232 + mGive V) 1 b) 268 2) + 1)) 268 1) + 1)) 268 1)), (mRead P b (80 + mGive V))), rfl, (by unfold mLook; rw [hrow]; refine ⟨rfl, ?_⟩; unfold mTouch mTake; rw [v2_s, v2_t (show 268 ≠ 232 + mGive V by omega), v2_k (show 1 ≠ 2 by omega), v2_t (show 268 ≠ 232 + mGive V by omega)]), by rw [ht9]; exact hW, va_K.moved hwz.alike hK, hN.warm hwz⟩, hS.F ht9⟩) hS.2.2 d_C_lookAt_58
  | some i =>
    rw [hrow] at hr0
    obtain rfl : r1 = some (sh (232 + i)) := hr0
    have hi : i < 34 := (mRow_some hrow).1
    refine lv_astore_n (lv' := [(3, .ref (sh (232 + i))), (0, .ref (sh 268)), (1, .int b), (2, .ref (sh 267))]) hx hb d_C_lookAt_5 rfl hl (by decide) rfl (fun ls hl => ?_)
    refine lv_aload_n hx hb d_C_lookAt_6 rfl (lv_at hl 0 rfl) ?_
    refine lv_ifnonnull (tgt := 39) hx hb d_C_lookAt_7 (by decide) ?_
    refine lv_aload_n hx hb d_C_lookAt_39 rfl (lv_at hl 1 rfl) ?_
    refine lv_dup hx hb d_C_lookAt_40 rfl ?_
    refine va_get (D := D) (ci := 0) (v := .int (V 268 1)) (C := "BlockVault$Cache") (T := T_C) (N := 3) hx hb hT in_C hown hK (hW.obj rfl) 0 rfl rfl 1 (by decide) (hT _ k99) (fun _ h9 => h9) rfl d_C_lookAt_41 ?_
    refine lv_iconst (v := 1) hx hb d_C_lookAt_44 (by decide) ?_
    refine lv_iadd hx hb d_C_lookAt_45 ?_
    refine jw_put (ci := 0) (x := ((V 268 1) + 1)) (ty := .int) (C := "BlockVault$Cache") (T := T_C) (N := 3) hx hb hT in_C t_C t_C_ok n_C hown hK hW hS rfl rfl 1 (by decide) rfl (hT _ k99) (fun _ h9 => h9) rfl (by decide +kernel) rfl rfl d_C_lookAt_46 (fun H locs hW hS => ?_)
    refine lv_aload_n hx hb d_C_lookAt_49 rfl (lv_at hl 0 rfl) ?_
    refine lv_aload_n hx hb d_C_lookAt_50 rfl (lv_at hl 1 rfl) ?_
    refine va_get (D := D) (ci := 0) (v := .int ((v2 V 268 1 ((V 268 1) + 1)) 268 1)) (C := "BlockVault$Cache") (T := T_C) (N := 3) hx hb hT in_C hown hK (hW.obj rfl) 0 rfl rfl 1 (by decide) (hT _ k99) (fun _ h9 => h9) rfl d_C_lookAt_51 ?_
    refine jw_putN (ci := 4) (x := ((v2 V 268 1 ((V 268 1) + 1)) 268 1)) (ty := .int) (C := "BlockVault$Row") (T := T_R) (N := 5) hx hb hT in_R t_R t_R_ok n_R hown hK hW hS (lay_row hi) rfl 2 (by decide) rfl (nf5 hN) (fun _ h9 => h9) rfl (by decide +kernel) rfl rfl d_C_lookAt_54 (fun H locs hW hS => ?_)
    refine lv_aload_n hx hb d_C_lookAt_57 rfl (lv_at hl 0 rfl) ?_
    refine W.widen (k := 1) (n := 1024) (by omega) (by omega) ?_
    exact W.aret (v := va_rf (some (sh (232 + i)))) hx hb hr (Or.inl ⟨_, rfl⟩) (va_rf_or _) (fun t9 ht9 hwz => ⟨⟨(some (sh (232 + i))), ((v2 (v2 V 268 1 ((V 268 1) + 1)) (232 + i) 2 ((v2 V 268 1 ((V 268 1) + 1)) 268 1)), P), rfl, (by unfold mLook; rw [hrow]; exact ⟨rfl, by unfold mTouch; rw [v2_s]⟩), by rw [ht9]; exact hW, va_K.moved hwz.alike hK, hN.warm hwz⟩, hS.F ht9⟩) hS.2.2 d_C_lookAt_58
end
section
set_option maxRecDepth 20000 in
theorem k_min : Cond.code Lib.Math.min.name Lib.Math.min.code 2 (some .int) ∈ WG := mg 31 (by decide +kernel) (by decide +kernel)
set_option maxRecDepth 20000 in
theorem k_max : Cond.code Lib.Math.max.name Lib.Math.max.code 2 (some .int) ∈ WG := mg 34 (by decide +kernel) (by decide +kernel)
theorem mByte_le (g : Nat → Int32) (k : Int32) : ∃ x, x < 256 ∧ mByte g k = nI x := by
  unfold mByte
  by_cases c : k < 0 ∨ 1024 ≤ k
  · rw [if_pos c]
    exact ⟨0, by omega, nI_0.symm⟩
  · rw [if_neg c, pk_and _ 8 (by decide)]
    exact ⟨_, Nat.mod_lt _ (by decide), rfl⟩
theorem mN_le (P : VV) : ∃ N, N ≤ 30 ∧ mN P = nI N := by
  unfold mN
  obtain ⟨x, x1, x2⟩ := mByte_le (mRead P 2 114 114) 0
  rw [x2]
  by_cases c : 30 < nI x
  · rw [if_pos c]
    exact ⟨30, by omega, rfl⟩
  · rw [if_neg c]
    refine ⟨x, ?_, rfl⟩
    rcases Nat.lt_or_ge 30 x with q | q
    · exact absurd (nI_lt (a := 30) q (by omega)) c
    · exact q

set_option maxHeartbeats 4000000 in
set_option maxRecDepth 100000 in
theorem m_L_copyHeld (l : Launch) (D : va_G) (B : Nat) (cA : Nat → ClassId) (sh : Nat → Nat) (V P : VV) : Met l y_L_copyHeld w_L_copyHeld ({ frames := 4, cells := 279, slots := 296448, locals := 103 } : Room) (va_Pc [.ref (sh 269), .ref (sh 268), .ref (sh 267)] (JC D B cA sh (V, P))) (va_Qi (fun (r : Int32) (u : VV × VV) => (r, u.1, u.2) = mCopy V P) (JC D B cA sh) (hm_A B)) 279 296448 (hm_A B) := by
  refine Met.ofW (cc := c_L_copyHeld) (maxL := 8) (ret := (some FieldType.boolean)) (by decide) rfl ?_
  intro p e s m args below meth c s₁ Bd hml hv
  obtain ⟨rfl, hW, hK, hN⟩ := hv
  have hx := Bd.exec
  have hb := Bd.bytes
  have hr := Bd.returns
  have hts := atoms_spec (ws := w_L_copyHeld) Bd.pre
  have hT : ∀ w ∈ WG, w.before ([.ref (sh 269), .ref (sh 268), .ref (sh 267)] : List Value).toArray s = true := fun w h => hts w (List.mem_cons_of_mem _ h)
  have hown : s.vm.findClass "BlockVault$Log" = some m.cls := findClass_of_methodNamed Bd.named
  have hlocks := Bd.notSynchronized
  have hW : JW D B cA sh V P s.heap := hW
  have hBs : B ≤ s.heap.size := hW.ge
  have hS : va_S (hm_A B) s.heap s.heap [] := va_S.rf
  have hl := lv_entry ([.ref (sh 269), .ref (sh 268), .ref (sh 267)]) (n := 8) (Nat.le_of_ble_eq_true rfl)
  rw [lg_entry_eq]
  generalize (lg_sl ([.ref (sh 269), .ref (sh 268), .ref (sh 267)]) ++ List.replicate (8 - (lg_sl ([.ref (sh 269), .ref (sh 268), .ref (sh 267)])).length) Slot.unset).toArray = ls at hl ⊢
  have hl : lv_has ls 8 [(0, .ref (sh 269)), (1, .ref (sh 268)), (2, .ref (sh 267))] := hl
  refine lv_iconst (v := 0) hx hb d_L_copyHeld_0 (by decide) ?_
  refine lv_istore_n (lv' := [(3, .int 0), (0, .ref (sh 269)), (1, .ref (sh 268)), (2, .ref (sh 267))]) hx hb d_L_copyHeld_1 rfl hl (by decide) rfl (fun ls hl => ?_)
  refine lv_aload_n hx hb d_L_copyHeld_2 rfl (lv_at hl 2 rfl) ?_
  refine va_getN (D := D) (ci := 0) (v := .ref (sh 271)) (C := "BlockVault$Cache") (T := T_C) (N := 3) hx hb hT in_C hown hK (hW.obj rfl) 0 rfl rfl 0 (by decide) (nf11 hN) (fun _ h9 => h9) rfl d_L_copyHeld_3 ?_
  refine lv_astore (lv' := [(4, .ref (sh 271)), (3, .int 0), (0, .ref (sh 269)), (1, .ref (sh 268)), (2, .ref (sh 267))]) hx hb d_L_copyHeld_6 hl (by decide) rfl (fun ls hl => ?_)
  refine lv_aload hx hb d_L_copyHeld_8 (lv_at hl 0 rfl) ?_
  refine jw_alenR hx hb hK hW d_L_copyHeld_10 ?_
  refine lv_istore (lv' := [(5, .int 34), (4, .ref (sh 271)), (3, .int 0), (0, .ref (sh 269)), (1, .ref (sh 268)), (2, .ref (sh 267))]) hx hb d_L_copyHeld_11 hl (by decide) rfl (fun ls hl => ?_)
  refine lv_iconst (v := 0) hx hb d_L_copyHeld_13 (by decide) ?_
  refine lv_istore (lv' := [(6, .int 0), (5, .int 34), (4, .ref (sh 271)), (3, .int 0), (0, .ref (sh 269)), (1, .ref (sh 268)), (2, .ref (sh 267))]) hx hb d_L_copyHeld_14 hl (by decide) rfl (fun ls hl => ?_)
  have loop : ∀ (n i : Nat) (k : Int32) (Va Pa : VV) (H : Heap) (locs : List Loc) (ls : Array Slot), i + n = 34 → (chL n i k Va Pa = mCopy V P) → JW D B cA sh Va Pa H → va_S (hm_A B) s.heap H locs → lv_has ls 8 [(6, .int (nI i)), (5, .int 34), (4, .ref (sh 271)), (3, .int k), (0, .ref (sh 269)), (1, .ref (sh 268)), (2, .ref (sh 267))] → W p l e (headSpec w_L_copyHeld ({ frames := 4, cells := 279, slots := 296448, locals := 103 } : Room)).room s m ([.ref (sh 269), .ref (sh 268), .ref (sh 267)] : List Value).toArray below meth c H locs 278 295424 (MQ below (va_Qi (fun (r : Int32) (u : VV × VV) => (r, u.1, u.2) = mCopy V P) (JC D B cA sh) (hm_A B)) ([.ref (sh 269), .ref (sh 268), .ref (sh 267)] : List Value).toArray s 279 296448 (hm_A B)) (F0 m 16 ls []) := by
    intro n
    induction n with
    | zero =>
      intro i k Va Pa H locs ls hin hinv hW hS hl
      obtain rfl : i = 34 := by omega
      refine lv_iload hx hb d_L_copyHeld_16 (lv_at hl 0 rfl) ?_
      refine lv_iload hx hb d_L_copyHeld_18 (lv_at hl 1 rfl) ?_
      refine lv_icmp_ge (tgt := 84) hx hb d_L_copyHeld_20 (by decide) (fun c1 => ?_) (fun c1 => ?_)
      · refine lv_aload_n hx hb d_L_copyHeld_84 rfl (lv_at hl 4 rfl) ?_
        refine va_get (D := D) (ci := 2) (v := .ref (sh 114)) (C := "BlockVault$Log") (T := T_L) (N := 3) hx hb hT in_L hown hK (hW.obj rfl) 0 rfl rfl 0 (by decide) (hT _ k116) (fun _ h9 => h9) rfl d_L_copyHeld_85 ?_
        refine lv_iconst (v := 0) hx hb d_L_copyHeld_88 (by decide) ?_
        refine lv_iconst (v := 1) hx hb d_L_copyHeld_89 (by decide) ?_
        refine lv_iload_n hx hb d_L_copyHeld_90 rfl (lv_at hl 3 rfl) ?_
        refine jw_callv (va_runV (As := [.int 0, .int 1, .int k]) (rest := []) ⟨hx, hb, hml, hown, hT⟩ (m_P_putRun l D B cA sh Va Pa 114 (by omega) 0 1 k) (cwV 3 hT (gV k174 k175 k176 k4 kc_P_putRun) rfl rfl rfl (by decide +kernel) ⟨Nat.le_of_ble_eq_true rfl, Nat.le_of_ble_eq_true rfl⟩) (jw_preP (q := ("BlockVault$Page", T_P, 1)) hW hK hN (by omega) rfl) rfl rfl hl.1 rfl (lv_room (Nat.le_of_ble_eq_true rfl)) d_L_copyHeld_91 ⟨Nat.le_of_ble_eq_true rfl, Nat.le_of_ble_eq_true rfl⟩) hS (fun V3 P4 H locs hw5 hW hS => ?_)
        refine jw_tight hBs hW ?_
        cases hw5
        refine lv_iconst (v := 1) hx hb d_L_copyHeld_94 (by decide) ?_
        refine W.widen (k := 279) (n := 296448) (by omega) (by omega) ?_
        exact W.zret (ty := .boolean) (v := 1) hx hb hr rfl (fun t9 ht9 hwz => ⟨⟨1, (Va, (p1 Pa 114 (mPut (Pa 114) 0 1 k))), rfl, (by rw [← hinv]; rfl), by rw [ht9]; exact hW, va_K.moved hwz.alike hK, hN.warm hwz⟩, hS.F ht9⟩) hS.2.2 d_L_copyHeld_95
      · exact absurd (by decide) c1
    | succ n ih =>
      intro i k Va Pa H locs ls hin hinv hW hS hl
      have hi : i < 34 := by omega
      refine lv_iload hx hb d_L_copyHeld_16 (lv_at hl 0 rfl) ?_
      refine lv_iload hx hb d_L_copyHeld_18 (lv_at hl 1 rfl) ?_
      refine lv_icmp_ge (tgt := 84) hx hb d_L_copyHeld_20 (by decide) (fun c6 => ?_) (fun c6 => ?_)
      · exact absurd c6 (nI_ge (b := 34) (by omega) (by omega))
      · refine lv_aload hx hb d_L_copyHeld_23 (lv_at hl 2 rfl) ?_
        refine lv_iload hx hb d_L_copyHeld_25 (lv_at hl 0 rfl) ?_
        refine jw_aldR (i := i) hx hb hK hW rfl (by omega) d_L_copyHeld_27 ?_
        refine lv_astore (lv' := [(7, .ref (sh (232 + i))), (6, .int (nI i)), (5, .int 34), (4, .ref (sh 271)), (3, .int k), (0, .ref (sh 269)), (1, .ref (sh 268)), (2, .ref (sh 267))]) hx hb d_L_copyHeld_28 hl (by decide) rfl (fun ls hl => ?_)
        refine lv_aload hx hb d_L_copyHeld_30 (lv_at hl 0 rfl) ?_
        refine va_getN (D := D) (ci := 4) (v := .int (Va (232 + i) 3)) (C := "BlockVault$Row") (T := T_R) (N := 5) hx hb hT in_R hown hK (hW.obj (lay_row hi)) 0 rfl rfl 3 (by decide) (nf6 hN) (fun _ h9 => h9) rfl d_L_copyHeld_32 ?_
        refine lv_if_eq (tgt := 78) hx hb d_L_copyHeld_35 (by decide) (fun c7 => ?_) (fun c7 => ?_)
        · refine lv_iinc (v := ((nI i) + 1)) (lv' := [(6, .int ((nI i) + 1)), (7, .ref (sh (232 + i))), (5, .int 34), (4, .ref (sh 271)), (3, .int k), (0, .ref (sh 269)), (1, .ref (sh 268)), (2, .ref (sh 267))]) hx hb d_L_copyHeld_78 hl (k := 1) rfl rfl (by decide) rfl (fun ls hl => ?_)
          refine lv_goto (tgt := 16) hx hb d_L_copyHeld_81 (by decide) ?_
          exact ih (i + 1) k Va Pa H locs ls (by omega) (by rw [← hinv]; simp only [chL]; rw [if_pos (Or.inl c7)]) hW hS (by rw [← nI_1]; exact lv_sub hl [0, 2, 3, 4, 5, 6, 7] rfl)
        · refine lv_iload_n hx hb d_L_copyHeld_38 rfl (lv_at hl 4 rfl) ?_
          refine lv_bipush (v := 30) hx hb d_L_copyHeld_39 (by decide) ?_
          refine lv_icmp_ge (tgt := 78) hx hb d_L_copyHeld_41 (by decide) (fun c8 => ?_) (fun c8 => ?_)
          · refine lv_iinc (v := ((nI i) + 1)) (lv' := [(6, .int ((nI i) + 1)), (7, .ref (sh (232 + i))), (5, .int 34), (4, .ref (sh 271)), (3, .int k), (0, .ref (sh 269)), (1, .ref (sh 268)), (2, .ref (sh 267))]) hx hb d_L_copyHeld_78 hl (k := 1) rfl rfl (by decide) rfl (fun ls hl => ?_)
            refine lv_goto (tgt := 16) hx hb d_L_copyHeld_81 (by decide) ?_
            exact ih (i + 1) k Va Pa H locs ls (by omega) (by rw [← hinv]; simp only [chL]; rw [if_pos (Or.inr c8)]) hW hS (by rw [← nI_1]; exact lv_sub hl [0, 2, 3, 4, 5, 6, 7] rfl)
          · refine lv_iinc (v := (k + 1)) (lv' := [(3, .int (k + 1)), (7, .ref (sh (232 + i))), (6, .int (nI i)), (5, .int 34), (4, .ref (sh 271)), (0, .ref (sh 269)), (1, .ref (sh 268)), (2, .ref (sh 267))]) hx hb d_L_copyHeld_44 hl (k := 4) rfl rfl (by decide) rfl (fun ls hl => ?_)
            refine lv_aload_n hx hb d_L_copyHeld_47 rfl (lv_at hl 5 rfl) ?_
            refine va_get (D := D) (ci := 2) (v := .ref (sh 114)) (C := "BlockVault$Log") (T := T_L) (N := 3) hx hb hT in_L hown hK (hW.obj rfl) 0 rfl rfl 0 (by decide) (hT _ k116) (fun _ h9 => h9) rfl d_L_copyHeld_48 ?_
            refine lv_iload_n hx hb d_L_copyHeld_51 rfl (lv_at hl 0 rfl) ?_
            refine lv_iconst (v := 1) hx hb d_L_copyHeld_52 (by decide) ?_
            refine lv_aload hx hb d_L_copyHeld_53 (lv_at hl 1 rfl) ?_
            refine va_getN (D := D) (ci := 4) (v := .int (Va (232 + i) 1)) (C := "BlockVault$Row") (T := T_R) (N := 5) hx hb hT in_R hown hK (hW.obj (lay_row hi)) 0 rfl rfl 1 (by decide) (nf4 hN) (fun _ h9 => h9) rfl d_L_copyHeld_55 ?_
            refine jw_callv (va_runV (As := [.int (k + 1), .int 1, .int (Va (232 + i) 1)]) (rest := []) ⟨hx, hb, hml, hown, hT⟩ (m_P_putRun l D B cA sh Va Pa 114 (by omega) (k + 1) 1 (Va (232 + i) 1)) (cwV 3 hT (gV k174 k175 k176 k4 kc_P_putRun) rfl rfl rfl (by decide +kernel) ⟨Nat.le_of_ble_eq_true rfl, Nat.le_of_ble_eq_true rfl⟩) (jw_preP (q := ("BlockVault$Page", T_P, 1)) hW hK hN (by omega) rfl) rfl rfl hl.1 rfl (lv_room (Nat.le_of_ble_eq_true rfl)) d_L_copyHeld_58 ⟨Nat.le_of_ble_eq_true rfl, Nat.le_of_ble_eq_true rfl⟩) hS (fun V10 P11 H locs hw12 hW hS => ?_)
            refine jw_tight hBs hW ?_
            cases hw12
            refine lv_aload_n hx hb d_L_copyHeld_61 rfl (lv_at hl 7 rfl) ?_
            refine lv_iconst (v := 2) hx hb d_L_copyHeld_62 (by decide) ?_
            refine lv_iload_n hx hb d_L_copyHeld_63 rfl (lv_at hl 0 rfl) ?_
            refine lv_iadd hx hb d_L_copyHeld_64 ?_
            refine lv_aload hx hb d_L_copyHeld_65 (lv_at hl 1 rfl) ?_
            refine va_getN (D := D) (ci := 4) (v := .ref (sh (80 + i))) (C := "BlockVault$Row") (T := T_R) (N := 5) hx hb hT in_R hown hK (hW.obj (lay_row hi)) 0 rfl rfl 0 (by decide) (nf1 hN) (fun _ h9 => h9) rfl d_L_copyHeld_67 ?_
            refine jw_calli (va_runV (As := [.int (2 + (k + 1)), .ref (sh (80 + i))]) (rest := []) ⟨hx, hb, hml, hown, hT⟩ (m_D_write l D B cA sh Va (p1 Pa 114 (mPut (Pa 114) (k + 1) 1 (Va (232 + i) 1))) (2 + (k + 1)) (80 + i) (by omega) (by omega)) (cwV 2 hT (gV k181 k182 k183 k3 kc_D_write) rfl rfl rfl (by decide +kernel) ⟨Nat.le_of_ble_eq_true rfl, Nat.le_of_ble_eq_true rfl⟩) (jw_preV (q := ("BlockVault$Disk", T_D, 4)) hW hK hN rfl rfl) rfl rfl hl.1 rfl (lv_room (Nat.le_of_ble_eq_true rfl)) d_L_copyHeld_70 ⟨Nat.le_of_ble_eq_true rfl, Nat.le_of_ble_eq_true rfl⟩) hS (fun r13 V14 P15 H locs hw16 hW hS => ?_)
            refine jw_tight hBs hW ?_
            refine lv_if_ne (tgt := 78) hx hb d_L_copyHeld_73 (by decide) (fun c17 => ?_) (fun c17 => ?_)
            · refine lv_iinc (v := ((nI i) + 1)) (lv' := [(6, .int ((nI i) + 1)), (3, .int (k + 1)), (7, .ref (sh (232 + i))), (5, .int 34), (4, .ref (sh 271)), (0, .ref (sh 269)), (1, .ref (sh 268)), (2, .ref (sh 267))]) hx hb d_L_copyHeld_78 hl (k := 2) rfl rfl (by decide) rfl (fun ls hl => ?_)
              refine lv_goto (tgt := 16) hx hb d_L_copyHeld_81 (by decide) ?_
              exact ih (i + 1) (k + 1) V14 P15 H locs ls (by omega) (by rw [← hinv]; simp only [chL]; rw [if_neg (fun q => q.elim c7 c8), ← hw16]; dsimp only; rw [if_neg c17]) hW hS (by rw [← nI_1]; exact lv_sub hl [0, 3, 4, 1, 5, 6, 7] rfl)
            · refine lv_iconst (v := 0) hx hb d_L_copyHeld_76 (by decide) ?_
              refine W.widen (k := 279) (n := 296448) (by omega) (by omega) ?_
              exact W.zret (ty := .boolean) (v := 0) hx hb hr rfl (fun t9 ht9 hwz => ⟨⟨0, (V14, P15), rfl, (by rw [← hinv]; simp only [chL]; rw [if_neg (fun q => q.elim c7 c8), ← hw16]; dsimp only; rw [if_pos c17]), by rw [ht9]; exact hW, va_K.moved hwz.alike hK, hN.warm hwz⟩, hS.F ht9⟩) hS.2.2 d_L_copyHeld_77
  refine jw_tight hBs hW ?_
  exact loop 34 0 0 V P _ _ ls (by omega) (rfl) hW hS (lv_sub hl [0, 1, 2, 3, 4, 5, 6] rfl)

set_option maxHeartbeats 4000000 in
set_option maxRecDepth 100000 in
theorem m_L_bringHome (l : Launch) (D : va_G) (B : Nat) (cA : Nat → ClassId) (sh : Nat → Nat) (V P : VV) : Met l y_L_bringHome w_L_bringHome ({ frames := 4, cells := 279, slots := 296448, locals := 103 } : Room) (va_Pc [.ref (sh 269), .ref (sh 267)] (JC D B cA sh (V, P))) (va_Qi (fun (r : Int32) (u : VV × VV) => (r, u.1, u.2) = mHome V P) (JC D B cA sh) (hm_A B)) 279 296448 (hm_A B) := by
  refine Met.ofW (cc := c_L_bringHome) (maxL := 4) (ret := (some FieldType.int)) (by decide) rfl ?_
  intro p e s m args below meth c s₁ Bd hml hv
  obtain ⟨rfl, hW, hK, hN⟩ := hv
  have hx := Bd.exec
  have hb := Bd.bytes
  have hr := Bd.returns
  have hts := atoms_spec (ws := w_L_bringHome) Bd.pre
  have hT : ∀ w ∈ WG, w.before ([.ref (sh 269), .ref (sh 267)] : List Value).toArray s = true := fun w h => hts w (List.mem_cons_of_mem _ h)
  have hown : s.vm.findClass "BlockVault$Log" = some m.cls := findClass_of_methodNamed Bd.named
  have hlocks := Bd.notSynchronized
  have hW : JW D B cA sh V P s.heap := hW
  have hBs : B ≤ s.heap.size := hW.ge
  have hS : va_S (hm_A B) s.heap s.heap [] := va_S.rf
  have hl := lv_entry ([.ref (sh 269), .ref (sh 267)]) (n := 4) (Nat.le_of_ble_eq_true rfl)
  rw [lg_entry_eq]
  generalize (lg_sl ([.ref (sh 269), .ref (sh 267)]) ++ List.replicate (4 - (lg_sl ([.ref (sh 269), .ref (sh 267)])).length) Slot.unset).toArray = ls at hl ⊢
  have hl : lv_has ls 4 [(0, .ref (sh 269)), (1, .ref (sh 267))] := hl
  refine lv_aload_n hx hb d_L_bringHome_0 rfl (lv_at hl 1 rfl) ?_
  refine lv_iconst (v := 2) hx hb d_L_bringHome_1 (by decide) ?_
  refine lv_aload_n hx hb d_L_bringHome_2 rfl (lv_at hl 0 rfl) ?_
  refine va_get (D := D) (ci := 2) (v := .ref (sh 114)) (C := "BlockVault$Log") (T := T_L) (N := 3) hx hb hT in_L hown hK (hW.obj rfl) 0 rfl rfl 0 (by decide) (hT _ k116) (fun _ h9 => h9) rfl d_L_bringHome_3 ?_
  refine jw_callv (va_runV (As := [.int 2, .ref (sh 114)]) (rest := []) ⟨hx, hb, hml, hown, hT⟩ (m_D_read l D B cA sh V P 2 114 (by omega) (by omega)) (cwV 2 hT (gV k203 k204 k205 k3 kc_D_read) rfl rfl rfl (by decide +kernel) ⟨Nat.le_of_ble_eq_true rfl, Nat.le_of_ble_eq_true rfl⟩) (jw_preV (q := ("BlockVault$Disk", T_D, 4)) hW hK hN rfl rfl) rfl rfl hl.1 rfl (lv_room (Nat.le_of_ble_eq_true rfl)) d_L_bringHome_6 ⟨Nat.le_of_ble_eq_true rfl, Nat.le_of_ble_eq_true rfl⟩) hS (fun V2 P3 H locs hw4 hW hS => ?_)
  refine jw_tight hBs hW ?_
  cases hw4
  refine lv_aload_n hx hb d_L_bringHome_9 rfl (lv_at hl 0 rfl) ?_
  refine va_get (D := D) (ci := 2) (v := .ref (sh 114)) (C := "BlockVault$Log") (T := T_L) (N := 3) hx hb hT in_L hown hK (hW.obj rfl) 0 rfl rfl 0 (by decide) (hT _ k116) (fun _ h9 => h9) rfl d_L_bringHome_10 ?_
  refine lv_iconst (v := 0) hx hb d_L_bringHome_13 (by decide) ?_
  refine jw_calli (va_runV (As := [.int 0]) (rest := []) ⟨hx, hb, hml, hown, hT⟩ (m_P_byteAt l D B cA sh V (mRead P 2 114) 114 (by omega) 0) (cwV 1 hT (gV k207 k208 k209 k4 kc_P_byteAt) rfl rfl rfl (by decide +kernel) ⟨Nat.le_of_ble_eq_true rfl, Nat.le_of_ble_eq_true rfl⟩) (jw_preP (q := ("BlockVault$Page", T_P, 1)) hW hK hN (by omega) rfl) rfl rfl hl.1 rfl (lv_room (Nat.le_of_ble_eq_true rfl)) d_L_bringHome_14 ⟨Nat.le_of_ble_eq_true rfl, Nat.le_of_ble_eq_true rfl⟩) hS (fun r5 V6 P7 H locs hw8 hW hS => ?_)
  obtain ⟨rfl, rfl, rfl⟩ := t3 hw8
  refine lv_bipush (v := 30) hx hb d_L_bringHome_17 (by decide) ?_
  refine va_mmin hx hb (by rw [hml]; exact hl.1.symm) hown (hT _ k211) (hT _ k20) (hT _ k2) (hT _ k_min) (Nat.le_of_ble_eq_true rfl) (Nat.le_of_ble_eq_true rfl) (Nat.le_of_ble_eq_true rfl) (Nat.le_of_ble_eq_true rfl) d_L_bringHome_19 ?_
  obtain ⟨N, hN30, eN⟩ := mN_le P
  rw [show (if 30 < mByte (mRead P 2 114 114) 0 then (30 : Int32) else mByte (mRead P 2 114 114) 0) = nI N from eN]
  refine lv_istore_n (lv' := [(2, .int (nI N)), (0, .ref (sh 269)), (1, .ref (sh 267))]) hx hb d_L_bringHome_22 rfl hl (by decide) rfl (fun ls hl => ?_)
  refine lv_iload_n hx hb d_L_bringHome_23 rfl (lv_at hl 0 rfl) ?_
  refine lv_if_ne (tgt := 29) hx hb d_L_bringHome_24 (by decide) (fun c9 => ?_) (fun c9 => ?_)
  · refine lv_iconst (v := 1) hx hb d_L_bringHome_29 (by decide) ?_
    refine lv_istore_n (lv' := [(3, .int 1), (2, .int (nI N)), (0, .ref (sh 269)), (1, .ref (sh 267))]) hx hb d_L_bringHome_30 rfl hl (by decide) rfl (fun ls hl => ?_)
    have hN0 : ¬ nI N = 0 := c9
    have loop : ∀ (n i : Nat) (Va Pa : VV) (H : Heap) (locs : List Loc) (ls : Array Slot), i + n = N + 1 → (bhL (nI N) n i Va Pa = mHome V P ∧ 1 ≤ i) → JW D B cA sh Va Pa H → va_S (hm_A B) s.heap H locs → lv_has ls 4 [(3, .int (nI i)), (2, .int (nI N)), (0, .ref (sh 269)), (1, .ref (sh 267))] → W p l e (headSpec w_L_bringHome ({ frames := 4, cells := 279, slots := 296448, locals := 103 } : Room)).room s m ([.ref (sh 269), .ref (sh 267)] : List Value).toArray below meth c H locs 278 295424 (MQ below (va_Qi (fun (r : Int32) (u : VV × VV) => (r, u.1, u.2) = mHome V P) (JC D B cA sh) (hm_A B)) ([.ref (sh 269), .ref (sh 267)] : List Value).toArray s 279 296448 (hm_A B)) (F0 m 31 ls []) := by
      intro n
      induction n with
      | zero =>
        intro i Va Pa H locs ls hin hinv hW hS hl
        obtain rfl : i = N + 1 := by omega
        refine lv_iload_n hx hb d_L_bringHome_31 rfl (lv_at hl 0 rfl) ?_
        refine lv_iload_n hx hb d_L_bringHome_32 rfl (lv_at hl 1 rfl) ?_
        refine lv_icmp_gt (tgt := 74) hx hb d_L_bringHome_33 (by decide) (fun c10 => ?_) (fun c10 => ?_)
        · refine lv_aload_n hx hb d_L_bringHome_74 rfl (lv_at hl 2 rfl) ?_
          refine va_get (D := D) (ci := 2) (v := .ref (sh 114)) (C := "BlockVault$Log") (T := T_L) (N := 3) hx hb hT in_L hown hK (hW.obj rfl) 0 rfl rfl 0 (by decide) (hT _ k116) (fun _ h9 => h9) rfl d_L_bringHome_75 ?_
          refine lv_iconst (v := 0) hx hb d_L_bringHome_78 (by decide) ?_
          refine lv_iconst (v := 1) hx hb d_L_bringHome_79 (by decide) ?_
          refine lv_iconst (v := 0) hx hb d_L_bringHome_80 (by decide) ?_
          refine jw_callv (va_runV (As := [.int 0, .int 1, .int 0]) (rest := []) ⟨hx, hb, hml, hown, hT⟩ (m_P_putRun l D B cA sh Va Pa 114 (by omega) 0 1 0) (cwV 3 hT (gV k174 k175 k176 k4 kc_P_putRun) rfl rfl rfl (by decide +kernel) ⟨Nat.le_of_ble_eq_true rfl, Nat.le_of_ble_eq_true rfl⟩) (jw_preP (q := ("BlockVault$Page", T_P, 1)) hW hK hN (by omega) rfl) rfl rfl hl.1 rfl (lv_room (Nat.le_of_ble_eq_true rfl)) d_L_bringHome_81 ⟨Nat.le_of_ble_eq_true rfl, Nat.le_of_ble_eq_true rfl⟩) hS (fun V12 P13 H locs hw14 hW hS => ?_)
          refine jw_tight hBs hW ?_
          cases hw14
          refine lv_aload_n hx hb d_L_bringHome_84 rfl (lv_at hl 3 rfl) ?_
          refine lv_iconst (v := 2) hx hb d_L_bringHome_85 (by decide) ?_
          refine lv_aload_n hx hb d_L_bringHome_86 rfl (lv_at hl 2 rfl) ?_
          refine va_get (D := D) (ci := 2) (v := .ref (sh 114)) (C := "BlockVault$Log") (T := T_L) (N := 3) hx hb hT in_L hown hK (hW.obj rfl) 0 rfl rfl 0 (by decide) (hT _ k116) (fun _ h9 => h9) rfl d_L_bringHome_87 ?_
          refine jw_calli (va_runV (As := [.int 2, .ref (sh 114)]) (rest := []) ⟨hx, hb, hml, hown, hT⟩ (m_D_write l D B cA sh Va (p1 Pa 114 (mPut (Pa 114) 0 1 0)) 2 114 (by omega) (by omega)) (cwV 2 hT (gV k181 k182 k183 k3 kc_D_write) rfl rfl rfl (by decide +kernel) ⟨Nat.le_of_ble_eq_true rfl, Nat.le_of_ble_eq_true rfl⟩) (jw_preV (q := ("BlockVault$Disk", T_D, 4)) hW hK hN rfl rfl) rfl rfl hl.1 rfl (lv_room (Nat.le_of_ble_eq_true rfl)) d_L_bringHome_90 ⟨Nat.le_of_ble_eq_true rfl, Nat.le_of_ble_eq_true rfl⟩) hS (fun r15 V16 P17 H locs hw18 hW hS => ?_)
          refine jw_tight hBs hW ?_
          refine lv_if_eq (tgt := 100) hx hb d_L_bringHome_93 (by decide) (fun c19 => ?_) (fun c19 => ?_)
          · refine lv_iconst (v := (-1)) hx hb d_L_bringHome_100 (by decide) ?_
            refine W.widen (k := 279) (n := 296448) (by omega) (by omega) ?_
            exact W.iret (v := (-1)) hx hb hr (fun t9 ht9 hwz => ⟨⟨(-1), (V16, P17), rfl, (by rw [← hinv.1]; simp only [bhL, mFin]; rw [← hw18]; dsimp only; rw [if_pos c19]), by rw [ht9]; exact hW, va_K.moved hwz.alike hK, hN.warm hwz⟩, hS.F ht9⟩) hS.2.2 d_L_bringHome_101
          · refine lv_iload_n hx hb d_L_bringHome_96 rfl (lv_at hl 1 rfl) ?_
            refine lv_goto (tgt := 101) hx hb d_L_bringHome_97 (by decide) ?_
            refine W.widen (k := 279) (n := 296448) (by omega) (by omega) ?_
            exact W.iret (v := (nI N)) hx hb hr (fun t9 ht9 hwz => ⟨⟨(nI N), (V16, P17), rfl, (by rw [← hinv.1]; simp only [bhL, mFin]; rw [← hw18]; dsimp only; rw [if_neg c19]), by rw [ht9]; exact hW, va_K.moved hwz.alike hK, hN.warm hwz⟩, hS.F ht9⟩) hS.2.2 d_L_bringHome_101
        · exact absurd (nI_lt (show N < N + 1 by omega) (by omega)) c10
      | succ n ih =>
        intro i Va Pa H locs ls hin hinv hW hS hl
        refine lv_iload_n hx hb d_L_bringHome_31 rfl (lv_at hl 0 rfl) ?_
        refine lv_iload_n hx hb d_L_bringHome_32 rfl (lv_at hl 1 rfl) ?_
        refine lv_icmp_gt (tgt := 74) hx hb d_L_bringHome_33 (by decide) (fun c20 => ?_) (fun c20 => ?_)
        · exact absurd c20 (nI_nlt (show i ≤ N by omega) (by omega))
        · refine lv_aload_n hx hb d_L_bringHome_36 rfl (lv_at hl 3 rfl) ?_
          refine lv_iconst (v := 2) hx hb d_L_bringHome_37 (by decide) ?_
          refine lv_iload_n hx hb d_L_bringHome_38 rfl (lv_at hl 0 rfl) ?_
          refine lv_iadd hx hb d_L_bringHome_39 ?_
          refine lv_aload_n hx hb d_L_bringHome_40 rfl (lv_at hl 2 rfl) ?_
          refine va_get (D := D) (ci := 2) (v := .ref (sh 115)) (C := "BlockVault$Log") (T := T_L) (N := 3) hx hb hT in_L hown hK (hW.obj rfl) 0 rfl rfl 1 (by decide) (hT _ k117) (fun _ h9 => h9) rfl d_L_bringHome_41 ?_
          refine jw_callv (va_runV (As := [.int (2 + (nI i)), .ref (sh 115)]) (rest := []) ⟨hx, hb, hml, hown, hT⟩ (m_D_read l D B cA sh Va Pa (2 + (nI i)) 115 (by omega) (by omega)) (cwV 2 hT (gV k203 k204 k205 k3 kc_D_read) rfl rfl rfl (by decide +kernel) ⟨Nat.le_of_ble_eq_true rfl, Nat.le_of_ble_eq_true rfl⟩) (jw_preV (q := ("BlockVault$Disk", T_D, 4)) hW hK hN rfl rfl) rfl rfl hl.1 rfl (lv_room (Nat.le_of_ble_eq_true rfl)) d_L_bringHome_44 ⟨Nat.le_of_ble_eq_true rfl, Nat.le_of_ble_eq_true rfl⟩) hS (fun V22 P23 H locs hw24 hW hS => ?_)
          refine jw_tight hBs hW ?_
          cases hw24
          refine lv_aload_n hx hb d_L_bringHome_47 rfl (lv_at hl 3 rfl) ?_
          refine lv_aload_n hx hb d_L_bringHome_48 rfl (lv_at hl 2 rfl) ?_
          refine va_get (D := D) (ci := 2) (v := .ref (sh 114)) (C := "BlockVault$Log") (T := T_L) (N := 3) hx hb hT in_L hown hK (hW.obj rfl) 0 rfl rfl 0 (by decide) (hT _ k116) (fun _ h9 => h9) rfl d_L_bringHome_49 ?_
          refine lv_iload_n hx hb d_L_bringHome_52 rfl (lv_at hl 0 rfl) ?_
          refine jw_calli (va_runV (As := [.int (nI i)]) (rest := [.ref (sh 267)]) ⟨hx, hb, hml, hown, hT⟩ (m_P_byteAt l D B cA sh Va (mRead Pa (2 + (nI i)) 115) 114 (by omega) (nI i)) (cwV 1 hT (gV k207 k208 k209 k4 kc_P_byteAt) rfl rfl rfl (by decide +kernel) ⟨Nat.le_of_ble_eq_true rfl, Nat.le_of_ble_eq_true rfl⟩) (jw_preP (q := ("BlockVault$Page", T_P, 1)) hW hK hN (by omega) rfl) rfl rfl hl.1 rfl (lv_room (Nat.le_of_ble_eq_true rfl)) d_L_bringHome_53 ⟨Nat.le_of_ble_eq_true rfl, Nat.le_of_ble_eq_true rfl⟩) hS (fun r25 V26 P27 H locs hw28 hW hS => ?_)
          obtain ⟨rfl, rfl, rfl⟩ := t3 hw28
          refine lv_aload_n hx hb d_L_bringHome_56 rfl (lv_at hl 2 rfl) ?_
          refine va_get (D := D) (ci := 2) (v := .ref (sh 115)) (C := "BlockVault$Log") (T := T_L) (N := 3) hx hb hT in_L hown hK (hW.obj rfl) 0 rfl rfl 1 (by decide) (hT _ k117) (fun _ h9 => h9) rfl d_L_bringHome_57 ?_
          refine jw_calli (va_runV (As := [.int (mByte ((mRead Pa (2 + (nI i)) 115) 114) (nI i)), .ref (sh 115)]) (rest := []) ⟨hx, hb, hml, hown, hT⟩ (m_D_write l D B cA sh Va (mRead Pa (2 + (nI i)) 115) (mByte ((mRead Pa (2 + (nI i)) 115) 114) (nI i)) 115 (by omega) (by omega)) (cwV 2 hT (gV k181 k182 k183 k3 kc_D_write) rfl rfl rfl (by decide +kernel) ⟨Nat.le_of_ble_eq_true rfl, Nat.le_of_ble_eq_true rfl⟩) (jw_preV (q := ("BlockVault$Disk", T_D, 4)) hW hK hN rfl rfl) rfl rfl hl.1 rfl (lv_room (Nat.le_of_ble_eq_true rfl)) d_L_bringHome_60 ⟨Nat.le_of_ble_eq_true rfl, Nat.le_of_ble_eq_true rfl⟩) hS (fun r29 V30 P31 H locs hw32 hW hS => ?_)
          refine jw_tight hBs hW ?_
          refine lv_if_ne (tgt := 68) hx hb d_L_bringHome_63 (by decide) (fun c33 => ?_) (fun c33 => ?_)
          · refine lv_iinc (v := ((nI i) + 1)) (lv' := [(3, .int ((nI i) + 1)), (2, .int (nI N)), (0, .ref (sh 269)), (1, .ref (sh 267))]) hx hb d_L_bringHome_68 hl (k := 0) rfl rfl (by decide) rfl (fun ls hl => ?_)
            refine lv_goto (tgt := 31) hx hb d_L_bringHome_71 (by decide) ?_
            exact ih (i + 1) V30 P31 H locs ls (by omega) (⟨by rw [← hinv.1]; simp only [bhL]; rw [← hw32]; dsimp only; rw [if_neg c33], by omega⟩) hW hS (by rw [← nI_1]; exact lv_sub hl [0, 1, 2, 3] rfl)
          · refine lv_iconst (v := (-1)) hx hb d_L_bringHome_66 (by decide) ?_
            refine W.widen (k := 279) (n := 296448) (by omega) (by omega) ?_
            exact W.iret (v := (-1)) hx hb hr (fun t9 ht9 hwz => ⟨⟨(-1), (V30, P31), rfl, (by rw [← hinv.1]; simp only [bhL]; rw [← hw32]; dsimp only; rw [if_pos c33]), by rw [ht9]; exact hW, va_K.moved hwz.alike hK, hN.warm hwz⟩, hS.F ht9⟩) hS.2.2 d_L_bringHome_67
    exact loop N 1 V (mRead P 2 114) _ _ ls (by omega) (⟨by unfold mHome; rw [eN, if_neg hN0, nI_clamp (by omega)], by omega⟩) hW hS (lv_sub hl [0, 1, 2, 3] rfl)
  · refine lv_iconst (v := 0) hx hb d_L_bringHome_27 (by decide) ?_
    refine W.widen (k := 279) (n := 296448) (by omega) (by omega) ?_
    exact W.iret (v := 0) hx hb hr (fun t9 ht9 hwz => ⟨⟨0, (V, (mRead P 2 114)), rfl, (by unfold mHome; rw [eN, if_pos c9]), by rw [ht9]; exact hW, va_K.moved hwz.alike hK, hN.warm hwz⟩, hS.F ht9⟩) hS.2.2 d_L_bringHome_28

set_option maxHeartbeats 4000000 in
set_option maxRecDepth 100000 in
theorem m_L_bringOut (l : Launch) (D : va_G) (B : Nat) (cA : Nat → ClassId) (sh : Nat → Nat) (V P : VV) : Met l y_L_bringOut w_L_bringOut ({ frames := 5, cells := 557, slots := 591872, locals := 130 } : Room) (va_Pc [.ref (sh 269), .ref (sh 268), .ref (sh 267)] (JC D B cA sh (V, P))) (va_Qi (fun (r : Int32) (u : VV × VV) => (r, u.1, u.2) = mOut V P) (JC D B cA sh) (hm_A B)) 557 591872 (hm_A B) := by
  refine Met.ofW (cc := c_L_bringOut) (maxL := 3) (ret := (some FieldType.boolean)) (by decide) rfl ?_
  intro p e s m args below meth c s₁ Bd hml hv
  obtain ⟨rfl, hW, hK, hN⟩ := hv
  have hx := Bd.exec
  have hb := Bd.bytes
  have hr := Bd.returns
  have hts := atoms_spec (ws := w_L_bringOut) Bd.pre
  have hT : ∀ w ∈ WG, w.before ([.ref (sh 269), .ref (sh 268), .ref (sh 267)] : List Value).toArray s = true := fun w h => hts w (List.mem_cons_of_mem _ h)
  have hown : s.vm.findClass "BlockVault$Log" = some m.cls := findClass_of_methodNamed Bd.named
  have hlocks := Bd.notSynchronized
  have hW : JW D B cA sh V P s.heap := hW
  have hBs : B ≤ s.heap.size := hW.ge
  have hS : va_S (hm_A B) s.heap s.heap [] := va_S.rf
  have hl := lv_entry ([.ref (sh 269), .ref (sh 268), .ref (sh 267)]) (n := 3) (Nat.le_of_ble_eq_true rfl)
  rw [lg_entry_eq]
  generalize (lg_sl ([.ref (sh 269), .ref (sh 268), .ref (sh 267)]) ++ List.replicate (3 - (lg_sl ([.ref (sh 269), .ref (sh 268), .ref (sh 267)])).length) Slot.unset).toArray = ls at hl ⊢
  have hl : lv_has ls 3 [(0, .ref (sh 269)), (1, .ref (sh 268)), (2, .ref (sh 267))] := hl
  refine lv_aload_n hx hb d_L_bringOut_0 rfl (lv_at hl 0 rfl) ?_
  refine lv_aload_n hx hb d_L_bringOut_1 rfl (lv_at hl 1 rfl) ?_
  refine lv_aload_n hx hb d_L_bringOut_2 rfl (lv_at hl 2 rfl) ?_
  refine jw_calli (va_runV (As := [.ref (sh 268), .ref (sh 267)]) (rest := []) ⟨hx, hb, hml, hown, hT⟩ (m_L_copyHeld l D B cA sh V P) (cwV 2 hT (gV k170 k172 ks1 k7 kc_L_copyHeld) rfl rfl rfl (by decide +kernel) ⟨Nat.le_of_ble_eq_true rfl, Nat.le_of_ble_eq_true rfl⟩) (jw_preV (q := ("BlockVault$Log", T_L, 3)) hW hK hN rfl rfl) rfl rfl hl.1 rfl (lv_room (Nat.le_of_ble_eq_true rfl)) d_L_bringOut_3 ⟨Nat.le_of_ble_eq_true rfl, Nat.le_of_ble_eq_true rfl⟩) hS (fun r1 V2 P3 H locs hw4 hW hS => ?_)
  refine jw_tight hBs hW ?_
  refine lv_if_eq (tgt := 21) hx hb d_L_bringOut_6 (by decide) (fun c5 => ?_) (fun c5 => ?_)
  · refine lv_iconst (v := 0) hx hb d_L_bringOut_21 (by decide) ?_
    refine W.widen (k := 557) (n := 591872) (by omega) (by omega) ?_
    exact W.zret (ty := .boolean) (v := 0) hx hb hr rfl (fun t9 ht9 hwz => ⟨⟨0, (V2, P3), rfl, (by unfold mOut; rw [← hw4]; dsimp only; rw [if_pos c5]), by rw [ht9]; exact hW, va_K.moved hwz.alike hK, hN.warm hwz⟩, hS.F ht9⟩) hS.2.2 d_L_bringOut_22
  · refine lv_aload_n hx hb d_L_bringOut_9 rfl (lv_at hl 2 rfl) ?_
    refine lv_iconst (v := 2) hx hb d_L_bringOut_10 (by decide) ?_
    refine lv_aload_n hx hb d_L_bringOut_11 rfl (lv_at hl 0 rfl) ?_
    refine va_get (D := D) (ci := 2) (v := .ref (sh 114)) (C := "BlockVault$Log") (T := T_L) (N := 3) hx hb hT in_L hown hK (hW.obj rfl) 0 rfl rfl 0 (by decide) (hT _ k116) (fun _ h9 => h9) rfl d_L_bringOut_12 ?_
    refine jw_calli (va_runV (As := [.int 2, .ref (sh 114)]) (rest := []) ⟨hx, hb, hml, hown, hT⟩ (m_D_write l D B cA sh V2 P3 2 114 (by omega) (by omega)) (cwV 2 hT (gV k181 k182 k183 k3 kc_D_write) rfl rfl rfl (by decide +kernel) ⟨Nat.le_of_ble_eq_true rfl, Nat.le_of_ble_eq_true rfl⟩) (jw_preV (q := ("BlockVault$Disk", T_D, 4)) hW hK hN rfl rfl) rfl rfl hl.1 rfl (lv_room (Nat.le_of_ble_eq_true rfl)) d_L_bringOut_15 ⟨Nat.le_of_ble_eq_true rfl, Nat.le_of_ble_eq_true rfl⟩) hS (fun r6 V7 P8 H locs hw9 hW hS => ?_)
    refine jw_tight hBs hW ?_
    refine lv_if_ne (tgt := 23) hx hb d_L_bringOut_18 (by decide) (fun c10 => ?_) (fun c10 => ?_)
    · refine lv_aload_n hx hb d_L_bringOut_23 rfl (lv_at hl 0 rfl) ?_
      refine lv_dup hx hb d_L_bringOut_24 rfl ?_
      refine va_get (D := D) (ci := 2) (v := .int (V7 269 2)) (C := "BlockVault$Log") (T := T_L) (N := 3) hx hb hT in_L hown hK (hW.obj rfl) 0 rfl rfl 2 (by decide) (hT _ k118) (fun _ h9 => h9) rfl d_L_bringOut_25 ?_
      refine lv_iconst (v := 1) hx hb d_L_bringOut_28 (by decide) ?_
      refine lv_iadd hx hb d_L_bringOut_29 ?_
      refine jw_put (ci := 2) (x := ((V7 269 2) + 1)) (ty := .int) (C := "BlockVault$Log") (T := T_L) (N := 3) hx hb hT in_L t_L t_L_ok n_L hown hK hW hS rfl rfl 2 (by decide) rfl (hT _ k118) (fun _ h9 => h9) rfl (by decide +kernel) rfl rfl d_L_bringOut_30 (fun H locs hW hS => ?_)
      refine lv_aload_n hx hb d_L_bringOut_33 rfl (lv_at hl 0 rfl) ?_
      refine lv_aload_n hx hb d_L_bringOut_34 rfl (lv_at hl 2 rfl) ?_
      refine jw_calli (va_runV (As := [.ref (sh 267)]) (rest := []) ⟨hx, hb, hml, hown, hT⟩ (m_L_bringHome l D B cA sh (v2 V7 269 2 ((V7 269 2) + 1)) P8) (cwV 1 hT (gV k199 k200 k201 k7 kc_L_bringHome) rfl rfl rfl (by decide +kernel) ⟨Nat.le_of_ble_eq_true rfl, Nat.le_of_ble_eq_true rfl⟩) (jw_preV (q := ("BlockVault$Log", T_L, 3)) hW hK hN rfl rfl) rfl rfl hl.1 rfl (lv_room (Nat.le_of_ble_eq_true rfl)) d_L_bringOut_35 ⟨Nat.le_of_ble_eq_true rfl, Nat.le_of_ble_eq_true rfl⟩) hS (fun r11 V12 P13 H locs hw14 hW hS => ?_)
      refine jw_tight hBs hW ?_
      refine lv_iconst (v := (-1)) hx hb d_L_bringOut_38 (by decide) ?_
      refine lv_icmp_eq (tgt := 46) hx hb d_L_bringOut_39 (by decide) (fun c15 => ?_) (fun c15 => ?_)
      · refine lv_iconst (v := 0) hx hb d_L_bringOut_46 (by decide) ?_
        refine W.widen (k := 557) (n := 591872) (by omega) (by omega) ?_
        exact W.zret (ty := .boolean) (v := 0) hx hb hr rfl (fun t9 ht9 hwz => ⟨⟨0, (V12, P13), rfl, (by unfold mOut; rw [← hw4]; dsimp only; rw [if_neg c5]; unfold mOut1; rw [← hw9]; dsimp only; rw [if_neg c10]; unfold mOut2; rw [← hw14]; dsimp only; rw [if_pos c15]), by rw [ht9]; exact hW, va_K.moved hwz.alike hK, hN.warm hwz⟩, hS.F ht9⟩) hS.2.2 d_L_bringOut_47
      · refine lv_iconst (v := 1) hx hb d_L_bringOut_42 (by decide) ?_
        refine lv_goto (tgt := 47) hx hb d_L_bringOut_43 (by decide) ?_
        refine W.widen (k := 557) (n := 591872) (by omega) (by omega) ?_
        exact W.zret (ty := .boolean) (v := 1) hx hb hr rfl (fun t9 ht9 hwz => ⟨⟨1, (V12, P13), rfl, (by unfold mOut; rw [← hw4]; dsimp only; rw [if_neg c5]; unfold mOut1; rw [← hw9]; dsimp only; rw [if_neg c10]; unfold mOut2; rw [← hw14]; dsimp only; rw [if_neg c15]), by rw [ht9]; exact hW, va_K.moved hwz.alike hK, hN.warm hwz⟩, hS.F ht9⟩) hS.2.2 d_L_bringOut_47
    · refine lv_iconst (v := 0) hx hb d_L_bringOut_21 (by decide) ?_
      refine W.widen (k := 557) (n := 591872) (by omega) (by omega) ?_
      exact W.zret (ty := .boolean) (v := 0) hx hb hr rfl (fun t9 ht9 hwz => ⟨⟨0, (V7, P8), rfl, (by unfold mOut; rw [← hw4]; dsimp only; rw [if_neg c5]; unfold mOut1; rw [← hw9]; dsimp only; rw [if_pos c10]), by rw [ht9]; exact hW, va_K.moved hwz.alike hK, hN.warm hwz⟩, hS.F ht9⟩) hS.2.2 d_L_bringOut_22
end
section
theorem bi_t {q : Prop} [Decidable q] {r : Int32} (h : (if q then (1 : Int32) else 0) = r) (c : ¬ r = 0) : q := Decidable.byContradiction fun n => c (by rw [← h, if_neg n])
theorem bi_f {q : Prop} [Decidable q] {r : Int32} (h : (if q then (1 : Int32) else 0) = r) (c : r = 0) : ¬ q := fun n => by
  rw [← h, if_pos n] at c
  exact absurd c (by decide)
theorem tl {V1 P1 : VV} {x : VV × VV} (h : (V1, P1) = x) : x.1 = V1 ∧ x.2 = P1 := by
  subst h
  exact ⟨rfl, rfl⟩
theorem out06 {w : Int32} (h0 : ¬ w = 0) (h1 : ¬ w = 1) (h2 : ¬ w = 2) (h3 : ¬ w = 3) (h4 : ¬ w = 4) (h5 : ¬ w = 5) (h6 : ¬ w = 6) : w.toInt < 0 ∨ 6 < w.toInt := by
  have f : ∀ k : Int32, ¬ w = k → ¬ w.toInt = k.toInt := fun k hk q => hk (Int32.toInt_inj.mp q)
  have g0 := f 0 h0
  have g1 := f 1 h1
  have g2 := f 2 h2
  have g3 := f 3 h3
  have g4 := f 4 h4
  have g5 := f 5 h5
  have g6 := f 6 h6
  have e0 : (0 : Int32).toInt = 0 := by decide
  have e1 : (1 : Int32).toInt = 1 := by decide
  have e2 : (2 : Int32).toInt = 2 := by decide
  have e3 : (3 : Int32).toInt = 3 := by decide
  have e4 : (4 : Int32).toInt = 4 := by decide
  have e5 : (5 : Int32).toInt = 5 := by decide
  have e6 : (6 : Int32).toInt = 6 := by decide
  omega

set_option maxHeartbeats 4000000 in
set_option maxRecDepth 100000 in
theorem m_V_commit (l : Launch) (D : va_G) (B : Nat) (cA : Nat → ClassId) (sh : Nat → Nat) (V P : VV) : Met l y_V_commit w_V_commit ({ frames := 6, cells := 557, slots := 591872, locals := 152 } : Room) (va_Pc [.ref (sh 266)] (JC D B cA sh (V, P))) (va_Qi (fun (r : Int32) (u : VV × VV) => (r, u.1, u.2) = mCommit V P) (JC D B cA sh) (hm_A B)) 557 591872 (hm_A B) := by
  refine Met.ofW (cc := c_V_commit) (maxL := 1) (ret := (some FieldType.boolean)) (by decide) rfl ?_
  intro p e s m args below meth c s₁ Bd hml hv
  obtain ⟨rfl, hW, hK, hN⟩ := hv
  have hx := Bd.exec
  have hb := Bd.bytes
  have hr := Bd.returns
  have hts := atoms_spec (ws := w_V_commit) Bd.pre
  have hT : ∀ w ∈ WG, w.before ([.ref (sh 266)] : List Value).toArray s = true := fun w h => hts w (List.mem_cons_of_mem _ h)
  have hown : s.vm.findClass "BlockVault" = some m.cls := findClass_of_methodNamed Bd.named
  have hlocks := Bd.notSynchronized
  have hW : JW D B cA sh V P s.heap := hW
  have hBs : B ≤ s.heap.size := hW.ge
  have hS : va_S (hm_A B) s.heap s.heap [] := va_S.rf
  have hl := lv_entry ([.ref (sh 266)]) (n := 1) (Nat.le_of_ble_eq_true rfl)
  rw [lg_entry_eq]
  generalize (lg_sl ([.ref (sh 266)]) ++ List.replicate (1 - (lg_sl ([.ref (sh 266)])).length) Slot.unset).toArray = ls at hl ⊢
  have hl : lv_has ls 1 [(0, .ref (sh 266))] := hl
  refine lv_aload_n hx hb d_V_commit_0 rfl (lv_at hl 0 rfl) ?_
  refine va_get (D := D) (ci := 5) (v := .ref (sh 269)) (C := "BlockVault") (T := T_V) (N := 5) hx hb hT in_V hown hK (hW.obj rfl) 0 rfl rfl 3 (by decide) (hT _ k129) (fun _ h9 => h9) rfl d_V_commit_1 ?_
  refine lv_aload_n hx hb d_V_commit_4 rfl (lv_at hl 0 rfl) ?_
  refine va_get (D := D) (ci := 5) (v := .ref (sh 268)) (C := "BlockVault") (T := T_V) (N := 5) hx hb hT in_V hown hK (hW.obj rfl) 0 rfl rfl 2 (by decide) (hT _ k128) (fun _ h9 => h9) rfl d_V_commit_5 ?_
  refine lv_aload_n hx hb d_V_commit_8 rfl (lv_at hl 0 rfl) ?_
  refine va_get (D := D) (ci := 5) (v := .ref (sh 267)) (C := "BlockVault") (T := T_V) (N := 5) hx hb hT in_V hown hK (hW.obj rfl) 0 rfl rfl 1 (by decide) (hT _ k127) (fun _ h9 => h9) rfl d_V_commit_9 ?_
  refine jw_calli (va_runV (As := [.ref (sh 268), .ref (sh 267)]) (rest := []) ⟨hx, hb, hml, hown, hT⟩ (m_L_bringOut l D B cA sh V P) (cwV 2 hT (gV k166 k167 k168 k7 kc_L_bringOut) rfl rfl rfl (by decide +kernel) ⟨Nat.le_of_ble_eq_true rfl, Nat.le_of_ble_eq_true rfl⟩) (jw_preV (q := ("BlockVault$Log", T_L, 3)) hW hK hN rfl rfl) rfl rfl hl.1 rfl (lv_room (Nat.le_of_ble_eq_true rfl)) d_V_commit_12 ⟨Nat.le_of_ble_eq_true rfl, Nat.le_of_ble_eq_true rfl⟩) hS (fun r1 V2 P3 H locs hw4 hW hS => ?_)
  refine jw_tight hBs hW ?_
  refine lv_if_eq (tgt := 27) hx hb d_V_commit_15 (by decide) (fun c5 => ?_) (fun c5 => ?_)
  · refine lv_aload_n hx hb d_V_commit_27 rfl (lv_at hl 0 rfl) ?_
    refine va_get (D := D) (ci := 5) (v := .ref (sh 268)) (C := "BlockVault") (T := T_V) (N := 5) hx hb hT in_V hown hK (hW.obj rfl) 0 rfl rfl 2 (by decide) (hT _ k128) (fun _ h9 => h9) rfl d_V_commit_28 ?_
    refine jw_callv (va_runV (As := []) (rest := []) ⟨hx, hb, hml, hown, hT⟩ (m_C_makeEmpty l D B cA sh V2 P3) (cwV 0 hT (gV k216 k217 k218 k5 kc_C_makeEmpty) rfl rfl rfl (by decide +kernel) ⟨Nat.le_of_ble_eq_true rfl, Nat.le_of_ble_eq_true rfl⟩) (jw_preV (q := ("BlockVault$Cache", T_C, 3)) hW hK hN rfl rfl) rfl rfl hl.1 rfl (lv_room (Nat.le_of_ble_eq_true rfl)) d_V_commit_31 ⟨Nat.le_of_ble_eq_true rfl, Nat.le_of_ble_eq_true rfl⟩) hS (fun V7 P8 H locs hw9 hW hS => ?_)
    cases hw9
    refine lv_iconst (v := 0) hx hb d_V_commit_34 (by decide) ?_
    refine W.widen (k := 557) (n := 591872) (by omega) (by omega) ?_
    exact W.zret (ty := .boolean) (v := 0) hx hb hr rfl (fun t9 ht9 hwz => ⟨⟨0, ((eR 34 0 V2), P3), rfl, (by unfold mCommit; rw [← hw4]; dsimp only; rw [if_pos c5]), by rw [ht9]; exact hW, va_K.moved hwz.alike hK, hN.warm hwz⟩, hS.F ht9⟩) hS.2.2 d_V_commit_35
  · refine lv_aload_n hx hb d_V_commit_18 rfl (lv_at hl 0 rfl) ?_
    refine va_get (D := D) (ci := 5) (v := .ref (sh 268)) (C := "BlockVault") (T := T_V) (N := 5) hx hb hT in_V hown hK (hW.obj rfl) 0 rfl rfl 2 (by decide) (hT _ k128) (fun _ h9 => h9) rfl d_V_commit_19 ?_
    refine jw_callv (va_runV (As := []) (rest := []) ⟨hx, hb, hml, hown, hT⟩ (m_C_releaseHeld l D B cA sh V2 P3) (cwV 0 hT (gV k212 k213 k214 k5 kc_C_releaseHeld) rfl rfl rfl (by decide +kernel) ⟨Nat.le_of_ble_eq_true rfl, Nat.le_of_ble_eq_true rfl⟩) (jw_preV (q := ("BlockVault$Cache", T_C, 3)) hW hK hN rfl rfl) rfl rfl hl.1 rfl (lv_room (Nat.le_of_ble_eq_true rfl)) d_V_commit_22 ⟨Nat.le_of_ble_eq_true rfl, Nat.le_of_ble_eq_true rfl⟩) hS (fun V11 P12 H locs hw13 hW hS => ?_)
    cases hw13
    refine lv_iconst (v := 1) hx hb d_V_commit_25 (by decide) ?_
    refine W.widen (k := 557) (n := 591872) (by omega) (by omega) ?_
    exact W.zret (ty := .boolean) (v := 1) hx hb hr rfl (fun t9 ht9 hwz => ⟨⟨1, ((zR 3 34 0 V2), P3), rfl, (by unfold mCommit; rw [← hw4]; dsimp only; rw [if_neg c5]), by rw [ht9]; exact hW, va_K.moved hwz.alike hK, hN.warm hwz⟩, hS.F ht9⟩) hS.2.2 d_V_commit_26

set_option maxHeartbeats 4000000 in
set_option maxRecDepth 100000 in
theorem m_V_begin (l : Launch) (D : va_G) (B : Nat) (cA : Nat → ClassId) (sh : Nat → Nat) (V P : VV) (hon : V 267 1 = 0 ∨ V 267 1 = 1) : Met l y_V_begin w_V_begin ({ frames := 1, cells := 0, slots := 0, locals := 20 } : Room) (va_Pc [.ref (sh 266)] (JC D B cA sh (V, P))) (va_Qi (fun (r : Int32) (u : VV × VV) => (r, u.1, u.2) = mBegin V P) (JC D B cA sh) (hm_A B)) 0 0 (hm_A B) := by
  refine Met.ofW (cc := c_V_begin) (maxL := 1) (ret := (some FieldType.boolean)) (by decide) rfl ?_
  intro p e s m args below meth c s₁ Bd hml hv
  obtain ⟨rfl, hW, hK, hN⟩ := hv
  have hx := Bd.exec
  have hb := Bd.bytes
  have hr := Bd.returns
  have hts := atoms_spec (ws := w_V_begin) Bd.pre
  have hT : ∀ w ∈ WG, w.before ([.ref (sh 266)] : List Value).toArray s = true := fun w h => hts w (List.mem_cons_of_mem _ h)
  have hown : s.vm.findClass "BlockVault" = some m.cls := findClass_of_methodNamed Bd.named
  have hlocks := Bd.notSynchronized
  have hW : JW D B cA sh V P s.heap := hW
  have hBs : B ≤ s.heap.size := hW.ge
  have hS : va_S (hm_A B) s.heap s.heap [] := va_S.rf
  have hl := lv_entry ([.ref (sh 266)]) (n := 1) (Nat.le_of_ble_eq_true rfl)
  rw [lg_entry_eq]
  generalize (lg_sl ([.ref (sh 266)]) ++ List.replicate (1 - (lg_sl ([.ref (sh 266)])).length) Slot.unset).toArray = ls at hl ⊢
  have hl : lv_has ls 1 [(0, .ref (sh 266))] := hl
  refine lv_aload_n hx hb d_V_begin_0 rfl (lv_at hl 0 rfl) ?_
  refine va_get (D := D) (ci := 5) (v := .ref (sh 267)) (C := "BlockVault") (T := T_V) (N := 5) hx hb hT in_V hown hK (hW.obj rfl) 0 rfl rfl 1 (by decide) (hT _ k127) (fun _ h9 => h9) rfl d_V_begin_1 ?_
  refine jw_calli (va_runV (As := []) (rest := []) ⟨hx, hb, hml, hown, hT⟩ (m_D_isOn l D B cA sh V P hon) (cwV 0 hT (gV k146 k147 k148 k3 kc_D_isOn) rfl rfl rfl (by decide +kernel) ⟨Nat.le_of_ble_eq_true rfl, Nat.le_of_ble_eq_true rfl⟩) (jw_preV (q := ("BlockVault$Disk", T_D, 4)) hW hK hN rfl rfl) rfl rfl hl.1 rfl (lv_room (Nat.le_of_ble_eq_true rfl)) d_V_begin_4 ⟨Nat.le_of_ble_eq_true rfl, Nat.le_of_ble_eq_true rfl⟩) hS (fun r1 V2 P3 H locs hw4 hW hS => ?_)
  obtain ⟨rfl, rfl, rfl⟩ := t3 hw4
  refine lv_if_eq (tgt := 17) hx hb d_V_begin_7 (by decide) (fun c5 => ?_) (fun c5 => ?_)
  · refine lv_iconst (v := 0) hx hb d_V_begin_17 (by decide) ?_
    refine W.widen (k := 0) (n := 0) (by omega) (by omega) ?_
    exact W.zret (ty := .boolean) (v := 0) hx hb hr rfl (fun t9 ht9 hwz => ⟨⟨0, (V, P), rfl, (by simp [mBegin, c5]), by rw [ht9]; exact hW, va_K.moved hwz.alike hK, hN.warm hwz⟩, hS.F ht9⟩) hS.2.2 d_V_begin_18
  · refine lv_aload_n hx hb d_V_begin_10 rfl (lv_at hl 0 rfl) ?_
    refine va_get (D := D) (ci := 5) (v := .int (V 266 4)) (C := "BlockVault") (T := T_V) (N := 5) hx hb hT in_V hown hK (hW.obj rfl) 0 rfl rfl 4 (by decide) (hT _ k130) (fun _ h9 => h9) rfl d_V_begin_11 ?_
    refine lv_if_eq (tgt := 19) hx hb d_V_begin_14 (by decide) (fun c6 => ?_) (fun c6 => ?_)
    · refine lv_aload_n hx hb d_V_begin_19 rfl (lv_at hl 0 rfl) ?_
      refine lv_iconst (v := 1) hx hb d_V_begin_20 (by decide) ?_
      refine jw_put (ci := 5) (x := 1) (ty := .boolean) (C := "BlockVault") (T := T_V) (N := 5) hx hb hT in_V t_V t_V_ok n_V hown hK hW hS rfl rfl 4 (by decide) rfl (hT _ k130) (fun _ h9 => h9) rfl (by decide +kernel) rfl rfl d_V_begin_21 (fun H locs hW hS => ?_)
      refine lv_iconst (v := 1) hx hb d_V_begin_24 (by decide) ?_
      refine W.widen (k := 0) (n := 0) (by omega) (by omega) ?_
      exact W.zret (ty := .boolean) (v := 1) hx hb hr rfl (fun t9 ht9 hwz => ⟨⟨1, ((v2 V 266 4 1), P), rfl, (by simp [mBegin, c5, c6]), by rw [ht9]; exact hW, va_K.moved hwz.alike hK, hN.warm hwz⟩, hS.F ht9⟩) hS.2.2 d_V_begin_25
    · refine lv_iconst (v := 0) hx hb d_V_begin_17 (by decide) ?_
      refine W.widen (k := 0) (n := 0) (by omega) (by omega) ?_
      exact W.zret (ty := .boolean) (v := 0) hx hb hr rfl (fun t9 ht9 hwz => ⟨⟨0, (V, P), rfl, (by simp [mBegin, c5, c6]), by rw [ht9]; exact hW, va_K.moved hwz.alike hK, hN.warm hwz⟩, hS.F ht9⟩) hS.2.2 d_V_begin_18

set_option maxHeartbeats 4000000 in
set_option maxRecDepth 100000 in
theorem m_V_cut (l : Launch) (D : va_G) (B : Nat) (cA : Nat → ClassId) (sh : Nat → Nat) (V P : VV) (hon : V 267 1 = 0 ∨ V 267 1 = 1) (k : Int32) : Met l y_V_cut w_V_cut ({ frames := 1, cells := 0, slots := 0, locals := 21 } : Room) (va_Pc [.ref (sh 266), .int k] (JC D B cA sh (V, P))) (va_Qi (fun (r : Int32) (u : VV × VV) => (r, u.1, u.2) = mCut V P k) (JC D B cA sh) (hm_A B)) 0 0 (hm_A B) := by
  refine Met.ofW (cc := c_V_cut) (maxL := 2) (ret := (some FieldType.boolean)) (by decide) rfl ?_
  intro p e s m args below meth c s₁ Bd hml hv
  obtain ⟨rfl, hW, hK, hN⟩ := hv
  have hx := Bd.exec
  have hb := Bd.bytes
  have hr := Bd.returns
  have hts := atoms_spec (ws := w_V_cut) Bd.pre
  have hT : ∀ w ∈ WG, w.before ([.ref (sh 266), .int k] : List Value).toArray s = true := fun w h => hts w (List.mem_cons_of_mem _ h)
  have hown : s.vm.findClass "BlockVault" = some m.cls := findClass_of_methodNamed Bd.named
  have hlocks := Bd.notSynchronized
  have hW : JW D B cA sh V P s.heap := hW
  have hBs : B ≤ s.heap.size := hW.ge
  have hS : va_S (hm_A B) s.heap s.heap [] := va_S.rf
  have hl := lv_entry ([.ref (sh 266), .int k]) (n := 2) (Nat.le_of_ble_eq_true rfl)
  rw [lg_entry_eq]
  generalize (lg_sl ([.ref (sh 266), .int k]) ++ List.replicate (2 - (lg_sl ([.ref (sh 266), .int k])).length) Slot.unset).toArray = ls at hl ⊢
  have hl : lv_has ls 2 [(0, .ref (sh 266)), (1, .int k)] := hl
  refine lv_aload_n hx hb d_V_cut_0 rfl (lv_at hl 0 rfl) ?_
  refine va_get (D := D) (ci := 5) (v := .ref (sh 267)) (C := "BlockVault") (T := T_V) (N := 5) hx hb hT in_V hown hK (hW.obj rfl) 0 rfl rfl 1 (by decide) (hT _ k127) (fun _ h9 => h9) rfl d_V_cut_1 ?_
  refine jw_calli (va_runV (As := []) (rest := []) ⟨hx, hb, hml, hown, hT⟩ (m_D_isOn l D B cA sh V P hon) (cwV 0 hT (gV k146 k147 k148 k3 kc_D_isOn) rfl rfl rfl (by decide +kernel) ⟨Nat.le_of_ble_eq_true rfl, Nat.le_of_ble_eq_true rfl⟩) (jw_preV (q := ("BlockVault$Disk", T_D, 4)) hW hK hN rfl rfl) rfl rfl hl.1 rfl (lv_room (Nat.le_of_ble_eq_true rfl)) d_V_cut_4 ⟨Nat.le_of_ble_eq_true rfl, Nat.le_of_ble_eq_true rfl⟩) hS (fun r1 V2 P3 H locs hw4 hW hS => ?_)
  obtain ⟨rfl, rfl, rfl⟩ := t3 hw4
  refine lv_if_ne (tgt := 12) hx hb d_V_cut_7 (by decide) (fun c5 => ?_) (fun c5 => ?_)
  · refine lv_aload_n hx hb d_V_cut_12 rfl (lv_at hl 0 rfl) ?_
    refine va_get (D := D) (ci := 5) (v := .ref (sh 267)) (C := "BlockVault") (T := T_V) (N := 5) hx hb hT in_V hown hK (hW.obj rfl) 0 rfl rfl 1 (by decide) (hT _ k127) (fun _ h9 => h9) rfl d_V_cut_13 ?_
    refine lv_iload_n hx hb d_V_cut_16 rfl (lv_at hl 1 rfl) ?_
    refine jw_callv (va_runV (As := [.int k]) (rest := []) ⟨hx, hb, hml, hown, hT⟩ (m_D_goAfter l D B cA sh V P k) (cwV 1 hT (gV k274 k275 k276 k3 kc_D_goAfter) rfl rfl rfl (by decide +kernel) ⟨Nat.le_of_ble_eq_true rfl, Nat.le_of_ble_eq_true rfl⟩) (jw_preV (q := ("BlockVault$Disk", T_D, 4)) hW hK hN rfl rfl) rfl rfl hl.1 rfl (lv_room (Nat.le_of_ble_eq_true rfl)) d_V_cut_17 ⟨Nat.le_of_ble_eq_true rfl, Nat.le_of_ble_eq_true rfl⟩) hS (fun V7 P8 H locs hw9 hW hS => ?_)
    cases hw9
    refine lv_iconst (v := 1) hx hb d_V_cut_20 (by decide) ?_
    refine W.widen (k := 0) (n := 0) (by omega) (by omega) ?_
    exact W.zret (ty := .boolean) (v := 1) hx hb hr rfl (fun t9 ht9 hwz => ⟨⟨1, ((v2 V 267 2 k), P), rfl, (by simp [mCut, c5]), by rw [ht9]; exact hW, va_K.moved hwz.alike hK, hN.warm hwz⟩, hS.F ht9⟩) hS.2.2 d_V_cut_21
  · refine lv_iconst (v := 0) hx hb d_V_cut_10 (by decide) ?_
    refine W.widen (k := 0) (n := 0) (by omega) (by omega) ?_
    exact W.zret (ty := .boolean) (v := 0) hx hb hr rfl (fun t9 ht9 hwz => ⟨⟨0, (V, P), rfl, (by simp [mCut, c5]), by rw [ht9]; exact hW, va_K.moved hwz.alike hK, hN.warm hwz⟩, hS.F ht9⟩) hS.2.2 d_V_cut_11

set_option maxHeartbeats 4000000 in
set_option maxRecDepth 100000 in
theorem m_V_power (l : Launch) (D : va_G) (B : Nat) (cA : Nat → ClassId) (sh : Nat → Nat) (V P : VV) (hon : V 267 1 = 0 ∨ V 267 1 = 1) (k : Int32) : Met l y_V_power w_V_power ({ frames := 5, cells := 279, slots := 296448, locals := 126 } : Room) (va_Pc [.ref (sh 266), .int k] (JC D B cA sh (V, P))) (va_Qi (fun (r : Int32) (u : VV × VV) => (r, u.1, u.2) = mPower V P k) (JC D B cA sh) (hm_A B)) 279 296448 (hm_A B) := by
  refine Met.ofW (cc := c_V_power) (maxL := 2) (ret := (some FieldType.int)) (by decide) rfl ?_
  intro p e s m args below meth c s₁ Bd hml hv
  obtain ⟨rfl, hW, hK, hN⟩ := hv
  have hx := Bd.exec
  have hb := Bd.bytes
  have hr := Bd.returns
  have hts := atoms_spec (ws := w_V_power) Bd.pre
  have hT : ∀ w ∈ WG, w.before ([.ref (sh 266), .int k] : List Value).toArray s = true := fun w h => hts w (List.mem_cons_of_mem _ h)
  have hown : s.vm.findClass "BlockVault" = some m.cls := findClass_of_methodNamed Bd.named
  have hlocks := Bd.notSynchronized
  have hW : JW D B cA sh V P s.heap := hW
  have hBs : B ≤ s.heap.size := hW.ge
  have hS : va_S (hm_A B) s.heap s.heap [] := va_S.rf
  have hl := lv_entry ([.ref (sh 266), .int k]) (n := 2) (Nat.le_of_ble_eq_true rfl)
  rw [lg_entry_eq]
  generalize (lg_sl ([.ref (sh 266), .int k]) ++ List.replicate (2 - (lg_sl ([.ref (sh 266), .int k])).length) Slot.unset).toArray = ls at hl ⊢
  have hl : lv_has ls 2 [(0, .ref (sh 266)), (1, .int k)] := hl
  refine lv_aload_n hx hb d_V_power_0 rfl (lv_at hl 0 rfl) ?_
  refine va_get (D := D) (ci := 5) (v := .ref (sh 267)) (C := "BlockVault") (T := T_V) (N := 5) hx hb hT in_V hown hK (hW.obj rfl) 0 rfl rfl 1 (by decide) (hT _ k127) (fun _ h9 => h9) rfl d_V_power_1 ?_
  refine jw_calli (va_runV (As := []) (rest := []) ⟨hx, hb, hml, hown, hT⟩ (m_D_isOn l D B cA sh V P hon) (cwV 0 hT (gV k146 k147 k148 k3 kc_D_isOn) rfl rfl rfl (by decide +kernel) ⟨Nat.le_of_ble_eq_true rfl, Nat.le_of_ble_eq_true rfl⟩) (jw_preV (q := ("BlockVault$Disk", T_D, 4)) hW hK hN rfl rfl) rfl rfl hl.1 rfl (lv_room (Nat.le_of_ble_eq_true rfl)) d_V_power_4 ⟨Nat.le_of_ble_eq_true rfl, Nat.le_of_ble_eq_true rfl⟩) hS (fun r1 V2 P3 H locs hw4 hW hS => ?_)
  obtain ⟨rfl, rfl, rfl⟩ := t3 hw4
  refine lv_if_eq (tgt := 12) hx hb d_V_power_7 (by decide) (fun c5 => ?_) (fun c5 => ?_)
  · refine lv_aload_n hx hb d_V_power_12 rfl (lv_at hl 0 rfl) ?_
    refine va_get (D := D) (ci := 5) (v := .ref (sh 267)) (C := "BlockVault") (T := T_V) (N := 5) hx hb hT in_V hown hK (hW.obj rfl) 0 rfl rfl 1 (by decide) (hT _ k127) (fun _ h9 => h9) rfl d_V_power_13 ?_
    refine jw_callv (va_runV (As := []) (rest := []) ⟨hx, hb, hml, hown, hT⟩ (m_D_comeBack l D B cA sh V P) (cwV 0 hT (gV k282 k283 k284 k3 kc_D_comeBack) rfl rfl rfl (by decide +kernel) ⟨Nat.le_of_ble_eq_true rfl, Nat.le_of_ble_eq_true rfl⟩) (jw_preV (q := ("BlockVault$Disk", T_D, 4)) hW hK hN rfl rfl) rfl rfl hl.1 rfl (lv_room (Nat.le_of_ble_eq_true rfl)) d_V_power_16 ⟨Nat.le_of_ble_eq_true rfl, Nat.le_of_ble_eq_true rfl⟩) hS (fun V7 P8 H locs hw9 hW hS => ?_)
    cases hw9
    refine lv_aload_n hx hb d_V_power_19 rfl (lv_at hl 0 rfl) ?_
    refine va_get (D := D) (ci := 5) (v := .ref (sh 267)) (C := "BlockVault") (T := T_V) (N := 5) hx hb hT in_V hown hK (hW.obj rfl) 0 rfl rfl 1 (by decide) (hT _ k127) (fun _ h9 => h9) rfl d_V_power_20 ?_
    refine lv_iload_n hx hb d_V_power_23 rfl (lv_at hl 1 rfl) ?_
    refine jw_callv (va_runV (As := [.int k]) (rest := []) ⟨hx, hb, hml, hown, hT⟩ (m_D_goAfter l D B cA sh (v2 V 267 1 1) P k) (cwV 1 hT (gV k274 k275 k276 k3 kc_D_goAfter) rfl rfl rfl (by decide +kernel) ⟨Nat.le_of_ble_eq_true rfl, Nat.le_of_ble_eq_true rfl⟩) (jw_preV (q := ("BlockVault$Disk", T_D, 4)) hW hK hN rfl rfl) rfl rfl hl.1 rfl (lv_room (Nat.le_of_ble_eq_true rfl)) d_V_power_24 ⟨Nat.le_of_ble_eq_true rfl, Nat.le_of_ble_eq_true rfl⟩) hS (fun V11 P12 H locs hw13 hW hS => ?_)
    cases hw13
    refine lv_aload_n hx hb d_V_power_27 rfl (lv_at hl 0 rfl) ?_
    refine va_get (D := D) (ci := 5) (v := .ref (sh 269)) (C := "BlockVault") (T := T_V) (N := 5) hx hb hT in_V hown hK (hW.obj rfl) 0 rfl rfl 3 (by decide) (hT _ k129) (fun _ h9 => h9) rfl d_V_power_28 ?_
    refine lv_aload_n hx hb d_V_power_31 rfl (lv_at hl 0 rfl) ?_
    refine va_get (D := D) (ci := 5) (v := .ref (sh 267)) (C := "BlockVault") (T := T_V) (N := 5) hx hb hT in_V hown hK (hW.obj rfl) 0 rfl rfl 1 (by decide) (hT _ k127) (fun _ h9 => h9) rfl d_V_power_32 ?_
    refine jw_calli (va_runV (As := [.ref (sh 267)]) (rest := []) ⟨hx, hb, hml, hown, hT⟩ (m_L_bringHome l D B cA sh (v2 (v2 V 267 1 1) 267 2 k) P) (cwV 1 hT (gV k286 k200 k201 k7 kc_L_bringHome) rfl rfl rfl (by decide +kernel) ⟨Nat.le_of_ble_eq_true rfl, Nat.le_of_ble_eq_true rfl⟩) (jw_preV (q := ("BlockVault$Log", T_L, 3)) hW hK hN rfl rfl) rfl rfl hl.1 rfl (lv_room (Nat.le_of_ble_eq_true rfl)) d_V_power_35 ⟨Nat.le_of_ble_eq_true rfl, Nat.le_of_ble_eq_true rfl⟩) hS (fun r14 V15 P16 H locs hw17 hW hS => ?_)
    refine jw_tight hBs hW ?_
    refine W.widen (k := 279) (n := 296448) (by omega) (by omega) ?_
    exact W.iret (v := r14) hx hb hr (fun t9 ht9 hwz => ⟨⟨r14, (V15, P16), rfl, (by unfold mPower; rw [if_pos c5]; exact hw17), by rw [ht9]; exact hW, va_K.moved hwz.alike hK, hN.warm hwz⟩, hS.F ht9⟩) hS.2.2 d_V_power_38
  · refine lv_iconst (v := (-1)) hx hb d_V_power_10 (by decide) ?_
    refine W.widen (k := 279) (n := 296448) (by omega) (by omega) ?_
    exact W.iret (v := (-1)) hx hb hr (fun t9 ht9 hwz => ⟨⟨(-1), (V, P), rfl, (by unfold mPower; rw [if_neg c5]), by rw [ht9]; exact hW, va_K.moved hwz.alike hK, hN.warm hwz⟩, hS.F ht9⟩) hS.2.2 d_V_power_11

set_option maxHeartbeats 4000000 in
set_option maxRecDepth 100000 in
theorem m_V_end (l : Launch) (D : va_G) (B : Nat) (cA : Nat → ClassId) (sh : Nat → Nat) (V P : VV) (hon : V 267 1 = 0 ∨ V 267 1 = 1) : Met l y_V_end w_V_end ({ frames := 7, cells := 557, slots := 591872, locals := 172 } : Room) (va_Pc [.ref (sh 266)] (JC D B cA sh (V, P))) (va_Qi (fun (r : Int32) (u : VV × VV) => (r, u.1, u.2) = mEnd V P) (JC D B cA sh) (hm_A B)) 557 591872 (hm_A B) := by
  refine Met.ofW (cc := c_V_end) (maxL := 2) (ret := (some FieldType.int)) (by decide) rfl ?_
  intro p e s m args below meth c s₁ Bd hml hv
  obtain ⟨rfl, hW, hK, hN⟩ := hv
  have hx := Bd.exec
  have hb := Bd.bytes
  have hr := Bd.returns
  have hts := atoms_spec (ws := w_V_end) Bd.pre
  have hT : ∀ w ∈ WG, w.before ([.ref (sh 266)] : List Value).toArray s = true := fun w h => hts w (List.mem_cons_of_mem _ h)
  have hown : s.vm.findClass "BlockVault" = some m.cls := findClass_of_methodNamed Bd.named
  have hlocks := Bd.notSynchronized
  have hW : JW D B cA sh V P s.heap := hW
  have hBs : B ≤ s.heap.size := hW.ge
  have hS : va_S (hm_A B) s.heap s.heap [] := va_S.rf
  have hl := lv_entry ([.ref (sh 266)]) (n := 2) (Nat.le_of_ble_eq_true rfl)
  rw [lg_entry_eq]
  generalize (lg_sl ([.ref (sh 266)]) ++ List.replicate (2 - (lg_sl ([.ref (sh 266)])).length) Slot.unset).toArray = ls at hl ⊢
  have hl : lv_has ls 2 [(0, .ref (sh 266))] := hl
  refine lv_aload_n hx hb d_V_end_0 rfl (lv_at hl 0 rfl) ?_
  refine va_get (D := D) (ci := 5) (v := .ref (sh 267)) (C := "BlockVault") (T := T_V) (N := 5) hx hb hT in_V hown hK (hW.obj rfl) 0 rfl rfl 1 (by decide) (hT _ k127) (fun _ h9 => h9) rfl d_V_end_1 ?_
  refine jw_calli (va_runV (As := []) (rest := []) ⟨hx, hb, hml, hown, hT⟩ (m_D_isOn l D B cA sh V P hon) (cwV 0 hT (gV k146 k147 k148 k3 kc_D_isOn) rfl rfl rfl (by decide +kernel) ⟨Nat.le_of_ble_eq_true rfl, Nat.le_of_ble_eq_true rfl⟩) (jw_preV (q := ("BlockVault$Disk", T_D, 4)) hW hK hN rfl rfl) rfl rfl hl.1 rfl (lv_room (Nat.le_of_ble_eq_true rfl)) d_V_end_4 ⟨Nat.le_of_ble_eq_true rfl, Nat.le_of_ble_eq_true rfl⟩) hS (fun r1 V2 P3 H locs hw4 hW hS => ?_)
  obtain ⟨rfl, rfl, rfl⟩ := t3 hw4
  refine lv_if_eq (tgt := 17) hx hb d_V_end_7 (by decide) (fun c5 => ?_) (fun c5 => ?_)
  · refine lv_iconst (v := (-1)) hx hb d_V_end_17 (by decide) ?_
    refine W.widen (k := 557) (n := 591872) (by omega) (by omega) ?_
    exact W.iret (v := (-1)) hx hb hr (fun t9 ht9 hwz => ⟨⟨(-1), (V, P), rfl, (by unfold mEnd; rw [if_pos (Or.inl c5)]), by rw [ht9]; exact hW, va_K.moved hwz.alike hK, hN.warm hwz⟩, hS.F ht9⟩) hS.2.2 d_V_end_18
  · refine lv_aload_n hx hb d_V_end_10 rfl (lv_at hl 0 rfl) ?_
    refine va_get (D := D) (ci := 5) (v := .int (V 266 4)) (C := "BlockVault") (T := T_V) (N := 5) hx hb hT in_V hown hK (hW.obj rfl) 0 rfl rfl 4 (by decide) (hT _ k130) (fun _ h9 => h9) rfl d_V_end_11 ?_
    refine lv_if_ne (tgt := 19) hx hb d_V_end_14 (by decide) (fun c6 => ?_) (fun c6 => ?_)
    · refine lv_aload_n hx hb d_V_end_19 rfl (lv_at hl 0 rfl) ?_
      refine lv_iconst (v := 0) hx hb d_V_end_20 (by decide) ?_
      refine jw_put (ci := 5) (x := 0) (ty := .boolean) (C := "BlockVault") (T := T_V) (N := 5) hx hb hT in_V t_V t_V_ok n_V hown hK hW hS rfl rfl 4 (by decide) rfl (hT _ k130) (fun _ h9 => h9) rfl (by decide +kernel) rfl rfl d_V_end_21 (fun H locs hW hS => ?_)
      refine lv_aload_n hx hb d_V_end_24 rfl (lv_at hl 0 rfl) ?_
      refine va_get (D := D) (ci := 5) (v := .ref (sh 268)) (C := "BlockVault") (T := T_V) (N := 5) hx hb hT in_V hown hK (hW.obj rfl) 0 rfl rfl 2 (by decide) (hT _ k128) (fun _ h9 => h9) rfl d_V_end_25 ?_
      refine jw_callv (va_runV (As := []) (rest := []) ⟨hx, hb, hml, hown, hT⟩ (m_C_closeStep l D B cA sh (v2 V 266 4 0) P) (cwV 0 hT (gV k154 k155 k156 k5 kc_C_closeStep) rfl rfl rfl (by decide +kernel) ⟨Nat.le_of_ble_eq_true rfl, Nat.le_of_ble_eq_true rfl⟩) (jw_preV (q := ("BlockVault$Cache", T_C, 3)) hW hK hN rfl rfl) rfl rfl hl.1 rfl (lv_room (Nat.le_of_ble_eq_true rfl)) d_V_end_28 ⟨Nat.le_of_ble_eq_true rfl, Nat.le_of_ble_eq_true rfl⟩) hS (fun V8 P9 H locs hw10 hW hS => ?_)
      cases hw10
      have hW : JW D B cA sh (mClose V) P H := hW
      refine lv_aload_n hx hb d_V_end_31 rfl (lv_at hl 0 rfl) ?_
      refine va_get (D := D) (ci := 5) (v := .ref (sh 268)) (C := "BlockVault") (T := T_V) (N := 5) hx hb hT in_V hown hK (hW.obj rfl) 0 rfl rfl 2 (by decide) (hT _ k128) (fun _ h9 => h9) rfl d_V_end_32 ?_
      refine jw_calli (va_runV (As := []) (rest := []) ⟨hx, hb, hml, hown, hT⟩ (m_C_heldRows l D B cA sh (mClose V) P) (cwV 0 hT (gV k158 k159 k160 k5 kc_C_heldRows) rfl rfl rfl (by decide +kernel) ⟨Nat.le_of_ble_eq_true rfl, Nat.le_of_ble_eq_true rfl⟩) (jw_preV (q := ("BlockVault$Cache", T_C, 3)) hW hK hN rfl rfl) rfl rfl hl.1 rfl (lv_room (Nat.le_of_ble_eq_true rfl)) d_V_end_35 ⟨Nat.le_of_ble_eq_true rfl, Nat.le_of_ble_eq_true rfl⟩) hS (fun r11 V12 P13 H locs hw14 hW hS => ?_)
      obtain ⟨rfl, rfl, rfl⟩ := t3 hw14
      refine lv_istore_n (lv' := [(1, .int (mCnt (mClose V) 3)), (0, .ref (sh 266))]) hx hb d_V_end_38 rfl hl (by decide) rfl (fun ls hl => ?_)
      refine lv_iload_n hx hb d_V_end_39 rfl (lv_at hl 0 rfl) ?_
      refine lv_bipush (v := 20) hx hb d_V_end_40 (by decide) ?_
      refine lv_icmp_gt (tgt := 47) hx hb d_V_end_42 (by decide) (fun c15 => ?_) (fun c15 => ?_)
      · refine lv_aload_n hx hb d_V_end_47 rfl (lv_at hl 1 rfl) ?_
        refine jw_calli (va_runV (As := []) (rest := []) ⟨hx, hb, hml, hown, hT⟩ (m_V_commit l D B cA sh (mClose V) P) (cwV 0 hT (gV k162 k164 ks0 k1 kc_V_commit) rfl rfl rfl (by decide +kernel) ⟨Nat.le_of_ble_eq_true rfl, Nat.le_of_ble_eq_true rfl⟩) (jw_preV (q := ("BlockVault", T_V, 5)) hW hK hN rfl rfl) rfl rfl hl.1 rfl (lv_room (Nat.le_of_ble_eq_true rfl)) d_V_end_48 ⟨Nat.le_of_ble_eq_true rfl, Nat.le_of_ble_eq_true rfl⟩) hS (fun r16 V17 P18 H locs hw19 hW hS => ?_)
        refine jw_tight hBs hW ?_
        refine lv_if_eq (tgt := 58) hx hb d_V_end_51 (by decide) (fun c20 => ?_) (fun c20 => ?_)
        · refine lv_iconst (v := (-1)) hx hb d_V_end_58 (by decide) ?_
          refine W.widen (k := 557) (n := 591872) (by omega) (by omega) ?_
          exact W.iret (v := (-1)) hx hb hr (fun t9 ht9 hwz => ⟨⟨(-1), (V17, P18), rfl, (by unfold mEnd; rw [if_neg (fun q => q.elim c5 c6), if_pos c15, ← hw19]; dsimp only; rw [if_pos c20]), by rw [ht9]; exact hW, va_K.moved hwz.alike hK, hN.warm hwz⟩, hS.F ht9⟩) hS.2.2 d_V_end_59
        · refine lv_iconst (v := 0) hx hb d_V_end_54 (by decide) ?_
          refine lv_goto (tgt := 59) hx hb d_V_end_55 (by decide) ?_
          refine W.widen (k := 557) (n := 591872) (by omega) (by omega) ?_
          exact W.iret (v := 0) hx hb hr (fun t9 ht9 hwz => ⟨⟨0, (V17, P18), rfl, (by unfold mEnd; rw [if_neg (fun q => q.elim c5 c6), if_pos c15, ← hw19]; dsimp only; rw [if_neg c20]), by rw [ht9]; exact hW, va_K.moved hwz.alike hK, hN.warm hwz⟩, hS.F ht9⟩) hS.2.2 d_V_end_59
      · refine lv_iload_n hx hb d_V_end_45 rfl (lv_at hl 0 rfl) ?_
        refine W.widen (k := 557) (n := 591872) (by omega) (by omega) ?_
        exact W.iret (v := (mCnt (mClose V) 3)) hx hb hr (fun t9 ht9 hwz => ⟨⟨(mCnt (mClose V) 3), ((mClose V), P), rfl, (by unfold mEnd; rw [if_neg (fun q => q.elim c5 c6), if_neg c15]), by rw [ht9]; exact hW, va_K.moved hwz.alike hK, hN.warm hwz⟩, hS.F ht9⟩) hS.2.2 d_V_end_46
    · refine lv_iconst (v := (-1)) hx hb d_V_end_17 (by decide) ?_
      refine W.widen (k := 557) (n := 591872) (by omega) (by omega) ?_
      exact W.iret (v := (-1)) hx hb hr (fun t9 ht9 hwz => ⟨⟨(-1), (V, P), rfl, (by unfold mEnd; rw [if_pos (Or.inr c6)]), by rw [ht9]; exact hW, va_K.moved hwz.alike hK, hN.warm hwz⟩, hS.F ht9⟩) hS.2.2 d_V_end_18

set_option maxHeartbeats 4000000 in
set_option maxRecDepth 100000 in
theorem m_V_flush (l : Launch) (D : va_G) (B : Nat) (cA : Nat → ClassId) (sh : Nat → Nat) (V P : VV) (hon : V 267 1 = 0 ∨ V 267 1 = 1) : Met l y_V_flush w_V_flush ({ frames := 7, cells := 557, slots := 591872, locals := 172 } : Room) (va_Pc [.ref (sh 266)] (JC D B cA sh (V, P))) (va_Qi (fun (r : Int32) (u : VV × VV) => (r, u.1, u.2) = mFlush V P) (JC D B cA sh) (hm_A B)) 557 591872 (hm_A B) := by
  refine Met.ofW (cc := c_V_flush) (maxL := 2) (ret := (some FieldType.int)) (by decide) rfl ?_
  intro p e s m args below meth c s₁ Bd hml hv
  obtain ⟨rfl, hW, hK, hN⟩ := hv
  have hx := Bd.exec
  have hb := Bd.bytes
  have hr := Bd.returns
  have hts := atoms_spec (ws := w_V_flush) Bd.pre
  have hT : ∀ w ∈ WG, w.before ([.ref (sh 266)] : List Value).toArray s = true := fun w h => hts w (List.mem_cons_of_mem _ h)
  have hown : s.vm.findClass "BlockVault" = some m.cls := findClass_of_methodNamed Bd.named
  have hlocks := Bd.notSynchronized
  have hW : JW D B cA sh V P s.heap := hW
  have hBs : B ≤ s.heap.size := hW.ge
  have hS : va_S (hm_A B) s.heap s.heap [] := va_S.rf
  have hl := lv_entry ([.ref (sh 266)]) (n := 2) (Nat.le_of_ble_eq_true rfl)
  rw [lg_entry_eq]
  generalize (lg_sl ([.ref (sh 266)]) ++ List.replicate (2 - (lg_sl ([.ref (sh 266)])).length) Slot.unset).toArray = ls at hl ⊢
  have hl : lv_has ls 2 [(0, .ref (sh 266))] := hl
  refine lv_aload_n hx hb d_V_flush_0 rfl (lv_at hl 0 rfl) ?_
  refine va_get (D := D) (ci := 5) (v := .ref (sh 267)) (C := "BlockVault") (T := T_V) (N := 5) hx hb hT in_V hown hK (hW.obj rfl) 0 rfl rfl 1 (by decide) (hT _ k127) (fun _ h9 => h9) rfl d_V_flush_1 ?_
  refine jw_calli (va_runV (As := []) (rest := []) ⟨hx, hb, hml, hown, hT⟩ (m_D_isOn l D B cA sh V P hon) (cwV 0 hT (gV k146 k147 k148 k3 kc_D_isOn) rfl rfl rfl (by decide +kernel) ⟨Nat.le_of_ble_eq_true rfl, Nat.le_of_ble_eq_true rfl⟩) (jw_preV (q := ("BlockVault$Disk", T_D, 4)) hW hK hN rfl rfl) rfl rfl hl.1 rfl (lv_room (Nat.le_of_ble_eq_true rfl)) d_V_flush_4 ⟨Nat.le_of_ble_eq_true rfl, Nat.le_of_ble_eq_true rfl⟩) hS (fun r1 V2 P3 H locs hw4 hW hS => ?_)
  obtain ⟨rfl, rfl, rfl⟩ := t3 hw4
  refine lv_if_eq (tgt := 17) hx hb d_V_flush_7 (by decide) (fun c5 => ?_) (fun c5 => ?_)
  · refine lv_iconst (v := (-1)) hx hb d_V_flush_17 (by decide) ?_
    refine W.widen (k := 557) (n := 591872) (by omega) (by omega) ?_
    exact W.iret (v := (-1)) hx hb hr (fun t9 ht9 hwz => ⟨⟨(-1), (V, P), rfl, (by unfold mFlush; rw [if_pos (Or.inl c5)]), by rw [ht9]; exact hW, va_K.moved hwz.alike hK, hN.warm hwz⟩, hS.F ht9⟩) hS.2.2 d_V_flush_18
  · refine lv_aload_n hx hb d_V_flush_10 rfl (lv_at hl 0 rfl) ?_
    refine va_get (D := D) (ci := 5) (v := .int (V 266 4)) (C := "BlockVault") (T := T_V) (N := 5) hx hb hT in_V hown hK (hW.obj rfl) 0 rfl rfl 4 (by decide) (hT _ k130) (fun _ h9 => h9) rfl d_V_flush_11 ?_
    refine lv_if_eq (tgt := 19) hx hb d_V_flush_14 (by decide) (fun c6 => ?_) (fun c6 => ?_)
    · refine lv_aload_n hx hb d_V_flush_19 rfl (lv_at hl 0 rfl) ?_
      refine va_get (D := D) (ci := 5) (v := .ref (sh 268)) (C := "BlockVault") (T := T_V) (N := 5) hx hb hT in_V hown hK (hW.obj rfl) 0 rfl rfl 2 (by decide) (hT _ k128) (fun _ h9 => h9) rfl d_V_flush_20 ?_
      refine jw_calli (va_runV (As := []) (rest := []) ⟨hx, hb, hml, hown, hT⟩ (m_C_heldRows l D B cA sh V P) (cwV 0 hT (gV k158 k159 k160 k5 kc_C_heldRows) rfl rfl rfl (by decide +kernel) ⟨Nat.le_of_ble_eq_true rfl, Nat.le_of_ble_eq_true rfl⟩) (jw_preV (q := ("BlockVault$Cache", T_C, 3)) hW hK hN rfl rfl) rfl rfl hl.1 rfl (lv_room (Nat.le_of_ble_eq_true rfl)) d_V_flush_23 ⟨Nat.le_of_ble_eq_true rfl, Nat.le_of_ble_eq_true rfl⟩) hS (fun r7 V8 P9 H locs hw10 hW hS => ?_)
      obtain ⟨rfl, rfl, rfl⟩ := t3 hw10
      refine lv_istore_n (lv' := [(1, .int (mCnt V 3)), (0, .ref (sh 266))]) hx hb d_V_flush_26 rfl hl (by decide) rfl (fun ls hl => ?_)
      refine lv_iload_n hx hb d_V_flush_27 rfl (lv_at hl 0 rfl) ?_
      refine lv_if_ne (tgt := 33) hx hb d_V_flush_28 (by decide) (fun c11 => ?_) (fun c11 => ?_)
      · refine lv_aload_n hx hb d_V_flush_33 rfl (lv_at hl 1 rfl) ?_
        refine jw_calli (va_runV (As := []) (rest := []) ⟨hx, hb, hml, hown, hT⟩ (m_V_commit l D B cA sh V P) (cwV 0 hT (gV k162 k164 ks0 k1 kc_V_commit) rfl rfl rfl (by decide +kernel) ⟨Nat.le_of_ble_eq_true rfl, Nat.le_of_ble_eq_true rfl⟩) (jw_preV (q := ("BlockVault", T_V, 5)) hW hK hN rfl rfl) rfl rfl hl.1 rfl (lv_room (Nat.le_of_ble_eq_true rfl)) d_V_flush_34 ⟨Nat.le_of_ble_eq_true rfl, Nat.le_of_ble_eq_true rfl⟩) hS (fun r12 V13 P14 H locs hw15 hW hS => ?_)
        refine jw_tight hBs hW ?_
        refine lv_if_eq (tgt := 44) hx hb d_V_flush_37 (by decide) (fun c16 => ?_) (fun c16 => ?_)
        · refine lv_iconst (v := (-1)) hx hb d_V_flush_44 (by decide) ?_
          refine W.widen (k := 557) (n := 591872) (by omega) (by omega) ?_
          exact W.iret (v := (-1)) hx hb hr (fun t9 ht9 hwz => ⟨⟨(-1), (V13, P14), rfl, (by unfold mFlush; rw [if_neg (fun q => q.elim c5 (fun z => z c6)), if_neg c11, ← hw15]; dsimp only; rw [if_pos c16]), by rw [ht9]; exact hW, va_K.moved hwz.alike hK, hN.warm hwz⟩, hS.F ht9⟩) hS.2.2 d_V_flush_45
        · refine lv_iload_n hx hb d_V_flush_40 rfl (lv_at hl 0 rfl) ?_
          refine lv_goto (tgt := 45) hx hb d_V_flush_41 (by decide) ?_
          refine W.widen (k := 557) (n := 591872) (by omega) (by omega) ?_
          exact W.iret (v := (mCnt V 3)) hx hb hr (fun t9 ht9 hwz => ⟨⟨(mCnt V 3), (V13, P14), rfl, (by unfold mFlush; rw [if_neg (fun q => q.elim c5 (fun z => z c6)), if_neg c11, ← hw15]; dsimp only; rw [if_neg c16]), by rw [ht9]; exact hW, va_K.moved hwz.alike hK, hN.warm hwz⟩, hS.F ht9⟩) hS.2.2 d_V_flush_45
      · refine lv_iconst (v := 0) hx hb d_V_flush_31 (by decide) ?_
        refine W.widen (k := 557) (n := 591872) (by omega) (by omega) ?_
        exact W.iret (v := 0) hx hb hr (fun t9 ht9 hwz => ⟨⟨0, (V, P), rfl, (by unfold mFlush; rw [if_neg (fun q => q.elim c5 (fun z => z c6)), if_pos c11]), by rw [ht9]; exact hW, va_K.moved hwz.alike hK, hN.warm hwz⟩, hS.F ht9⟩) hS.2.2 d_V_flush_32
    · refine lv_iconst (v := (-1)) hx hb d_V_flush_17 (by decide) ?_
      refine W.widen (k := 557) (n := 591872) (by omega) (by omega) ?_
      exact W.iret (v := (-1)) hx hb hr (fun t9 ht9 hwz => ⟨⟨(-1), (V, P), rfl, (by unfold mFlush; rw [if_pos (Or.inr c6)]), by rw [ht9]; exact hW, va_K.moved hwz.alike hK, hN.warm hwz⟩, hS.F ht9⟩) hS.2.2 d_V_flush_18

set_option maxHeartbeats 4000000 in
set_option maxRecDepth 100000 in
theorem m_V_stepTakes (l : Launch) (D : va_G) (B : Nat) (cA : Nat → ClassId) (sh : Nat → Nat) (V P : VV) (b : Int32) : Met l y_V_stepTakes w_V_stepTakes ({ frames := 1, cells := 0, slots := 0, locals := 25 } : Room) (va_Pc [.ref (sh 266), .int b] (JC D B cA sh (V, P))) (va_Qi (fun (r : Int32) (u : VV × VV) => (r, u.1, u.2) = (mTakes V b, V, P)) (JC D B cA sh) (hm_A B)) 0 0 (hm_A B) := by
  refine Met.ofW (cc := c_V_stepTakes) (maxL := 4) (ret := (some FieldType.boolean)) (by decide) rfl ?_
  intro p e s m args below meth c s₁ Bd hml hv
  obtain ⟨rfl, hW, hK, hN⟩ := hv
  have hx := Bd.exec
  have hb := Bd.bytes
  have hr := Bd.returns
  have hts := atoms_spec (ws := w_V_stepTakes) Bd.pre
  have hT : ∀ w ∈ WG, w.before ([.ref (sh 266), .int b] : List Value).toArray s = true := fun w h => hts w (List.mem_cons_of_mem _ h)
  have hown : s.vm.findClass "BlockVault" = some m.cls := findClass_of_methodNamed Bd.named
  have hlocks := Bd.notSynchronized
  have hW : JW D B cA sh V P s.heap := hW
  have hBs : B ≤ s.heap.size := hW.ge
  have hS : va_S (hm_A B) s.heap s.heap [] := va_S.rf
  have hl := lv_entry ([.ref (sh 266), .int b]) (n := 4) (Nat.le_of_ble_eq_true rfl)
  rw [lg_entry_eq]
  generalize (lg_sl ([.ref (sh 266), .int b]) ++ List.replicate (4 - (lg_sl ([.ref (sh 266), .int b])).length) Slot.unset).toArray = ls at hl ⊢
  have hl : lv_has ls 4 [(0, .ref (sh 266)), (1, .int b)] := hl
  refine lv_aload_n hx hb d_V_stepTakes_0 rfl (lv_at hl 0 rfl) ?_
  refine va_get (D := D) (ci := 5) (v := .ref (sh 268)) (C := "BlockVault") (T := T_V) (N := 5) hx hb hT in_V hown hK (hW.obj rfl) 0 rfl rfl 2 (by decide) (hT _ k128) (fun _ h9 => h9) rfl d_V_stepTakes_1 ?_
  refine lv_iload_n hx hb d_V_stepTakes_4 rfl (lv_at hl 1 rfl) ?_
  refine jw_callq (va_runV (As := [.int b]) (rest := []) ⟨hx, hb, hml, hown, hT⟩ (m_C_rowOf l D B cA sh V P b) (cwV 1 hT (gV k264 k242 k243 k5 kc_C_rowOf) rfl rfl rfl (by decide +kernel) ⟨Nat.le_of_ble_eq_true rfl, Nat.le_of_ble_eq_true rfl⟩) (jw_preV (q := ("BlockVault$Cache", T_C, 3)) hW hK hN rfl rfl) rfl rfl hl.1 rfl (lv_room (Nat.le_of_ble_eq_true rfl)) d_V_stepTakes_5 ⟨Nat.le_of_ble_eq_true rfl, Nat.le_of_ble_eq_true rfl⟩) hS (fun r1 V2 P3 H locs hw4 hW hS => ?_)
  obtain ⟨hr0, hu0⟩ := hw4
  cases hu0
  cases hrow : mRow V b with
  | none =>
    rw [hrow] at hr0
    obtain rfl : r1 = none := hr0
    refine lv_astore_nN (lv' := [(2, .null), (0, .ref (sh 266)), (1, .int b)]) hx hb d_V_stepTakes_8 rfl hl (by decide) rfl (fun ls hl => ?_)
    refine lv_aload_nN hx hb d_V_stepTakes_9 rfl (lv_at hl 0 rfl) ?_
    refine lv_ifnullN (tgt := 24) hx hb d_V_stepTakes_10 (by decide) ?_
    refine lv_iconst (v := 0) hx hb d_V_stepTakes_24 (by decide) ?_
    refine lv_istore_n (lv' := [(3, .int 0), (2, .null), (0, .ref (sh 266)), (1, .int b)]) hx hb d_V_stepTakes_25 rfl hl (by decide) rfl (fun ls hl => ?_)
    refine lv_iload_n hx hb d_V_stepTakes_26 rfl (lv_at hl 0 rfl) ?_
    refine lv_if_ne (tgt := 42) hx hb d_V_stepTakes_27 (by decide) (fun c5 => ?_) (fun c5 => ?_)
    · exact absurd rfl c5
    · refine lv_aload_n hx hb d_V_stepTakes_30 rfl (lv_at hl 2 rfl) ?_
      refine va_get (D := D) (ci := 5) (v := .ref (sh 268)) (C := "BlockVault") (T := T_V) (N := 5) hx hb hT in_V hown hK (hW.obj rfl) 0 rfl rfl 2 (by decide) (hT _ k128) (fun _ h9 => h9) rfl d_V_stepTakes_31 ?_
      refine jw_calli (va_runV (As := []) (rest := []) ⟨hx, hb, hml, hown, hT⟩ (m_C_stepRows l D B cA sh V P) (cwV 0 hT (gV k265 k266 k267 k5 kc_C_stepRows) rfl rfl rfl (by decide +kernel) ⟨Nat.le_of_ble_eq_true rfl, Nat.le_of_ble_eq_true rfl⟩) (jw_preV (q := ("BlockVault$Cache", T_C, 3)) hW hK hN rfl rfl) rfl rfl hl.1 rfl (lv_room (Nat.le_of_ble_eq_true rfl)) d_V_stepTakes_34 ⟨Nat.le_of_ble_eq_true rfl, Nat.le_of_ble_eq_true rfl⟩) hS (fun r6 V7 P8 H locs hw9 hW hS => ?_)
      obtain ⟨rfl, rfl, rfl⟩ := t3 hw9
      refine lv_bipush (v := 10) hx hb d_V_stepTakes_37 (by decide) ?_
      refine lv_icmp_ge (tgt := 46) hx hb d_V_stepTakes_39 (by decide) (fun c10 => ?_) (fun c10 => ?_)
      · refine lv_iconst (v := 0) hx hb d_V_stepTakes_46 (by decide) ?_
        refine W.widen (k := 0) (n := 0) (by omega) (by omega) ?_
        exact W.zret (ty := .boolean) (v := 0) hx hb hr rfl (fun t9 ht9 hwz => ⟨⟨0, (V, P), rfl, (by simp [mTakes, hrow, c5, c10]), by rw [ht9]; exact hW, va_K.moved hwz.alike hK, hN.warm hwz⟩, hS.F ht9⟩) hS.2.2 d_V_stepTakes_47
      · refine lv_iconst (v := 1) hx hb d_V_stepTakes_42 (by decide) ?_
        refine lv_goto (tgt := 47) hx hb d_V_stepTakes_43 (by decide) ?_
        refine W.widen (k := 0) (n := 0) (by omega) (by omega) ?_
        exact W.zret (ty := .boolean) (v := 1) hx hb hr rfl (fun t9 ht9 hwz => ⟨⟨1, (V, P), rfl, (by simp [mTakes, hrow, c5, c10]), by rw [ht9]; exact hW, va_K.moved hwz.alike hK, hN.warm hwz⟩, hS.F ht9⟩) hS.2.2 d_V_stepTakes_47
  | some i =>
    rw [hrow] at hr0
    obtain rfl : r1 = some (sh (232 + i)) := hr0
    have hi : i < 34 := (mRow_some hrow).1
    refine lv_astore_n (lv' := [(2, .ref (sh (232 + i))), (0, .ref (sh 266)), (1, .int b)]) hx hb d_V_stepTakes_8 rfl hl (by decide) rfl (fun ls hl => ?_)
    refine lv_aload_n hx hb d_V_stepTakes_9 rfl (lv_at hl 0 rfl) ?_
    refine lv_ifnull hx hb d_V_stepTakes_10 ?_
    refine lv_aload_n hx hb d_V_stepTakes_13 rfl (lv_at hl 0 rfl) ?_
    refine va_getN (D := D) (ci := 4) (v := .int (V (232 + i) 4)) (C := "BlockVault$Row") (T := T_R) (N := 5) hx hb hT in_R hown hK (hW.obj (lay_row hi)) 0 rfl rfl 4 (by decide) (nf9 hN) (fun _ h9 => h9) rfl d_V_stepTakes_14 ?_
    refine lv_if_eq (tgt := 24) hx hb d_V_stepTakes_17 (by decide) (fun c11 => ?_) (fun c11 => ?_)
    · refine lv_iconst (v := 0) hx hb d_V_stepTakes_24 (by decide) ?_
      refine lv_istore_n (lv' := [(3, .int 0), (2, .ref (sh (232 + i))), (0, .ref (sh 266)), (1, .int b)]) hx hb d_V_stepTakes_25 rfl hl (by decide) rfl (fun ls hl => ?_)
      refine lv_iload_n hx hb d_V_stepTakes_26 rfl (lv_at hl 0 rfl) ?_
      refine lv_if_ne (tgt := 42) hx hb d_V_stepTakes_27 (by decide) (fun c12 => ?_) (fun c12 => ?_)
      · exact absurd rfl c12
      · refine lv_aload_n hx hb d_V_stepTakes_30 rfl (lv_at hl 2 rfl) ?_
        refine va_get (D := D) (ci := 5) (v := .ref (sh 268)) (C := "BlockVault") (T := T_V) (N := 5) hx hb hT in_V hown hK (hW.obj rfl) 0 rfl rfl 2 (by decide) (hT _ k128) (fun _ h9 => h9) rfl d_V_stepTakes_31 ?_
        refine jw_calli (va_runV (As := []) (rest := []) ⟨hx, hb, hml, hown, hT⟩ (m_C_stepRows l D B cA sh V P) (cwV 0 hT (gV k265 k266 k267 k5 kc_C_stepRows) rfl rfl rfl (by decide +kernel) ⟨Nat.le_of_ble_eq_true rfl, Nat.le_of_ble_eq_true rfl⟩) (jw_preV (q := ("BlockVault$Cache", T_C, 3)) hW hK hN rfl rfl) rfl rfl hl.1 rfl (lv_room (Nat.le_of_ble_eq_true rfl)) d_V_stepTakes_34 ⟨Nat.le_of_ble_eq_true rfl, Nat.le_of_ble_eq_true rfl⟩) hS (fun r13 V14 P15 H locs hw16 hW hS => ?_)
        obtain ⟨rfl, rfl, rfl⟩ := t3 hw16
        refine lv_bipush (v := 10) hx hb d_V_stepTakes_37 (by decide) ?_
        refine lv_icmp_ge (tgt := 46) hx hb d_V_stepTakes_39 (by decide) (fun c17 => ?_) (fun c17 => ?_)
        · refine lv_iconst (v := 0) hx hb d_V_stepTakes_46 (by decide) ?_
          refine W.widen (k := 0) (n := 0) (by omega) (by omega) ?_
          exact W.zret (ty := .boolean) (v := 0) hx hb hr rfl (fun t9 ht9 hwz => ⟨⟨0, (V, P), rfl, (by simp [mTakes, hrow, c11, c12, c17]), by rw [ht9]; exact hW, va_K.moved hwz.alike hK, hN.warm hwz⟩, hS.F ht9⟩) hS.2.2 d_V_stepTakes_47
        · refine lv_iconst (v := 1) hx hb d_V_stepTakes_42 (by decide) ?_
          refine lv_goto (tgt := 47) hx hb d_V_stepTakes_43 (by decide) ?_
          refine W.widen (k := 0) (n := 0) (by omega) (by omega) ?_
          exact W.zret (ty := .boolean) (v := 1) hx hb hr rfl (fun t9 ht9 hwz => ⟨⟨1, (V, P), rfl, (by simp [mTakes, hrow, c11, c12, c17]), by rw [ht9]; exact hW, va_K.moved hwz.alike hK, hN.warm hwz⟩, hS.F ht9⟩) hS.2.2 d_V_stepTakes_47
    · refine lv_iconst (v := 1) hx hb d_V_stepTakes_20 (by decide) ?_
      refine lv_goto (tgt := 25) hx hb d_V_stepTakes_21 (by decide) ?_
      refine lv_istore_n (lv' := [(3, .int 1), (2, .ref (sh (232 + i))), (0, .ref (sh 266)), (1, .int b)]) hx hb d_V_stepTakes_25 rfl hl (by decide) rfl (fun ls hl => ?_)
      refine lv_iload_n hx hb d_V_stepTakes_26 rfl (lv_at hl 0 rfl) ?_
      refine lv_if_ne (tgt := 42) hx hb d_V_stepTakes_27 (by decide) (fun c18 => ?_) (fun c18 => ?_)
      · refine lv_iconst (v := 1) hx hb d_V_stepTakes_42 (by decide) ?_
        refine lv_goto (tgt := 47) hx hb d_V_stepTakes_43 (by decide) ?_
        refine W.widen (k := 0) (n := 0) (by omega) (by omega) ?_
        exact W.zret (ty := .boolean) (v := 1) hx hb hr rfl (fun t9 ht9 hwz => ⟨⟨1, (V, P), rfl, (by simp [mTakes, hrow, c11, c18]), by rw [ht9]; exact hW, va_K.moved hwz.alike hK, hN.warm hwz⟩, hS.F ht9⟩) hS.2.2 d_V_stepTakes_47
      · exact absurd c18 (by decide)

set_option maxHeartbeats 4000000 in
set_option maxRecDepth 100000 in
theorem m_V_held (l : Launch) (D : va_G) (B : Nat) (cA : Nat → ClassId) (sh : Nat → Nat) (V P : VV) (hon : V 267 1 = 0 ∨ V 267 1 = 1) (b : Int32) : Met l y_V_held w_V_held ({ frames := 1, cells := 0, slots := 0, locals := 25 } : Room) (va_Pc [.ref (sh 266), .int b] (JC D B cA sh (V, P))) (va_Qi (fun (r : Int32) (u : VV × VV) => (r, u.1, u.2) = (mHeld V b, V, P)) (JC D B cA sh) (hm_A B)) 0 0 (hm_A B) := by
  refine Met.ofW (cc := c_V_held) (maxL := 3) (ret := (some FieldType.boolean)) (by decide) rfl ?_
  intro p e s m args below meth c s₁ Bd hml hv
  obtain ⟨rfl, hW, hK, hN⟩ := hv
  have hx := Bd.exec
  have hb := Bd.bytes
  have hr := Bd.returns
  have hts := atoms_spec (ws := w_V_held) Bd.pre
  have hT : ∀ w ∈ WG, w.before ([.ref (sh 266), .int b] : List Value).toArray s = true := fun w h => hts w (List.mem_cons_of_mem _ h)
  have hown : s.vm.findClass "BlockVault" = some m.cls := findClass_of_methodNamed Bd.named
  have hlocks := Bd.notSynchronized
  have hW : JW D B cA sh V P s.heap := hW
  have hBs : B ≤ s.heap.size := hW.ge
  have hS : va_S (hm_A B) s.heap s.heap [] := va_S.rf
  have hl := lv_entry ([.ref (sh 266), .int b]) (n := 3) (Nat.le_of_ble_eq_true rfl)
  rw [lg_entry_eq]
  generalize (lg_sl ([.ref (sh 266), .int b]) ++ List.replicate (3 - (lg_sl ([.ref (sh 266), .int b])).length) Slot.unset).toArray = ls at hl ⊢
  have hl : lv_has ls 3 [(0, .ref (sh 266)), (1, .int b)] := hl
  refine lv_aload_n hx hb d_V_held_0 rfl (lv_at hl 0 rfl) ?_
  refine va_get (D := D) (ci := 5) (v := .ref (sh 267)) (C := "BlockVault") (T := T_V) (N := 5) hx hb hT in_V hown hK (hW.obj rfl) 0 rfl rfl 1 (by decide) (hT _ k127) (fun _ h9 => h9) rfl d_V_held_1 ?_
  refine jw_calli (va_runV (As := []) (rest := []) ⟨hx, hb, hml, hown, hT⟩ (m_D_isOn l D B cA sh V P hon) (cwV 0 hT (gV k146 k147 k148 k3 kc_D_isOn) rfl rfl rfl (by decide +kernel) ⟨Nat.le_of_ble_eq_true rfl, Nat.le_of_ble_eq_true rfl⟩) (jw_preV (q := ("BlockVault$Disk", T_D, 4)) hW hK hN rfl rfl) rfl rfl hl.1 rfl (lv_room (Nat.le_of_ble_eq_true rfl)) d_V_held_4 ⟨Nat.le_of_ble_eq_true rfl, Nat.le_of_ble_eq_true rfl⟩) hS (fun r1 V2 P3 H locs hw4 hW hS => ?_)
  obtain ⟨rfl, rfl, rfl⟩ := t3 hw4
  refine lv_if_eq (tgt := 18) hx hb d_V_held_7 (by decide) (fun c5 => ?_) (fun c5 => ?_)
  · refine lv_iconst (v := 0) hx hb d_V_held_18 (by decide) ?_
    refine W.widen (k := 0) (n := 0) (by omega) (by omega) ?_
    exact W.zret (ty := .boolean) (v := 0) hx hb hr rfl (fun t9 ht9 hwz => ⟨⟨0, (V, P), rfl, (by unfold mHeld; rw [if_pos (Or.inl c5)]), by rw [ht9]; exact hW, va_K.moved hwz.alike hK, hN.warm hwz⟩, hS.F ht9⟩) hS.2.2 d_V_held_19
  · refine lv_aload_n hx hb d_V_held_10 rfl (lv_at hl 0 rfl) ?_
    refine lv_iload_n hx hb d_V_held_11 rfl (lv_at hl 1 rfl) ?_
    refine jw_calli (va_runV (As := [.int b]) (rest := []) ⟨hx, hb, hml, hown, hT⟩ (m_V_isBlock l D B cA sh V P b) (cwV 1 hT (gV k233 k235 ks2 k1 kc_V_isBlock) rfl rfl rfl (by decide +kernel) ⟨Nat.le_of_ble_eq_true rfl, Nat.le_of_ble_eq_true rfl⟩) (jw_preV (q := ("BlockVault", T_V, 5)) hW hK hN rfl rfl) rfl rfl hl.1 rfl (lv_room (Nat.le_of_ble_eq_true rfl)) d_V_held_12 ⟨Nat.le_of_ble_eq_true rfl, Nat.le_of_ble_eq_true rfl⟩) hS (fun r6 V7 P8 H locs hw9 hW hS => ?_)
    obtain ⟨hr10, rfl, rfl⟩ := t3 hw9
    refine lv_if_ne (tgt := 20) hx hb d_V_held_15 (by decide) (fun c11 => ?_) (fun c11 => ?_)
    · have hq12 : mIsBlock V b := bi_t hr10 c11
      refine lv_aload_n hx hb d_V_held_20 rfl (lv_at hl 0 rfl) ?_
      refine va_get (D := D) (ci := 5) (v := .ref (sh 268)) (C := "BlockVault") (T := T_V) (N := 5) hx hb hT in_V hown hK (hW.obj rfl) 0 rfl rfl 2 (by decide) (hT _ k128) (fun _ h9 => h9) rfl d_V_held_21 ?_
      refine lv_iload_n hx hb d_V_held_24 rfl (lv_at hl 1 rfl) ?_
      refine jw_callq (va_runV (As := [.int b]) (rest := []) ⟨hx, hb, hml, hown, hT⟩ (m_C_rowOf l D B cA sh V P b) (cwV 1 hT (gV k264 k242 k243 k5 kc_C_rowOf) rfl rfl rfl (by decide +kernel) ⟨Nat.le_of_ble_eq_true rfl, Nat.le_of_ble_eq_true rfl⟩) (jw_preV (q := ("BlockVault$Cache", T_C, 3)) hW hK hN rfl rfl) rfl rfl hl.1 rfl (lv_room (Nat.le_of_ble_eq_true rfl)) d_V_held_25 ⟨Nat.le_of_ble_eq_true rfl, Nat.le_of_ble_eq_true rfl⟩) hS (fun r13 V14 P15 H locs hw16 hW hS => ?_)
      obtain ⟨hr0, hu0⟩ := hw16
      cases hu0
      cases hrow : mRow V b with
      | none =>
        rw [hrow] at hr0
        obtain rfl : r13 = none := hr0
        refine lv_astore_nN (lv' := [(2, .null), (0, .ref (sh 266)), (1, .int b)]) hx hb d_V_held_28 rfl hl (by decide) rfl (fun ls hl => ?_)
        refine lv_aload_nN hx hb d_V_held_29 rfl (lv_at hl 0 rfl) ?_
        refine lv_ifnullN (tgt := 44) hx hb d_V_held_30 (by decide) ?_
        refine lv_iconst (v := 0) hx hb d_V_held_44 (by decide) ?_
        refine W.widen (k := 0) (n := 0) (by omega) (by omega) ?_
        exact W.zret (ty := .boolean) (v := 0) hx hb hr rfl (fun t9 ht9 hwz => ⟨⟨0, (V, P), rfl, (by unfold mHeld; rw [if_neg (fun q => q.elim c5 (fun z => z hq12)), hrow]), by rw [ht9]; exact hW, va_K.moved hwz.alike hK, hN.warm hwz⟩, hS.F ht9⟩) hS.2.2 d_V_held_45
      | some i =>
        rw [hrow] at hr0
        obtain rfl : r13 = some (sh (232 + i)) := hr0
        have hi : i < 34 := (mRow_some hrow).1
        refine lv_astore_n (lv' := [(2, .ref (sh (232 + i))), (0, .ref (sh 266)), (1, .int b)]) hx hb d_V_held_28 rfl hl (by decide) rfl (fun ls hl => ?_)
        refine lv_aload_n hx hb d_V_held_29 rfl (lv_at hl 0 rfl) ?_
        refine lv_ifnull hx hb d_V_held_30 ?_
        refine lv_aload_n hx hb d_V_held_33 rfl (lv_at hl 0 rfl) ?_
        refine va_getN (D := D) (ci := 4) (v := .int (V (232 + i) 3)) (C := "BlockVault$Row") (T := T_R) (N := 5) hx hb hT in_R hown hK (hW.obj (lay_row hi)) 0 rfl rfl 3 (by decide) (nf8 hN) (fun _ h9 => h9) rfl d_V_held_34 ?_
        refine lv_if_eq (tgt := 44) hx hb d_V_held_37 (by decide) (fun c17 => ?_) (fun c17 => ?_)
        · refine lv_iconst (v := 0) hx hb d_V_held_44 (by decide) ?_
          refine W.widen (k := 0) (n := 0) (by omega) (by omega) ?_
          exact W.zret (ty := .boolean) (v := 0) hx hb hr rfl (fun t9 ht9 hwz => ⟨⟨0, (V, P), rfl, (by unfold mHeld; rw [if_neg (fun q => q.elim c5 (fun z => z hq12)), hrow]; dsimp only; rw [if_pos c17]), by rw [ht9]; exact hW, va_K.moved hwz.alike hK, hN.warm hwz⟩, hS.F ht9⟩) hS.2.2 d_V_held_45
        · refine lv_iconst (v := 1) hx hb d_V_held_40 (by decide) ?_
          refine lv_goto (tgt := 45) hx hb d_V_held_41 (by decide) ?_
          refine W.widen (k := 0) (n := 0) (by omega) (by omega) ?_
          exact W.zret (ty := .boolean) (v := 1) hx hb hr rfl (fun t9 ht9 hwz => ⟨⟨1, (V, P), rfl, (by unfold mHeld; rw [if_neg (fun q => q.elim c5 (fun z => z hq12)), hrow]; dsimp only; rw [if_neg c17]), by rw [ht9]; exact hW, va_K.moved hwz.alike hK, hN.warm hwz⟩, hS.F ht9⟩) hS.2.2 d_V_held_45
    · have hq18 : ¬ (mIsBlock V b) := bi_f hr10 c11
      refine lv_iconst (v := 0) hx hb d_V_held_18 (by decide) ?_
      refine W.widen (k := 0) (n := 0) (by omega) (by omega) ?_
      exact W.zret (ty := .boolean) (v := 0) hx hb hr rfl (fun t9 ht9 hwz => ⟨⟨0, (V, P), rfl, (by unfold mHeld; rw [if_pos (Or.inr hq18)]), by rw [ht9]; exact hW, va_K.moved hwz.alike hK, hN.warm hwz⟩, hS.F ht9⟩) hS.2.2 d_V_held_19

set_option maxHeartbeats 4000000 in
set_option maxRecDepth 100000 in
theorem m_V_cached (l : Launch) (D : va_G) (B : Nat) (cA : Nat → ClassId) (sh : Nat → Nat) (V P : VV) (hon : V 267 1 = 0 ∨ V 267 1 = 1) (b : Int32) : Met l y_V_cached w_V_cached ({ frames := 1, cells := 0, slots := 0, locals := 25 } : Room) (va_Pc [.ref (sh 266), .int b] (JC D B cA sh (V, P))) (va_Qi (fun (r : Int32) (u : VV × VV) => (r, u.1, u.2) = (mCached V b, V, P)) (JC D B cA sh) (hm_A B)) 0 0 (hm_A B) := by
  refine Met.ofW (cc := c_V_cached) (maxL := 2) (ret := (some FieldType.boolean)) (by decide) rfl ?_
  intro p e s m args below meth c s₁ Bd hml hv
  obtain ⟨rfl, hW, hK, hN⟩ := hv
  have hx := Bd.exec
  have hb := Bd.bytes
  have hr := Bd.returns
  have hts := atoms_spec (ws := w_V_cached) Bd.pre
  have hT : ∀ w ∈ WG, w.before ([.ref (sh 266), .int b] : List Value).toArray s = true := fun w h => hts w (List.mem_cons_of_mem _ h)
  have hown : s.vm.findClass "BlockVault" = some m.cls := findClass_of_methodNamed Bd.named
  have hlocks := Bd.notSynchronized
  have hW : JW D B cA sh V P s.heap := hW
  have hBs : B ≤ s.heap.size := hW.ge
  have hS : va_S (hm_A B) s.heap s.heap [] := va_S.rf
  have hl := lv_entry ([.ref (sh 266), .int b]) (n := 2) (Nat.le_of_ble_eq_true rfl)
  rw [lg_entry_eq]
  generalize (lg_sl ([.ref (sh 266), .int b]) ++ List.replicate (2 - (lg_sl ([.ref (sh 266), .int b])).length) Slot.unset).toArray = ls at hl ⊢
  have hl : lv_has ls 2 [(0, .ref (sh 266)), (1, .int b)] := hl
  refine lv_aload_n hx hb d_V_cached_0 rfl (lv_at hl 0 rfl) ?_
  refine va_get (D := D) (ci := 5) (v := .ref (sh 267)) (C := "BlockVault") (T := T_V) (N := 5) hx hb hT in_V hown hK (hW.obj rfl) 0 rfl rfl 1 (by decide) (hT _ k127) (fun _ h9 => h9) rfl d_V_cached_1 ?_
  refine jw_calli (va_runV (As := []) (rest := []) ⟨hx, hb, hml, hown, hT⟩ (m_D_isOn l D B cA sh V P hon) (cwV 0 hT (gV k146 k147 k148 k3 kc_D_isOn) rfl rfl rfl (by decide +kernel) ⟨Nat.le_of_ble_eq_true rfl, Nat.le_of_ble_eq_true rfl⟩) (jw_preV (q := ("BlockVault$Disk", T_D, 4)) hW hK hN rfl rfl) rfl rfl hl.1 rfl (lv_room (Nat.le_of_ble_eq_true rfl)) d_V_cached_4 ⟨Nat.le_of_ble_eq_true rfl, Nat.le_of_ble_eq_true rfl⟩) hS (fun r1 V2 P3 H locs hw4 hW hS => ?_)
  obtain ⟨rfl, rfl, rfl⟩ := t3 hw4
  refine lv_if_eq (tgt := 33) hx hb d_V_cached_7 (by decide) (fun c5 => ?_) (fun c5 => ?_)
  · refine lv_iconst (v := 0) hx hb d_V_cached_33 (by decide) ?_
    refine W.widen (k := 0) (n := 0) (by omega) (by omega) ?_
    exact W.zret (ty := .boolean) (v := 0) hx hb hr rfl (fun t9 ht9 hwz => ⟨⟨0, (V, P), rfl, (by unfold mCached; rw [if_pos (Or.inl c5)]), by rw [ht9]; exact hW, va_K.moved hwz.alike hK, hN.warm hwz⟩, hS.F ht9⟩) hS.2.2 d_V_cached_34
  · refine lv_aload_n hx hb d_V_cached_10 rfl (lv_at hl 0 rfl) ?_
    refine lv_iload_n hx hb d_V_cached_11 rfl (lv_at hl 1 rfl) ?_
    refine jw_calli (va_runV (As := [.int b]) (rest := []) ⟨hx, hb, hml, hown, hT⟩ (m_V_isBlock l D B cA sh V P b) (cwV 1 hT (gV k233 k235 ks2 k1 kc_V_isBlock) rfl rfl rfl (by decide +kernel) ⟨Nat.le_of_ble_eq_true rfl, Nat.le_of_ble_eq_true rfl⟩) (jw_preV (q := ("BlockVault", T_V, 5)) hW hK hN rfl rfl) rfl rfl hl.1 rfl (lv_room (Nat.le_of_ble_eq_true rfl)) d_V_cached_12 ⟨Nat.le_of_ble_eq_true rfl, Nat.le_of_ble_eq_true rfl⟩) hS (fun r6 V7 P8 H locs hw9 hW hS => ?_)
    obtain ⟨hr10, rfl, rfl⟩ := t3 hw9
    refine lv_if_eq (tgt := 33) hx hb d_V_cached_15 (by decide) (fun c11 => ?_) (fun c11 => ?_)
    · have hq12 : ¬ (mIsBlock V b) := bi_f hr10 c11
      refine lv_iconst (v := 0) hx hb d_V_cached_33 (by decide) ?_
      refine W.widen (k := 0) (n := 0) (by omega) (by omega) ?_
      exact W.zret (ty := .boolean) (v := 0) hx hb hr rfl (fun t9 ht9 hwz => ⟨⟨0, (V, P), rfl, (by unfold mCached; rw [if_pos (Or.inr hq12)]), by rw [ht9]; exact hW, va_K.moved hwz.alike hK, hN.warm hwz⟩, hS.F ht9⟩) hS.2.2 d_V_cached_34
    · have hq13 : mIsBlock V b := bi_t hr10 c11
      refine lv_aload_n hx hb d_V_cached_18 rfl (lv_at hl 0 rfl) ?_
      refine va_get (D := D) (ci := 5) (v := .ref (sh 268)) (C := "BlockVault") (T := T_V) (N := 5) hx hb hT in_V hown hK (hW.obj rfl) 0 rfl rfl 2 (by decide) (hT _ k128) (fun _ h9 => h9) rfl d_V_cached_19 ?_
      refine lv_iload_n hx hb d_V_cached_22 rfl (lv_at hl 1 rfl) ?_
      refine jw_callq (va_runV (As := [.int b]) (rest := []) ⟨hx, hb, hml, hown, hT⟩ (m_C_rowOf l D B cA sh V P b) (cwV 1 hT (gV k264 k242 k243 k5 kc_C_rowOf) rfl rfl rfl (by decide +kernel) ⟨Nat.le_of_ble_eq_true rfl, Nat.le_of_ble_eq_true rfl⟩) (jw_preV (q := ("BlockVault$Cache", T_C, 3)) hW hK hN rfl rfl) rfl rfl hl.1 rfl (lv_room (Nat.le_of_ble_eq_true rfl)) d_V_cached_23 ⟨Nat.le_of_ble_eq_true rfl, Nat.le_of_ble_eq_true rfl⟩) hS (fun r14 V15 P16 H locs hw17 hW hS => ?_)
      obtain ⟨hr0, hu0⟩ := hw17
      cases hu0
      cases hrow : mRow V b with
      | none =>
        rw [hrow] at hr0
        obtain rfl : r14 = none := hr0
        refine lv_ifnullN (tgt := 33) hx hb d_V_cached_26 (by decide) ?_
        refine lv_iconst (v := 0) hx hb d_V_cached_33 (by decide) ?_
        refine W.widen (k := 0) (n := 0) (by omega) (by omega) ?_
        exact W.zret (ty := .boolean) (v := 0) hx hb hr rfl (fun t9 ht9 hwz => ⟨⟨0, (V, P), rfl, (by unfold mCached; rw [if_neg (fun q => q.elim c5 (fun z => z hq13)), hrow]), by rw [ht9]; exact hW, va_K.moved hwz.alike hK, hN.warm hwz⟩, hS.F ht9⟩) hS.2.2 d_V_cached_34
      | some i =>
        rw [hrow] at hr0
        obtain rfl : r14 = some (sh (232 + i)) := hr0
        have hi : i < 34 := (mRow_some hrow).1
        refine lv_ifnull hx hb d_V_cached_26 ?_
        refine lv_iconst (v := 1) hx hb d_V_cached_29 (by decide) ?_
        refine lv_goto (tgt := 34) hx hb d_V_cached_30 (by decide) ?_
        refine W.widen (k := 0) (n := 0) (by omega) (by omega) ?_
        exact W.zret (ty := .boolean) (v := 1) hx hb hr rfl (fun t9 ht9 hwz => ⟨⟨1, (V, P), rfl, (by unfold mCached; rw [if_neg (fun q => q.elim c5 (fun z => z hq13)), hrow]), by rw [ht9]; exact hW, va_K.moved hwz.alike hK, hN.warm hwz⟩, hS.F ht9⟩) hS.2.2 d_V_cached_34

set_option maxHeartbeats 4000000 in
set_option maxRecDepth 100000 in
theorem m_V_get (l : Launch) (D : va_G) (B : Nat) (cA : Nat → ClassId) (sh : Nat → Nat) (V P : VV) (hon : V 267 1 = 0 ∨ V 267 1 = 1) (h3 : ∀ i, i < 34 → V (232 + i) 3 = 0 ∨ V (232 + i) 3 = 1) (b k : Int32) : Met l y_V_get w_V_get ({ frames := 5, cells := 1, slots := 1024, locals := 126 } : Room) (va_Pc [.ref (sh 266), .int b, .int k] (JC D B cA sh (V, P))) (va_Qi (fun (r : Int32) (u : VV × VV) => (r, u.1, u.2) = mGet V P b k) (JC D B cA sh) (hm_A B)) 1 1024 (hm_A B) := by
  refine Met.ofW (cc := c_V_get) (maxL := 3) (ret := (some FieldType.int)) (by decide) rfl ?_
  intro p e s m args below meth c s₁ Bd hml hv
  obtain ⟨rfl, hW, hK, hN⟩ := hv
  have hx := Bd.exec
  have hb := Bd.bytes
  have hr := Bd.returns
  have hts := atoms_spec (ws := w_V_get) Bd.pre
  have hT : ∀ w ∈ WG, w.before ([.ref (sh 266), .int b, .int k] : List Value).toArray s = true := fun w h => hts w (List.mem_cons_of_mem _ h)
  have hown : s.vm.findClass "BlockVault" = some m.cls := findClass_of_methodNamed Bd.named
  have hlocks := Bd.notSynchronized
  have hW : JW D B cA sh V P s.heap := hW
  have hBs : B ≤ s.heap.size := hW.ge
  have hS : va_S (hm_A B) s.heap s.heap [] := va_S.rf
  have hl := lv_entry ([.ref (sh 266), .int b, .int k]) (n := 3) (Nat.le_of_ble_eq_true rfl)
  rw [lg_entry_eq]
  generalize (lg_sl ([.ref (sh 266), .int b, .int k]) ++ List.replicate (3 - (lg_sl ([.ref (sh 266), .int b, .int k])).length) Slot.unset).toArray = ls at hl ⊢
  have hl : lv_has ls 3 [(0, .ref (sh 266)), (1, .int b), (2, .int k)] := hl
  refine lv_aload_n hx hb d_V_get_0 rfl (lv_at hl 0 rfl) ?_
  refine va_get (D := D) (ci := 5) (v := .ref (sh 267)) (C := "BlockVault") (T := T_V) (N := 5) hx hb hT in_V hown hK (hW.obj rfl) 0 rfl rfl 1 (by decide) (hT _ k127) (fun _ h9 => h9) rfl d_V_get_1 ?_
  refine jw_calli (va_runV (As := []) (rest := []) ⟨hx, hb, hml, hown, hT⟩ (m_D_isOn l D B cA sh V P hon) (cwV 0 hT (gV k146 k147 k148 k3 kc_D_isOn) rfl rfl rfl (by decide +kernel) ⟨Nat.le_of_ble_eq_true rfl, Nat.le_of_ble_eq_true rfl⟩) (jw_preV (q := ("BlockVault$Disk", T_D, 4)) hW hK hN rfl rfl) rfl rfl hl.1 rfl (lv_room (Nat.le_of_ble_eq_true rfl)) d_V_get_4 ⟨Nat.le_of_ble_eq_true rfl, Nat.le_of_ble_eq_true rfl⟩) hS (fun r1 V2 P3 H locs hw4 hW hS => ?_)
  obtain ⟨rfl, rfl, rfl⟩ := t3 hw4
  refine lv_if_eq (tgt := 29) hx hb d_V_get_7 (by decide) (fun c5 => ?_) (fun c5 => ?_)
  · refine lv_iconst (v := (-1)) hx hb d_V_get_29 (by decide) ?_
    refine W.widen (k := 1) (n := 1024) (by omega) (by omega) ?_
    exact W.iret (v := (-1)) hx hb hr (fun t9 ht9 hwz => ⟨⟨(-1), (V, P), rfl, (by unfold mGet; rw [if_pos (Or.inl c5)]), by rw [ht9]; exact hW, va_K.moved hwz.alike hK, hN.warm hwz⟩, hS.F ht9⟩) hS.2.2 d_V_get_30
  · refine lv_aload_n hx hb d_V_get_10 rfl (lv_at hl 0 rfl) ?_
    refine lv_iload_n hx hb d_V_get_11 rfl (lv_at hl 1 rfl) ?_
    refine jw_calli (va_runV (As := [.int b]) (rest := []) ⟨hx, hb, hml, hown, hT⟩ (m_V_isBlock l D B cA sh V P b) (cwV 1 hT (gV k233 k235 ks2 k1 kc_V_isBlock) rfl rfl rfl (by decide +kernel) ⟨Nat.le_of_ble_eq_true rfl, Nat.le_of_ble_eq_true rfl⟩) (jw_preV (q := ("BlockVault", T_V, 5)) hW hK hN rfl rfl) rfl rfl hl.1 rfl (lv_room (Nat.le_of_ble_eq_true rfl)) d_V_get_12 ⟨Nat.le_of_ble_eq_true rfl, Nat.le_of_ble_eq_true rfl⟩) hS (fun r6 V7 P8 H locs hw9 hW hS => ?_)
    obtain ⟨hr10, rfl, rfl⟩ := t3 hw9
    refine lv_if_eq (tgt := 29) hx hb d_V_get_15 (by decide) (fun c11 => ?_) (fun c11 => ?_)
    · have hq12 : ¬ (mIsBlock V b) := bi_f hr10 c11
      refine lv_iconst (v := (-1)) hx hb d_V_get_29 (by decide) ?_
      refine W.widen (k := 1) (n := 1024) (by omega) (by omega) ?_
      exact W.iret (v := (-1)) hx hb hr (fun t9 ht9 hwz => ⟨⟨(-1), (V, P), rfl, (by unfold mGet; rw [if_pos (Or.inr (Or.inl hq12))]), by rw [ht9]; exact hW, va_K.moved hwz.alike hK, hN.warm hwz⟩, hS.F ht9⟩) hS.2.2 d_V_get_30
    · have hq13 : mIsBlock V b := bi_t hr10 c11
      refine lv_iload_n hx hb d_V_get_18 rfl (lv_at hl 2 rfl) ?_
      refine lv_if_lt (tgt := 29) hx hb d_V_get_19 (by decide) (fun c14 => ?_) (fun c14 => ?_)
      · refine lv_iconst (v := (-1)) hx hb d_V_get_29 (by decide) ?_
        refine W.widen (k := 1) (n := 1024) (by omega) (by omega) ?_
        exact W.iret (v := (-1)) hx hb hr (fun t9 ht9 hwz => ⟨⟨(-1), (V, P), rfl, (by unfold mGet; rw [if_pos (Or.inr (Or.inr (Or.inl c14)))]), by rw [ht9]; exact hW, va_K.moved hwz.alike hK, hN.warm hwz⟩, hS.F ht9⟩) hS.2.2 d_V_get_30
      · refine lv_iload_n hx hb d_V_get_22 rfl (lv_at hl 2 rfl) ?_
        refine lv_sipush (v := 1024) hx hb d_V_get_23 (by decide) ?_
        refine lv_icmp_lt (tgt := 31) hx hb d_V_get_26 (by decide) (fun c15 => ?_) (fun c15 => ?_)
        · refine lv_aload_n hx hb d_V_get_31 rfl (lv_at hl 0 rfl) ?_
          refine va_get (D := D) (ci := 5) (v := .ref (sh 268)) (C := "BlockVault") (T := T_V) (N := 5) hx hb hT in_V hown hK (hW.obj rfl) 0 rfl rfl 2 (by decide) (hT _ k128) (fun _ h9 => h9) rfl d_V_get_32 ?_
          refine lv_iload_n hx hb d_V_get_35 rfl (lv_at hl 1 rfl) ?_
          refine lv_aload_n hx hb d_V_get_36 rfl (lv_at hl 0 rfl) ?_
          refine va_get (D := D) (ci := 5) (v := .ref (sh 267)) (C := "BlockVault") (T := T_V) (N := 5) hx hb hT in_V hown hK (hW.obj rfl) 0 rfl rfl 1 (by decide) (hT _ k127) (fun _ h9 => h9) rfl d_V_get_37 ?_
          refine jw_callq (va_runV (As := [.int b, .ref (sh 267)]) (rest := []) ⟨hx, hb, hml, hown, hT⟩ (m_C_lookAt l D B cA sh V P b h3) (cwV 2 hT (gV k237 k238 k239 k5 kc_C_lookAt) rfl rfl rfl (by decide +kernel) ⟨Nat.le_of_ble_eq_true rfl, Nat.le_of_ble_eq_true rfl⟩) (jw_preV (q := ("BlockVault$Cache", T_C, 3)) hW hK hN rfl rfl) rfl rfl hl.1 rfl (lv_room (Nat.le_of_ble_eq_true rfl)) d_V_get_40 ⟨Nat.le_of_ble_eq_true rfl, Nat.le_of_ble_eq_true rfl⟩) hS (fun r16 V17 P18 H locs hw19 hW hS => ?_)
          obtain ⟨rfl, hu0⟩ := hw19
          obtain ⟨rfl, rfl⟩ := tl hu0
          have hlk := mLook_lt V P b
          refine va_getN (D := D) (ci := 4) (v := .ref (sh (80 + (mLook V P b).1))) (C := "BlockVault$Row") (T := T_R) (N := 5) hx hb hT in_R hown hK (hW.obj (lay_row hlk)) 0 rfl rfl 0 (by decide) (nf2 hN) (fun _ h9 => h9) rfl d_V_get_43 ?_
          refine lv_iload_n hx hb d_V_get_46 rfl (lv_at hl 2 rfl) ?_
          refine jw_calli (va_runV (As := [.int k]) (rest := []) ⟨hx, hb, hml, hown, hT⟩ (m_P_byteAt l D B cA sh (mLook V P b).2.1 (mLook V P b).2.2 (80 + (mLook V P b).1) (by omega) k) (cwV 1 hT (gV k254 k208 k209 k4 kc_P_byteAt) rfl rfl rfl (by decide +kernel) ⟨Nat.le_of_ble_eq_true rfl, Nat.le_of_ble_eq_true rfl⟩) (jw_preP (q := ("BlockVault$Page", T_P, 1)) hW hK hN (by omega) rfl) rfl rfl hl.1 rfl (lv_room (Nat.le_of_ble_eq_true rfl)) d_V_get_47 ⟨Nat.le_of_ble_eq_true rfl, Nat.le_of_ble_eq_true rfl⟩) hS (fun r20 V21 P22 H locs hw23 hW hS => ?_)
          obtain ⟨rfl, rfl, rfl⟩ := t3 hw23
          refine W.widen (k := 1) (n := 1024) (by omega) (by omega) ?_
          exact W.iret (v := (mByte ((mLook V P b).2.2 (80 + (mLook V P b).1)) k)) hx hb hr (fun t9 ht9 hwz => ⟨⟨(mByte ((mLook V P b).2.2 (80 + (mLook V P b).1)) k), ((mLook V P b).2.1, (mLook V P b).2.2), rfl, (by unfold mGet; rw [if_neg (fun q => by rcases q with q | q | q | q; exact c5 q; exact q hq13; exact c14 q; exact q c15)]), by rw [ht9]; exact hW, va_K.moved hwz.alike hK, hN.warm hwz⟩, hS.F ht9⟩) hS.2.2 d_V_get_50
        · refine lv_iconst (v := (-1)) hx hb d_V_get_29 (by decide) ?_
          refine W.widen (k := 1) (n := 1024) (by omega) (by omega) ?_
          exact W.iret (v := (-1)) hx hb hr (fun t9 ht9 hwz => ⟨⟨(-1), (V, P), rfl, (by unfold mGet; rw [if_pos (Or.inr (Or.inr (Or.inr c15)))]), by rw [ht9]; exact hW, va_K.moved hwz.alike hK, hN.warm hwz⟩, hS.F ht9⟩) hS.2.2 d_V_get_30

set_option maxHeartbeats 4000000 in
set_option maxRecDepth 100000 in
theorem m_V_fill (l : Launch) (D : va_G) (B : Nat) (cA : Nat → ClassId) (sh : Nat → Nat) (V P : VV) (hon : V 267 1 = 0 ∨ V 267 1 = 1) (h3 : ∀ i, i < 34 → V (232 + i) 3 = 0 ∨ V (232 + i) 3 = 1) (b k n v : Int32) : Met l y_V_fill w_V_fill ({ frames := 5, cells := 279, slots := 296448, locals := 126 } : Room) (va_Pc [.ref (sh 266), .int b, .int k, .int n, .int v] (JC D B cA sh (V, P))) (va_Qi (fun (r : Int32) (u : VV × VV) => (r, u.1, u.2) = mFill V P b k n v) (JC D B cA sh) (hm_A B)) 279 296448 (hm_A B) := by
  refine Met.ofW (cc := c_V_fill) (maxL := 6) (ret := (some FieldType.boolean)) (by decide) rfl ?_
  intro p e s m args below meth c s₁ Bd hml hv
  obtain ⟨rfl, hW, hK, hN⟩ := hv
  have hx := Bd.exec
  have hb := Bd.bytes
  have hr := Bd.returns
  have hts := atoms_spec (ws := w_V_fill) Bd.pre
  have hT : ∀ w ∈ WG, w.before ([.ref (sh 266), .int b, .int k, .int n, .int v] : List Value).toArray s = true := fun w h => hts w (List.mem_cons_of_mem _ h)
  have hown : s.vm.findClass "BlockVault" = some m.cls := findClass_of_methodNamed Bd.named
  have hlocks := Bd.notSynchronized
  have hW : JW D B cA sh V P s.heap := hW
  have hBs : B ≤ s.heap.size := hW.ge
  have hS : va_S (hm_A B) s.heap s.heap [] := va_S.rf
  have hl := lv_entry ([.ref (sh 266), .int b, .int k, .int n, .int v]) (n := 6) (Nat.le_of_ble_eq_true rfl)
  rw [lg_entry_eq]
  generalize (lg_sl ([.ref (sh 266), .int b, .int k, .int n, .int v]) ++ List.replicate (6 - (lg_sl ([.ref (sh 266), .int b, .int k, .int n, .int v])).length) Slot.unset).toArray = ls at hl ⊢
  have hl : lv_has ls 6 [(0, .ref (sh 266)), (1, .int b), (2, .int k), (3, .int n), (4, .int v)] := hl
  refine lv_aload_n hx hb d_V_fill_0 rfl (lv_at hl 0 rfl) ?_
  refine va_get (D := D) (ci := 5) (v := .ref (sh 267)) (C := "BlockVault") (T := T_V) (N := 5) hx hb hT in_V hown hK (hW.obj rfl) 0 rfl rfl 1 (by decide) (hT _ k127) (fun _ h9 => h9) rfl d_V_fill_1 ?_
  refine jw_calli (va_runV (As := []) (rest := []) ⟨hx, hb, hml, hown, hT⟩ (m_D_isOn l D B cA sh V P hon) (cwV 0 hT (gV k146 k147 k148 k3 kc_D_isOn) rfl rfl rfl (by decide +kernel) ⟨Nat.le_of_ble_eq_true rfl, Nat.le_of_ble_eq_true rfl⟩) (jw_preV (q := ("BlockVault$Disk", T_D, 4)) hW hK hN rfl rfl) rfl rfl hl.1 rfl (lv_room (Nat.le_of_ble_eq_true rfl)) d_V_fill_4 ⟨Nat.le_of_ble_eq_true rfl, Nat.le_of_ble_eq_true rfl⟩) hS (fun r1 V2 P3 H locs hw4 hW hS => ?_)
  obtain ⟨rfl, rfl, rfl⟩ := t3 hw4
  refine lv_if_eq (tgt := 41) hx hb d_V_fill_7 (by decide) (fun c5 => ?_) (fun c5 => ?_)
  · refine lv_iconst (v := 0) hx hb d_V_fill_41 (by decide) ?_
    refine W.widen (k := 279) (n := 296448) (by omega) (by omega) ?_
    exact W.zret (ty := .boolean) (v := 0) hx hb hr rfl (fun t9 ht9 hwz => ⟨⟨0, (V, P), rfl, (by unfold mFill; rw [if_pos (Or.inl c5)]), by rw [ht9]; exact hW, va_K.moved hwz.alike hK, hN.warm hwz⟩, hS.F ht9⟩) hS.2.2 d_V_fill_42
  · refine lv_aload_n hx hb d_V_fill_10 rfl (lv_at hl 0 rfl) ?_
    refine va_get (D := D) (ci := 5) (v := .int (V 266 4)) (C := "BlockVault") (T := T_V) (N := 5) hx hb hT in_V hown hK (hW.obj rfl) 0 rfl rfl 4 (by decide) (hT _ k130) (fun _ h9 => h9) rfl d_V_fill_11 ?_
    refine lv_if_eq (tgt := 41) hx hb d_V_fill_14 (by decide) (fun c6 => ?_) (fun c6 => ?_)
    · refine lv_iconst (v := 0) hx hb d_V_fill_41 (by decide) ?_
      refine W.widen (k := 279) (n := 296448) (by omega) (by omega) ?_
      exact W.zret (ty := .boolean) (v := 0) hx hb hr rfl (fun t9 ht9 hwz => ⟨⟨0, (V, P), rfl, (by unfold mFill; rw [if_pos (Or.inr (Or.inl c6))]), by rw [ht9]; exact hW, va_K.moved hwz.alike hK, hN.warm hwz⟩, hS.F ht9⟩) hS.2.2 d_V_fill_42
    · refine lv_aload_n hx hb d_V_fill_17 rfl (lv_at hl 0 rfl) ?_
      refine lv_iload_n hx hb d_V_fill_18 rfl (lv_at hl 1 rfl) ?_
      refine jw_calli (va_runV (As := [.int b]) (rest := []) ⟨hx, hb, hml, hown, hT⟩ (m_V_isBlock l D B cA sh V P b) (cwV 1 hT (gV k233 k235 ks2 k1 kc_V_isBlock) rfl rfl rfl (by decide +kernel) ⟨Nat.le_of_ble_eq_true rfl, Nat.le_of_ble_eq_true rfl⟩) (jw_preV (q := ("BlockVault", T_V, 5)) hW hK hN rfl rfl) rfl rfl hl.1 rfl (lv_room (Nat.le_of_ble_eq_true rfl)) d_V_fill_19 ⟨Nat.le_of_ble_eq_true rfl, Nat.le_of_ble_eq_true rfl⟩) hS (fun r7 V8 P9 H locs hw10 hW hS => ?_)
      obtain ⟨hr11, rfl, rfl⟩ := t3 hw10
      refine lv_if_eq (tgt := 41) hx hb d_V_fill_22 (by decide) (fun c12 => ?_) (fun c12 => ?_)
      · have hq13 : ¬ (mIsBlock V b) := bi_f hr11 c12
        refine lv_iconst (v := 0) hx hb d_V_fill_41 (by decide) ?_
        refine W.widen (k := 279) (n := 296448) (by omega) (by omega) ?_
        exact W.zret (ty := .boolean) (v := 0) hx hb hr rfl (fun t9 ht9 hwz => ⟨⟨0, (V, P), rfl, (by unfold mFill; rw [if_pos (Or.inr (Or.inr (Or.inl hq13)))]), by rw [ht9]; exact hW, va_K.moved hwz.alike hK, hN.warm hwz⟩, hS.F ht9⟩) hS.2.2 d_V_fill_42
      · have hq14 : mIsBlock V b := bi_t hr11 c12
        refine lv_iload_n hx hb d_V_fill_25 rfl (lv_at hl 2 rfl) ?_
        refine lv_iload_n hx hb d_V_fill_26 rfl (lv_at hl 3 rfl) ?_
        refine jw_calli (va_runS (As := [.int k, .int n]) (rest := []) ⟨hx, hb, hml, hown, hT⟩ (m_V_isRun l D B cA sh V P k n) (va_cwS 2 hT (gS k259 k179 k1 kc_V_isRun) rfl rfl rfl (by decide +kernel) ⟨Nat.le_of_ble_eq_true rfl, Nat.le_of_ble_eq_true rfl⟩) (jw_preS hW hK hN) rfl rfl hl.1 rfl (lv_room (Nat.le_of_ble_eq_true rfl)) d_V_fill_27 ⟨Nat.le_of_ble_eq_true rfl, Nat.le_of_ble_eq_true rfl⟩) hS (fun r15 V16 P17 H locs hw18 hW hS => ?_)
        obtain ⟨hr19, rfl, rfl⟩ := t3 hw18
        refine lv_if_eq (tgt := 41) hx hb d_V_fill_30 (by decide) (fun c20 => ?_) (fun c20 => ?_)
        · have hq21 : ¬ (mIsRun k n) := bi_f hr19 c20
          refine lv_iconst (v := 0) hx hb d_V_fill_41 (by decide) ?_
          refine W.widen (k := 279) (n := 296448) (by omega) (by omega) ?_
          exact W.zret (ty := .boolean) (v := 0) hx hb hr rfl (fun t9 ht9 hwz => ⟨⟨0, (V, P), rfl, (by unfold mFill; rw [if_pos (Or.inr (Or.inr (Or.inr (Or.inl hq21))))]), by rw [ht9]; exact hW, va_K.moved hwz.alike hK, hN.warm hwz⟩, hS.F ht9⟩) hS.2.2 d_V_fill_42
        · have hq22 : mIsRun k n := bi_t hr19 c20
          refine lv_aload_n hx hb d_V_fill_33 rfl (lv_at hl 0 rfl) ?_
          refine lv_iload_n hx hb d_V_fill_34 rfl (lv_at hl 1 rfl) ?_
          refine jw_calli (va_runV (As := [.int b]) (rest := []) ⟨hx, hb, hml, hown, hT⟩ (m_V_stepTakes l D B cA sh V P b) (cwV 1 hT (gV k260 k262 ks4 k1 kc_V_stepTakes) rfl rfl rfl (by decide +kernel) ⟨Nat.le_of_ble_eq_true rfl, Nat.le_of_ble_eq_true rfl⟩) (jw_preV (q := ("BlockVault", T_V, 5)) hW hK hN rfl rfl) rfl rfl hl.1 rfl (lv_room (Nat.le_of_ble_eq_true rfl)) d_V_fill_35 ⟨Nat.le_of_ble_eq_true rfl, Nat.le_of_ble_eq_true rfl⟩) hS (fun r23 V24 P25 H locs hw26 hW hS => ?_)
          obtain ⟨rfl, rfl, rfl⟩ := t3 hw26
          refine lv_if_ne (tgt := 43) hx hb d_V_fill_38 (by decide) (fun c27 => ?_) (fun c27 => ?_)
          · refine lv_aload_n hx hb d_V_fill_43 rfl (lv_at hl 0 rfl) ?_
            refine va_get (D := D) (ci := 5) (v := .ref (sh 268)) (C := "BlockVault") (T := T_V) (N := 5) hx hb hT in_V hown hK (hW.obj rfl) 0 rfl rfl 2 (by decide) (hT _ k128) (fun _ h9 => h9) rfl d_V_fill_44 ?_
            refine lv_iload_n hx hb d_V_fill_47 rfl (lv_at hl 1 rfl) ?_
            refine lv_aload_n hx hb d_V_fill_48 rfl (lv_at hl 0 rfl) ?_
            refine va_get (D := D) (ci := 5) (v := .ref (sh 267)) (C := "BlockVault") (T := T_V) (N := 5) hx hb hT in_V hown hK (hW.obj rfl) 0 rfl rfl 1 (by decide) (hT _ k127) (fun _ h9 => h9) rfl d_V_fill_49 ?_
            refine jw_callq (va_runV (As := [.int b, .ref (sh 267)]) (rest := []) ⟨hx, hb, hml, hown, hT⟩ (m_C_lookAt l D B cA sh V P b h3) (cwV 2 hT (gV k237 k238 k239 k5 kc_C_lookAt) rfl rfl rfl (by decide +kernel) ⟨Nat.le_of_ble_eq_true rfl, Nat.le_of_ble_eq_true rfl⟩) (jw_preV (q := ("BlockVault$Cache", T_C, 3)) hW hK hN rfl rfl) rfl rfl hl.1 rfl (lv_room (Nat.le_of_ble_eq_true rfl)) d_V_fill_52 ⟨Nat.le_of_ble_eq_true rfl, Nat.le_of_ble_eq_true rfl⟩) hS (fun r28 V29 P30 H locs hw31 hW hS => ?_)
            obtain ⟨rfl, hu0⟩ := hw31
            obtain ⟨rfl, rfl⟩ := tl hu0
            have hlk := mLook_lt V P b
            refine jw_tight hBs hW ?_
            refine lv_astore (lv' := [(5, .ref (sh (232 + (mLook V P b).1))), (0, .ref (sh 266)), (1, .int b), (2, .int k), (3, .int n), (4, .int v)]) hx hb d_V_fill_55 hl (by decide) rfl (fun ls hl => ?_)
            refine lv_aload hx hb d_V_fill_57 (lv_at hl 0 rfl) ?_
            refine lv_iconst (v := 1) hx hb d_V_fill_59 (by decide) ?_
            refine jw_putN (ci := 4) (x := 1) (ty := .boolean) (C := "BlockVault$Row") (T := T_R) (N := 5) hx hb hT in_R t_R t_R_ok n_R hown hK hW hS (lay_row hlk) rfl 3 (by decide) rfl (nf8 hN) (fun _ h9 => h9) rfl (by decide +kernel) rfl rfl d_V_fill_60 (fun H locs hW hS => ?_)
            refine lv_aload hx hb d_V_fill_63 (lv_at hl 0 rfl) ?_
            refine lv_iconst (v := 1) hx hb d_V_fill_65 (by decide) ?_
            refine jw_putN (ci := 4) (x := 1) (ty := .boolean) (C := "BlockVault$Row") (T := T_R) (N := 5) hx hb hT in_R t_R t_R_ok n_R hown hK hW hS (lay_row hlk) rfl 4 (by decide) rfl (nf9 hN) (fun _ h9 => h9) rfl (by decide +kernel) rfl rfl d_V_fill_66 (fun H locs hW hS => ?_)
            refine lv_aload hx hb d_V_fill_69 (lv_at hl 0 rfl) ?_
            refine va_getN (D := D) (ci := 4) (v := .ref (sh (80 + (mLook V P b).1))) (C := "BlockVault$Row") (T := T_R) (N := 5) hx hb hT in_R hown hK (hW.obj (lay_row hlk)) 0 rfl rfl 0 (by decide) (nf2 hN) (fun _ h9 => h9) rfl d_V_fill_71 ?_
            refine lv_iload_n hx hb d_V_fill_74 rfl (lv_at hl 3 rfl) ?_
            refine lv_iload_n hx hb d_V_fill_75 rfl (lv_at hl 4 rfl) ?_
            refine lv_iload hx hb d_V_fill_76 (lv_at hl 5 rfl) ?_
            refine jw_callv (va_runV (As := [.int k, .int n, .int v]) (rest := []) ⟨hx, hb, hml, hown, hT⟩ (m_P_putRun l D B cA sh (v2 (v2 ((mLook V P b).2.1) (232 + (mLook V P b).1) 3 1) (232 + (mLook V P b).1) 4 1) ((mLook V P b).2.2) (80 + (mLook V P b).1) (by omega) k n v) (cwV 3 hT (gV k269 k175 k176 k4 kc_P_putRun) rfl rfl rfl (by decide +kernel) ⟨Nat.le_of_ble_eq_true rfl, Nat.le_of_ble_eq_true rfl⟩) (jw_preP (q := ("BlockVault$Page", T_P, 1)) hW hK hN (by omega) rfl) rfl rfl hl.1 rfl (lv_room (Nat.le_of_ble_eq_true rfl)) d_V_fill_78 ⟨Nat.le_of_ble_eq_true rfl, Nat.le_of_ble_eq_true rfl⟩) hS (fun V33 P34 H locs hw35 hW hS => ?_)
            refine jw_tight hBs hW ?_
            cases hw35
            refine lv_iconst (v := 1) hx hb d_V_fill_81 (by decide) ?_
            refine W.widen (k := 279) (n := 296448) (by omega) (by omega) ?_
            exact W.zret (ty := .boolean) (v := 1) hx hb hr rfl (fun t9 ht9 hwz => ⟨⟨1, ((v2 (v2 ((mLook V P b).2.1) (232 + (mLook V P b).1) 3 1) (232 + (mLook V P b).1) 4 1), (p1 (mLook V P b).2.2 (80 + (mLook V P b).1) (mPut ((mLook V P b).2.2 (80 + (mLook V P b).1)) k n v))), rfl, (by unfold mFill; rw [if_neg (fun q => by rcases q with q | q | q | q | q; exact c5 q; exact c6 q; exact q hq14; exact q hq22; exact c27 q)]; rfl), by rw [ht9]; exact hW, va_K.moved hwz.alike hK, hN.warm hwz⟩, hS.F ht9⟩) hS.2.2 d_V_fill_82
          · refine lv_iconst (v := 0) hx hb d_V_fill_41 (by decide) ?_
            refine W.widen (k := 279) (n := 296448) (by omega) (by omega) ?_
            exact W.zret (ty := .boolean) (v := 0) hx hb hr rfl (fun t9 ht9 hwz => ⟨⟨0, (V, P), rfl, (by unfold mFill; rw [if_pos (Or.inr (Or.inr (Or.inr (Or.inr c27))))]), by rw [ht9]; exact hW, va_K.moved hwz.alike hK, hN.warm hwz⟩, hS.F ht9⟩) hS.2.2 d_V_fill_42

set_option maxHeartbeats 4000000 in
set_option maxRecDepth 100000 in
theorem m_V_count (l : Launch) (D : va_G) (B : Nat) (cA : Nat → ClassId) (sh : Nat → Nat) (V P : VV) (hon : V 267 1 = 0 ∨ V 267 1 = 1) (wh : Int32) : Met l y_V_count w_V_count ({ frames := 1, cells := 0, slots := 0, locals := 25 } : Room) (va_Pc [.ref (sh 266), .int wh] (JC D B cA sh (V, P))) (va_Qi (fun (r : Int32) (u : VV × VV) => (r, u.1, u.2) = (mCount V wh, V, P)) (JC D B cA sh) (hm_A B)) 0 0 (hm_A B) := by
  refine Met.ofW (cc := c_V_count) (maxL := 2) (ret := (some FieldType.int)) (by decide) rfl ?_
  intro p e s m args below meth c s₁ Bd hml hv
  obtain ⟨rfl, hW, hK, hN⟩ := hv
  have hx := Bd.exec
  have hb := Bd.bytes
  have hr := Bd.returns
  have hts := atoms_spec (ws := w_V_count) Bd.pre
  have hT : ∀ w ∈ WG, w.before ([.ref (sh 266), .int wh] : List Value).toArray s = true := fun w h => hts w (List.mem_cons_of_mem _ h)
  have hown : s.vm.findClass "BlockVault" = some m.cls := findClass_of_methodNamed Bd.named
  have hlocks := Bd.notSynchronized
  have hW : JW D B cA sh V P s.heap := hW
  have hBs : B ≤ s.heap.size := hW.ge
  have hS : va_S (hm_A B) s.heap s.heap [] := va_S.rf
  have hl := lv_entry ([.ref (sh 266), .int wh]) (n := 2) (Nat.le_of_ble_eq_true rfl)
  rw [lg_entry_eq]
  generalize (lg_sl ([.ref (sh 266), .int wh]) ++ List.replicate (2 - (lg_sl ([.ref (sh 266), .int wh])).length) Slot.unset).toArray = ls at hl ⊢
  have hl : lv_has ls 2 [(0, .ref (sh 266)), (1, .int wh)] := hl
  refine lv_iload_n hx hb d_V_count_0 rfl (lv_at hl 1 rfl) ?_
  by_cases e0 : wh = 0
  · subst e0
    refine lv_tableIn (off := 43) (tgt := 44) hx hb d_V_count_1 (by decide) (by decide) rfl (by decide) ?_
    refine lv_aload_n hx hb d_V_count_44 rfl (lv_at hl 0 rfl) ?_
    refine va_get (D := D) (ci := 5) (v := .ref (sh 267)) (C := "BlockVault") (T := T_V) (N := 5) hx hb hT in_V hown hK (hW.obj rfl) 0 rfl rfl 1 (by decide) (hT _ k127) (fun _ h9 => h9) rfl d_V_count_45 ?_
    refine jw_calli (va_runV (As := []) (rest := []) ⟨hx, hb, hml, hown, hT⟩ (m_D_isOn l D B cA sh V P hon) (cwV 0 hT (gV k146 k147 k148 k3 kc_D_isOn) rfl rfl rfl (by decide +kernel) ⟨Nat.le_of_ble_eq_true rfl, Nat.le_of_ble_eq_true rfl⟩) (jw_preV (q := ("BlockVault$Disk", T_D, 4)) hW hK hN rfl rfl) rfl rfl hl.1 rfl (lv_room (Nat.le_of_ble_eq_true rfl)) d_V_count_48 ⟨Nat.le_of_ble_eq_true rfl, Nat.le_of_ble_eq_true rfl⟩) hS (fun r1 V2 P3 H locs hw4 hW hS => ?_)
    obtain ⟨rfl, rfl, rfl⟩ := t3 hw4
    refine lv_if_eq (tgt := 58) hx hb d_V_count_51 (by decide) (fun c5 => ?_) (fun c5 => ?_)
    · refine lv_iconst (v := 0) hx hb d_V_count_58 (by decide) ?_
      refine W.widen (k := 0) (n := 0) (by omega) (by omega) ?_
      exact W.iret (v := 0) hx hb hr (fun t9 ht9 hwz => ⟨⟨0, (V, P), rfl, (by simp [mCount, c5]), by rw [ht9]; exact hW, va_K.moved hwz.alike hK, hN.warm hwz⟩, hS.F ht9⟩) hS.2.2 d_V_count_59
    · refine lv_iconst (v := 1) hx hb d_V_count_54 (by decide) ?_
      refine lv_goto (tgt := 59) hx hb d_V_count_55 (by decide) ?_
      refine W.widen (k := 0) (n := 0) (by omega) (by omega) ?_
      exact W.iret (v := 1) hx hb hr (fun t9 ht9 hwz => ⟨⟨1, (V, P), rfl, (by simp [mCount, c5]), by rw [ht9]; exact hW, va_K.moved hwz.alike hK, hN.warm hwz⟩, hS.F ht9⟩) hS.2.2 d_V_count_59
  by_cases e1 : wh = 1
  · subst e1
    refine lv_tableIn (off := 59) (tgt := 60) hx hb d_V_count_1 (by decide) (by decide) rfl (by decide) ?_
    refine lv_aload_n hx hb d_V_count_60 rfl (lv_at hl 0 rfl) ?_
    refine va_get (D := D) (ci := 5) (v := .int (V 266 0)) (C := "BlockVault") (T := T_V) (N := 5) hx hb hT in_V hown hK (hW.obj rfl) 0 rfl rfl 0 (by decide) (hT _ k126) (fun _ h9 => h9) rfl d_V_count_61 ?_
    refine W.widen (k := 0) (n := 0) (by omega) (by omega) ?_
    exact W.iret (v := (V 266 0)) hx hb hr (fun t9 ht9 hwz => ⟨⟨(V 266 0), (V, P), rfl, (by simp [mCount]), by rw [ht9]; exact hW, va_K.moved hwz.alike hK, hN.warm hwz⟩, hS.F ht9⟩) hS.2.2 d_V_count_64
  by_cases e2 : wh = 2
  · subst e2
    refine lv_tableIn (off := 64) (tgt := 65) hx hb d_V_count_1 (by decide) (by decide) rfl (by decide) ?_
    refine lv_aload_n hx hb d_V_count_65 rfl (lv_at hl 0 rfl) ?_
    refine va_get (D := D) (ci := 5) (v := .ref (sh 268)) (C := "BlockVault") (T := T_V) (N := 5) hx hb hT in_V hown hK (hW.obj rfl) 0 rfl rfl 2 (by decide) (hT _ k128) (fun _ h9 => h9) rfl d_V_count_66 ?_
    refine jw_calli (va_runV (As := []) (rest := []) ⟨hx, hb, hml, hown, hT⟩ (m_C_heldRows l D B cA sh V P) (cwV 0 hT (gV k158 k159 k160 k5 kc_C_heldRows) rfl rfl rfl (by decide +kernel) ⟨Nat.le_of_ble_eq_true rfl, Nat.le_of_ble_eq_true rfl⟩) (jw_preV (q := ("BlockVault$Cache", T_C, 3)) hW hK hN rfl rfl) rfl rfl hl.1 rfl (lv_room (Nat.le_of_ble_eq_true rfl)) d_V_count_69 ⟨Nat.le_of_ble_eq_true rfl, Nat.le_of_ble_eq_true rfl⟩) hS (fun r6 V7 P8 H locs hw9 hW hS => ?_)
    obtain ⟨rfl, rfl, rfl⟩ := t3 hw9
    refine W.widen (k := 0) (n := 0) (by omega) (by omega) ?_
    exact W.iret (v := (mCnt V 3)) hx hb hr (fun t9 ht9 hwz => ⟨⟨(mCnt V 3), (V, P), rfl, (by simp [mCount]), by rw [ht9]; exact hW, va_K.moved hwz.alike hK, hN.warm hwz⟩, hS.F ht9⟩) hS.2.2 d_V_count_72
  by_cases e3 : wh = 3
  · subst e3
    refine lv_tableIn (off := 72) (tgt := 73) hx hb d_V_count_1 (by decide) (by decide) rfl (by decide) ?_
    refine lv_aload_n hx hb d_V_count_73 rfl (lv_at hl 0 rfl) ?_
    refine va_get (D := D) (ci := 5) (v := .int (V 266 4)) (C := "BlockVault") (T := T_V) (N := 5) hx hb hT in_V hown hK (hW.obj rfl) 0 rfl rfl 4 (by decide) (hT _ k130) (fun _ h9 => h9) rfl d_V_count_74 ?_
    refine lv_if_eq (tgt := 90) hx hb d_V_count_77 (by decide) (fun c10 => ?_) (fun c10 => ?_)
    · refine lv_iconst (v := (-1)) hx hb d_V_count_90 (by decide) ?_
      refine W.widen (k := 0) (n := 0) (by omega) (by omega) ?_
      exact W.iret (v := (-1)) hx hb hr (fun t9 ht9 hwz => ⟨⟨(-1), (V, P), rfl, (by simp [mCount, c10]), by rw [ht9]; exact hW, va_K.moved hwz.alike hK, hN.warm hwz⟩, hS.F ht9⟩) hS.2.2 d_V_count_91
    · refine lv_aload_n hx hb d_V_count_80 rfl (lv_at hl 0 rfl) ?_
      refine va_get (D := D) (ci := 5) (v := .ref (sh 268)) (C := "BlockVault") (T := T_V) (N := 5) hx hb hT in_V hown hK (hW.obj rfl) 0 rfl rfl 2 (by decide) (hT _ k128) (fun _ h9 => h9) rfl d_V_count_81 ?_
      refine jw_calli (va_runV (As := []) (rest := []) ⟨hx, hb, hml, hown, hT⟩ (m_C_stepRows l D B cA sh V P) (cwV 0 hT (gV k265 k266 k267 k5 kc_C_stepRows) rfl rfl rfl (by decide +kernel) ⟨Nat.le_of_ble_eq_true rfl, Nat.le_of_ble_eq_true rfl⟩) (jw_preV (q := ("BlockVault$Cache", T_C, 3)) hW hK hN rfl rfl) rfl rfl hl.1 rfl (lv_room (Nat.le_of_ble_eq_true rfl)) d_V_count_84 ⟨Nat.le_of_ble_eq_true rfl, Nat.le_of_ble_eq_true rfl⟩) hS (fun r11 V12 P13 H locs hw14 hW hS => ?_)
      obtain ⟨rfl, rfl, rfl⟩ := t3 hw14
      refine lv_goto (tgt := 91) hx hb d_V_count_87 (by decide) ?_
      refine W.widen (k := 0) (n := 0) (by omega) (by omega) ?_
      exact W.iret (v := (mCnt V 4)) hx hb hr (fun t9 ht9 hwz => ⟨⟨(mCnt V 4), (V, P), rfl, (by simp [mCount, c10]), by rw [ht9]; exact hW, va_K.moved hwz.alike hK, hN.warm hwz⟩, hS.F ht9⟩) hS.2.2 d_V_count_91
  by_cases e4 : wh = 4
  · subst e4
    refine lv_tableIn (off := 91) (tgt := 92) hx hb d_V_count_1 (by decide) (by decide) rfl (by decide) ?_
    refine lv_aload_n hx hb d_V_count_92 rfl (lv_at hl 0 rfl) ?_
    refine va_get (D := D) (ci := 5) (v := .ref (sh 267)) (C := "BlockVault") (T := T_V) (N := 5) hx hb hT in_V hown hK (hW.obj rfl) 0 rfl rfl 1 (by decide) (hT _ k127) (fun _ h9 => h9) rfl d_V_count_93 ?_
    refine jw_calli (va_runV (As := []) (rest := []) ⟨hx, hb, hml, hown, hT⟩ (m_D_writesMade l D B cA sh V P) (cwV 0 hT (gV k291 k292 k293 k3 kc_D_writesMade) rfl rfl rfl (by decide +kernel) ⟨Nat.le_of_ble_eq_true rfl, Nat.le_of_ble_eq_true rfl⟩) (jw_preV (q := ("BlockVault$Disk", T_D, 4)) hW hK hN rfl rfl) rfl rfl hl.1 rfl (lv_room (Nat.le_of_ble_eq_true rfl)) d_V_count_96 ⟨Nat.le_of_ble_eq_true rfl, Nat.le_of_ble_eq_true rfl⟩) hS (fun r15 V16 P17 H locs hw18 hW hS => ?_)
    obtain ⟨rfl, rfl, rfl⟩ := t3 hw18
    refine W.widen (k := 0) (n := 0) (by omega) (by omega) ?_
    exact W.iret (v := (V 267 3)) hx hb hr (fun t9 ht9 hwz => ⟨⟨(V 267 3), (V, P), rfl, (by simp [mCount]), by rw [ht9]; exact hW, va_K.moved hwz.alike hK, hN.warm hwz⟩, hS.F ht9⟩) hS.2.2 d_V_count_99
  by_cases e5 : wh = 5
  · subst e5
    refine lv_tableIn (off := 99) (tgt := 100) hx hb d_V_count_1 (by decide) (by decide) rfl (by decide) ?_
    refine lv_aload_n hx hb d_V_count_100 rfl (lv_at hl 0 rfl) ?_
    refine va_get (D := D) (ci := 5) (v := .ref (sh 268)) (C := "BlockVault") (T := T_V) (N := 5) hx hb hT in_V hown hK (hW.obj rfl) 0 rfl rfl 2 (by decide) (hT _ k128) (fun _ h9 => h9) rfl d_V_count_101 ?_
    refine jw_calli (va_runV (As := []) (rest := []) ⟨hx, hb, hml, hown, hT⟩ (m_C_readsMade l D B cA sh V P) (cwV 0 hT (gV k295 k296 k297 k5 kc_C_readsMade) rfl rfl rfl (by decide +kernel) ⟨Nat.le_of_ble_eq_true rfl, Nat.le_of_ble_eq_true rfl⟩) (jw_preV (q := ("BlockVault$Cache", T_C, 3)) hW hK hN rfl rfl) rfl rfl hl.1 rfl (lv_room (Nat.le_of_ble_eq_true rfl)) d_V_count_104 ⟨Nat.le_of_ble_eq_true rfl, Nat.le_of_ble_eq_true rfl⟩) hS (fun r19 V20 P21 H locs hw22 hW hS => ?_)
    obtain ⟨rfl, rfl, rfl⟩ := t3 hw22
    refine W.widen (k := 0) (n := 0) (by omega) (by omega) ?_
    exact W.iret (v := (V 268 2)) hx hb hr (fun t9 ht9 hwz => ⟨⟨(V 268 2), (V, P), rfl, (by simp [mCount]), by rw [ht9]; exact hW, va_K.moved hwz.alike hK, hN.warm hwz⟩, hS.F ht9⟩) hS.2.2 d_V_count_107
  by_cases e6 : wh = 6
  · subst e6
    refine lv_tableIn (off := 107) (tgt := 108) hx hb d_V_count_1 (by decide) (by decide) rfl (by decide) ?_
    refine lv_aload_n hx hb d_V_count_108 rfl (lv_at hl 0 rfl) ?_
    refine va_get (D := D) (ci := 5) (v := .ref (sh 269)) (C := "BlockVault") (T := T_V) (N := 5) hx hb hT in_V hown hK (hW.obj rfl) 0 rfl rfl 3 (by decide) (hT _ k129) (fun _ h9 => h9) rfl d_V_count_109 ?_
    refine jw_calli (va_runV (As := []) (rest := []) ⟨hx, hb, hml, hown, hT⟩ (m_L_commitsCounted l D B cA sh V P) (cwV 0 hT (gV k299 k300 k301 k7 kc_L_commitsCounted) rfl rfl rfl (by decide +kernel) ⟨Nat.le_of_ble_eq_true rfl, Nat.le_of_ble_eq_true rfl⟩) (jw_preV (q := ("BlockVault$Log", T_L, 3)) hW hK hN rfl rfl) rfl rfl hl.1 rfl (lv_room (Nat.le_of_ble_eq_true rfl)) d_V_count_112 ⟨Nat.le_of_ble_eq_true rfl, Nat.le_of_ble_eq_true rfl⟩) hS (fun r23 V24 P25 H locs hw26 hW hS => ?_)
    obtain ⟨rfl, rfl, rfl⟩ := t3 hw26
    refine W.widen (k := 0) (n := 0) (by omega) (by omega) ?_
    exact W.iret (v := (V 269 2)) hx hb hr (fun t9 ht9 hwz => ⟨⟨(V 269 2), (V, P), rfl, (by simp [mCount]), by rw [ht9]; exact hW, va_K.moved hwz.alike hK, hN.warm hwz⟩, hS.F ht9⟩) hS.2.2 d_V_count_115
  refine lv_tableOut (tgt := 116) hx hb d_V_count_1 (out06 e0 e1 e2 e3 e4 e5 e6) (by decide) ?_
  refine lv_iconst (v := (-1)) hx hb d_V_count_116 (by decide) ?_
  refine W.widen (k := 0) (n := 0) (by omega) (by omega) ?_
  exact W.iret (v := (-1)) hx hb hr (fun t9 ht9 hwz => ⟨⟨(-1), (V, P), rfl, (by simp [mCount, e0, e1, e2, e3, e4, e5, e6]), by rw [ht9]; exact hW, va_K.moved hwz.alike hK, hN.warm hwz⟩, hS.F ht9⟩) hS.2.2 d_V_count_117
end
section
/-! THE REFERENCE'S METHODS: rows of its arrays, and what its loops make -/
theorem fit_b {v : Int32} (h : fits .byte (.int v) = true) : v.toInt8.toInt32 = v := by
  have h' : (decide ((-128 : Int32) ≤ v) && decide (v ≤ 127)) = true := h
  rw [Bool.and_eq_true, decide_eq_true_eq, decide_eq_true_eq] at h'
  have h1 := Int32.le_iff_toInt_le.mp h'.1
  have h2 := Int32.le_iff_toInt_le.mp h'.2
  have e1 : (-128 : Int32).toInt = -128 := by decide
  have e2 : (127 : Int32).toInt = 127 := by decide
  rw [e1] at h1
  rw [e2] at h2
  apply Int32.toInt_inj.mp
  rw [Int8.toInt_toInt32, Int32.toInt_toInt8]
  rw [Int.bmod_def]
  split <;> omega
theorem p1_p1 {P : VV} {t : Nat} {f g : Nat → Int32} : p1 (p1 P t f) t g = p1 P t g := by
  funext q
  by_cases hq : q = t
  · rw [hq, p1_s, p1_s]
  · rw [p1_n hq, p1_n hq, p1_n hq]
theorem p1_comm {P : VV} {t t' : Nat} {f g : Nat → Int32} (h : t ≠ t') : p1 (p1 P t f) t' g = p1 (p1 P t' g) t f := by
  funext q
  by_cases h1 : q = t
  · subst h1
    rw [p1_n h, p1_s, p1_s]
  · by_cases h2 : q = t'
    · subst h2
      rw [p1_s, p1_n h1, p1_s]
    · rw [p1_n h2, p1_n h1, p1_n h1, p1_n h2]
theorem zF_0 {f : Nat → Int32} : zF f 0 = f := by
  funext j
  unfold zF
  rw [if_neg (by omega)]
theorem zF_s {f : Nat → Int32} {i : Nat} : upd (zF f i) i 0 = zF f (i + 1) := by
  funext j
  by_cases e : j = i
  · rw [e, pk_us]
    unfold zF
    rw [if_pos (by omega)]
  · rw [pk_un e]
    unfold zF
    by_cases h : j < i
    · rw [if_pos h, if_pos (by omega)]
    · rw [if_neg h, if_neg (by omega)]
theorem z_step {P : VV} {t i : Nat} : p1 (p1 P t (zF (P t) i)) t (upd (p1 P t (zF (P t) i) t) i 0) = p1 P t (zF (P t) (i + 1)) := by
  rw [p1_s, p1_p1, zF_s]
theorem rNow_0 {P : VV} : rNow P 0 = P 274 := by
  funext j
  unfold rNow
  rw [if_neg (by omega)]
theorem rNow_s {P : VV} {i : Nat} : upd (rNow P i) i (P 273 i) = rNow P (i + 1) := by
  funext j
  by_cases e : j = i
  · rw [e, pk_us]
    unfold rNow
    rw [if_pos (by omega)]
  · rw [pk_un e]
    unfold rNow
    by_cases h : j < i
    · rw [if_pos h, if_pos (by omega)]
    · rw [if_neg h, if_neg (by omega)]
theorem now_step {P : VV} {i : Nat} : p1 (p1 P 274 (rNow P i)) 274 (upd (p1 P 274 (rNow P i) 274) i (p1 P 274 (rNow P i) 273 i)) = p1 P 274 (rNow P (i + 1)) := by
  rw [p1_s, p1_p1, p1_n (by omega), rNow_s]
theorem mRun_0 {g : Nat → Int32} {k : Nat} {v : Int32} : mRun g k v 0 = g := by
  funext j
  rw [mRun_at, if_neg (by omega)]
theorem mRun_u {g : Nat → Int32} {k i : Nat} {v : Int32} : upd (mRun g k v i) (k + i) (v + nI i).toInt8.toInt32 = mRun g k v (i + 1) := by
  funext j
  by_cases e : j = k + i
  · rw [e, pk_us, mRun_at, if_pos (by omega), show k + i - k = i by omega]
  · rw [pk_un e, mRun_at, mRun_at]
    by_cases c : k ≤ j ∧ j < k + i
    · rw [if_pos c, if_pos (by omega)]
    · rw [if_neg c, if_neg (by omega)]
theorem run_step {P : VV} {k i : Nat} {v : Int32} : p1 (p1 P 274 (mRun (P 274) k v i)) 274 (upd (p1 P 274 (mRun (P 274) k v i) 274) (k + i) (v + nI i).toInt8.toInt32) = p1 P 274 (mRun (P 274) k v (i + 1)) := by
  rw [p1_s, p1_p1, mRun_u]
/-- a block's bytes on their way into safe -/
def cpy (P : VV) (b n : Nat) : Nat → Int32 := fun j => if 1024 * b ≤ j ∧ j < 1024 * b + n then P 274 j else P 273 j
theorem cpy_0 {P : VV} {b : Nat} : cpy P b 0 = P 273 := by
  funext j
  unfold cpy
  rw [if_neg (by omega)]
theorem cpy_s {P : VV} {b i : Nat} : upd (cpy P b i) (1024 * b + i) (P 274 (1024 * b + i)) = cpy P b (i + 1) := by
  funext j
  by_cases e : j = 1024 * b + i
  · rw [e, pk_us]
    unfold cpy
    rw [if_pos (by omega)]
  · rw [pk_un e]
    unfold cpy
    by_cases c : 1024 * b ≤ j ∧ j < 1024 * b + i
    · rw [if_pos c, if_pos (by omega)]
    · rw [if_neg c, if_neg (by omega)]
theorem cpy_step {P : VV} {b i : Nat} : p1 (p1 P 273 (cpy P b i)) 273 (upd (p1 P 273 (cpy P b i) 273) (1024 * b + i) (p1 P 273 (cpy P b i) 274 (1024 * b + i))) = p1 P 273 (cpy P b (i + 1)) := by
  rw [p1_s, p1_p1, p1_n (by omega), cpy_s]
theorem rSafe_0 {P : VV} : rSafe P 0 = P 273 := by
  funext j
  unfold rSafe
  rw [if_neg (by omega)]
theorem rP_0 {P : VV} : rP P 0 = P := by
  unfold rP
  rw [rSafe_0, zF_0, p1_id, p1_id]
theorem rP_t {P : VV} {i : Nat} : rP P i 275 i = P 275 i := by
  unfold rP
  rw [p1_s]
  unfold zF
  rw [if_neg (by omega)]
/-- a block that isn't held -/
theorem rP_no {P : VV} {i : Nat} (h : P 275 i = 0) : p1 (rP P i) 275 (upd (rP P i 275) i 0) = rP P (i + 1) := by
  have e : rSafe P (i + 1) = rSafe P i := by
    funext j
    unfold rSafe
    by_cases c : j < 1024 * i
    · by_cases d : P 275 (j / 1024) = 0
      · rw [if_neg (fun q => q.2 d), if_neg (fun q => q.2 d)]
      · rw [if_pos ⟨by omega, d⟩, if_pos ⟨c, d⟩]
    · by_cases d : j < 1024 * (i + 1)
      · have hj : j / 1024 = i := by omega
        rw [if_neg (fun q => q.2 (by rw [hj]; exact h)), if_neg (fun q => c q.1)]
      · rw [if_neg (fun q => d q.1), if_neg (fun q => c q.1)]
  unfold rP
  rw [p1_s, p1_p1, zF_s, e]
theorem rP_yes {P : VV} {i : Nat} (h : ¬ P 275 i = 0) : p1 (p1 (rP P i) 273 (cpy (rP P i) i 1024)) 275 (upd (p1 (rP P i) 273 (cpy (rP P i) i 1024) 275) i 0) = rP P (i + 1) := by
  have e : cpy (rP P i) i 1024 = rSafe P (i + 1) := by
    funext j
    have e4 : rP P i 274 = P 274 := rP_o P i (by omega) (by omega)
    have e3 : rP P i 273 = rSafe P i := by
      unfold rP
      rw [p1_n (by omega), p1_s]
    unfold cpy
    rw [e4, e3]
    unfold rSafe
    by_cases c : 1024 * i ≤ j ∧ j < 1024 * i + 1024
    · have hj : j / 1024 = i := by omega
      rw [if_pos c, if_pos ⟨by omega, by rw [hj]; exact h⟩]
    · rw [if_neg c]
      by_cases c2 : j < 1024 * i
      · by_cases d : P 275 (j / 1024) = 0
        · rw [if_neg (fun q => q.2 d), if_neg (fun q => q.2 d)]
        · rw [if_pos ⟨c2, d⟩, if_pos ⟨by omega, d⟩]
      · rw [if_neg (fun q => c2 q.1), if_neg (fun q => by have := q.1; omega)]
  rw [e, p1_n (by omega)]
  unfold rP
  rw [p1_s, p1_comm (show (275 : Nat) ≠ 273 by omega), p1_p1, p1_p1, zF_s]
/-- the blocks of the reference -/
theorem rIsBlock_n {V : VV} {b : Int32} {N : Nat} (hN : V 272 1 = nI N) (h80 : N ≤ 80) (h : rIsBlock V b) : ∃ x, x < N ∧ b = nI x := by
  obtain ⟨h1, h2, -⟩ := h
  obtain ⟨x, x1, x2⟩ := nI_of h1
  subst x2
  rw [hN] at h2
  refine ⟨x, ?_, rfl⟩
  rcases Nat.lt_or_ge x N with q | q
  · exact q
  · exact absurd (nI_le q x1) h2
theorem to1023 {k : Int32} (h1 : ¬ k < 0) (h2 : k ≤ 1023) : ∃ x, x < 1024 ∧ k = nI x := by
  obtain ⟨x, x1, x2⟩ := nI_of h1
  subst x2
  refine ⟨x, ?_, rfl⟩
  have := (nI_leI (b := 1023) x1 (by omega)).mp h2
  omega
theorem ix_k (b k : Nat) : (1024 : Int32) * nI b + nI k = nI (1024 * b + k) := by
  rw [show (1024 : Int32) = nI 1024 by decide, pk_mul, nI_add]
theorem ix_0 (b : Nat) : (1024 : Int32) * nI b = nI (1024 * b) := by
  rw [show (1024 : Int32) = nI 1024 by decide, pk_mul]
theorem ix_e (b : Nat) : (1024 : Int32) * nI b + 1024 = nI (1024 * b + 1024) := ix_k b 1024
theorem ge_81920 {i : Nat} (h : i < 81920) : ¬ (81920 : Int32) ≤ nI i := by
  rw [show (81920 : Int32) = nI 81920 by decide]
  exact nI_ge h (by omega)
theorem le_81920 : (81920 : Int32) ≤ nI 81920 := by
  rw [show (81920 : Int32) = nI 81920 by decide]
  exact nI_le (Nat.le_refl _) (by omega)
theorem rWritten_b (V : VV) (n : Int32) : (rWritten V n).1 = 0 ∨ (rWritten V n).1 = 1 := by
  unfold rWritten
  by_cases c : V 272 10 < 0
  · rw [if_pos c]
    exact Or.inr rfl
  · rw [if_neg c]
    by_cases d : V 272 10 < n
    · rw [if_pos d]
      exact Or.inl rfl
    · rw [if_neg d]
      exact Or.inr rfl
theorem nb_1 {r x : Int32} {V1 V2 P1 P2 : VV} (h : (r, V1, P1) = (x, V2, P2)) (hx : x = 0 ∨ x = 1) : narrow .boolean (.int r) = .int r := by
  cases h
  rcases hx with h | h <;> rw [h] <;> rfl
theorem w10 {V : VV} {n : Int32} {t k : Nat} (h : ¬ (t = 272 ∧ (k = 8 ∨ k = 10 ∨ k = 11))) : (rWritten V n).2 t k = V t k := by
  have q : ∀ j, (j = 8 ∨ j = 10 ∨ j = 11) → ¬ (t = 272 ∧ k = j) := fun j hj hh => h ⟨hh.1, by rw [hh.2]; exact hj⟩
  unfold rWritten
  by_cases c : V 272 10 < 0
  · rw [if_pos c]
    dsimp only
    rw [v2_n (q 10 (by omega)), v2_n (q 11 (by omega))]
  · rw [if_neg c]
    by_cases d : V 272 10 < n
    · rw [if_pos d]
      dsimp only
      rw [v2_n (q 8 (by omega)), v2_n (q 10 (by omega)), v2_n (q 11 (by omega))]
    · rw [if_neg d]
      dsimp only
      rw [v2_n (q 10 (by omega)), v2_n (q 11 (by omega))]
section MDR
variable {p : Program} {l : Launch} {e : Env} {R : Room} {s : State} {m : MethodId} {args : Array Value} {below : List Frame} {meth : Method} {c : Code} {H : Heap} {locs : List Loc} {cells slots : Nat} {Q : State → Prop}
variable {cc : ByteArray} {pc : Nat} {ls : Array Slot} {rest : List Value} {D : va_G} {B : Nat} {cA : Nat → ClassId} {sh : Nat → Nat} {V P : VV} {H0 : Heap}
theorem jw_zald (hexec : p.tables.exec = Jvm.exec) (hb : c.code = cc) (hK : va_K D vwCl (tysA cA) s) (hW : JW D B cA sh V P H) {t i : Nat} (hm : mar t = some (80, 3)) {x : Int32} (hx : x = nI i) (hi : i < 80) (hdg : decode cc pc = .ok (.baload, 1))
    (kk : W p l e R s m args below meth c H locs cells slots Q (F0 m (pc + 1) ls (.int (P t i) :: rest))) : W p l e R s m args below meth c H locs cells slots Q (F0 m pc ls (.int x :: .ref (sh t) :: rest)) := by
  subst hx
  refine va_zald hexec hb hK (hW.mar hm) 0 3 rfl rfl (vp_in_nI hi (by omega)) hdg ?_
  rw [nI_clamp (by omega)]
  exact kk
theorem jw_bald (hexec : p.tables.exec = Jvm.exec) (hb : c.code = cc) (hK : va_K D vwCl (tysA cA) s) (hW : JW D B cA sh V P H) {t i : Nat} (hm : mar t = some (81920, 0)) {x : Int32} (hx : x = nI i) (hi : i < 81920) (hdg : decode cc pc = .ok (.baload, 1))
    (kk : (P t i).toInt8.toInt32 = P t i → W p l e R s m args below meth c H locs cells slots Q (F0 m (pc + 1) ls (.int (P t i) :: rest))) : W p l e R s m args below meth c H locs cells slots Q (F0 m pc ls (.int x :: .ref (sh t) :: rest)) := by
  subst hx
  have hf : bfit (P t) 81920 := by
    obtain ⟨h, hP, hJ⟩ := hW
    rcases mar_byte hm with h1 | h1
    · rw [h1]
      exact hJ.2.2.2.2.2.1
    · rw [h1]
      exact hJ.2.2.2.2.2.2
  refine va_bald hexec hb hK (hW.mar hm) 0 0 rfl rfl (vp_in_nI hi (by omega)) hdg ?_
  rw [nI_clamp (by omega)]
  exact kk (fit_b (hf i hi))
theorem jw_iald (hexec : p.tables.exec = Jvm.exec) (hb : c.code = cc) (hK : va_K D vwCl (tysA cA) s) (hW : JW D B cA sh V P H) {i : Nat} {x : Int32} (hx : x = nI i) (hi : i < 80) (hdg : decode cc pc = .ok (.iaload, 1))
    (kk : W p l e R s m args below meth c H locs cells slots Q (F0 m (pc + 1) ls (.int (P 277 i) :: rest))) : W p l e R s m args below meth c H locs cells slots Q (F0 m pc ls (.int x :: .ref (sh 277) :: rest)) := by
  subst hx
  refine va_iald hexec hb hK (hW.mar (t := 277) (n := 80) (k := 4) rfl) 0 4 rfl rfl (vp_in_nI hi (by omega)) hdg ?_
  rw [nI_clamp (by omega)]
  exact kk
theorem jw_ialdI (hexec : p.tables.exec = Jvm.exec) (hb : c.code = cc) (hK : va_K D vwCl (tysA cA) s) (hW : JW D B cA sh V P H) {x : Int32} (hi : vp_in x 80) (hdg : decode cc pc = .ok (.iaload, 1))
    (kk : W p l e R s m args below meth c H locs cells slots Q (F0 m (pc + 1) ls (.int (P 277 x.toNatClampNeg) :: rest))) : W p l e R s m args below meth c H locs cells slots Q (F0 m pc ls (.int x :: .ref (sh 277) :: rest)) :=
  va_iald hexec hb hK (hW.mar (t := 277) (n := 80) (k := 4) rfl) 0 4 rfl rfl hi hdg kk
theorem jw_zastN (hexec : p.tables.exec = Jvm.exec) (hb : c.code = cc) (hK : va_K D vwCl (tysA cA) s) (hW : JW D B cA sh V P H) (hS : va_S (hm_A B) H0 H locs) {t i : Nat} (hm : mar t = some (80, 3)) {x v : Int32} (hx : x = nI i) (hi : i < 80) (hv : vp_nar .boolean v = v) (hdg : decode cc pc = .ok (.bastore, 1))
    (kk : ∀ (H1 : Heap) (locs1 : List Loc), JW D B cA sh V (p1 P t (upd (P t) i v)) H1 → va_S (hm_A B) H0 H1 locs1 → W p l e R s m args below meth c H1 locs1 cells slots Q (F0 m (pc + 1) ls rest)) : W p l e R s m args below meth c H locs cells slots Q (F0 m pc ls (.int v :: .int x :: .ref (sh t) :: rest)) := by
  subst hx
  refine jw_zast hexec hb hK hW hS hm (vp_in_nI hi (by omega)) hdg (fun H1 locs1 hW1 hS1 => kk H1 locs1 ?_ hS1)
  rw [nI_clamp (by omega), hv] at hW1
  exact hW1
theorem jw_bastN (hexec : p.tables.exec = Jvm.exec) (hb : c.code = cc) (hK : va_K D vwCl (tysA cA) s) (hW : JW D B cA sh V P H) (hS : va_S (hm_A B) H0 H locs) {t i : Nat} (hm : mar t = some (81920, 0)) {x v : Int32} (hx : x = nI i) (hi : i < 81920) (hv : v.toInt8.toInt32 = v) (hdg : decode cc pc = .ok (.bastore, 1))
    (kk : ∀ (H1 : Heap) (locs1 : List Loc), JW D B cA sh V (p1 P t (upd (P t) i v)) H1 → va_S (hm_A B) H0 H1 locs1 → W p l e R s m args below meth c H1 locs1 cells slots Q (F0 m (pc + 1) ls rest)) : W p l e R s m args below meth c H locs cells slots Q (F0 m pc ls (.int v :: .int x :: .ref (sh t) :: rest)) := by
  subst hx
  refine jw_bast hexec hb hK hW hS hm (vp_in_nI hi (by omega)) hdg (fun H1 locs1 hW1 hS1 => kk H1 locs1 ?_ hS1)
  rw [nI_clamp (by omega), hv] at hW1
  exact hW1
theorem jw_iastN (hexec : p.tables.exec = Jvm.exec) (hb : c.code = cc) (hK : va_K D vwCl (tysA cA) s) (hW : JW D B cA sh V P H) (hS : va_S (hm_A B) H0 H locs) {i : Nat} {x v : Int32} (hx : x = nI i) (hi : i < 80) (hdg : decode cc pc = .ok (.iastore, 1))
    (kk : ∀ (H1 : Heap) (locs1 : List Loc), JW D B cA sh V (p1 P 277 (upd (P 277) i v)) H1 → va_S (hm_A B) H0 H1 locs1 → W p l e R s m args below meth c H1 locs1 cells slots Q (F0 m (pc + 1) ls rest)) : W p l e R s m args below meth c H locs cells slots Q (F0 m pc ls (.int v :: .int x :: .ref (sh 277) :: rest)) := by
  subst hx
  refine jw_iast hexec hb hK hW hS (vp_in_nI hi (by omega)) hdg (fun H1 locs1 hW1 hS1 => kk H1 locs1 ?_ hS1)
  rw [nI_clamp (by omega)] at hW1
  exact hW1
end MDR
end
section
set_option maxHeartbeats 4000000 in
set_option maxRecDepth 100000 in
theorem m_M_isBlock (l : Launch) (D : va_G) (B : Nat) (cA : Nat → ClassId) (sh : Nat → Nat) (V P : VV) (b : Int32) : Met l y_M_isBlock w_M_isBlock ({ frames := 0, cells := 0, slots := 0, locals := 0 } : Room) (va_Pc [.ref (sh 272), .int b] (JC D B cA sh (V, P))) (va_Qi (fun (r : Int32) (u : VV × VV) => (r, u.1, u.2) = (if rIsBlock V b then 1 else 0, V, P)) (JC D B cA sh) (hm_A B)) 0 0 (hm_A B) := by
  refine Met.ofW (cc := c_M_isBlock) (maxL := 2) (ret := (some FieldType.boolean)) (by decide) rfl ?_
  intro p e s m args below meth c s₁ Bd hml hv
  obtain ⟨rfl, hW, hK, hN⟩ := hv
  have hx := Bd.exec
  have hb := Bd.bytes
  have hr := Bd.returns
  have hts := atoms_spec (ws := w_M_isBlock) Bd.pre
  have hT : ∀ w ∈ WG, w.before ([.ref (sh 272), .int b] : List Value).toArray s = true := fun w h => hts w (List.mem_cons_of_mem _ h)
  have hown : s.vm.findClass "BlockVaultModel" = some m.cls := findClass_of_methodNamed Bd.named
  have hlocks := Bd.notSynchronized
  have hW : JW D B cA sh V P s.heap := hW
  have hBs : B ≤ s.heap.size := hW.ge
  have hS : va_S (hm_A B) s.heap s.heap [] := va_S.rf
  have hl := lv_entry ([.ref (sh 272), .int b]) (n := 2) (Nat.le_of_ble_eq_true rfl)
  rw [lg_entry_eq]
  generalize (lg_sl ([.ref (sh 272), .int b]) ++ List.replicate (2 - (lg_sl ([.ref (sh 272), .int b])).length) Slot.unset).toArray = ls at hl ⊢
  have hl : lv_has ls 2 [(0, .ref (sh 272)), (1, .int b)] := hl
  refine lv_iload_n hx hb d_M_isBlock_0 rfl (lv_at hl 1 rfl) ?_
  refine lv_if_lt (tgt := 27) hx hb d_M_isBlock_1 (by decide) (fun c1 => ?_) (fun c1 => ?_)
  · refine lv_iconst (v := 0) hx hb d_M_isBlock_27 (by decide) ?_
    refine W.widen (k := 0) (n := 0) (by omega) (by omega) ?_
    exact W.zret (ty := .boolean) (v := 0) hx hb hr rfl (fun t9 ht9 hwz => ⟨⟨0, (V, P), rfl, (by simp [rIsBlock, c1]), by rw [ht9]; exact hW, va_K.moved hwz.alike hK, hN.warm hwz⟩, hS.F ht9⟩) hS.2.2 d_M_isBlock_28
  · refine lv_iload_n hx hb d_M_isBlock_4 rfl (lv_at hl 1 rfl) ?_
    refine lv_aload_n hx hb d_M_isBlock_5 rfl (lv_at hl 0 rfl) ?_
    refine va_get (D := D) (ci := 6) (v := .int (V 272 1)) (C := "BlockVaultModel") (T := T_M) (N := 15) hx hb hT in_M hown hK (hW.obj rfl) 0 rfl rfl 1 (by decide) (hT _ k322) (fun _ h9 => h9) rfl d_M_isBlock_6 ?_
    refine lv_icmp_ge (tgt := 27) hx hb d_M_isBlock_9 (by decide) (fun c2 => ?_) (fun c2 => ?_)
    · refine lv_iconst (v := 0) hx hb d_M_isBlock_27 (by decide) ?_
      refine W.widen (k := 0) (n := 0) (by omega) (by omega) ?_
      exact W.zret (ty := .boolean) (v := 0) hx hb hr rfl (fun t9 ht9 hwz => ⟨⟨0, (V, P), rfl, (by simp [rIsBlock, c1, c2]), by rw [ht9]; exact hW, va_K.moved hwz.alike hK, hN.warm hwz⟩, hS.F ht9⟩) hS.2.2 d_M_isBlock_28
    · refine lv_iload_n hx hb d_M_isBlock_12 rfl (lv_at hl 1 rfl) ?_
      refine lv_iconst (v := 2) hx hb d_M_isBlock_13 (by decide) ?_
      refine lv_icmp_lt (tgt := 23) hx hb d_M_isBlock_14 (by decide) (fun c3 => ?_) (fun c3 => ?_)
      · refine lv_iconst (v := 1) hx hb d_M_isBlock_23 (by decide) ?_
        refine lv_goto (tgt := 28) hx hb d_M_isBlock_24 (by decide) ?_
        refine W.widen (k := 0) (n := 0) (by omega) (by omega) ?_
        exact W.zret (ty := .boolean) (v := 1) hx hb hr rfl (fun t9 ht9 hwz => ⟨⟨1, (V, P), rfl, (by simp [rIsBlock, c1, c2, c3]), by rw [ht9]; exact hW, va_K.moved hwz.alike hK, hN.warm hwz⟩, hS.F ht9⟩) hS.2.2 d_M_isBlock_28
      · refine lv_iload_n hx hb d_M_isBlock_17 rfl (lv_at hl 1 rfl) ?_
        refine lv_bipush (v := 32) hx hb d_M_isBlock_18 (by decide) ?_
        refine lv_icmp_le (tgt := 27) hx hb d_M_isBlock_20 (by decide) (fun c4 => ?_) (fun c4 => ?_)
        · refine lv_iconst (v := 0) hx hb d_M_isBlock_27 (by decide) ?_
          refine W.widen (k := 0) (n := 0) (by omega) (by omega) ?_
          exact W.zret (ty := .boolean) (v := 0) hx hb hr rfl (fun t9 ht9 hwz => ⟨⟨0, (V, P), rfl, (by simp [rIsBlock, c1, c2, c3, c4]), by rw [ht9]; exact hW, va_K.moved hwz.alike hK, hN.warm hwz⟩, hS.F ht9⟩) hS.2.2 d_M_isBlock_28
        · refine lv_iconst (v := 1) hx hb d_M_isBlock_23 (by decide) ?_
          refine lv_goto (tgt := 28) hx hb d_M_isBlock_24 (by decide) ?_
          refine W.widen (k := 0) (n := 0) (by omega) (by omega) ?_
          exact W.zret (ty := .boolean) (v := 1) hx hb hr rfl (fun t9 ht9 hwz => ⟨⟨1, (V, P), rfl, (by simp [rIsBlock, c1, c2, c3, c4]), by rw [ht9]; exact hW, va_K.moved hwz.alike hK, hN.warm hwz⟩, hS.F ht9⟩) hS.2.2 d_M_isBlock_28

set_option maxHeartbeats 4000000 in
set_option maxRecDepth 100000 in
theorem m_M_many (l : Launch) (D : va_G) (B : Nat) (cA : Nat → ClassId) (sh : Nat → Nat) (V P : VV) (t : Nat) (hm : mar t = some (80, 3)) : Met l y_M_many w_M_many ({ frames := 0, cells := 0, slots := 0, locals := 0 } : Room) (va_Pc [.ref (sh t)] (JC D B cA sh (V, P))) (va_Qi (fun (r : Int32) (u : VV × VV) => (r, u.1, u.2) = (rMany (P t), V, P)) (JC D B cA sh) (hm_A B)) 0 0 (hm_A B) := by
  refine Met.ofW (cc := c_M_many) (maxL := 3) (ret := (some FieldType.int)) (by decide) rfl ?_
  intro p e s m args below meth c s₁ Bd hml hv
  obtain ⟨rfl, hW, hK, hN⟩ := hv
  have hx := Bd.exec
  have hb := Bd.bytes
  have hr := Bd.returns
  have hts := atoms_spec (ws := w_M_many) Bd.pre
  have hT : ∀ w ∈ WG, w.before ([.ref (sh t)] : List Value).toArray s = true := fun w h => hts w (List.mem_cons_of_mem _ h)
  have hown : s.vm.findClass "BlockVaultModel" = some m.cls := findClass_of_methodNamed Bd.named
  have hlocks := Bd.notSynchronized
  have hW : JW D B cA sh V P s.heap := hW
  have hBs : B ≤ s.heap.size := hW.ge
  have hS : va_S (hm_A B) s.heap s.heap [] := va_S.rf
  have hl := lv_entry ([.ref (sh t)]) (n := 3) (Nat.le_of_ble_eq_true rfl)
  rw [lg_entry_eq]
  generalize (lg_sl ([.ref (sh t)]) ++ List.replicate (3 - (lg_sl ([.ref (sh t)])).length) Slot.unset).toArray = ls at hl ⊢
  have hl : lv_has ls 3 [(0, .ref (sh t))] := hl
  refine lv_iconst (v := 0) hx hb d_M_many_0 (by decide) ?_
  refine lv_istore_n (lv' := [(1, .int 0), (0, .ref (sh t))]) hx hb d_M_many_1 rfl hl (by decide) rfl (fun ls hl => ?_)
  refine lv_iconst (v := 0) hx hb d_M_many_2 (by decide) ?_
  refine lv_istore_n (lv' := [(2, .int 0), (1, .int 0), (0, .ref (sh t))]) hx hb d_M_many_3 rfl hl (by decide) rfl (fun ls hl => ?_)
  have loop : ∀ (n i : Nat) (a : Int32) (H : Heap) (locs : List Loc) (ls : Array Slot), i + n = 80 → (cM (P t) n i a = rMany (P t)) → JW D B cA sh V P H → va_S (hm_A B) s.heap H locs → lv_has ls 3 [(2, .int (nI i)), (1, .int a), (0, .ref (sh t))] → W p l e (headSpec w_M_many ({ frames := 0, cells := 0, slots := 0, locals := 0 } : Room)).room s m ([.ref (sh t)] : List Value).toArray below meth c H locs 0 0 (MQ below (va_Qi (fun (r : Int32) (u : VV × VV) => (r, u.1, u.2) = (rMany (P t), V, P)) (JC D B cA sh) (hm_A B)) ([.ref (sh t)] : List Value).toArray s 0 0 (hm_A B)) (F0 m 4 ls []) := by
    intro n
    induction n with
    | zero =>
      intro i a H locs ls hin hinv hW hS hl
      obtain rfl : i = 80 := by omega
      refine lv_iload_n hx hb d_M_many_4 rfl (lv_at hl 0 rfl) ?_
      refine lv_bipush (v := 80) hx hb d_M_many_5 (by decide) ?_
      refine lv_icmp_ge (tgt := 30) hx hb d_M_many_7 (by decide) (fun c1 => ?_) (fun c1 => ?_)
      · refine lv_iload_n hx hb d_M_many_30 rfl (lv_at hl 1 rfl) ?_
        refine W.widen (k := 0) (n := 0) (by omega) (by omega) ?_
        exact W.iret (v := a) hx hb hr (fun t9 ht9 hwz => ⟨⟨a, (V, P), rfl, (by rw [← hinv]; rfl), by rw [ht9]; exact hW, va_K.moved hwz.alike hK, hN.warm hwz⟩, hS.F ht9⟩) hS.2.2 d_M_many_31
      · exact absurd (by decide) c1
    | succ n ih =>
      intro i a H locs ls hin hinv hW hS hl
      have hi : i < 80 := by omega
      refine lv_iload_n hx hb d_M_many_4 rfl (lv_at hl 0 rfl) ?_
      refine lv_bipush (v := 80) hx hb d_M_many_5 (by decide) ?_
      refine lv_icmp_ge (tgt := 30) hx hb d_M_many_7 (by decide) (fun c2 => ?_) (fun c2 => ?_)
      · exact absurd c2 (nI_ge (b := 80) (by omega) (by omega))
      · refine lv_iload_n hx hb d_M_many_10 rfl (lv_at hl 1 rfl) ?_
        refine lv_aload_n hx hb d_M_many_11 rfl (lv_at hl 2 rfl) ?_
        refine lv_iload_n hx hb d_M_many_12 rfl (lv_at hl 0 rfl) ?_
        refine jw_zald (t := t) (i := i) hx hb hK hW hm rfl (by omega) d_M_many_13 ?_
        refine lv_if_eq (tgt := 21) hx hb d_M_many_14 (by decide) (fun c3 => ?_) (fun c3 => ?_)
        · refine lv_iconst (v := 0) hx hb d_M_many_21 (by decide) ?_
          refine lv_iadd hx hb d_M_many_22 ?_
          refine lv_istore_n (lv' := [(1, .int (a + 0)), (2, .int (nI i)), (0, .ref (sh t))]) hx hb d_M_many_23 rfl hl (by decide) rfl (fun ls hl => ?_)
          refine lv_iinc (v := ((nI i) + 1)) (lv' := [(2, .int ((nI i) + 1)), (1, .int (a + 0)), (0, .ref (sh t))]) hx hb d_M_many_24 hl (k := 1) rfl rfl (by decide) rfl (fun ls hl => ?_)
          refine lv_goto (tgt := 4) hx hb d_M_many_27 (by decide) ?_
          exact ih (i + 1) (a + 0) H locs ls (by omega) (by rw [← hinv]; simp only [cM]; rw [if_pos c3]) hW hS (by rw [← nI_1]; exact lv_sub hl [0, 1, 2] rfl)
        · refine lv_iconst (v := 1) hx hb d_M_many_17 (by decide) ?_
          refine lv_goto (tgt := 22) hx hb d_M_many_18 (by decide) ?_
          refine lv_iadd hx hb d_M_many_22 ?_
          refine lv_istore_n (lv' := [(1, .int (a + 1)), (2, .int (nI i)), (0, .ref (sh t))]) hx hb d_M_many_23 rfl hl (by decide) rfl (fun ls hl => ?_)
          refine lv_iinc (v := ((nI i) + 1)) (lv' := [(2, .int ((nI i) + 1)), (1, .int (a + 1)), (0, .ref (sh t))]) hx hb d_M_many_24 hl (k := 1) rfl rfl (by decide) rfl (fun ls hl => ?_)
          refine lv_goto (tgt := 4) hx hb d_M_many_27 (by decide) ?_
          exact ih (i + 1) (a + 1) H locs ls (by omega) (by rw [← hinv]; simp only [cM]; rw [if_neg c3]) hW hS (by rw [← nI_1]; exact lv_sub hl [0, 1, 2] rfl)
  exact loop 80 0 0 _ _ ls (by omega) (rfl) hW hS (lv_sub hl [0, 1, 2] rfl)

set_option maxHeartbeats 4000000 in
set_option maxRecDepth 100000 in
theorem m_M_begin (l : Launch) (D : va_G) (B : Nat) (cA : Nat → ClassId) (sh : Nat → Nat) (V P : VV) : Met l y_M_begin w_M_begin ({ frames := 0, cells := 0, slots := 0, locals := 0 } : Room) (va_Pc [.ref (sh 272)] (JC D B cA sh (V, P))) (va_Qi (fun (r : Int32) (u : VV × VV) => (r, u.1, u.2) = rBegin V P) (JC D B cA sh) (hm_A B)) 0 0 (hm_A B) := by
  refine Met.ofW (cc := c_M_begin) (maxL := 2) (ret := (some FieldType.boolean)) (by decide) rfl ?_
  intro p e s m args below meth c s₁ Bd hml hv
  obtain ⟨rfl, hW, hK, hN⟩ := hv
  have hx := Bd.exec
  have hb := Bd.bytes
  have hr := Bd.returns
  have hts := atoms_spec (ws := w_M_begin) Bd.pre
  have hT : ∀ w ∈ WG, w.before ([.ref (sh 272)] : List Value).toArray s = true := fun w h => hts w (List.mem_cons_of_mem _ h)
  have hown : s.vm.findClass "BlockVaultModel" = some m.cls := findClass_of_methodNamed Bd.named
  have hlocks := Bd.notSynchronized
  have hW : JW D B cA sh V P s.heap := hW
  have hBs : B ≤ s.heap.size := hW.ge
  have hS : va_S (hm_A B) s.heap s.heap [] := va_S.rf
  have hl := lv_entry ([.ref (sh 272)]) (n := 2) (Nat.le_of_ble_eq_true rfl)
  rw [lg_entry_eq]
  generalize (lg_sl ([.ref (sh 272)]) ++ List.replicate (2 - (lg_sl ([.ref (sh 272)])).length) Slot.unset).toArray = ls at hl ⊢
  have hl : lv_has ls 2 [(0, .ref (sh 272))] := hl
  refine lv_aload_n hx hb d_M_begin_0 rfl (lv_at hl 0 rfl) ?_
  refine lv_iconst (v := 0) hx hb d_M_begin_1 (by decide) ?_
  refine jw_put (ci := 6) (x := 0) (ty := .int) (C := "BlockVaultModel") (T := T_M) (N := 15) hx hb hT in_M t_M t_M_ok n_M hown hK hW hS rfl rfl 0 (by decide) rfl (hT _ k321) (fun _ h9 => h9) rfl (by decide +kernel) rfl rfl d_M_begin_2 (fun H locs hW hS => ?_)
  refine lv_aload_n hx hb d_M_begin_5 rfl (lv_at hl 0 rfl) ?_
  refine va_get (D := D) (ci := 6) (v := .int (V 272 8)) (C := "BlockVaultModel") (T := T_M) (N := 15) hx hb hT in_M hown hK (hW.obj rfl) 0 rfl rfl 8 (by decide) (hT _ k329) (fun _ h9 => h9) rfl d_M_begin_6 ?_
  refine lv_if_eq (tgt := 19) hx hb d_M_begin_9 (by decide) (fun c1 => ?_) (fun c1 => ?_)
  · refine lv_iconst (v := 0) hx hb d_M_begin_19 (by decide) ?_
    refine W.widen (k := 0) (n := 0) (by omega) (by omega) ?_
    exact W.zret (ty := .boolean) (v := 0) hx hb hr rfl (fun t9 ht9 hwz => ⟨⟨0, ((v2 V 272 0 0), P), rfl, (by unfold rBegin; rw [if_pos (Or.inl c1)]; rfl), by rw [ht9]; exact hW, va_K.moved hwz.alike hK, hN.warm hwz⟩, hS.F ht9⟩) hS.2.2 d_M_begin_20
  · refine lv_aload_n hx hb d_M_begin_12 rfl (lv_at hl 0 rfl) ?_
    refine va_get (D := D) (ci := 6) (v := .int (V 272 9)) (C := "BlockVaultModel") (T := T_M) (N := 15) hx hb hT in_M hown hK (hW.obj rfl) 0 rfl rfl 9 (by decide) (hT _ k330) (fun _ h9 => h9) rfl d_M_begin_13 ?_
    refine lv_if_eq (tgt := 21) hx hb d_M_begin_16 (by decide) (fun c2 => ?_) (fun c2 => ?_)
    · refine lv_aload_n hx hb d_M_begin_21 rfl (lv_at hl 0 rfl) ?_
      refine lv_iconst (v := 1) hx hb d_M_begin_22 (by decide) ?_
      refine jw_put (ci := 6) (x := 1) (ty := .boolean) (C := "BlockVaultModel") (T := T_M) (N := 15) hx hb hT in_M t_M t_M_ok n_M hown hK hW hS rfl rfl 9 (by decide) rfl (hT _ k330) (fun _ h9 => h9) rfl (by decide +kernel) rfl rfl d_M_begin_23 (fun H locs hW hS => ?_)
      refine lv_iconst (v := 0) hx hb d_M_begin_26 (by decide) ?_
      refine lv_istore_n (lv' := [(1, .int 0), (0, .ref (sh 272))]) hx hb d_M_begin_27 rfl hl (by decide) rfl (fun ls hl => ?_)
      have loop : ∀ (n i : Nat) (Va Pa : VV) (H : Heap) (locs : List Loc) (ls : Array Slot), i + n = 80 → (Va = (v2 (v2 V 272 0 0) 272 9 1) ∧ Pa = p1 P 276 (zF (P 276) i)) → JW D B cA sh Va Pa H → va_S (hm_A B) s.heap H locs → lv_has ls 2 [(1, .int (nI i)), (0, .ref (sh 272))] → W p l e (headSpec w_M_begin ({ frames := 0, cells := 0, slots := 0, locals := 0 } : Room)).room s m ([.ref (sh 272)] : List Value).toArray below meth c H locs 0 0 (MQ below (va_Qi (fun (r : Int32) (u : VV × VV) => (r, u.1, u.2) = rBegin V P) (JC D B cA sh) (hm_A B)) ([.ref (sh 272)] : List Value).toArray s 0 0 (hm_A B)) (F0 m 28 ls []) := by
        intro n
        induction n with
        | zero =>
          intro i Va Pa H locs ls hin hinv hW hS hl
          obtain rfl : i = 80 := by omega
          refine lv_iload_n hx hb d_M_begin_28 rfl (lv_at hl 0 rfl) ?_
          refine lv_bipush (v := 80) hx hb d_M_begin_29 (by decide) ?_
          refine lv_icmp_ge (tgt := 47) hx hb d_M_begin_31 (by decide) (fun c3 => ?_) (fun c3 => ?_)
          · refine lv_iconst (v := 1) hx hb d_M_begin_47 (by decide) ?_
            refine W.widen (k := 0) (n := 0) (by omega) (by omega) ?_
            exact W.zret (ty := .boolean) (v := 1) hx hb hr rfl (fun t9 ht9 hwz => ⟨⟨1, (Va, Pa), rfl, (by rw [hinv.1, hinv.2]; unfold rBegin; rw [if_neg (fun q => q.elim c1 (fun z => z c2))]; rfl), by rw [ht9]; exact hW, va_K.moved hwz.alike hK, hN.warm hwz⟩, hS.F ht9⟩) hS.2.2 d_M_begin_48
          · exact absurd (by decide) c3
        | succ n ih =>
          intro i Va Pa H locs ls hin hinv hW hS hl
          have hi : i < 80 := by omega
          refine lv_iload_n hx hb d_M_begin_28 rfl (lv_at hl 0 rfl) ?_
          refine lv_bipush (v := 80) hx hb d_M_begin_29 (by decide) ?_
          refine lv_icmp_ge (tgt := 47) hx hb d_M_begin_31 (by decide) (fun c4 => ?_) (fun c4 => ?_)
          · exact absurd c4 (nI_ge (b := 80) (by omega) (by omega))
          · refine lv_aload_n hx hb d_M_begin_34 rfl (lv_at hl 1 rfl) ?_
            refine va_get (D := D) (ci := 6) (v := .ref (sh 276)) (C := "BlockVaultModel") (T := T_M) (N := 15) hx hb hT in_M hown hK (hW.obj rfl) 0 rfl rfl 5 (by decide) (hT _ k326) (fun _ h9 => h9) rfl d_M_begin_35 ?_
            refine lv_iload_n hx hb d_M_begin_38 rfl (lv_at hl 0 rfl) ?_
            refine lv_iconst (v := 0) hx hb d_M_begin_39 (by decide) ?_
            refine jw_zastN (t := 276) (i := i) hx hb hK hW hS rfl rfl (by omega) rfl d_M_begin_40 (fun H locs hW hS => ?_)
            refine lv_iinc (v := ((nI i) + 1)) (lv' := [(1, .int ((nI i) + 1)), (0, .ref (sh 272))]) hx hb d_M_begin_41 hl (k := 0) rfl rfl (by decide) rfl (fun ls hl => ?_)
            refine lv_goto (tgt := 28) hx hb d_M_begin_44 (by decide) ?_
            exact ih (i + 1) Va (p1 Pa 276 (upd (Pa 276) i 0)) H locs ls (by omega) (⟨hinv.1, by rw [hinv.2]; exact z_step⟩) hW hS (by rw [← nI_1]; exact lv_sub hl [0, 1] rfl)
      exact loop 80 0 (v2 (v2 V 272 0 0) 272 9 1) P _ _ ls (by omega) (⟨rfl, by rw [zF_0, p1_id]⟩) hW hS (lv_sub hl [0, 1] rfl)
    · refine lv_iconst (v := 0) hx hb d_M_begin_19 (by decide) ?_
      refine W.widen (k := 0) (n := 0) (by omega) (by omega) ?_
      exact W.zret (ty := .boolean) (v := 0) hx hb hr rfl (fun t9 ht9 hwz => ⟨⟨0, ((v2 V 272 0 0), P), rfl, (by unfold rBegin; rw [if_pos (Or.inr c2)]; rfl), by rw [ht9]; exact hW, va_K.moved hwz.alike hK, hN.warm hwz⟩, hS.F ht9⟩) hS.2.2 d_M_begin_20

set_option maxHeartbeats 4000000 in
set_option maxRecDepth 100000 in
theorem m_M_written (l : Launch) (D : va_G) (B : Nat) (cA : Nat → ClassId) (sh : Nat → Nat) (V P : VV) (n : Int32) : Met l y_M_written w_M_written ({ frames := 0, cells := 0, slots := 0, locals := 0 } : Room) (va_Pc [.ref (sh 272), .int n] (JC D B cA sh (V, P))) (va_Qi (fun (r : Int32) (u : VV × VV) => (r, u.1, u.2) = ((rWritten V n).1, (rWritten V n).2, P)) (JC D B cA sh) (hm_A B)) 0 0 (hm_A B) := by
  refine Met.ofW (cc := c_M_written) (maxL := 2) (ret := (some FieldType.boolean)) (by decide) rfl ?_
  intro p e s m args below meth c s₁ Bd hml hv
  obtain ⟨rfl, hW, hK, hN⟩ := hv
  have hx := Bd.exec
  have hb := Bd.bytes
  have hr := Bd.returns
  have hts := atoms_spec (ws := w_M_written) Bd.pre
  have hT : ∀ w ∈ WG, w.before ([.ref (sh 272), .int n] : List Value).toArray s = true := fun w h => hts w (List.mem_cons_of_mem _ h)
  have hown : s.vm.findClass "BlockVaultModel" = some m.cls := findClass_of_methodNamed Bd.named
  have hlocks := Bd.notSynchronized
  have hW : JW D B cA sh V P s.heap := hW
  have hBs : B ≤ s.heap.size := hW.ge
  have hS : va_S (hm_A B) s.heap s.heap [] := va_S.rf
  have hl := lv_entry ([.ref (sh 272), .int n]) (n := 2) (Nat.le_of_ble_eq_true rfl)
  rw [lg_entry_eq]
  generalize (lg_sl ([.ref (sh 272), .int n]) ++ List.replicate (2 - (lg_sl ([.ref (sh 272), .int n])).length) Slot.unset).toArray = ls at hl ⊢
  have hl : lv_has ls 2 [(0, .ref (sh 272)), (1, .int n)] := hl
  refine lv_aload_n hx hb d_M_written_0 rfl (lv_at hl 0 rfl) ?_
  refine va_get (D := D) (ci := 6) (v := .int (V 272 10)) (C := "BlockVaultModel") (T := T_M) (N := 15) hx hb hT in_M hown hK (hW.obj rfl) 0 rfl rfl 10 (by decide) (hT _ k331) (fun _ h9 => h9) rfl d_M_written_1 ?_
  refine lv_if_lt (tgt := 15) hx hb d_M_written_4 (by decide) (fun c1 => ?_) (fun c1 => ?_)
  · refine lv_aload_n hx hb d_M_written_15 rfl (lv_at hl 0 rfl) ?_
    refine lv_dup hx hb d_M_written_16 rfl ?_
    refine va_get (D := D) (ci := 6) (v := .int (V 272 11)) (C := "BlockVaultModel") (T := T_M) (N := 15) hx hb hT in_M hown hK (hW.obj rfl) 0 rfl rfl 11 (by decide) (hT _ k332) (fun _ h9 => h9) rfl d_M_written_17 ?_
    refine lv_iload_n hx hb d_M_written_20 rfl (lv_at hl 1 rfl) ?_
    refine lv_iadd hx hb d_M_written_21 ?_
    refine jw_put (ci := 6) (x := ((V 272 11) + n)) (ty := .int) (C := "BlockVaultModel") (T := T_M) (N := 15) hx hb hT in_M t_M t_M_ok n_M hown hK hW hS rfl rfl 11 (by decide) rfl (hT _ k332) (fun _ h9 => h9) rfl (by decide +kernel) rfl rfl d_M_written_22 (fun H locs hW hS => ?_)
    refine lv_aload_n hx hb d_M_written_25 rfl (lv_at hl 0 rfl) ?_
    refine lv_aload_n hx hb d_M_written_26 rfl (lv_at hl 0 rfl) ?_
    refine va_get (D := D) (ci := 6) (v := .int (V 272 10)) (C := "BlockVaultModel") (T := T_M) (N := 15) hx hb hT in_M hown hK (hW.obj rfl) 0 rfl rfl 10 (by decide) (hT _ k331) (fun _ h9 => h9) rfl d_M_written_27 ?_
    refine lv_if_ge (tgt := 40) hx hb d_M_written_30 (by decide) (fun c2 => ?_) (fun c2 => ?_)
    · exact absurd c2 (Int32.not_le.mpr c1)
    · refine lv_aload_n hx hb d_M_written_33 rfl (lv_at hl 0 rfl) ?_
      refine va_get (D := D) (ci := 6) (v := .int (V 272 10)) (C := "BlockVaultModel") (T := T_M) (N := 15) hx hb hT in_M hown hK (hW.obj rfl) 0 rfl rfl 10 (by decide) (hT _ k331) (fun _ h9 => h9) rfl d_M_written_34 ?_
      refine lv_goto (tgt := 46) hx hb d_M_written_37 (by decide) ?_
      refine jw_put (ci := 6) (x := (V 272 10)) (ty := .int) (C := "BlockVaultModel") (T := T_M) (N := 15) hx hb hT in_M t_M t_M_ok n_M hown hK hW hS rfl rfl 10 (by decide) rfl (hT _ k331) (fun _ h9 => h9) rfl (by decide +kernel) rfl rfl d_M_written_46 (fun H locs hW hS => ?_)
      refine lv_iconst (v := 1) hx hb d_M_written_49 (by decide) ?_
      refine W.widen (k := 0) (n := 0) (by omega) (by omega) ?_
      exact W.zret (ty := .boolean) (v := 1) hx hb hr rfl (fun t9 ht9 hwz => ⟨⟨1, ((v2 (v2 V 272 11 ((V 272 11) + n)) 272 10 (V 272 10)), P), rfl, (by unfold rWritten; rw [if_pos c1]), by rw [ht9]; exact hW, va_K.moved hwz.alike hK, hN.warm hwz⟩, hS.F ht9⟩) hS.2.2 d_M_written_50
  · refine lv_aload_n hx hb d_M_written_7 rfl (lv_at hl 0 rfl) ?_
    refine va_get (D := D) (ci := 6) (v := .int (V 272 10)) (C := "BlockVaultModel") (T := T_M) (N := 15) hx hb hT in_M hown hK (hW.obj rfl) 0 rfl rfl 10 (by decide) (hT _ k331) (fun _ h9 => h9) rfl d_M_written_8 ?_
    refine lv_iload_n hx hb d_M_written_11 rfl (lv_at hl 1 rfl) ?_
    refine lv_icmp_lt (tgt := 51) hx hb d_M_written_12 (by decide) (fun c3 => ?_) (fun c3 => ?_)
    · refine lv_aload_n hx hb d_M_written_51 rfl (lv_at hl 0 rfl) ?_
      refine lv_dup hx hb d_M_written_52 rfl ?_
      refine va_get (D := D) (ci := 6) (v := .int (V 272 11)) (C := "BlockVaultModel") (T := T_M) (N := 15) hx hb hT in_M hown hK (hW.obj rfl) 0 rfl rfl 11 (by decide) (hT _ k332) (fun _ h9 => h9) rfl d_M_written_53 ?_
      refine lv_aload_n hx hb d_M_written_56 rfl (lv_at hl 0 rfl) ?_
      refine va_get (D := D) (ci := 6) (v := .int (V 272 10)) (C := "BlockVaultModel") (T := T_M) (N := 15) hx hb hT in_M hown hK (hW.obj rfl) 0 rfl rfl 10 (by decide) (hT _ k331) (fun _ h9 => h9) rfl d_M_written_57 ?_
      refine lv_iadd hx hb d_M_written_60 ?_
      refine jw_put (ci := 6) (x := ((V 272 11) + (V 272 10))) (ty := .int) (C := "BlockVaultModel") (T := T_M) (N := 15) hx hb hT in_M t_M t_M_ok n_M hown hK hW hS rfl rfl 11 (by decide) rfl (hT _ k332) (fun _ h9 => h9) rfl (by decide +kernel) rfl rfl d_M_written_61 (fun H locs hW hS => ?_)
      refine lv_aload_n hx hb d_M_written_64 rfl (lv_at hl 0 rfl) ?_
      refine lv_iconst (v := (-1)) hx hb d_M_written_65 (by decide) ?_
      refine jw_put (ci := 6) (x := (-1)) (ty := .int) (C := "BlockVaultModel") (T := T_M) (N := 15) hx hb hT in_M t_M t_M_ok n_M hown hK hW hS rfl rfl 10 (by decide) rfl (hT _ k331) (fun _ h9 => h9) rfl (by decide +kernel) rfl rfl d_M_written_66 (fun H locs hW hS => ?_)
      refine lv_aload_n hx hb d_M_written_69 rfl (lv_at hl 0 rfl) ?_
      refine lv_iconst (v := 0) hx hb d_M_written_70 (by decide) ?_
      refine jw_put (ci := 6) (x := 0) (ty := .boolean) (C := "BlockVaultModel") (T := T_M) (N := 15) hx hb hT in_M t_M t_M_ok n_M hown hK hW hS rfl rfl 8 (by decide) rfl (hT _ k329) (fun _ h9 => h9) rfl (by decide +kernel) rfl rfl d_M_written_71 (fun H locs hW hS => ?_)
      refine lv_iconst (v := 0) hx hb d_M_written_74 (by decide) ?_
      refine W.widen (k := 0) (n := 0) (by omega) (by omega) ?_
      exact W.zret (ty := .boolean) (v := 0) hx hb hr rfl (fun t9 ht9 hwz => ⟨⟨0, ((v2 (v2 (v2 V 272 11 ((V 272 11) + (V 272 10))) 272 10 (-1)) 272 8 0), P), rfl, (by unfold rWritten; rw [if_neg c1, if_pos c3]), by rw [ht9]; exact hW, va_K.moved hwz.alike hK, hN.warm hwz⟩, hS.F ht9⟩) hS.2.2 d_M_written_75
    · refine lv_aload_n hx hb d_M_written_15 rfl (lv_at hl 0 rfl) ?_
      refine lv_dup hx hb d_M_written_16 rfl ?_
      refine va_get (D := D) (ci := 6) (v := .int (V 272 11)) (C := "BlockVaultModel") (T := T_M) (N := 15) hx hb hT in_M hown hK (hW.obj rfl) 0 rfl rfl 11 (by decide) (hT _ k332) (fun _ h9 => h9) rfl d_M_written_17 ?_
      refine lv_iload_n hx hb d_M_written_20 rfl (lv_at hl 1 rfl) ?_
      refine lv_iadd hx hb d_M_written_21 ?_
      refine jw_put (ci := 6) (x := ((V 272 11) + n)) (ty := .int) (C := "BlockVaultModel") (T := T_M) (N := 15) hx hb hT in_M t_M t_M_ok n_M hown hK hW hS rfl rfl 11 (by decide) rfl (hT _ k332) (fun _ h9 => h9) rfl (by decide +kernel) rfl rfl d_M_written_22 (fun H locs hW hS => ?_)
      refine lv_aload_n hx hb d_M_written_25 rfl (lv_at hl 0 rfl) ?_
      refine lv_aload_n hx hb d_M_written_26 rfl (lv_at hl 0 rfl) ?_
      refine va_get (D := D) (ci := 6) (v := .int (V 272 10)) (C := "BlockVaultModel") (T := T_M) (N := 15) hx hb hT in_M hown hK (hW.obj rfl) 0 rfl rfl 10 (by decide) (hT _ k331) (fun _ h9 => h9) rfl d_M_written_27 ?_
      refine lv_if_ge (tgt := 40) hx hb d_M_written_30 (by decide) (fun c4 => ?_) (fun c4 => ?_)
      · refine lv_aload_n hx hb d_M_written_40 rfl (lv_at hl 0 rfl) ?_
        refine va_get (D := D) (ci := 6) (v := .int (V 272 10)) (C := "BlockVaultModel") (T := T_M) (N := 15) hx hb hT in_M hown hK (hW.obj rfl) 0 rfl rfl 10 (by decide) (hT _ k331) (fun _ h9 => h9) rfl d_M_written_41 ?_
        refine lv_iload_n hx hb d_M_written_44 rfl (lv_at hl 1 rfl) ?_
        refine lv_isub hx hb d_M_written_45 ?_
        refine jw_put (ci := 6) (x := ((V 272 10) - n)) (ty := .int) (C := "BlockVaultModel") (T := T_M) (N := 15) hx hb hT in_M t_M t_M_ok n_M hown hK hW hS rfl rfl 10 (by decide) rfl (hT _ k331) (fun _ h9 => h9) rfl (by decide +kernel) rfl rfl d_M_written_46 (fun H locs hW hS => ?_)
        refine lv_iconst (v := 1) hx hb d_M_written_49 (by decide) ?_
        refine W.widen (k := 0) (n := 0) (by omega) (by omega) ?_
        exact W.zret (ty := .boolean) (v := 1) hx hb hr rfl (fun t9 ht9 hwz => ⟨⟨1, ((v2 (v2 V 272 11 ((V 272 11) + n)) 272 10 ((V 272 10) - n)), P), rfl, (by unfold rWritten; rw [if_neg c1, if_neg c3]), by rw [ht9]; exact hW, va_K.moved hwz.alike hK, hN.warm hwz⟩, hS.F ht9⟩) hS.2.2 d_M_written_50
      · exact absurd (Int32.not_lt.mp c1) c4

set_option maxHeartbeats 4000000 in
set_option maxRecDepth 100000 in
theorem m_M_ended (l : Launch) (D : va_G) (B : Nat) (cA : Nat → ClassId) (sh : Nat → Nat) (V P : VV) : Met l y_M_ended w_M_ended ({ frames := 1, cells := 0, slots := 0, locals := 30 } : Room) (va_Pc [.ref (sh 272)] (JC D B cA sh (V, P))) (va_Qi (fun (r : Int32) (u : VV × VV) => (r, u.1, u.2) = ((rEnded V).1, (rEnded V).2, P)) (JC D B cA sh) (hm_A B)) 0 0 (hm_A B) := by
  refine Met.ofW (cc := c_M_ended) (maxL := 2) (ret := (some FieldType.boolean)) (by decide) rfl ?_
  intro p e s m args below meth c s₁ Bd hml hv
  obtain ⟨rfl, hW, hK, hN⟩ := hv
  have hx := Bd.exec
  have hb := Bd.bytes
  have hr := Bd.returns
  have hts := atoms_spec (ws := w_M_ended) Bd.pre
  have hT : ∀ w ∈ WG, w.before ([.ref (sh 272)] : List Value).toArray s = true := fun w h => hts w (List.mem_cons_of_mem _ h)
  have hown : s.vm.findClass "BlockVaultModel" = some m.cls := findClass_of_methodNamed Bd.named
  have hlocks := Bd.notSynchronized
  have hW : JW D B cA sh V P s.heap := hW
  have hBs : B ≤ s.heap.size := hW.ge
  have hS : va_S (hm_A B) s.heap s.heap [] := va_S.rf
  have hl := lv_entry ([.ref (sh 272)]) (n := 2) (Nat.le_of_ble_eq_true rfl)
  rw [lg_entry_eq]
  generalize (lg_sl ([.ref (sh 272)]) ++ List.replicate (2 - (lg_sl ([.ref (sh 272)])).length) Slot.unset).toArray = ls at hl ⊢
  have hl : lv_has ls 2 [(0, .ref (sh 272))] := hl
  refine lv_aload_n hx hb d_M_ended_0 rfl (lv_at hl 0 rfl) ?_
  refine lv_aload_n hx hb d_M_ended_1 rfl (lv_at hl 0 rfl) ?_
  refine va_get (D := D) (ci := 6) (v := .int (V 272 14)) (C := "BlockVaultModel") (T := T_M) (N := 15) hx hb hT in_M hown hK (hW.obj rfl) 0 rfl rfl 14 (by decide) (hT _ k335) (fun _ h9 => h9) rfl d_M_ended_2 ?_
  refine lv_iconst (v := 1) hx hb d_M_ended_5 (by decide) ?_
  refine lv_iadd hx hb d_M_ended_6 ?_
  refine jw_calli (va_runV (As := [.int ((V 272 14) + 1)]) (rest := []) ⟨hx, hb, hml, hown, hT⟩ (m_M_written l D B cA sh V P ((V 272 14) + 1)) (cwV 1 hT (gV k384 k386 ks6 k8 kc_M_written) rfl rfl rfl (by decide +kernel) ⟨Nat.le_of_ble_eq_true rfl, Nat.le_of_ble_eq_true rfl⟩) (jw_preV (q := ("BlockVaultModel", T_M, 15)) hW hK hN rfl rfl) rfl rfl hl.1 rfl (lv_room (Nat.le_of_ble_eq_true rfl)) d_M_ended_7 ⟨Nat.le_of_ble_eq_true rfl, Nat.le_of_ble_eq_true rfl⟩) hS (fun r1 V2 P3 H locs hw4 hW hS => ?_)
  have hwb := nb_1 hw4 (rWritten_b V ((V 272 14) + 1))
  refine lv_istore_n (lv' := [(1, .int r1), (0, .ref (sh 272))]) hx hb d_M_ended_10 rfl hl (by decide) rfl (fun ls hl => ?_)
  refine lv_aload_n hx hb d_M_ended_11 rfl (lv_at hl 1 rfl) ?_
  refine lv_iload_n hx hb d_M_ended_12 rfl (lv_at hl 0 rfl) ?_
  refine lv_if_eq (tgt := 20) hx hb d_M_ended_13 (by decide) (fun c5 => ?_) (fun c5 => ?_)
  · refine lv_aload_n hx hb d_M_ended_20 rfl (lv_at hl 1 rfl) ?_
    refine va_get (D := D) (ci := 6) (v := .int (V2 272 14)) (C := "BlockVaultModel") (T := T_M) (N := 15) hx hb hT in_M hown hK (hW.obj rfl) 0 rfl rfl 14 (by decide) (hT _ k335) (fun _ h9 => h9) rfl d_M_ended_21 ?_
    refine jw_put (ci := 6) (x := (V2 272 14)) (ty := .int) (C := "BlockVaultModel") (T := T_M) (N := 15) hx hb hT in_M t_M t_M_ok n_M hown hK hW hS rfl rfl 14 (by decide) rfl (hT _ k335) (fun _ h9 => h9) rfl (by decide +kernel) rfl rfl d_M_ended_24 (fun H locs hW hS => ?_)
    refine lv_iload_n hx hb d_M_ended_27 rfl (lv_at hl 0 rfl) ?_
    refine W.widen (k := 0) (n := 0) (by omega) (by omega) ?_
    exact W.zret (ty := .boolean) (v := r1) hx hb hr hwb (fun t9 ht9 hwz => ⟨⟨r1, ((v2 V2 272 14 (V2 272 14)), P3), rfl, (by obtain ⟨e1, e2, e3⟩ := t3 hw4; unfold rEnded; rw [e1, e2, e3, if_pos c5]), by rw [ht9]; exact hW, va_K.moved hwz.alike hK, hN.warm hwz⟩, hS.F ht9⟩) hS.2.2 d_M_ended_28
  · refine lv_iconst (v := (-1)) hx hb d_M_ended_16 (by decide) ?_
    refine lv_goto (tgt := 24) hx hb d_M_ended_17 (by decide) ?_
    refine jw_put (ci := 6) (x := (-1)) (ty := .int) (C := "BlockVaultModel") (T := T_M) (N := 15) hx hb hT in_M t_M t_M_ok n_M hown hK hW hS rfl rfl 14 (by decide) rfl (hT _ k335) (fun _ h9 => h9) rfl (by decide +kernel) rfl rfl d_M_ended_24 (fun H locs hW hS => ?_)
    refine lv_iload_n hx hb d_M_ended_27 rfl (lv_at hl 0 rfl) ?_
    refine W.widen (k := 0) (n := 0) (by omega) (by omega) ?_
    exact W.zret (ty := .boolean) (v := r1) hx hb hr hwb (fun t9 ht9 hwz => ⟨⟨r1, ((v2 V2 272 14 (-1)), P3), rfl, (by obtain ⟨e1, e2, e3⟩ := t3 hw4; unfold rEnded; rw [e1, e2, e3, if_neg c5]), by rw [ht9]; exact hW, va_K.moved hwz.alike hK, hN.warm hwz⟩, hS.F ht9⟩) hS.2.2 d_M_ended_28

set_option maxHeartbeats 4000000 in
set_option maxRecDepth 100000 in
theorem m_M_commit (l : Launch) (D : va_G) (B : Nat) (cA : Nat → ClassId) (sh : Nat → Nat) (V P : VV) (N : Nat) (hN0 : V 272 1 = nI N) (h80 : N ≤ 80) : Met l y_M_commit w_M_commit ({ frames := 2, cells := 0, slots := 0, locals := 60 } : Room) (va_Pc [.ref (sh 272)] (JC D B cA sh (V, P))) (va_Qi (fun (r : Int32) (u : VV × VV) => (r, u.1, u.2) = rCommit V P) (JC D B cA sh) (hm_A B)) 0 0 (hm_A B) := by
  refine Met.ofW (cc := c_M_commit) (maxL := 4) (ret := (some FieldType.boolean)) (by decide) rfl ?_
  intro p e s m args below meth c s₁ Bd hml hv
  obtain ⟨rfl, hW, hK, hN⟩ := hv
  have hx := Bd.exec
  have hb := Bd.bytes
  have hr := Bd.returns
  have hts := atoms_spec (ws := w_M_commit) Bd.pre
  have hT : ∀ w ∈ WG, w.before ([.ref (sh 272)] : List Value).toArray s = true := fun w h => hts w (List.mem_cons_of_mem _ h)
  have hown : s.vm.findClass "BlockVaultModel" = some m.cls := findClass_of_methodNamed Bd.named
  have hlocks := Bd.notSynchronized
  have hW : JW D B cA sh V P s.heap := hW
  have hBs : B ≤ s.heap.size := hW.ge
  have hS : va_S (hm_A B) s.heap s.heap [] := va_S.rf
  have hl := lv_entry ([.ref (sh 272)]) (n := 4) (Nat.le_of_ble_eq_true rfl)
  rw [lg_entry_eq]
  generalize (lg_sl ([.ref (sh 272)]) ++ List.replicate (4 - (lg_sl ([.ref (sh 272)])).length) Slot.unset).toArray = ls at hl ⊢
  have hl : lv_has ls 4 [(0, .ref (sh 272))] := hl
  refine lv_aload_n hx hb d_M_commit_0 rfl (lv_at hl 0 rfl) ?_
  refine va_get (D := D) (ci := 6) (v := .ref (sh 275)) (C := "BlockVaultModel") (T := T_M) (N := 15) hx hb hT in_M hown hK (hW.obj rfl) 0 rfl rfl 4 (by decide) (hT _ k325) (fun _ h9 => h9) rfl d_M_commit_1 ?_
  refine jw_calli (va_runS (As := [.ref (sh 275)]) (rest := []) ⟨hx, hb, hml, hown, hT⟩ (m_M_many l D B cA sh V P 275 rfl) (va_cwS 1 hT (gS k377 k378 k8 kc_M_many) rfl rfl rfl (by decide +kernel) ⟨Nat.le_of_ble_eq_true rfl, Nat.le_of_ble_eq_true rfl⟩) (jw_preS hW hK hN) rfl rfl hl.1 rfl (lv_room (Nat.le_of_ble_eq_true rfl)) d_M_commit_4 ⟨Nat.le_of_ble_eq_true rfl, Nat.le_of_ble_eq_true rfl⟩) hS (fun r1 V2 P3 H locs hw4 hW hS => ?_)
  obtain ⟨rfl, rfl, rfl⟩ := t3 hw4
  refine lv_istore_n (lv' := [(1, .int (rMany (P 275))), (0, .ref (sh 272))]) hx hb d_M_commit_7 rfl hl (by decide) rfl (fun ls hl => ?_)
  refine lv_aload_n hx hb d_M_commit_8 rfl (lv_at hl 1 rfl) ?_
  refine lv_iload_n hx hb d_M_commit_9 rfl (lv_at hl 0 rfl) ?_
  refine lv_iconst (v := 1) hx hb d_M_commit_10 (by decide) ?_
  refine lv_iadd hx hb d_M_commit_11 ?_
  refine jw_calli (va_runV (As := [.int ((rMany (P 275)) + 1)]) (rest := []) ⟨hx, hb, hml, hown, hT⟩ (m_M_written l D B cA sh V P ((rMany (P 275)) + 1)) (cwV 1 hT (gV k384 k386 ks6 k8 kc_M_written) rfl rfl rfl (by decide +kernel) ⟨Nat.le_of_ble_eq_true rfl, Nat.le_of_ble_eq_true rfl⟩) (jw_preV (q := ("BlockVaultModel", T_M, 15)) hW hK hN rfl rfl) rfl rfl hl.1 rfl (lv_room (Nat.le_of_ble_eq_true rfl)) d_M_commit_12 ⟨Nat.le_of_ble_eq_true rfl, Nat.le_of_ble_eq_true rfl⟩) hS (fun r5 V6 P7 H locs hw8 hW hS => ?_)
  have hwb := nb_1 hw8 (rWritten_b V ((rMany (P 275)) + 1))
  refine lv_if_ne (tgt := 20) hx hb d_M_commit_15 (by decide) (fun c9 => ?_) (fun c9 => ?_)
  · refine lv_aload_n hx hb d_M_commit_20 rfl (lv_at hl 1 rfl) ?_
    refine lv_dup hx hb d_M_commit_21 rfl ?_
    refine va_get (D := D) (ci := 6) (v := .int (V6 272 13)) (C := "BlockVaultModel") (T := T_M) (N := 15) hx hb hT in_M hown hK (hW.obj rfl) 0 rfl rfl 13 (by decide) (hT _ k334) (fun _ h9 => h9) rfl d_M_commit_22 ?_
    refine lv_iconst (v := 1) hx hb d_M_commit_25 (by decide) ?_
    refine lv_iadd hx hb d_M_commit_26 ?_
    refine jw_put (ci := 6) (x := ((V6 272 13) + 1)) (ty := .int) (C := "BlockVaultModel") (T := T_M) (N := 15) hx hb hT in_M t_M t_M_ok n_M hown hK hW hS rfl rfl 13 (by decide) rfl (hT _ k334) (fun _ h9 => h9) rfl (by decide +kernel) rfl rfl d_M_commit_27 (fun H locs hW hS => ?_)
    refine lv_iconst (v := 0) hx hb d_M_commit_30 (by decide) ?_
    refine lv_istore_n (lv' := [(2, .int 0), (1, .int (rMany (P 275))), (0, .ref (sh 272))]) hx hb d_M_commit_31 rfl hl (by decide) rfl (fun ls hl => ?_)
    obtain ⟨e1, e2, e3⟩ := t3 hw8
    subst e3
    have hcm : rCommit V P = rCommit2 V6 P (rMany (P 275)) := by unfold rCommit; rw [e1, e2, if_neg c9]
    have hN1 : V6 272 1 = nI N := by have q := congrFun (congrFun e2 272) 1; rw [w10 (by omega)] at q; exact q.symm.trans hN0
    have loop : ∀ (n i : Nat) (Va Pa : VV) (H : Heap) (locs : List Loc) (ls : Array Slot), i + n = N → (Va = (v2 V6 272 13 ((V6 272 13) + 1)) ∧ Pa = rP P i) → JW D B cA sh Va Pa H → va_S (hm_A B) s.heap H locs → lv_has ls 4 [(2, .int (nI i)), (1, .int (rMany (P 275))), (0, .ref (sh 272))] → W p l e (headSpec w_M_commit ({ frames := 2, cells := 0, slots := 0, locals := 60 } : Room)).room s m ([.ref (sh 272)] : List Value).toArray below meth c H locs 0 0 (MQ below (va_Qi (fun (r : Int32) (u : VV × VV) => (r, u.1, u.2) = rCommit V P) (JC D B cA sh) (hm_A B)) ([.ref (sh 272)] : List Value).toArray s 0 0 (hm_A B)) (F0 m 32 ls []) := by
      intro n
      induction n with
      | zero =>
        intro i Va Pa H locs ls hin hinv hW hS hl
        obtain rfl : N = i := by omega
        refine lv_iload_n hx hb d_M_commit_32 rfl (lv_at hl 0 rfl) ?_
        refine lv_aload_n hx hb d_M_commit_33 rfl (lv_at hl 2 rfl) ?_
        refine va_get (D := D) (ci := 6) (v := .int (Va 272 1)) (C := "BlockVaultModel") (T := T_M) (N := 15) hx hb hT in_M hown hK (hW.obj rfl) 0 rfl rfl 1 (by decide) (hT _ k322) (fun _ h9 => h9) rfl d_M_commit_34 ?_
        refine lv_icmp_ge (tgt := 99) hx hb d_M_commit_37 (by decide) (fun c10 => ?_) (fun c10 => ?_)
        · refine lv_aload_n hx hb d_M_commit_99 rfl (lv_at hl 2 rfl) ?_
          refine lv_iload_n hx hb d_M_commit_100 rfl (lv_at hl 1 rfl) ?_
          refine jw_put (ci := 6) (x := (rMany (P 275))) (ty := .int) (C := "BlockVaultModel") (T := T_M) (N := 15) hx hb hT in_M t_M t_M_ok n_M hown hK hW hS rfl rfl 14 (by decide) rfl (hT _ k335) (fun _ h9 => h9) rfl (by decide +kernel) rfl rfl d_M_commit_101 (fun H locs hW hS => ?_)
          refine lv_aload_n hx hb d_M_commit_104 rfl (lv_at hl 2 rfl) ?_
          refine jw_calli (va_runV (As := []) (rest := []) ⟨hx, hb, hml, hown, hT⟩ (m_M_ended l D B cA sh (v2 Va 272 14 (rMany (P 275))) Pa) (cwV 0 hT (gV k388 k390 ks7 k8 kc_M_ended) rfl rfl rfl (by decide +kernel) ⟨Nat.le_of_ble_eq_true rfl, Nat.le_of_ble_eq_true rfl⟩) (jw_preV (q := ("BlockVaultModel", T_M, 15)) hW hK hN rfl rfl) rfl rfl hl.1 rfl (lv_room (Nat.le_of_ble_eq_true rfl)) d_M_commit_105 ⟨Nat.le_of_ble_eq_true rfl, Nat.le_of_ble_eq_true rfl⟩) hS (fun r11 V12 P13 H locs hw14 hW hS => ?_)
          refine W.widen (k := 0) (n := 0) (by omega) (by omega) ?_
          exact W.zret (ty := .boolean) (v := r11) hx hb hr (nb_1 hw14 (rWritten_b _ _)) (fun t9 ht9 hwz => ⟨⟨r11, (V12, P13), rfl, (by show (r11, V12, P13) = rCommit V P; rw [hcm]; unfold rCommit2; rw [hw14, hinv.1, hinv.2, hN1, nI_clamp (by omega)]), by rw [ht9]; exact hW, va_K.moved hwz.alike hK, hN.warm hwz⟩, hS.F ht9⟩) hS.2.2 d_M_commit_108
        · exact absurd (by rw [hinv.1]; exact (by rw [show ((v2 V6 272 13 ((V6 272 13) + 1))) 272 1 = V6 272 1 from rfl, hN1]; exact Int32.le_refl _)) c10
      | succ n ih =>
        intro i Va Pa H locs ls hin hinv hW hS hl
        have hi : i < N := by omega
        refine lv_iload_n hx hb d_M_commit_32 rfl (lv_at hl 0 rfl) ?_
        refine lv_aload_n hx hb d_M_commit_33 rfl (lv_at hl 2 rfl) ?_
        refine va_get (D := D) (ci := 6) (v := .int (Va 272 1)) (C := "BlockVaultModel") (T := T_M) (N := 15) hx hb hT in_M hown hK (hW.obj rfl) 0 rfl rfl 1 (by decide) (hT _ k322) (fun _ h9 => h9) rfl d_M_commit_34 ?_
        refine lv_icmp_ge (tgt := 99) hx hb d_M_commit_37 (by decide) (fun c15 => ?_) (fun c15 => ?_)
        · exact absurd c15 (by rw [hinv.1]; exact (by rw [show ((v2 V6 272 13 ((V6 272 13) + 1))) 272 1 = V6 272 1 from rfl, hN1]; exact nI_ge (by omega) (by omega)))
        · refine lv_sipush (v := 1024) hx hb d_M_commit_40 (by decide) ?_
          refine lv_iload_n hx hb d_M_commit_43 rfl (lv_at hl 0 rfl) ?_
          refine lv_imul hx hb d_M_commit_44 ?_
          refine lv_istore_n (lv' := [(3, .int (1024 * (nI i))), (2, .int (nI i)), (1, .int (rMany (P 275))), (0, .ref (sh 272))]) hx hb d_M_commit_45 rfl hl (by decide) rfl (fun ls hl => ?_)
          have e5 : Pa 275 i = P 275 i := by rw [hinv.2]; exact rP_t
          have hl : lv_has ls 4 [(3, .int (nI (1024 * i + 0))), (2, .int (nI i)), (1, .int (rMany (P 275))), (0, .ref (sh 272))] := by rw [Nat.add_zero, ← ix_0 i]; exact hl
          have loop2 : ∀ (n2 i2 : Nat) (Va2 Pa2 : VV) (H : Heap) (locs : List Loc) (ls : Array Slot), i2 + n2 = 1024 → (Pa2 = p1 Pa 273 (cpy Pa i i2) ∧ Va2 = Va ∧ (i2 = 0 ∨ ¬ P 275 i = 0)) → JW D B cA sh Va2 Pa2 H → va_S (hm_A B) s.heap H locs → lv_has ls 4 [(3, .int (nI (1024 * i + i2))), (2, .int (nI i)), (1, .int (rMany (P 275))), (0, .ref (sh 272))] → W p l e (headSpec w_M_commit ({ frames := 2, cells := 0, slots := 0, locals := 60 } : Room)).room s m ([.ref (sh 272)] : List Value).toArray below meth c H locs 0 0 (MQ below (va_Qi (fun (r : Int32) (u : VV × VV) => (r, u.1, u.2) = rCommit V P) (JC D B cA sh) (hm_A B)) ([.ref (sh 272)] : List Value).toArray s 0 0 (hm_A B)) (F0 m 46 ls []) := by
            intro n2
            induction n2 with
            | zero =>
              intro i2 Va2 Pa2 H locs ls hin2 hinv2 hW hS hl
              obtain rfl : i2 = 1024 := by omega
              refine lv_iload_n hx hb d_M_commit_46 rfl (lv_at hl 0 rfl) ?_
              refine lv_sipush (v := 1024) hx hb d_M_commit_47 (by decide) ?_
              refine lv_iload_n hx hb d_M_commit_50 rfl (lv_at hl 1 rfl) ?_
              refine lv_imul hx hb d_M_commit_51 ?_
              refine lv_sipush (v := 1024) hx hb d_M_commit_52 (by decide) ?_
              refine lv_iadd hx hb d_M_commit_55 ?_
              refine lv_icmp_ge (tgt := 86) hx hb d_M_commit_56 (by decide) (fun c16 => ?_) (fun c16 => ?_)
              · refine lv_aload_n hx hb d_M_commit_86 rfl (lv_at hl 3 rfl) ?_
                refine va_get (D := D) (ci := 6) (v := .ref (sh 275)) (C := "BlockVaultModel") (T := T_M) (N := 15) hx hb hT in_M hown hK (hW.obj rfl) 0 rfl rfl 4 (by decide) (hT _ k325) (fun _ h9 => h9) rfl d_M_commit_87 ?_
                refine lv_iload_n hx hb d_M_commit_90 rfl (lv_at hl 1 rfl) ?_
                refine lv_iconst (v := 0) hx hb d_M_commit_91 (by decide) ?_
                refine jw_zastN (t := 275) (i := i) hx hb hK hW hS rfl rfl (by omega) rfl d_M_commit_92 (fun H locs hW hS => ?_)
                refine lv_iinc (v := ((nI i) + 1)) (lv' := [(2, .int ((nI i) + 1)), (3, .int (nI (1024 * i + 1024))), (1, .int (rMany (P 275))), (0, .ref (sh 272))]) hx hb d_M_commit_93 hl (k := 1) rfl rfl (by decide) rfl (fun ls hl => ?_)
                refine lv_goto (tgt := 32) hx hb d_M_commit_96 (by decide) ?_
                exact ih (i + 1) Va2 (p1 Pa2 275 (upd (Pa2 275) i 0)) H locs ls (by omega) (⟨by rw [hinv2.2.1]; exact hinv.1, by rw [hinv2.1, hinv.2]; exact rP_yes (hinv2.2.2.resolve_left (by omega))⟩) hW hS (by rw [← nI_1]; exact lv_sub hl [0, 2, 3] rfl)
              · exact absurd (by rw [ix_e i]; exact Int32.le_refl _) c16
            | succ n2 ih2 =>
              intro i2 Va2 Pa2 H locs ls hin2 hinv2 hW hS hl
              have hi2 : i2 < 1024 := by omega
              refine lv_iload_n hx hb d_M_commit_46 rfl (lv_at hl 0 rfl) ?_
              refine lv_sipush (v := 1024) hx hb d_M_commit_47 (by decide) ?_
              refine lv_iload_n hx hb d_M_commit_50 rfl (lv_at hl 1 rfl) ?_
              refine lv_imul hx hb d_M_commit_51 ?_
              refine lv_sipush (v := 1024) hx hb d_M_commit_52 (by decide) ?_
              refine lv_iadd hx hb d_M_commit_55 ?_
              refine lv_icmp_ge (tgt := 86) hx hb d_M_commit_56 (by decide) (fun c17 => ?_) (fun c17 => ?_)
              · exact absurd c17 (by rw [ix_e i]; exact nI_ge (by omega) (by omega))
              · refine lv_aload_n hx hb d_M_commit_59 rfl (lv_at hl 3 rfl) ?_
                refine va_get (D := D) (ci := 6) (v := .ref (sh 275)) (C := "BlockVaultModel") (T := T_M) (N := 15) hx hb hT in_M hown hK (hW.obj rfl) 0 rfl rfl 4 (by decide) (hT _ k325) (fun _ h9 => h9) rfl d_M_commit_60 ?_
                refine lv_iload_n hx hb d_M_commit_63 rfl (lv_at hl 1 rfl) ?_
                refine jw_zald (t := 275) (i := i) hx hb hK hW rfl rfl (by omega) d_M_commit_64 ?_
                refine lv_if_eq (tgt := 86) hx hb d_M_commit_65 (by decide) (fun c18 => ?_) (fun c18 => ?_)
                · refine lv_aload_n hx hb d_M_commit_86 rfl (lv_at hl 3 rfl) ?_
                  refine va_get (D := D) (ci := 6) (v := .ref (sh 275)) (C := "BlockVaultModel") (T := T_M) (N := 15) hx hb hT in_M hown hK (hW.obj rfl) 0 rfl rfl 4 (by decide) (hT _ k325) (fun _ h9 => h9) rfl d_M_commit_87 ?_
                  refine lv_iload_n hx hb d_M_commit_90 rfl (lv_at hl 1 rfl) ?_
                  refine lv_iconst (v := 0) hx hb d_M_commit_91 (by decide) ?_
                  refine jw_zastN (t := 275) (i := i) hx hb hK hW hS rfl rfl (by omega) rfl d_M_commit_92 (fun H locs hW hS => ?_)
                  refine lv_iinc (v := ((nI i) + 1)) (lv' := [(2, .int ((nI i) + 1)), (3, .int (nI (1024 * i + i2))), (1, .int (rMany (P 275))), (0, .ref (sh 272))]) hx hb d_M_commit_93 hl (k := 1) rfl rfl (by decide) rfl (fun ls hl => ?_)
                  refine lv_goto (tgt := 32) hx hb d_M_commit_96 (by decide) ?_
                  exact ih (i + 1) Va2 (p1 Pa2 275 (upd (Pa2 275) i 0)) H locs ls (by omega) (⟨by rw [hinv2.2.1]; exact hinv.1, by have z : P 275 i = 0 := (by have q := c18; rw [hinv2.1, p1_n (by omega), e5] at q; exact q); exact hinv2.2.2.elim (fun q => by rw [hinv2.1, q, cpy_0, p1_id, hinv.2]; exact rP_no z) (fun q => absurd z q)⟩) hW hS (by rw [← nI_1]; exact lv_sub hl [0, 2, 3] rfl)
                · refine lv_aload_n hx hb d_M_commit_68 rfl (lv_at hl 3 rfl) ?_
                  refine va_get (D := D) (ci := 6) (v := .ref (sh 273)) (C := "BlockVaultModel") (T := T_M) (N := 15) hx hb hT in_M hown hK (hW.obj rfl) 0 rfl rfl 2 (by decide) (hT _ k323) (fun _ h9 => h9) rfl d_M_commit_69 ?_
                  refine lv_iload_n hx hb d_M_commit_72 rfl (lv_at hl 0 rfl) ?_
                  refine lv_aload_n hx hb d_M_commit_73 rfl (lv_at hl 3 rfl) ?_
                  refine va_get (D := D) (ci := 6) (v := .ref (sh 274)) (C := "BlockVaultModel") (T := T_M) (N := 15) hx hb hT in_M hown hK (hW.obj rfl) 0 rfl rfl 3 (by decide) (hT _ k324) (fun _ h9 => h9) rfl d_M_commit_74 ?_
                  refine lv_iload_n hx hb d_M_commit_77 rfl (lv_at hl 0 rfl) ?_
                  refine jw_bald (t := 274) (i := (1024 * i + i2)) hx hb hK hW rfl rfl (by omega) d_M_commit_78 (fun hbf => ?_)
                  refine jw_bastN (t := 273) (i := (1024 * i + i2)) hx hb hK hW hS rfl rfl (by omega) hbf d_M_commit_79 (fun H locs hW hS => ?_)
                  refine lv_iinc (v := ((nI (1024 * i + i2)) + 1)) (lv' := [(3, .int ((nI (1024 * i + i2)) + 1)), (2, .int (nI i)), (1, .int (rMany (P 275))), (0, .ref (sh 272))]) hx hb d_M_commit_80 hl (k := 0) rfl rfl (by decide) rfl (fun ls hl => ?_)
                  refine lv_goto (tgt := 46) hx hb d_M_commit_83 (by decide) ?_
                  exact ih2 (i2 + 1) Va2 (p1 Pa2 273 (upd (Pa2 273) (1024 * i + i2) (Pa2 274 (1024 * i + i2)))) H locs ls (by omega) (⟨by rw [hinv2.1]; exact cpy_step, hinv2.2.1, Or.inr (fun z => c18 (by rw [hinv2.1, p1_n (by omega), e5]; exact z))⟩) hW hS (by rw [← Nat.add_assoc, ← nI_1]; exact lv_sub hl [0, 1, 2, 3] rfl)
          exact loop2 1024 0 Va Pa _ _ ls (by omega) (⟨by rw [cpy_0, p1_id], rfl, Or.inl rfl⟩) hW hS (lv_sub hl [0, 1, 2, 3] rfl)
    exact loop N 0 (v2 V6 272 13 ((V6 272 13) + 1)) P _ _ ls (by omega) (⟨rfl, rP_0.symm⟩) hW hS (lv_sub hl [0, 1, 2] rfl)
  · refine lv_iconst (v := 0) hx hb d_M_commit_18 (by decide) ?_
    refine W.widen (k := 0) (n := 0) (by omega) (by omega) ?_
    exact W.zret (ty := .boolean) (v := 0) hx hb hr rfl (fun t9 ht9 hwz => ⟨⟨0, (V6, P7), rfl, (by obtain ⟨e1, e2, e3⟩ := t3 hw8; unfold rCommit; rw [e1, e2, if_pos c9, e3]), by rw [ht9]; exact hW, va_K.moved hwz.alike hK, hN.warm hwz⟩, hS.F ht9⟩) hS.2.2 d_M_commit_19

set_option maxHeartbeats 4000000 in
set_option maxRecDepth 100000 in
theorem m_M_end (l : Launch) (D : va_G) (B : Nat) (cA : Nat → ClassId) (sh : Nat → Nat) (V P : VV) (N : Nat) (hN0 : V 272 1 = nI N) (h80 : N ≤ 80) : Met l y_M_end w_M_end ({ frames := 3, cells := 0, slots := 0, locals := 90 } : Room) (va_Pc [.ref (sh 272)] (JC D B cA sh (V, P))) (va_Qi (fun (r : Int32) (u : VV × VV) => (r, u.1, u.2) = rEnd V P) (JC D B cA sh) (hm_A B)) 0 0 (hm_A B) := by
  refine Met.ofW (cc := c_M_end) (maxL := 2) (ret := (some FieldType.int)) (by decide) rfl ?_
  intro p e s m args below meth c s₁ Bd hml hv
  obtain ⟨rfl, hW, hK, hN⟩ := hv
  have hx := Bd.exec
  have hb := Bd.bytes
  have hr := Bd.returns
  have hts := atoms_spec (ws := w_M_end) Bd.pre
  have hT : ∀ w ∈ WG, w.before ([.ref (sh 272)] : List Value).toArray s = true := fun w h => hts w (List.mem_cons_of_mem _ h)
  have hown : s.vm.findClass "BlockVaultModel" = some m.cls := findClass_of_methodNamed Bd.named
  have hlocks := Bd.notSynchronized
  have hW : JW D B cA sh V P s.heap := hW
  have hBs : B ≤ s.heap.size := hW.ge
  have hS : va_S (hm_A B) s.heap s.heap [] := va_S.rf
  have hl := lv_entry ([.ref (sh 272)]) (n := 2) (Nat.le_of_ble_eq_true rfl)
  rw [lg_entry_eq]
  generalize (lg_sl ([.ref (sh 272)]) ++ List.replicate (2 - (lg_sl ([.ref (sh 272)])).length) Slot.unset).toArray = ls at hl ⊢
  have hl : lv_has ls 2 [(0, .ref (sh 272))] := hl
  refine lv_aload_n hx hb d_M_end_0 rfl (lv_at hl 0 rfl) ?_
  refine lv_iconst (v := 0) hx hb d_M_end_1 (by decide) ?_
  refine jw_put (ci := 6) (x := 0) (ty := .int) (C := "BlockVaultModel") (T := T_M) (N := 15) hx hb hT in_M t_M t_M_ok n_M hown hK hW hS rfl rfl 0 (by decide) rfl (hT _ k321) (fun _ h9 => h9) rfl (by decide +kernel) rfl rfl d_M_end_2 (fun H locs hW hS => ?_)
  refine lv_aload_n hx hb d_M_end_5 rfl (lv_at hl 0 rfl) ?_
  refine va_get (D := D) (ci := 6) (v := .int (V 272 8)) (C := "BlockVaultModel") (T := T_M) (N := 15) hx hb hT in_M hown hK (hW.obj rfl) 0 rfl rfl 8 (by decide) (hT _ k329) (fun _ h9 => h9) rfl d_M_end_6 ?_
  refine lv_if_eq (tgt := 19) hx hb d_M_end_9 (by decide) (fun c1 => ?_) (fun c1 => ?_)
  · refine lv_iconst (v := (-1)) hx hb d_M_end_19 (by decide) ?_
    refine W.widen (k := 0) (n := 0) (by omega) (by omega) ?_
    exact W.iret (v := (-1)) hx hb hr (fun t9 ht9 hwz => ⟨⟨(-1), ((v2 V 272 0 0), P), rfl, (by unfold rEnd; rw [if_pos (Or.inl c1)]; rfl), by rw [ht9]; exact hW, va_K.moved hwz.alike hK, hN.warm hwz⟩, hS.F ht9⟩) hS.2.2 d_M_end_20
  · refine lv_aload_n hx hb d_M_end_12 rfl (lv_at hl 0 rfl) ?_
    refine va_get (D := D) (ci := 6) (v := .int (V 272 9)) (C := "BlockVaultModel") (T := T_M) (N := 15) hx hb hT in_M hown hK (hW.obj rfl) 0 rfl rfl 9 (by decide) (hT _ k330) (fun _ h9 => h9) rfl d_M_end_13 ?_
    refine lv_if_ne (tgt := 21) hx hb d_M_end_16 (by decide) (fun c2 => ?_) (fun c2 => ?_)
    · refine lv_aload_n hx hb d_M_end_21 rfl (lv_at hl 0 rfl) ?_
      refine lv_iconst (v := 0) hx hb d_M_end_22 (by decide) ?_
      refine jw_put (ci := 6) (x := 0) (ty := .boolean) (C := "BlockVaultModel") (T := T_M) (N := 15) hx hb hT in_M t_M t_M_ok n_M hown hK hW hS rfl rfl 9 (by decide) rfl (hT _ k330) (fun _ h9 => h9) rfl (by decide +kernel) rfl rfl d_M_end_23 (fun H locs hW hS => ?_)
      refine lv_aload_n hx hb d_M_end_26 rfl (lv_at hl 0 rfl) ?_
      refine va_get (D := D) (ci := 6) (v := .ref (sh 275)) (C := "BlockVaultModel") (T := T_M) (N := 15) hx hb hT in_M hown hK (hW.obj rfl) 0 rfl rfl 4 (by decide) (hT _ k325) (fun _ h9 => h9) rfl d_M_end_27 ?_
      refine jw_calli (va_runS (As := [.ref (sh 275)]) (rest := []) ⟨hx, hb, hml, hown, hT⟩ (m_M_many l D B cA sh (v2 (v2 V 272 0 0) 272 9 0) P 275 rfl) (va_cwS 1 hT (gS k377 k378 k8 kc_M_many) rfl rfl rfl (by decide +kernel) ⟨Nat.le_of_ble_eq_true rfl, Nat.le_of_ble_eq_true rfl⟩) (jw_preS hW hK hN) rfl rfl hl.1 rfl (lv_room (Nat.le_of_ble_eq_true rfl)) d_M_end_30 ⟨Nat.le_of_ble_eq_true rfl, Nat.le_of_ble_eq_true rfl⟩) hS (fun r3 V4 P5 H locs hw6 hW hS => ?_)
      obtain ⟨rfl, rfl, rfl⟩ := t3 hw6
      refine lv_istore_n (lv' := [(1, .int (rMany (P 275))), (0, .ref (sh 272))]) hx hb d_M_end_33 rfl hl (by decide) rfl (fun ls hl => ?_)
      refine lv_iload_n hx hb d_M_end_34 rfl (lv_at hl 0 rfl) ?_
      refine lv_bipush (v := 20) hx hb d_M_end_35 (by decide) ?_
      refine lv_icmp_gt (tgt := 42) hx hb d_M_end_37 (by decide) (fun c7 => ?_) (fun c7 => ?_)
      · refine lv_aload_n hx hb d_M_end_42 rfl (lv_at hl 1 rfl) ?_
        refine jw_calli (va_runV (As := []) (rest := []) ⟨hx, hb, hml, hown, hT⟩ (m_M_commit l D B cA sh (v2 (v2 V 272 0 0) 272 9 0) P N hN0 h80) (cwV 0 hT (gV k380 k382 ks5 k8 kc_M_commit) rfl rfl rfl (by decide +kernel) ⟨Nat.le_of_ble_eq_true rfl, Nat.le_of_ble_eq_true rfl⟩) (jw_preV (q := ("BlockVaultModel", T_M, 15)) hW hK hN rfl rfl) rfl rfl hl.1 rfl (lv_room (Nat.le_of_ble_eq_true rfl)) d_M_end_43 ⟨Nat.le_of_ble_eq_true rfl, Nat.le_of_ble_eq_true rfl⟩) hS (fun r8 V9 P10 H locs hw11 hW hS => ?_)
        refine lv_if_eq (tgt := 53) hx hb d_M_end_46 (by decide) (fun c12 => ?_) (fun c12 => ?_)
        · refine lv_iconst (v := (-1)) hx hb d_M_end_53 (by decide) ?_
          refine W.widen (k := 0) (n := 0) (by omega) (by omega) ?_
          exact W.iret (v := (-1)) hx hb hr (fun t9 ht9 hwz => ⟨⟨(-1), (V9, P10), rfl, (by unfold rEnd; rw [if_neg (fun q => q.elim c1 c2), if_pos c7, show rShut V = v2 (v2 V 272 0 0) 272 9 0 from rfl, ← hw11]; dsimp only; rw [if_pos c12]), by rw [ht9]; exact hW, va_K.moved hwz.alike hK, hN.warm hwz⟩, hS.F ht9⟩) hS.2.2 d_M_end_54
        · refine lv_iconst (v := 0) hx hb d_M_end_49 (by decide) ?_
          refine lv_goto (tgt := 54) hx hb d_M_end_50 (by decide) ?_
          refine W.widen (k := 0) (n := 0) (by omega) (by omega) ?_
          exact W.iret (v := 0) hx hb hr (fun t9 ht9 hwz => ⟨⟨0, (V9, P10), rfl, (by unfold rEnd; rw [if_neg (fun q => q.elim c1 c2), if_pos c7, show rShut V = v2 (v2 V 272 0 0) 272 9 0 from rfl, ← hw11]; dsimp only; rw [if_neg c12]), by rw [ht9]; exact hW, va_K.moved hwz.alike hK, hN.warm hwz⟩, hS.F ht9⟩) hS.2.2 d_M_end_54
      · refine lv_iload_n hx hb d_M_end_40 rfl (lv_at hl 0 rfl) ?_
        refine W.widen (k := 0) (n := 0) (by omega) (by omega) ?_
        exact W.iret (v := (rMany (P 275))) hx hb hr (fun t9 ht9 hwz => ⟨⟨(rMany (P 275)), ((v2 (v2 V 272 0 0) 272 9 0), P), rfl, (by unfold rEnd; rw [if_neg (fun q => q.elim c1 c2), if_neg c7]; rfl), by rw [ht9]; exact hW, va_K.moved hwz.alike hK, hN.warm hwz⟩, hS.F ht9⟩) hS.2.2 d_M_end_41
    · refine lv_iconst (v := (-1)) hx hb d_M_end_19 (by decide) ?_
      refine W.widen (k := 0) (n := 0) (by omega) (by omega) ?_
      exact W.iret (v := (-1)) hx hb hr (fun t9 ht9 hwz => ⟨⟨(-1), ((v2 V 272 0 0), P), rfl, (by unfold rEnd; rw [if_pos (Or.inr c2)]; rfl), by rw [ht9]; exact hW, va_K.moved hwz.alike hK, hN.warm hwz⟩, hS.F ht9⟩) hS.2.2 d_M_end_20

set_option maxHeartbeats 4000000 in
set_option maxRecDepth 100000 in
theorem m_M_flush (l : Launch) (D : va_G) (B : Nat) (cA : Nat → ClassId) (sh : Nat → Nat) (V P : VV) (N : Nat) (hN0 : V 272 1 = nI N) (h80 : N ≤ 80) : Met l y_M_flush w_M_flush ({ frames := 3, cells := 0, slots := 0, locals := 90 } : Room) (va_Pc [.ref (sh 272)] (JC D B cA sh (V, P))) (va_Qi (fun (r : Int32) (u : VV × VV) => (r, u.1, u.2) = rFlush V P) (JC D B cA sh) (hm_A B)) 0 0 (hm_A B) := by
  refine Met.ofW (cc := c_M_flush) (maxL := 2) (ret := (some FieldType.int)) (by decide) rfl ?_
  intro p e s m args below meth c s₁ Bd hml hv
  obtain ⟨rfl, hW, hK, hN⟩ := hv
  have hx := Bd.exec
  have hb := Bd.bytes
  have hr := Bd.returns
  have hts := atoms_spec (ws := w_M_flush) Bd.pre
  have hT : ∀ w ∈ WG, w.before ([.ref (sh 272)] : List Value).toArray s = true := fun w h => hts w (List.mem_cons_of_mem _ h)
  have hown : s.vm.findClass "BlockVaultModel" = some m.cls := findClass_of_methodNamed Bd.named
  have hlocks := Bd.notSynchronized
  have hW : JW D B cA sh V P s.heap := hW
  have hBs : B ≤ s.heap.size := hW.ge
  have hS : va_S (hm_A B) s.heap s.heap [] := va_S.rf
  have hl := lv_entry ([.ref (sh 272)]) (n := 2) (Nat.le_of_ble_eq_true rfl)
  rw [lg_entry_eq]
  generalize (lg_sl ([.ref (sh 272)]) ++ List.replicate (2 - (lg_sl ([.ref (sh 272)])).length) Slot.unset).toArray = ls at hl ⊢
  have hl : lv_has ls 2 [(0, .ref (sh 272))] := hl
  refine lv_aload_n hx hb d_M_flush_0 rfl (lv_at hl 0 rfl) ?_
  refine lv_iconst (v := 0) hx hb d_M_flush_1 (by decide) ?_
  refine jw_put (ci := 6) (x := 0) (ty := .int) (C := "BlockVaultModel") (T := T_M) (N := 15) hx hb hT in_M t_M t_M_ok n_M hown hK hW hS rfl rfl 0 (by decide) rfl (hT _ k321) (fun _ h9 => h9) rfl (by decide +kernel) rfl rfl d_M_flush_2 (fun H locs hW hS => ?_)
  refine lv_aload_n hx hb d_M_flush_5 rfl (lv_at hl 0 rfl) ?_
  refine va_get (D := D) (ci := 6) (v := .int (V 272 8)) (C := "BlockVaultModel") (T := T_M) (N := 15) hx hb hT in_M hown hK (hW.obj rfl) 0 rfl rfl 8 (by decide) (hT _ k329) (fun _ h9 => h9) rfl d_M_flush_6 ?_
  refine lv_if_eq (tgt := 19) hx hb d_M_flush_9 (by decide) (fun c1 => ?_) (fun c1 => ?_)
  · refine lv_iconst (v := (-1)) hx hb d_M_flush_19 (by decide) ?_
    refine W.widen (k := 0) (n := 0) (by omega) (by omega) ?_
    exact W.iret (v := (-1)) hx hb hr (fun t9 ht9 hwz => ⟨⟨(-1), ((v2 V 272 0 0), P), rfl, (by unfold rFlush; rw [if_pos (Or.inl c1)]; rfl), by rw [ht9]; exact hW, va_K.moved hwz.alike hK, hN.warm hwz⟩, hS.F ht9⟩) hS.2.2 d_M_flush_20
  · refine lv_aload_n hx hb d_M_flush_12 rfl (lv_at hl 0 rfl) ?_
    refine va_get (D := D) (ci := 6) (v := .int (V 272 9)) (C := "BlockVaultModel") (T := T_M) (N := 15) hx hb hT in_M hown hK (hW.obj rfl) 0 rfl rfl 9 (by decide) (hT _ k330) (fun _ h9 => h9) rfl d_M_flush_13 ?_
    refine lv_if_eq (tgt := 21) hx hb d_M_flush_16 (by decide) (fun c2 => ?_) (fun c2 => ?_)
    · refine lv_aload_n hx hb d_M_flush_21 rfl (lv_at hl 0 rfl) ?_
      refine va_get (D := D) (ci := 6) (v := .ref (sh 275)) (C := "BlockVaultModel") (T := T_M) (N := 15) hx hb hT in_M hown hK (hW.obj rfl) 0 rfl rfl 4 (by decide) (hT _ k325) (fun _ h9 => h9) rfl d_M_flush_22 ?_
      refine jw_calli (va_runS (As := [.ref (sh 275)]) (rest := []) ⟨hx, hb, hml, hown, hT⟩ (m_M_many l D B cA sh (v2 V 272 0 0) P 275 rfl) (va_cwS 1 hT (gS k377 k378 k8 kc_M_many) rfl rfl rfl (by decide +kernel) ⟨Nat.le_of_ble_eq_true rfl, Nat.le_of_ble_eq_true rfl⟩) (jw_preS hW hK hN) rfl rfl hl.1 rfl (lv_room (Nat.le_of_ble_eq_true rfl)) d_M_flush_25 ⟨Nat.le_of_ble_eq_true rfl, Nat.le_of_ble_eq_true rfl⟩) hS (fun r3 V4 P5 H locs hw6 hW hS => ?_)
      obtain ⟨rfl, rfl, rfl⟩ := t3 hw6
      refine lv_istore_n (lv' := [(1, .int (rMany (P 275))), (0, .ref (sh 272))]) hx hb d_M_flush_28 rfl hl (by decide) rfl (fun ls hl => ?_)
      refine lv_iload_n hx hb d_M_flush_29 rfl (lv_at hl 0 rfl) ?_
      refine lv_if_eq (tgt := 40) hx hb d_M_flush_30 (by decide) (fun c7 => ?_) (fun c7 => ?_)
      · refine lv_iload_n hx hb d_M_flush_40 rfl (lv_at hl 0 rfl) ?_
        refine lv_goto (tgt := 45) hx hb d_M_flush_41 (by decide) ?_
        refine W.widen (k := 0) (n := 0) (by omega) (by omega) ?_
        exact W.iret (v := (rMany (P 275))) hx hb hr (fun t9 ht9 hwz => ⟨⟨(rMany (P 275)), ((v2 V 272 0 0), P), rfl, (by unfold rFlush; rw [if_neg (fun q => q.elim c1 (fun z => z c2)), if_pos c7]; rfl), by rw [ht9]; exact hW, va_K.moved hwz.alike hK, hN.warm hwz⟩, hS.F ht9⟩) hS.2.2 d_M_flush_45
      · refine lv_aload_n hx hb d_M_flush_33 rfl (lv_at hl 1 rfl) ?_
        refine jw_calli (va_runV (As := []) (rest := []) ⟨hx, hb, hml, hown, hT⟩ (m_M_commit l D B cA sh (v2 V 272 0 0) P N hN0 h80) (cwV 0 hT (gV k380 k382 ks5 k8 kc_M_commit) rfl rfl rfl (by decide +kernel) ⟨Nat.le_of_ble_eq_true rfl, Nat.le_of_ble_eq_true rfl⟩) (jw_preV (q := ("BlockVaultModel", T_M, 15)) hW hK hN rfl rfl) rfl rfl hl.1 rfl (lv_room (Nat.le_of_ble_eq_true rfl)) d_M_flush_34 ⟨Nat.le_of_ble_eq_true rfl, Nat.le_of_ble_eq_true rfl⟩) hS (fun r8 V9 P10 H locs hw11 hW hS => ?_)
        refine lv_if_eq (tgt := 44) hx hb d_M_flush_37 (by decide) (fun c12 => ?_) (fun c12 => ?_)
        · refine lv_iconst (v := (-1)) hx hb d_M_flush_44 (by decide) ?_
          refine W.widen (k := 0) (n := 0) (by omega) (by omega) ?_
          exact W.iret (v := (-1)) hx hb hr (fun t9 ht9 hwz => ⟨⟨(-1), (V9, P10), rfl, (by unfold rFlush; rw [if_neg (fun q => q.elim c1 (fun z => z c2)), if_neg c7, show r0 V = v2 V 272 0 0 from rfl, ← hw11]; dsimp only; rw [if_pos c12]), by rw [ht9]; exact hW, va_K.moved hwz.alike hK, hN.warm hwz⟩, hS.F ht9⟩) hS.2.2 d_M_flush_45
        · refine lv_iload_n hx hb d_M_flush_40 rfl (lv_at hl 0 rfl) ?_
          refine lv_goto (tgt := 45) hx hb d_M_flush_41 (by decide) ?_
          refine W.widen (k := 0) (n := 0) (by omega) (by omega) ?_
          exact W.iret (v := (rMany (P 275))) hx hb hr (fun t9 ht9 hwz => ⟨⟨(rMany (P 275)), (V9, P10), rfl, (by unfold rFlush; rw [if_neg (fun q => q.elim c1 (fun z => z c2)), if_neg c7, show r0 V = v2 V 272 0 0 from rfl, ← hw11]; dsimp only; rw [if_neg c12]), by rw [ht9]; exact hW, va_K.moved hwz.alike hK, hN.warm hwz⟩, hS.F ht9⟩) hS.2.2 d_M_flush_45
    · refine lv_iconst (v := (-1)) hx hb d_M_flush_19 (by decide) ?_
      refine W.widen (k := 0) (n := 0) (by omega) (by omega) ?_
      exact W.iret (v := (-1)) hx hb hr (fun t9 ht9 hwz => ⟨⟨(-1), ((v2 V 272 0 0), P), rfl, (by unfold rFlush; rw [if_pos (Or.inr c2)]; rfl), by rw [ht9]; exact hW, va_K.moved hwz.alike hK, hN.warm hwz⟩, hS.F ht9⟩) hS.2.2 d_M_flush_20

set_option maxHeartbeats 4000000 in
set_option maxRecDepth 100000 in
theorem m_M_look (l : Launch) (D : va_G) (B : Nat) (cA : Nat → ClassId) (sh : Nat → Nat) (V P : VV) (N : Nat) (hN0 : V 272 1 = nI N) (h80 : N ≤ 80) (b : Nat) (hb80 : b < 80) (hsc : P 277 b = 0 → (rScan V P).1 = 34 → ¬ (rScan V P).2 < 0) : Met l y_M_look w_M_look ({ frames := 0, cells := 0, slots := 0, locals := 0 } : Room) (va_Pc [.ref (sh 272), .int (nI b)] (JC D B cA sh (V, P))) (va_Qv (fun (u : VV × VV) => u = rLook V P b) (JC D B cA sh) (hm_A B)) 0 0 (hm_A B) := by
  refine Met.ofW (cc := c_M_look) (maxL := 5) (ret := none) (by decide) rfl ?_
  intro p e s m args below meth c s₁ Bd hml hv
  obtain ⟨rfl, hW, hK, hN⟩ := hv
  have hx := Bd.exec
  have hb := Bd.bytes
  have hr := Bd.returns
  have hts := atoms_spec (ws := w_M_look) Bd.pre
  have hT : ∀ w ∈ WG, w.before ([.ref (sh 272), .int (nI b)] : List Value).toArray s = true := fun w h => hts w (List.mem_cons_of_mem _ h)
  have hown : s.vm.findClass "BlockVaultModel" = some m.cls := findClass_of_methodNamed Bd.named
  have hlocks := Bd.notSynchronized
  have hW : JW D B cA sh V P s.heap := hW
  have hBs : B ≤ s.heap.size := hW.ge
  have hS : va_S (hm_A B) s.heap s.heap [] := va_S.rf
  have hl := lv_entry ([.ref (sh 272), .int (nI b)]) (n := 5) (Nat.le_of_ble_eq_true rfl)
  rw [lg_entry_eq]
  generalize (lg_sl ([.ref (sh 272), .int (nI b)]) ++ List.replicate (5 - (lg_sl ([.ref (sh 272), .int (nI b)])).length) Slot.unset).toArray = ls at hl ⊢
  have hl : lv_has ls 5 [(0, .ref (sh 272)), (1, .int (nI b))] := hl
  refine lv_aload_n hx hb d_M_look_0 rfl (lv_at hl 0 rfl) ?_
  refine va_get (D := D) (ci := 6) (v := .ref (sh 277)) (C := "BlockVaultModel") (T := T_M) (N := 15) hx hb hT in_M hown hK (hW.obj rfl) 0 rfl rfl 6 (by decide) (hT _ k327) (fun _ h9 => h9) rfl d_M_look_1 ?_
  refine lv_iload_n hx hb d_M_look_4 rfl (lv_at hl 1 rfl) ?_
  refine jw_iald (i := b) hx hb hK hW rfl (by omega) d_M_look_5 ?_
  refine lv_if_ne (tgt := 115) hx hb d_M_look_6 (by decide) (fun c1 => ?_) (fun c1 => ?_)
  · refine lv_aload_n hx hb d_M_look_115 rfl (lv_at hl 0 rfl) ?_
    refine lv_dup hx hb d_M_look_116 rfl ?_
    refine va_get (D := D) (ci := 6) (v := .int (V 272 7)) (C := "BlockVaultModel") (T := T_M) (N := 15) hx hb hT in_M hown hK (hW.obj rfl) 0 rfl rfl 7 (by decide) (hT _ k328) (fun _ h9 => h9) rfl d_M_look_117 ?_
    refine lv_iconst (v := 1) hx hb d_M_look_120 (by decide) ?_
    refine lv_iadd hx hb d_M_look_121 ?_
    refine jw_put (ci := 6) (x := ((V 272 7) + 1)) (ty := .int) (C := "BlockVaultModel") (T := T_M) (N := 15) hx hb hT in_M t_M t_M_ok n_M hown hK hW hS rfl rfl 7 (by decide) rfl (hT _ k328) (fun _ h9 => h9) rfl (by decide +kernel) rfl rfl d_M_look_122 (fun H locs hW hS => ?_)
    refine lv_aload_n hx hb d_M_look_125 rfl (lv_at hl 0 rfl) ?_
    refine va_get (D := D) (ci := 6) (v := .ref (sh 277)) (C := "BlockVaultModel") (T := T_M) (N := 15) hx hb hT in_M hown hK (hW.obj rfl) 0 rfl rfl 6 (by decide) (hT _ k327) (fun _ h9 => h9) rfl d_M_look_126 ?_
    refine lv_iload_n hx hb d_M_look_129 rfl (lv_at hl 1 rfl) ?_
    refine lv_aload_n hx hb d_M_look_130 rfl (lv_at hl 0 rfl) ?_
    refine va_get (D := D) (ci := 6) (v := .int ((V 272 7) + 1)) (C := "BlockVaultModel") (T := T_M) (N := 15) hx hb hT in_M hown hK (hW.obj rfl) 0 rfl rfl 7 (by decide) (hT _ k328) (fun _ h9 => h9) rfl d_M_look_131 ?_
    refine jw_iastN (i := b) hx hb hK hW hS rfl (by omega) d_M_look_134 (fun H locs hW hS => ?_)
    refine W.widen (k := 0) (n := 0) (by omega) (by omega) ?_
    exact W.vret hx hb hr (fun t9 ht9 hwz => ⟨⟨((v2 V 272 7 ((V 272 7) + 1)), (p1 P 277 (upd (P 277) b ((V 272 7) + 1)))), rfl, (by unfold rLook; rw [if_neg c1]; rfl), by rw [ht9]; exact hW, va_K.moved hwz.alike hK, hN.warm hwz⟩, hS.F ht9⟩) hS.2.2 d_M_look_135
  · refine lv_aload_n hx hb d_M_look_9 rfl (lv_at hl 0 rfl) ?_
    refine lv_dup hx hb d_M_look_10 rfl ?_
    refine va_get (D := D) (ci := 6) (v := .int (V 272 12)) (C := "BlockVaultModel") (T := T_M) (N := 15) hx hb hT in_M hown hK (hW.obj rfl) 0 rfl rfl 12 (by decide) (hT _ k333) (fun _ h9 => h9) rfl d_M_look_11 ?_
    refine lv_iconst (v := 1) hx hb d_M_look_14 (by decide) ?_
    refine lv_iadd hx hb d_M_look_15 ?_
    refine jw_put (ci := 6) (x := ((V 272 12) + 1)) (ty := .int) (C := "BlockVaultModel") (T := T_M) (N := 15) hx hb hT in_M t_M t_M_ok n_M hown hK hW hS rfl rfl 12 (by decide) rfl (hT _ k333) (fun _ h9 => h9) rfl (by decide +kernel) rfl rfl d_M_look_16 (fun H locs hW hS => ?_)
    refine lv_iconst (v := 0) hx hb d_M_look_19 (by decide) ?_
    refine lv_istore_n (lv' := [(2, .int 0), (0, .ref (sh 272)), (1, .int (nI b))]) hx hb d_M_look_20 rfl hl (by decide) rfl (fun ls hl => ?_)
    refine lv_iconst (v := (-1)) hx hb d_M_look_21 (by decide) ?_
    refine lv_istore_n (lv' := [(3, .int (-1)), (2, .int 0), (0, .ref (sh 272)), (1, .int (nI b))]) hx hb d_M_look_22 rfl hl (by decide) rfl (fun ls hl => ?_)
    refine lv_iconst (v := 0) hx hb d_M_look_23 (by decide) ?_
    refine lv_istore (lv' := [(4, .int 0), (3, .int (-1)), (2, .int 0), (0, .ref (sh 272)), (1, .int (nI b))]) hx hb d_M_look_24 hl (by decide) rfl (fun ls hl => ?_)
    have loop : ∀ (n i : Nat) (r : Int32) (o : Int32) (H : Heap) (locs : List Loc) (ls : Array Slot), i + n = N → ((¬ o < 0 → vp_in o 80) ∧ lkL (P 277) (P 275) n i r o = rScan V P) → JW D B cA sh (v2 V 272 12 ((V 272 12) + 1)) P H → va_S (hm_A B) s.heap H locs → lv_has ls 5 [(4, .int (nI i)), (3, .int o), (2, .int r), (0, .ref (sh 272)), (1, .int (nI b))] → W p l e (headSpec w_M_look ({ frames := 0, cells := 0, slots := 0, locals := 0 } : Room)).room s m ([.ref (sh 272), .int (nI b)] : List Value).toArray below meth c H locs 0 0 (MQ below (va_Qv (fun (u : VV × VV) => u = rLook V P b) (JC D B cA sh) (hm_A B)) ([.ref (sh 272), .int (nI b)] : List Value).toArray s 0 0 (hm_A B)) (F0 m 26 ls []) := by
      intro n
      induction n with
      | zero =>
        intro i r o H locs ls hin hinv hW hS hl
        obtain rfl : N = i := by omega
        refine lv_iload hx hb d_M_look_26 (lv_at hl 0 rfl) ?_
        refine lv_aload_n hx hb d_M_look_28 rfl (lv_at hl 3 rfl) ?_
        refine va_get (D := D) (ci := 6) (v := .int (V 272 1)) (C := "BlockVaultModel") (T := T_M) (N := 15) hx hb hT in_M hown hK (hW.obj rfl) 0 rfl rfl 1 (by decide) (hT _ k322) (fun _ h9 => h9) rfl d_M_look_29 ?_
        refine lv_icmp_ge (tgt := 102) hx hb d_M_look_32 (by decide) (fun c2 => ?_) (fun c2 => ?_)
        · refine lv_iload_n hx hb d_M_look_102 rfl (lv_at hl 2 rfl) ?_
          refine lv_bipush (v := 34) hx hb d_M_look_103 (by decide) ?_
          refine lv_icmp_ne (tgt := 115) hx hb d_M_look_105 (by decide) (fun c3 => ?_) (fun c3 => ?_)
          · refine lv_aload_n hx hb d_M_look_115 rfl (lv_at hl 3 rfl) ?_
            refine lv_dup hx hb d_M_look_116 rfl ?_
            refine va_get (D := D) (ci := 6) (v := .int (V 272 7)) (C := "BlockVaultModel") (T := T_M) (N := 15) hx hb hT in_M hown hK (hW.obj rfl) 0 rfl rfl 7 (by decide) (hT _ k328) (fun _ h9 => h9) rfl d_M_look_117 ?_
            refine lv_iconst (v := 1) hx hb d_M_look_120 (by decide) ?_
            refine lv_iadd hx hb d_M_look_121 ?_
            refine jw_put (ci := 6) (x := ((V 272 7) + 1)) (ty := .int) (C := "BlockVaultModel") (T := T_M) (N := 15) hx hb hT in_M t_M t_M_ok n_M hown hK hW hS rfl rfl 7 (by decide) rfl (hT _ k328) (fun _ h9 => h9) rfl (by decide +kernel) rfl rfl d_M_look_122 (fun H locs hW hS => ?_)
            refine lv_aload_n hx hb d_M_look_125 rfl (lv_at hl 3 rfl) ?_
            refine va_get (D := D) (ci := 6) (v := .ref (sh 277)) (C := "BlockVaultModel") (T := T_M) (N := 15) hx hb hT in_M hown hK (hW.obj rfl) 0 rfl rfl 6 (by decide) (hT _ k327) (fun _ h9 => h9) rfl d_M_look_126 ?_
            refine lv_iload_n hx hb d_M_look_129 rfl (lv_at hl 4 rfl) ?_
            refine lv_aload_n hx hb d_M_look_130 rfl (lv_at hl 3 rfl) ?_
            refine va_get (D := D) (ci := 6) (v := .int ((V 272 7) + 1)) (C := "BlockVaultModel") (T := T_M) (N := 15) hx hb hT in_M hown hK (hW.obj rfl) 0 rfl rfl 7 (by decide) (hT _ k328) (fun _ h9 => h9) rfl d_M_look_131 ?_
            refine jw_iastN (i := b) hx hb hK hW hS rfl (by omega) d_M_look_134 (fun H locs hW hS => ?_)
            refine W.widen (k := 0) (n := 0) (by omega) (by omega) ?_
            exact W.vret hx hb hr (fun t9 ht9 hwz => ⟨⟨((v2 (v2 V 272 12 ((V 272 12) + 1)) 272 7 ((V 272 7) + 1)), (p1 P 277 (upd (P 277) b ((V 272 7) + 1)))), rfl, (by unfold rLook rEvict; rw [if_pos c1, show rScan V P = (r, o) from hinv.2.symm]; dsimp only; rw [if_neg c3]; rfl), by rw [ht9]; exact hW, va_K.moved hwz.alike hK, hN.warm hwz⟩, hS.F ht9⟩) hS.2.2 d_M_look_135
          · refine lv_aload_n hx hb d_M_look_108 rfl (lv_at hl 3 rfl) ?_
            refine va_get (D := D) (ci := 6) (v := .ref (sh 277)) (C := "BlockVaultModel") (T := T_M) (N := 15) hx hb hT in_M hown hK (hW.obj rfl) 0 rfl rfl 6 (by decide) (hT _ k327) (fun _ h9 => h9) rfl d_M_look_109 ?_
            refine lv_iload_n hx hb d_M_look_112 rfl (lv_at hl 1 rfl) ?_
            refine lv_iconst (v := 0) hx hb d_M_look_113 (by decide) ?_
            have hno : ¬ o < 0 := by have q := hsc c1 (by rw [show rScan V P = (r, o) from hinv.2.symm]; exact c3); rw [show rScan V P = (r, o) from hinv.2.symm] at q; exact q
            refine jw_iast hx hb hK hW hS (hinv.1 hno) d_M_look_114 (fun H locs hW hS => ?_)
            refine lv_aload_n hx hb d_M_look_115 rfl (lv_at hl 3 rfl) ?_
            refine lv_dup hx hb d_M_look_116 rfl ?_
            refine va_get (D := D) (ci := 6) (v := .int (V 272 7)) (C := "BlockVaultModel") (T := T_M) (N := 15) hx hb hT in_M hown hK (hW.obj rfl) 0 rfl rfl 7 (by decide) (hT _ k328) (fun _ h9 => h9) rfl d_M_look_117 ?_
            refine lv_iconst (v := 1) hx hb d_M_look_120 (by decide) ?_
            refine lv_iadd hx hb d_M_look_121 ?_
            refine jw_put (ci := 6) (x := ((V 272 7) + 1)) (ty := .int) (C := "BlockVaultModel") (T := T_M) (N := 15) hx hb hT in_M t_M t_M_ok n_M hown hK hW hS rfl rfl 7 (by decide) rfl (hT _ k328) (fun _ h9 => h9) rfl (by decide +kernel) rfl rfl d_M_look_122 (fun H locs hW hS => ?_)
            refine lv_aload_n hx hb d_M_look_125 rfl (lv_at hl 3 rfl) ?_
            refine va_get (D := D) (ci := 6) (v := .ref (sh 277)) (C := "BlockVaultModel") (T := T_M) (N := 15) hx hb hT in_M hown hK (hW.obj rfl) 0 rfl rfl 6 (by decide) (hT _ k327) (fun _ h9 => h9) rfl d_M_look_126 ?_
            refine lv_iload_n hx hb d_M_look_129 rfl (lv_at hl 4 rfl) ?_
            refine lv_aload_n hx hb d_M_look_130 rfl (lv_at hl 3 rfl) ?_
            refine va_get (D := D) (ci := 6) (v := .int ((V 272 7) + 1)) (C := "BlockVaultModel") (T := T_M) (N := 15) hx hb hT in_M hown hK (hW.obj rfl) 0 rfl rfl 7 (by decide) (hT _ k328) (fun _ h9 => h9) rfl d_M_look_131 ?_
            refine jw_iastN (i := b) hx hb hK hW hS rfl (by omega) d_M_look_134 (fun H locs hW hS => ?_)
            refine W.widen (k := 0) (n := 0) (by omega) (by omega) ?_
            exact W.vret hx hb hr (fun t9 ht9 hwz => ⟨⟨((v2 (v2 V 272 12 ((V 272 12) + 1)) 272 7 ((V 272 7) + 1)), (p1 (p1 P 277 (upd (P 277) o.toNatClampNeg 0)) 277 (upd ((p1 P 277 (upd (P 277) o.toNatClampNeg 0)) 277) b ((V 272 7) + 1)))), rfl, (by unfold rLook rEvict; rw [if_pos c1, show rScan V P = (r, o) from hinv.2.symm]; dsimp only; rw [if_pos c3]; rfl), by rw [ht9]; exact hW, va_K.moved hwz.alike hK, hN.warm hwz⟩, hS.F ht9⟩) hS.2.2 d_M_look_135
        · exact absurd (by rw [hN0]; exact Int32.le_refl _) c2
      | succ n ih =>
        intro i r o H locs ls hin hinv hW hS hl
        have hi : i < N := by omega
        refine lv_iload hx hb d_M_look_26 (lv_at hl 0 rfl) ?_
        refine lv_aload_n hx hb d_M_look_28 rfl (lv_at hl 3 rfl) ?_
        refine va_get (D := D) (ci := 6) (v := .int (V 272 1)) (C := "BlockVaultModel") (T := T_M) (N := 15) hx hb hT in_M hown hK (hW.obj rfl) 0 rfl rfl 1 (by decide) (hT _ k322) (fun _ h9 => h9) rfl d_M_look_29 ?_
        refine lv_icmp_ge (tgt := 102) hx hb d_M_look_32 (by decide) (fun c4 => ?_) (fun c4 => ?_)
        · exact absurd c4 (by rw [hN0]; exact nI_ge (by omega) (by omega))
        · refine lv_iload_n hx hb d_M_look_35 rfl (lv_at hl 2 rfl) ?_
          refine lv_aload_n hx hb d_M_look_36 rfl (lv_at hl 3 rfl) ?_
          refine va_get (D := D) (ci := 6) (v := .ref (sh 277)) (C := "BlockVaultModel") (T := T_M) (N := 15) hx hb hT in_M hown hK (hW.obj rfl) 0 rfl rfl 6 (by decide) (hT _ k327) (fun _ h9 => h9) rfl d_M_look_37 ?_
          refine lv_iload hx hb d_M_look_40 (lv_at hl 0 rfl) ?_
          refine jw_iald (i := i) hx hb hK hW rfl (by omega) d_M_look_42 ?_
          refine lv_if_le (tgt := 50) hx hb d_M_look_43 (by decide) (fun c5 => ?_) (fun c5 => ?_)
          · refine lv_iconst (v := 0) hx hb d_M_look_50 (by decide) ?_
            refine lv_iadd hx hb d_M_look_51 ?_
            refine lv_istore_n (lv' := [(2, .int (r + 0)), (4, .int (nI i)), (3, .int o), (0, .ref (sh 272)), (1, .int (nI b))]) hx hb d_M_look_52 rfl hl (by decide) rfl (fun ls hl => ?_)
            refine lv_aload_n hx hb d_M_look_53 rfl (lv_at hl 3 rfl) ?_
            refine va_get (D := D) (ci := 6) (v := .ref (sh 277)) (C := "BlockVaultModel") (T := T_M) (N := 15) hx hb hT in_M hown hK (hW.obj rfl) 0 rfl rfl 6 (by decide) (hT _ k327) (fun _ h9 => h9) rfl d_M_look_54 ?_
            refine lv_iload hx hb d_M_look_57 (lv_at hl 1 rfl) ?_
            refine jw_iald (i := i) hx hb hK hW rfl (by omega) d_M_look_59 ?_
            refine lv_if_le (tgt := 96) hx hb d_M_look_60 (by decide) (fun c6 => ?_) (fun c6 => ?_)
            · refine lv_iinc (v := ((nI i) + 1)) (lv' := [(4, .int ((nI i) + 1)), (2, .int (r + 0)), (3, .int o), (0, .ref (sh 272)), (1, .int (nI b))]) hx hb d_M_look_96 hl (k := 1) rfl rfl (by decide) rfl (fun ls hl => ?_)
              refine lv_goto (tgt := 26) hx hb d_M_look_99 (by decide) ?_
              exact ih (i + 1) (r + 0) o H locs ls (by omega) (⟨hinv.1, by rw [← hinv.2]; simp only [lkL]; rw [if_pos c5, if_pos (Or.inl c5)]⟩) hW hS (by rw [← nI_1]; exact lv_sub hl [0, 2, 1, 3, 4] rfl)
            · exact absurd c5 c6
          · refine lv_iconst (v := 1) hx hb d_M_look_46 (by decide) ?_
            refine lv_goto (tgt := 51) hx hb d_M_look_47 (by decide) ?_
            refine lv_iadd hx hb d_M_look_51 ?_
            refine lv_istore_n (lv' := [(2, .int (r + 1)), (4, .int (nI i)), (3, .int o), (0, .ref (sh 272)), (1, .int (nI b))]) hx hb d_M_look_52 rfl hl (by decide) rfl (fun ls hl => ?_)
            refine lv_aload_n hx hb d_M_look_53 rfl (lv_at hl 3 rfl) ?_
            refine va_get (D := D) (ci := 6) (v := .ref (sh 277)) (C := "BlockVaultModel") (T := T_M) (N := 15) hx hb hT in_M hown hK (hW.obj rfl) 0 rfl rfl 6 (by decide) (hT _ k327) (fun _ h9 => h9) rfl d_M_look_54 ?_
            refine lv_iload hx hb d_M_look_57 (lv_at hl 1 rfl) ?_
            refine jw_iald (i := i) hx hb hK hW rfl (by omega) d_M_look_59 ?_
            refine lv_if_le (tgt := 96) hx hb d_M_look_60 (by decide) (fun c7 => ?_) (fun c7 => ?_)
            · exact absurd c7 c5
            · refine lv_aload_n hx hb d_M_look_63 rfl (lv_at hl 3 rfl) ?_
              refine va_get (D := D) (ci := 6) (v := .ref (sh 275)) (C := "BlockVaultModel") (T := T_M) (N := 15) hx hb hT in_M hown hK (hW.obj rfl) 0 rfl rfl 4 (by decide) (hT _ k325) (fun _ h9 => h9) rfl d_M_look_64 ?_
              refine lv_iload hx hb d_M_look_67 (lv_at hl 1 rfl) ?_
              refine jw_zald (t := 275) (i := i) hx hb hK hW rfl rfl (by omega) d_M_look_69 ?_
              refine lv_if_ne (tgt := 96) hx hb d_M_look_70 (by decide) (fun c8 => ?_) (fun c8 => ?_)
              · refine lv_iinc (v := ((nI i) + 1)) (lv' := [(4, .int ((nI i) + 1)), (2, .int (r + 1)), (3, .int o), (0, .ref (sh 272)), (1, .int (nI b))]) hx hb d_M_look_96 hl (k := 1) rfl rfl (by decide) rfl (fun ls hl => ?_)
                refine lv_goto (tgt := 26) hx hb d_M_look_99 (by decide) ?_
                exact ih (i + 1) (r + 1) o H locs ls (by omega) (⟨hinv.1, by rw [← hinv.2]; simp only [lkL]; rw [if_neg c5, if_pos (Or.inr (Or.inl c8))]⟩) hW hS (by rw [← nI_1]; exact lv_sub hl [0, 2, 1, 3, 4] rfl)
              · refine lv_iload_n hx hb d_M_look_73 rfl (lv_at hl 2 rfl) ?_
                refine lv_if_lt (tgt := 93) hx hb d_M_look_74 (by decide) (fun c9 => ?_) (fun c9 => ?_)
                · refine lv_iload hx hb d_M_look_93 (lv_at hl 1 rfl) ?_
                  refine lv_istore_n (lv' := [(3, .int (nI i)), (2, .int (r + 1)), (4, .int (nI i)), (0, .ref (sh 272)), (1, .int (nI b))]) hx hb d_M_look_95 rfl hl (by decide) rfl (fun ls hl => ?_)
                  refine lv_iinc (v := ((nI i) + 1)) (lv' := [(4, .int ((nI i) + 1)), (3, .int (nI i)), (2, .int (r + 1)), (0, .ref (sh 272)), (1, .int (nI b))]) hx hb d_M_look_96 hl (k := 2) rfl rfl (by decide) rfl (fun ls hl => ?_)
                  refine lv_goto (tgt := 26) hx hb d_M_look_99 (by decide) ?_
                  exact ih (i + 1) (r + 1) (nI i) H locs ls (by omega) (⟨fun _ => vp_in_nI (by omega) (by omega), by rw [← hinv.2]; simp only [lkL]; rw [if_neg c5, if_neg (fun q => q.elim c5 (fun q => q.elim (fun z => z c8) (fun q => q.1 c9)))]⟩) hW hS (by rw [← nI_1]; exact lv_sub hl [0, 1, 2, 3, 4] rfl)
                · refine lv_aload_n hx hb d_M_look_77 rfl (lv_at hl 3 rfl) ?_
                  refine va_get (D := D) (ci := 6) (v := .ref (sh 277)) (C := "BlockVaultModel") (T := T_M) (N := 15) hx hb hT in_M hown hK (hW.obj rfl) 0 rfl rfl 6 (by decide) (hT _ k327) (fun _ h9 => h9) rfl d_M_look_78 ?_
                  refine lv_iload hx hb d_M_look_81 (lv_at hl 1 rfl) ?_
                  refine jw_iald (i := i) hx hb hK hW rfl (by omega) d_M_look_83 ?_
                  refine lv_aload_n hx hb d_M_look_84 rfl (lv_at hl 3 rfl) ?_
                  refine va_get (D := D) (ci := 6) (v := .ref (sh 277)) (C := "BlockVaultModel") (T := T_M) (N := 15) hx hb hT in_M hown hK (hW.obj rfl) 0 rfl rfl 6 (by decide) (hT _ k327) (fun _ h9 => h9) rfl d_M_look_85 ?_
                  refine lv_iload_n hx hb d_M_look_88 rfl (lv_at hl 2 rfl) ?_
                  refine jw_ialdI hx hb hK hW (hinv.1 c9) d_M_look_89 ?_
                  refine lv_icmp_ge (tgt := 96) hx hb d_M_look_90 (by decide) (fun c10 => ?_) (fun c10 => ?_)
                  · refine lv_iinc (v := ((nI i) + 1)) (lv' := [(4, .int ((nI i) + 1)), (2, .int (r + 1)), (3, .int o), (0, .ref (sh 272)), (1, .int (nI b))]) hx hb d_M_look_96 hl (k := 1) rfl rfl (by decide) rfl (fun ls hl => ?_)
                    refine lv_goto (tgt := 26) hx hb d_M_look_99 (by decide) ?_
                    exact ih (i + 1) (r + 1) o H locs ls (by omega) (⟨hinv.1, by rw [← hinv.2]; simp only [lkL]; rw [if_neg c5, if_pos (Or.inr (Or.inr ⟨c9, c10⟩))]⟩) hW hS (by rw [← nI_1]; exact lv_sub hl [0, 2, 1, 3, 4] rfl)
                  · refine lv_iload hx hb d_M_look_93 (lv_at hl 1 rfl) ?_
                    refine lv_istore_n (lv' := [(3, .int (nI i)), (2, .int (r + 1)), (4, .int (nI i)), (0, .ref (sh 272)), (1, .int (nI b))]) hx hb d_M_look_95 rfl hl (by decide) rfl (fun ls hl => ?_)
                    refine lv_iinc (v := ((nI i) + 1)) (lv' := [(4, .int ((nI i) + 1)), (3, .int (nI i)), (2, .int (r + 1)), (0, .ref (sh 272)), (1, .int (nI b))]) hx hb d_M_look_96 hl (k := 2) rfl rfl (by decide) rfl (fun ls hl => ?_)
                    refine lv_goto (tgt := 26) hx hb d_M_look_99 (by decide) ?_
                    exact ih (i + 1) (r + 1) (nI i) H locs ls (by omega) (⟨fun _ => vp_in_nI (by omega) (by omega), by rw [← hinv.2]; simp only [lkL]; rw [if_neg c5, if_neg (fun q => q.elim c5 (fun q => q.elim (fun z => z c8) (fun q => c10 q.2)))]⟩) hW hS (by rw [← nI_1]; exact lv_sub hl [0, 1, 2, 3, 4] rfl)
    exact loop N 0 0 (-1) _ _ ls (by omega) (⟨fun q => absurd (by decide) q, by unfold rScan; rw [hN0, nI_clamp (by omega)]⟩) hW hS (lv_sub hl [0, 1, 2, 3, 4] rfl)

theorem rLook_t {V P : VV} {b t : Nat} (h : t ≠ 277) : (rLook V P b).2 t = P t := by
  unfold rLook
  by_cases c : P 277 b = 0
  · rw [if_pos c]
    dsimp only
    unfold rStamp rEvict
    rw [p1_n h]
    by_cases d : (rScan V P).1 = 34
    · rw [if_pos d, p1_n h]
    · rw [if_neg d]
  · rw [if_neg c]
    dsimp only
    unfold rStamp
    rw [p1_n h]

set_option maxHeartbeats 4000000 in
set_option maxRecDepth 100000 in
theorem m_M_get (l : Launch) (D : va_G) (B : Nat) (cA : Nat → ClassId) (sh : Nat → Nat) (V P : VV) (N : Nat) (hN0 : V 272 1 = nI N) (h80 : N ≤ 80) (b k : Int32) (hsc : V 272 8 = 0 ∨ ¬ rIsBlock V b ∨ (P 277 b.toNatClampNeg = 0 → (rScan (r0 V) P).1 = 34 → ¬ (rScan (r0 V) P).2 < 0)) : Met l y_M_get w_M_get ({ frames := 1, cells := 0, slots := 0, locals := 30 } : Room) (va_Pc [.ref (sh 272), .int b, .int k] (JC D B cA sh (V, P))) (va_Qi (fun (r : Int32) (u : VV × VV) => (r, u.1, u.2) = rGet V P b k) (JC D B cA sh) (hm_A B)) 0 0 (hm_A B) := by
  refine Met.ofW (cc := c_M_get) (maxL := 3) (ret := (some FieldType.int)) (by decide) rfl ?_
  intro p e s m args below meth c s₁ Bd hml hv
  obtain ⟨rfl, hW, hK, hN⟩ := hv
  have hx := Bd.exec
  have hb := Bd.bytes
  have hr := Bd.returns
  have hts := atoms_spec (ws := w_M_get) Bd.pre
  have hT : ∀ w ∈ WG, w.before ([.ref (sh 272), .int b, .int k] : List Value).toArray s = true := fun w h => hts w (List.mem_cons_of_mem _ h)
  have hown : s.vm.findClass "BlockVaultModel" = some m.cls := findClass_of_methodNamed Bd.named
  have hlocks := Bd.notSynchronized
  have hW : JW D B cA sh V P s.heap := hW
  have hBs : B ≤ s.heap.size := hW.ge
  have hS : va_S (hm_A B) s.heap s.heap [] := va_S.rf
  have hl := lv_entry ([.ref (sh 272), .int b, .int k]) (n := 3) (Nat.le_of_ble_eq_true rfl)
  rw [lg_entry_eq]
  generalize (lg_sl ([.ref (sh 272), .int b, .int k]) ++ List.replicate (3 - (lg_sl ([.ref (sh 272), .int b, .int k])).length) Slot.unset).toArray = ls at hl ⊢
  have hl : lv_has ls 3 [(0, .ref (sh 272)), (1, .int b), (2, .int k)] := hl
  refine lv_aload_n hx hb d_M_get_0 rfl (lv_at hl 0 rfl) ?_
  refine lv_iconst (v := 0) hx hb d_M_get_1 (by decide) ?_
  refine jw_put (ci := 6) (x := 0) (ty := .int) (C := "BlockVaultModel") (T := T_M) (N := 15) hx hb hT in_M t_M t_M_ok n_M hown hK hW hS rfl rfl 0 (by decide) rfl (hT _ k321) (fun _ h9 => h9) rfl (by decide +kernel) rfl rfl d_M_get_2 (fun H locs hW hS => ?_)
  refine lv_aload_n hx hb d_M_get_5 rfl (lv_at hl 0 rfl) ?_
  refine va_get (D := D) (ci := 6) (v := .int (V 272 8)) (C := "BlockVaultModel") (T := T_M) (N := 15) hx hb hT in_M hown hK (hW.obj rfl) 0 rfl rfl 8 (by decide) (hT _ k329) (fun _ h9 => h9) rfl d_M_get_6 ?_
  refine lv_if_eq (tgt := 31) hx hb d_M_get_9 (by decide) (fun c1 => ?_) (fun c1 => ?_)
  · refine lv_iconst (v := (-1)) hx hb d_M_get_31 (by decide) ?_
    refine W.widen (k := 0) (n := 0) (by omega) (by omega) ?_
    exact W.iret (v := (-1)) hx hb hr (fun t9 ht9 hwz => ⟨⟨(-1), ((v2 V 272 0 0), P), rfl, (by unfold rGet; rw [if_pos (Or.inl c1)]; rfl), by rw [ht9]; exact hW, va_K.moved hwz.alike hK, hN.warm hwz⟩, hS.F ht9⟩) hS.2.2 d_M_get_32
  · refine lv_aload_n hx hb d_M_get_12 rfl (lv_at hl 0 rfl) ?_
    refine lv_iload_n hx hb d_M_get_13 rfl (lv_at hl 1 rfl) ?_
    refine jw_calli (va_runV (As := [.int b]) (rest := []) ⟨hx, hb, hml, hown, hT⟩ (m_M_isBlock l D B cA sh (v2 V 272 0 0) P b) (cwV 1 hT (gV k400 k402 ks8 k8 kc_M_isBlock) rfl rfl rfl (by decide +kernel) ⟨Nat.le_of_ble_eq_true rfl, Nat.le_of_ble_eq_true rfl⟩) (jw_preV (q := ("BlockVaultModel", T_M, 15)) hW hK hN rfl rfl) rfl rfl hl.1 rfl (lv_room (Nat.le_of_ble_eq_true rfl)) d_M_get_14 ⟨Nat.le_of_ble_eq_true rfl, Nat.le_of_ble_eq_true rfl⟩) hS (fun r2 V3 P4 H locs hw5 hW hS => ?_)
    obtain ⟨hr6, rfl, rfl⟩ := t3 hw5
    refine lv_if_eq (tgt := 31) hx hb d_M_get_17 (by decide) (fun c7 => ?_) (fun c7 => ?_)
    · have hq : ¬ rIsBlock V b := bi_f hr6 c7
      refine lv_iconst (v := (-1)) hx hb d_M_get_31 (by decide) ?_
      refine W.widen (k := 0) (n := 0) (by omega) (by omega) ?_
      exact W.iret (v := (-1)) hx hb hr (fun t9 ht9 hwz => ⟨⟨(-1), ((v2 V 272 0 0), P), rfl, (by unfold rGet; rw [if_pos (Or.inr (Or.inl hq))]; rfl), by rw [ht9]; exact hW, va_K.moved hwz.alike hK, hN.warm hwz⟩, hS.F ht9⟩) hS.2.2 d_M_get_32
    · have hq : rIsBlock V b := bi_t hr6 c7
      refine lv_iload_n hx hb d_M_get_20 rfl (lv_at hl 2 rfl) ?_
      refine lv_if_lt (tgt := 31) hx hb d_M_get_21 (by decide) (fun c8 => ?_) (fun c8 => ?_)
      · refine lv_iconst (v := (-1)) hx hb d_M_get_31 (by decide) ?_
        refine W.widen (k := 0) (n := 0) (by omega) (by omega) ?_
        exact W.iret (v := (-1)) hx hb hr (fun t9 ht9 hwz => ⟨⟨(-1), ((v2 V 272 0 0), P), rfl, (by unfold rGet; rw [if_pos (Or.inr (Or.inr (Or.inl c8)))]; rfl), by rw [ht9]; exact hW, va_K.moved hwz.alike hK, hN.warm hwz⟩, hS.F ht9⟩) hS.2.2 d_M_get_32
      · refine lv_iload_n hx hb d_M_get_24 rfl (lv_at hl 2 rfl) ?_
        refine lv_sipush (v := 1023) hx hb d_M_get_25 (by decide) ?_
        refine lv_icmp_le (tgt := 33) hx hb d_M_get_28 (by decide) (fun c9 => ?_) (fun c9 => ?_)
        · obtain ⟨xb, xbN, rfl⟩ := rIsBlock_n hN0 h80 hq
          obtain ⟨xk, xk1, rfl⟩ := to1023 c8 c9
          have hsc : P 277 xb = 0 → (rScan (v2 V 272 0 0) P).1 = 34 → ¬ (rScan (v2 V 272 0 0) P).2 < 0 := by have q := (hsc.resolve_left c1).resolve_left (fun z => z hq); rw [nI_clamp (by omega)] at q; exact q
          refine lv_aload_n hx hb d_M_get_33 rfl (lv_at hl 0 rfl) ?_
          refine lv_iload_n hx hb d_M_get_34 rfl (lv_at hl 1 rfl) ?_
          refine jw_callv (va_runV (As := [.int (nI xb)]) (rest := []) ⟨hx, hb, hml, hown, hT⟩ (m_M_look l D B cA sh (v2 V 272 0 0) P N hN0 h80 xb (by omega) hsc) (cwV 1 hT (gV k404 k406 ks9 k8 kc_M_look) rfl rfl rfl (by decide +kernel) ⟨Nat.le_of_ble_eq_true rfl, Nat.le_of_ble_eq_true rfl⟩) (jw_preV (q := ("BlockVaultModel", T_M, 15)) hW hK hN rfl rfl) rfl rfl hl.1 rfl (lv_room (Nat.le_of_ble_eq_true rfl)) d_M_get_35 ⟨Nat.le_of_ble_eq_true rfl, Nat.le_of_ble_eq_true rfl⟩) hS (fun V11 P12 H locs hw13 hW hS => ?_)
          have hu1 := hw13
          refine lv_aload_n hx hb d_M_get_38 rfl (lv_at hl 0 rfl) ?_
          refine va_get (D := D) (ci := 6) (v := .ref (sh 274)) (C := "BlockVaultModel") (T := T_M) (N := 15) hx hb hT in_M hown hK (hW.obj rfl) 0 rfl rfl 3 (by decide) (hT _ k324) (fun _ h9 => h9) rfl d_M_get_39 ?_
          refine lv_sipush (v := 1024) hx hb d_M_get_42 (by decide) ?_
          refine lv_iload_n hx hb d_M_get_45 rfl (lv_at hl 1 rfl) ?_
          refine lv_imul hx hb d_M_get_46 ?_
          refine lv_iload_n hx hb d_M_get_47 rfl (lv_at hl 2 rfl) ?_
          refine lv_iadd hx hb d_M_get_48 ?_
          refine jw_bald (t := 274) (i := (1024 * xb + xk)) hx hb hK hW rfl (ix_k xb xk) (by omega) d_M_get_49 (fun hbf => ?_)
          refine lv_sipush (v := 255) hx hb d_M_get_50 (by decide) ?_
          refine lv_iand hx hb d_M_get_53 ?_
          refine W.widen (k := 0) (n := 0) (by omega) (by omega) ?_
          exact W.iret (v := ((P12 274 (1024 * xb + xk)) &&& 255)) hx hb hr (fun t9 ht9 hwz => ⟨⟨((P12 274 (1024 * xb + xk)) &&& 255), (V11, P12), rfl, (by show (((P12 274 (1024 * xb + xk)) &&& 255), V11, P12) = _; unfold rGet; rw [if_neg (fun q => by rcases q with q | q | q | q; exact c1 q; exact q hq; exact c8 q; exact q c9), nI_clamp (by omega), nI_clamp (by omega)]; rw [show P12 274 = P 274 from (congrFun (congrArg Prod.snd hu1) 274).trans (rLook_t (by omega))]; exact Prod.ext rfl hu1), by rw [ht9]; exact hW, va_K.moved hwz.alike hK, hN.warm hwz⟩, hS.F ht9⟩) hS.2.2 d_M_get_54
        · refine lv_iconst (v := (-1)) hx hb d_M_get_31 (by decide) ?_
          refine W.widen (k := 0) (n := 0) (by omega) (by omega) ?_
          exact W.iret (v := (-1)) hx hb hr (fun t9 ht9 hwz => ⟨⟨(-1), ((v2 V 272 0 0), P), rfl, (by unfold rGet; rw [if_pos (Or.inr (Or.inr (Or.inr c9)))]; rfl), by rw [ht9]; exact hW, va_K.moved hwz.alike hK, hN.warm hwz⟩, hS.F ht9⟩) hS.2.2 d_M_get_32

set_option maxHeartbeats 4000000 in
set_option maxRecDepth 100000 in
theorem m_M_cut (l : Launch) (D : va_G) (B : Nat) (cA : Nat → ClassId) (sh : Nat → Nat) (V P : VV) (k : Int32) : Met l y_M_cut w_M_cut ({ frames := 0, cells := 0, slots := 0, locals := 0 } : Room) (va_Pc [.ref (sh 272), .int k] (JC D B cA sh (V, P))) (va_Qi (fun (r : Int32) (u : VV × VV) => (r, u.1, u.2) = rCut V P k) (JC D B cA sh) (hm_A B)) 0 0 (hm_A B) := by
  refine Met.ofW (cc := c_M_cut) (maxL := 2) (ret := (some FieldType.boolean)) (by decide) rfl ?_
  intro p e s m args below meth c s₁ Bd hml hv
  obtain ⟨rfl, hW, hK, hN⟩ := hv
  have hx := Bd.exec
  have hb := Bd.bytes
  have hr := Bd.returns
  have hts := atoms_spec (ws := w_M_cut) Bd.pre
  have hT : ∀ w ∈ WG, w.before ([.ref (sh 272), .int k] : List Value).toArray s = true := fun w h => hts w (List.mem_cons_of_mem _ h)
  have hown : s.vm.findClass "BlockVaultModel" = some m.cls := findClass_of_methodNamed Bd.named
  have hlocks := Bd.notSynchronized
  have hW : JW D B cA sh V P s.heap := hW
  have hBs : B ≤ s.heap.size := hW.ge
  have hS : va_S (hm_A B) s.heap s.heap [] := va_S.rf
  have hl := lv_entry ([.ref (sh 272), .int k]) (n := 2) (Nat.le_of_ble_eq_true rfl)
  rw [lg_entry_eq]
  generalize (lg_sl ([.ref (sh 272), .int k]) ++ List.replicate (2 - (lg_sl ([.ref (sh 272), .int k])).length) Slot.unset).toArray = ls at hl ⊢
  have hl : lv_has ls 2 [(0, .ref (sh 272)), (1, .int k)] := hl
  refine lv_aload_n hx hb d_M_cut_0 rfl (lv_at hl 0 rfl) ?_
  refine lv_iconst (v := 0) hx hb d_M_cut_1 (by decide) ?_
  refine jw_put (ci := 6) (x := 0) (ty := .int) (C := "BlockVaultModel") (T := T_M) (N := 15) hx hb hT in_M t_M t_M_ok n_M hown hK hW hS rfl rfl 0 (by decide) rfl (hT _ k321) (fun _ h9 => h9) rfl (by decide +kernel) rfl rfl d_M_cut_2 (fun H locs hW hS => ?_)
  refine lv_aload_n hx hb d_M_cut_5 rfl (lv_at hl 0 rfl) ?_
  refine va_get (D := D) (ci := 6) (v := .int (V 272 8)) (C := "BlockVaultModel") (T := T_M) (N := 15) hx hb hT in_M hown hK (hW.obj rfl) 0 rfl rfl 8 (by decide) (hT _ k329) (fun _ h9 => h9) rfl d_M_cut_6 ?_
  refine lv_if_ne (tgt := 14) hx hb d_M_cut_9 (by decide) (fun c1 => ?_) (fun c1 => ?_)
  · refine lv_aload_n hx hb d_M_cut_14 rfl (lv_at hl 0 rfl) ?_
    refine lv_iload_n hx hb d_M_cut_15 rfl (lv_at hl 1 rfl) ?_
    refine lv_if_ge (tgt := 23) hx hb d_M_cut_16 (by decide) (fun c2 => ?_) (fun c2 => ?_)
    · refine lv_iload_n hx hb d_M_cut_23 rfl (lv_at hl 1 rfl) ?_
      refine jw_put (ci := 6) (x := k) (ty := .int) (C := "BlockVaultModel") (T := T_M) (N := 15) hx hb hT in_M t_M t_M_ok n_M hown hK hW hS rfl rfl 10 (by decide) rfl (hT _ k331) (fun _ h9 => h9) rfl (by decide +kernel) rfl rfl d_M_cut_24 (fun H locs hW hS => ?_)
      refine lv_iconst (v := 1) hx hb d_M_cut_27 (by decide) ?_
      refine W.widen (k := 0) (n := 0) (by omega) (by omega) ?_
      exact W.zret (ty := .boolean) (v := 1) hx hb hr rfl (fun t9 ht9 hwz => ⟨⟨1, ((v2 (v2 V 272 0 0) 272 10 k), P), rfl, (by unfold rCut rLeft; rw [if_neg c1, if_pos c2]; rfl), by rw [ht9]; exact hW, va_K.moved hwz.alike hK, hN.warm hwz⟩, hS.F ht9⟩) hS.2.2 d_M_cut_28
    · refine lv_iconst (v := (-1)) hx hb d_M_cut_19 (by decide) ?_
      refine lv_goto (tgt := 24) hx hb d_M_cut_20 (by decide) ?_
      refine jw_put (ci := 6) (x := (-1)) (ty := .int) (C := "BlockVaultModel") (T := T_M) (N := 15) hx hb hT in_M t_M t_M_ok n_M hown hK hW hS rfl rfl 10 (by decide) rfl (hT _ k331) (fun _ h9 => h9) rfl (by decide +kernel) rfl rfl d_M_cut_24 (fun H locs hW hS => ?_)
      refine lv_iconst (v := 1) hx hb d_M_cut_27 (by decide) ?_
      refine W.widen (k := 0) (n := 0) (by omega) (by omega) ?_
      exact W.zret (ty := .boolean) (v := 1) hx hb hr rfl (fun t9 ht9 hwz => ⟨⟨1, ((v2 (v2 V 272 0 0) 272 10 (-1)), P), rfl, (by unfold rCut rLeft; rw [if_neg c1, if_neg c2]; rfl), by rw [ht9]; exact hW, va_K.moved hwz.alike hK, hN.warm hwz⟩, hS.F ht9⟩) hS.2.2 d_M_cut_28
  · refine lv_iconst (v := 0) hx hb d_M_cut_12 (by decide) ?_
    refine W.widen (k := 0) (n := 0) (by omega) (by omega) ?_
    exact W.zret (ty := .boolean) (v := 0) hx hb hr rfl (fun t9 ht9 hwz => ⟨⟨0, ((v2 V 272 0 0), P), rfl, (by unfold rCut; rw [if_pos c1]; rfl), by rw [ht9]; exact hW, va_K.moved hwz.alike hK, hN.warm hwz⟩, hS.F ht9⟩) hS.2.2 d_M_cut_13

set_option maxHeartbeats 4000000 in
set_option maxRecDepth 100000 in
theorem m_M_held (l : Launch) (D : va_G) (B : Nat) (cA : Nat → ClassId) (sh : Nat → Nat) (V P : VV) (N : Nat) (hN0 : V 272 1 = nI N) (h80 : N ≤ 80) (b : Int32) : Met l y_M_held w_M_held ({ frames := 1, cells := 0, slots := 0, locals := 30 } : Room) (va_Pc [.ref (sh 272), .int b] (JC D B cA sh (V, P))) (va_Qi (fun (r : Int32) (u : VV × VV) => (r, u.1, u.2) = (rHeld V P b, r0 V, P)) (JC D B cA sh) (hm_A B)) 0 0 (hm_A B) := by
  refine Met.ofW (cc := c_M_held) (maxL := 2) (ret := (some FieldType.boolean)) (by decide) rfl ?_
  intro p e s m args below meth c s₁ Bd hml hv
  obtain ⟨rfl, hW, hK, hN⟩ := hv
  have hx := Bd.exec
  have hb := Bd.bytes
  have hr := Bd.returns
  have hts := atoms_spec (ws := w_M_held) Bd.pre
  have hT : ∀ w ∈ WG, w.before ([.ref (sh 272), .int b] : List Value).toArray s = true := fun w h => hts w (List.mem_cons_of_mem _ h)
  have hown : s.vm.findClass "BlockVaultModel" = some m.cls := findClass_of_methodNamed Bd.named
  have hlocks := Bd.notSynchronized
  have hW : JW D B cA sh V P s.heap := hW
  have hBs : B ≤ s.heap.size := hW.ge
  have hS : va_S (hm_A B) s.heap s.heap [] := va_S.rf
  have hl := lv_entry ([.ref (sh 272), .int b]) (n := 2) (Nat.le_of_ble_eq_true rfl)
  rw [lg_entry_eq]
  generalize (lg_sl ([.ref (sh 272), .int b]) ++ List.replicate (2 - (lg_sl ([.ref (sh 272), .int b])).length) Slot.unset).toArray = ls at hl ⊢
  have hl : lv_has ls 2 [(0, .ref (sh 272)), (1, .int b)] := hl
  refine lv_aload_n hx hb d_M_held_0 rfl (lv_at hl 0 rfl) ?_
  refine lv_iconst (v := 0) hx hb d_M_held_1 (by decide) ?_
  refine jw_put (ci := 6) (x := 0) (ty := .int) (C := "BlockVaultModel") (T := T_M) (N := 15) hx hb hT in_M t_M t_M_ok n_M hown hK hW hS rfl rfl 0 (by decide) rfl (hT _ k321) (fun _ h9 => h9) rfl (by decide +kernel) rfl rfl d_M_held_2 (fun H locs hW hS => ?_)
  refine lv_aload_n hx hb d_M_held_5 rfl (lv_at hl 0 rfl) ?_
  refine va_get (D := D) (ci := 6) (v := .int (V 272 8)) (C := "BlockVaultModel") (T := T_M) (N := 15) hx hb hT in_M hown hK (hW.obj rfl) 0 rfl rfl 8 (by decide) (hT _ k329) (fun _ h9 => h9) rfl d_M_held_6 ?_
  refine lv_if_eq (tgt := 33) hx hb d_M_held_9 (by decide) (fun c1 => ?_) (fun c1 => ?_)
  · refine lv_iconst (v := 0) hx hb d_M_held_33 (by decide) ?_
    refine W.widen (k := 0) (n := 0) (by omega) (by omega) ?_
    exact W.zret (ty := .boolean) (v := 0) hx hb hr rfl (fun t9 ht9 hwz => ⟨⟨0, ((v2 V 272 0 0), P), rfl, (by unfold rHeld; rw [if_pos (Or.inl c1)]; rfl), by rw [ht9]; exact hW, va_K.moved hwz.alike hK, hN.warm hwz⟩, hS.F ht9⟩) hS.2.2 d_M_held_34
  · refine lv_aload_n hx hb d_M_held_12 rfl (lv_at hl 0 rfl) ?_
    refine lv_iload_n hx hb d_M_held_13 rfl (lv_at hl 1 rfl) ?_
    refine jw_calli (va_runV (As := [.int b]) (rest := []) ⟨hx, hb, hml, hown, hT⟩ (m_M_isBlock l D B cA sh (v2 V 272 0 0) P b) (cwV 1 hT (gV k400 k402 ks8 k8 kc_M_isBlock) rfl rfl rfl (by decide +kernel) ⟨Nat.le_of_ble_eq_true rfl, Nat.le_of_ble_eq_true rfl⟩) (jw_preV (q := ("BlockVaultModel", T_M, 15)) hW hK hN rfl rfl) rfl rfl hl.1 rfl (lv_room (Nat.le_of_ble_eq_true rfl)) d_M_held_14 ⟨Nat.le_of_ble_eq_true rfl, Nat.le_of_ble_eq_true rfl⟩) hS (fun r2 V3 P4 H locs hw5 hW hS => ?_)
    obtain ⟨hr6, rfl, rfl⟩ := t3 hw5
    refine lv_if_eq (tgt := 33) hx hb d_M_held_17 (by decide) (fun c7 => ?_) (fun c7 => ?_)
    · have hq : ¬ rIsBlock V b := bi_f hr6 c7
      refine lv_iconst (v := 0) hx hb d_M_held_33 (by decide) ?_
      refine W.widen (k := 0) (n := 0) (by omega) (by omega) ?_
      exact W.zret (ty := .boolean) (v := 0) hx hb hr rfl (fun t9 ht9 hwz => ⟨⟨0, ((v2 V 272 0 0), P), rfl, (by unfold rHeld; rw [if_pos (Or.inr (Or.inl hq))]; rfl), by rw [ht9]; exact hW, va_K.moved hwz.alike hK, hN.warm hwz⟩, hS.F ht9⟩) hS.2.2 d_M_held_34
    · have hq : rIsBlock V b := bi_t hr6 c7
      obtain ⟨xb, xbN, rfl⟩ := rIsBlock_n hN0 h80 hq
      refine lv_aload_n hx hb d_M_held_20 rfl (lv_at hl 0 rfl) ?_
      refine va_get (D := D) (ci := 6) (v := .ref (sh 275)) (C := "BlockVaultModel") (T := T_M) (N := 15) hx hb hT in_M hown hK (hW.obj rfl) 0 rfl rfl 4 (by decide) (hT _ k325) (fun _ h9 => h9) rfl d_M_held_21 ?_
      refine lv_iload_n hx hb d_M_held_24 rfl (lv_at hl 1 rfl) ?_
      refine jw_zald (t := 275) (i := xb) hx hb hK hW rfl rfl (by omega) d_M_held_25 ?_
      refine lv_if_eq (tgt := 33) hx hb d_M_held_26 (by decide) (fun c8 => ?_) (fun c8 => ?_)
      · refine lv_iconst (v := 0) hx hb d_M_held_33 (by decide) ?_
        refine W.widen (k := 0) (n := 0) (by omega) (by omega) ?_
        exact W.zret (ty := .boolean) (v := 0) hx hb hr rfl (fun t9 ht9 hwz => ⟨⟨0, ((v2 V 272 0 0), P), rfl, (by unfold rHeld; rw [nI_clamp (by omega), if_pos (Or.inr (Or.inr c8))]; rfl), by rw [ht9]; exact hW, va_K.moved hwz.alike hK, hN.warm hwz⟩, hS.F ht9⟩) hS.2.2 d_M_held_34
      · refine lv_iconst (v := 1) hx hb d_M_held_29 (by decide) ?_
        refine lv_goto (tgt := 34) hx hb d_M_held_30 (by decide) ?_
        refine W.widen (k := 0) (n := 0) (by omega) (by omega) ?_
        exact W.zret (ty := .boolean) (v := 1) hx hb hr rfl (fun t9 ht9 hwz => ⟨⟨1, ((v2 V 272 0 0), P), rfl, (by unfold rHeld; rw [nI_clamp (by omega), if_neg (fun q => by rcases q with q | q | q; exact c1 q; exact q hq; exact c8 q)]; rfl), by rw [ht9]; exact hW, va_K.moved hwz.alike hK, hN.warm hwz⟩, hS.F ht9⟩) hS.2.2 d_M_held_34

set_option maxHeartbeats 4000000 in
set_option maxRecDepth 100000 in
theorem m_M_cached (l : Launch) (D : va_G) (B : Nat) (cA : Nat → ClassId) (sh : Nat → Nat) (V P : VV) (N : Nat) (hN0 : V 272 1 = nI N) (h80 : N ≤ 80) (b : Int32) : Met l y_M_cached w_M_cached ({ frames := 1, cells := 0, slots := 0, locals := 30 } : Room) (va_Pc [.ref (sh 272), .int b] (JC D B cA sh (V, P))) (va_Qi (fun (r : Int32) (u : VV × VV) => (r, u.1, u.2) = (rCached V P b, r0 V, P)) (JC D B cA sh) (hm_A B)) 0 0 (hm_A B) := by
  refine Met.ofW (cc := c_M_cached) (maxL := 2) (ret := (some FieldType.boolean)) (by decide) rfl ?_
  intro p e s m args below meth c s₁ Bd hml hv
  obtain ⟨rfl, hW, hK, hN⟩ := hv
  have hx := Bd.exec
  have hb := Bd.bytes
  have hr := Bd.returns
  have hts := atoms_spec (ws := w_M_cached) Bd.pre
  have hT : ∀ w ∈ WG, w.before ([.ref (sh 272), .int b] : List Value).toArray s = true := fun w h => hts w (List.mem_cons_of_mem _ h)
  have hown : s.vm.findClass "BlockVaultModel" = some m.cls := findClass_of_methodNamed Bd.named
  have hlocks := Bd.notSynchronized
  have hW : JW D B cA sh V P s.heap := hW
  have hBs : B ≤ s.heap.size := hW.ge
  have hS : va_S (hm_A B) s.heap s.heap [] := va_S.rf
  have hl := lv_entry ([.ref (sh 272), .int b]) (n := 2) (Nat.le_of_ble_eq_true rfl)
  rw [lg_entry_eq]
  generalize (lg_sl ([.ref (sh 272), .int b]) ++ List.replicate (2 - (lg_sl ([.ref (sh 272), .int b])).length) Slot.unset).toArray = ls at hl ⊢
  have hl : lv_has ls 2 [(0, .ref (sh 272)), (1, .int b)] := hl
  refine lv_aload_n hx hb d_M_cached_0 rfl (lv_at hl 0 rfl) ?_
  refine lv_iconst (v := 0) hx hb d_M_cached_1 (by decide) ?_
  refine jw_put (ci := 6) (x := 0) (ty := .int) (C := "BlockVaultModel") (T := T_M) (N := 15) hx hb hT in_M t_M t_M_ok n_M hown hK hW hS rfl rfl 0 (by decide) rfl (hT _ k321) (fun _ h9 => h9) rfl (by decide +kernel) rfl rfl d_M_cached_2 (fun H locs hW hS => ?_)
  refine lv_aload_n hx hb d_M_cached_5 rfl (lv_at hl 0 rfl) ?_
  refine va_get (D := D) (ci := 6) (v := .int (V 272 8)) (C := "BlockVaultModel") (T := T_M) (N := 15) hx hb hT in_M hown hK (hW.obj rfl) 0 rfl rfl 8 (by decide) (hT _ k329) (fun _ h9 => h9) rfl d_M_cached_6 ?_
  refine lv_if_eq (tgt := 33) hx hb d_M_cached_9 (by decide) (fun c1 => ?_) (fun c1 => ?_)
  · refine lv_iconst (v := 0) hx hb d_M_cached_33 (by decide) ?_
    refine W.widen (k := 0) (n := 0) (by omega) (by omega) ?_
    exact W.zret (ty := .boolean) (v := 0) hx hb hr rfl (fun t9 ht9 hwz => ⟨⟨0, ((v2 V 272 0 0), P), rfl, (by unfold rCached; rw [if_pos (Or.inl c1)]; rfl), by rw [ht9]; exact hW, va_K.moved hwz.alike hK, hN.warm hwz⟩, hS.F ht9⟩) hS.2.2 d_M_cached_34
  · refine lv_aload_n hx hb d_M_cached_12 rfl (lv_at hl 0 rfl) ?_
    refine lv_iload_n hx hb d_M_cached_13 rfl (lv_at hl 1 rfl) ?_
    refine jw_calli (va_runV (As := [.int b]) (rest := []) ⟨hx, hb, hml, hown, hT⟩ (m_M_isBlock l D B cA sh (v2 V 272 0 0) P b) (cwV 1 hT (gV k400 k402 ks8 k8 kc_M_isBlock) rfl rfl rfl (by decide +kernel) ⟨Nat.le_of_ble_eq_true rfl, Nat.le_of_ble_eq_true rfl⟩) (jw_preV (q := ("BlockVaultModel", T_M, 15)) hW hK hN rfl rfl) rfl rfl hl.1 rfl (lv_room (Nat.le_of_ble_eq_true rfl)) d_M_cached_14 ⟨Nat.le_of_ble_eq_true rfl, Nat.le_of_ble_eq_true rfl⟩) hS (fun r2 V3 P4 H locs hw5 hW hS => ?_)
    obtain ⟨hr6, rfl, rfl⟩ := t3 hw5
    refine lv_if_eq (tgt := 33) hx hb d_M_cached_17 (by decide) (fun c7 => ?_) (fun c7 => ?_)
    · have hq : ¬ rIsBlock V b := bi_f hr6 c7
      refine lv_iconst (v := 0) hx hb d_M_cached_33 (by decide) ?_
      refine W.widen (k := 0) (n := 0) (by omega) (by omega) ?_
      exact W.zret (ty := .boolean) (v := 0) hx hb hr rfl (fun t9 ht9 hwz => ⟨⟨0, ((v2 V 272 0 0), P), rfl, (by unfold rCached; rw [if_pos (Or.inr (Or.inl hq))]; rfl), by rw [ht9]; exact hW, va_K.moved hwz.alike hK, hN.warm hwz⟩, hS.F ht9⟩) hS.2.2 d_M_cached_34
    · have hq : rIsBlock V b := bi_t hr6 c7
      obtain ⟨xb, xbN, rfl⟩ := rIsBlock_n hN0 h80 hq
      refine lv_aload_n hx hb d_M_cached_20 rfl (lv_at hl 0 rfl) ?_
      refine va_get (D := D) (ci := 6) (v := .ref (sh 277)) (C := "BlockVaultModel") (T := T_M) (N := 15) hx hb hT in_M hown hK (hW.obj rfl) 0 rfl rfl 6 (by decide) (hT _ k327) (fun _ h9 => h9) rfl d_M_cached_21 ?_
      refine lv_iload_n hx hb d_M_cached_24 rfl (lv_at hl 1 rfl) ?_
      refine jw_iald (i := xb) hx hb hK hW rfl (by omega) d_M_cached_25 ?_
      refine lv_if_le (tgt := 33) hx hb d_M_cached_26 (by decide) (fun c8 => ?_) (fun c8 => ?_)
      · refine lv_iconst (v := 0) hx hb d_M_cached_33 (by decide) ?_
        refine W.widen (k := 0) (n := 0) (by omega) (by omega) ?_
        exact W.zret (ty := .boolean) (v := 0) hx hb hr rfl (fun t9 ht9 hwz => ⟨⟨0, ((v2 V 272 0 0), P), rfl, (by unfold rCached; rw [nI_clamp (by omega), if_pos (Or.inr (Or.inr c8))]; rfl), by rw [ht9]; exact hW, va_K.moved hwz.alike hK, hN.warm hwz⟩, hS.F ht9⟩) hS.2.2 d_M_cached_34
      · refine lv_iconst (v := 1) hx hb d_M_cached_29 (by decide) ?_
        refine lv_goto (tgt := 34) hx hb d_M_cached_30 (by decide) ?_
        refine W.widen (k := 0) (n := 0) (by omega) (by omega) ?_
        exact W.zret (ty := .boolean) (v := 1) hx hb hr rfl (fun t9 ht9 hwz => ⟨⟨1, ((v2 V 272 0 0), P), rfl, (by unfold rCached; rw [nI_clamp (by omega), if_neg (fun q => by rcases q with q | q | q; exact c1 q; exact q hq; exact c8 q)]; rfl), by rw [ht9]; exact hW, va_K.moved hwz.alike hK, hN.warm hwz⟩, hS.F ht9⟩) hS.2.2 d_M_cached_34

set_option maxHeartbeats 4000000 in
set_option maxRecDepth 100000 in
theorem m_M_count (l : Launch) (D : va_G) (B : Nat) (cA : Nat → ClassId) (sh : Nat → Nat) (V P : VV) (wh : Int32) : Met l y_M_count w_M_count ({ frames := 1, cells := 0, slots := 0, locals := 30 } : Room) (va_Pc [.ref (sh 272), .int wh] (JC D B cA sh (V, P))) (va_Qi (fun (r : Int32) (u : VV × VV) => (r, u.1, u.2) = (rCount V P wh, r0 V, P)) (JC D B cA sh) (hm_A B)) 0 0 (hm_A B) := by
  refine Met.ofW (cc := c_M_count) (maxL := 2) (ret := (some FieldType.int)) (by decide) rfl ?_
  intro p e s m args below meth c s₁ Bd hml hv
  obtain ⟨rfl, hW, hK, hN⟩ := hv
  have hx := Bd.exec
  have hb := Bd.bytes
  have hr := Bd.returns
  have hts := atoms_spec (ws := w_M_count) Bd.pre
  have hT : ∀ w ∈ WG, w.before ([.ref (sh 272), .int wh] : List Value).toArray s = true := fun w h => hts w (List.mem_cons_of_mem _ h)
  have hown : s.vm.findClass "BlockVaultModel" = some m.cls := findClass_of_methodNamed Bd.named
  have hlocks := Bd.notSynchronized
  have hW : JW D B cA sh V P s.heap := hW
  have hBs : B ≤ s.heap.size := hW.ge
  have hS : va_S (hm_A B) s.heap s.heap [] := va_S.rf
  have hl := lv_entry ([.ref (sh 272), .int wh]) (n := 2) (Nat.le_of_ble_eq_true rfl)
  rw [lg_entry_eq]
  generalize (lg_sl ([.ref (sh 272), .int wh]) ++ List.replicate (2 - (lg_sl ([.ref (sh 272), .int wh])).length) Slot.unset).toArray = ls at hl ⊢
  have hl : lv_has ls 2 [(0, .ref (sh 272)), (1, .int wh)] := hl
  refine lv_aload_n hx hb d_M_count_0 rfl (lv_at hl 0 rfl) ?_
  refine lv_iconst (v := 0) hx hb d_M_count_1 (by decide) ?_
  refine jw_put (ci := 6) (x := 0) (ty := .int) (C := "BlockVaultModel") (T := T_M) (N := 15) hx hb hT in_M t_M t_M_ok n_M hown hK hW hS rfl rfl 0 (by decide) rfl (hT _ k321) (fun _ h9 => h9) rfl (by decide +kernel) rfl rfl d_M_count_2 (fun H locs hW hS => ?_)
  refine lv_iload_n hx hb d_M_count_5 rfl (lv_at hl 1 rfl) ?_
  by_cases e0 : wh = 0
  · subst e0
    refine lv_tableIn (off := 42) (tgt := 48) hx hb d_M_count_6 (by decide) (by decide) rfl (by decide) ?_
    refine lv_aload_n hx hb d_M_count_48 rfl (lv_at hl 0 rfl) ?_
    refine va_get (D := D) (ci := 6) (v := .int (V 272 8)) (C := "BlockVaultModel") (T := T_M) (N := 15) hx hb hT in_M hown hK (hW.obj rfl) 0 rfl rfl 8 (by decide) (hT _ k329) (fun _ h9 => h9) rfl d_M_count_49 ?_
    refine lv_if_eq (tgt := 59) hx hb d_M_count_52 (by decide) (fun c1 => ?_) (fun c1 => ?_)
    · refine lv_iconst (v := 0) hx hb d_M_count_59 (by decide) ?_
      refine W.widen (k := 0) (n := 0) (by omega) (by omega) ?_
      exact W.iret (v := 0) hx hb hr (fun t9 ht9 hwz => ⟨⟨0, ((v2 V 272 0 0), P), rfl, (by simp [rCount, r0, c1]), by rw [ht9]; exact hW, va_K.moved hwz.alike hK, hN.warm hwz⟩, hS.F ht9⟩) hS.2.2 d_M_count_60
    · refine lv_iconst (v := 1) hx hb d_M_count_55 (by decide) ?_
      refine lv_goto (tgt := 60) hx hb d_M_count_56 (by decide) ?_
      refine W.widen (k := 0) (n := 0) (by omega) (by omega) ?_
      exact W.iret (v := 1) hx hb hr (fun t9 ht9 hwz => ⟨⟨1, ((v2 V 272 0 0), P), rfl, (by simp [rCount, r0, c1]), by rw [ht9]; exact hW, va_K.moved hwz.alike hK, hN.warm hwz⟩, hS.F ht9⟩) hS.2.2 d_M_count_60
  by_cases e1 : wh = 1
  · subst e1
    refine lv_tableIn (off := 55) (tgt := 61) hx hb d_M_count_6 (by decide) (by decide) rfl (by decide) ?_
    refine lv_aload_n hx hb d_M_count_61 rfl (lv_at hl 0 rfl) ?_
    refine va_get (D := D) (ci := 6) (v := .int (V 272 1)) (C := "BlockVaultModel") (T := T_M) (N := 15) hx hb hT in_M hown hK (hW.obj rfl) 0 rfl rfl 1 (by decide) (hT _ k322) (fun _ h9 => h9) rfl d_M_count_62 ?_
    refine W.widen (k := 0) (n := 0) (by omega) (by omega) ?_
    exact W.iret (v := (V 272 1)) hx hb hr (fun t9 ht9 hwz => ⟨⟨(V 272 1), ((v2 V 272 0 0), P), rfl, (by simp [rCount, r0]), by rw [ht9]; exact hW, va_K.moved hwz.alike hK, hN.warm hwz⟩, hS.F ht9⟩) hS.2.2 d_M_count_65
  by_cases e2 : wh = 2
  · subst e2
    refine lv_tableIn (off := 60) (tgt := 66) hx hb d_M_count_6 (by decide) (by decide) rfl (by decide) ?_
    refine lv_aload_n hx hb d_M_count_66 rfl (lv_at hl 0 rfl) ?_
    refine va_get (D := D) (ci := 6) (v := .int (V 272 8)) (C := "BlockVaultModel") (T := T_M) (N := 15) hx hb hT in_M hown hK (hW.obj rfl) 0 rfl rfl 8 (by decide) (hT _ k329) (fun _ h9 => h9) rfl d_M_count_67 ?_
    refine lv_if_eq (tgt := 83) hx hb d_M_count_70 (by decide) (fun c2 => ?_) (fun c2 => ?_)
    · refine lv_iconst (v := 0) hx hb d_M_count_83 (by decide) ?_
      refine W.widen (k := 0) (n := 0) (by omega) (by omega) ?_
      exact W.iret (v := 0) hx hb hr (fun t9 ht9 hwz => ⟨⟨0, ((v2 V 272 0 0), P), rfl, (by simp [rCount, r0, c2]), by rw [ht9]; exact hW, va_K.moved hwz.alike hK, hN.warm hwz⟩, hS.F ht9⟩) hS.2.2 d_M_count_84
    · refine lv_aload_n hx hb d_M_count_73 rfl (lv_at hl 0 rfl) ?_
      refine va_get (D := D) (ci := 6) (v := .ref (sh 275)) (C := "BlockVaultModel") (T := T_M) (N := 15) hx hb hT in_M hown hK (hW.obj rfl) 0 rfl rfl 4 (by decide) (hT _ k325) (fun _ h9 => h9) rfl d_M_count_74 ?_
      refine jw_calli (va_runS (As := [.ref (sh 275)]) (rest := []) ⟨hx, hb, hml, hown, hT⟩ (m_M_many l D B cA sh (v2 V 272 0 0) P 275 rfl) (va_cwS 1 hT (gS k377 k378 k8 kc_M_many) rfl rfl rfl (by decide +kernel) ⟨Nat.le_of_ble_eq_true rfl, Nat.le_of_ble_eq_true rfl⟩) (jw_preS hW hK hN) rfl rfl hl.1 rfl (lv_room (Nat.le_of_ble_eq_true rfl)) d_M_count_77 ⟨Nat.le_of_ble_eq_true rfl, Nat.le_of_ble_eq_true rfl⟩) hS (fun r3 V4 P5 H locs hw6 hW hS => ?_)
      obtain ⟨rfl, rfl, rfl⟩ := t3 hw6
      refine lv_goto (tgt := 84) hx hb d_M_count_80 (by decide) ?_
      refine W.widen (k := 0) (n := 0) (by omega) (by omega) ?_
      exact W.iret (v := (rMany (P 275))) hx hb hr (fun t9 ht9 hwz => ⟨⟨(rMany (P 275)), ((v2 V 272 0 0), P), rfl, (by simp [rCount, r0, c2]), by rw [ht9]; exact hW, va_K.moved hwz.alike hK, hN.warm hwz⟩, hS.F ht9⟩) hS.2.2 d_M_count_84
  by_cases e3 : wh = 3
  · subst e3
    refine lv_tableIn (off := 79) (tgt := 85) hx hb d_M_count_6 (by decide) (by decide) rfl (by decide) ?_
    refine lv_aload_n hx hb d_M_count_85 rfl (lv_at hl 0 rfl) ?_
    refine va_get (D := D) (ci := 6) (v := .int (V 272 8)) (C := "BlockVaultModel") (T := T_M) (N := 15) hx hb hT in_M hown hK (hW.obj rfl) 0 rfl rfl 8 (by decide) (hT _ k329) (fun _ h9 => h9) rfl d_M_count_86 ?_
    refine lv_if_eq (tgt := 109) hx hb d_M_count_89 (by decide) (fun c7 => ?_) (fun c7 => ?_)
    · refine lv_iconst (v := (-1)) hx hb d_M_count_109 (by decide) ?_
      refine W.widen (k := 0) (n := 0) (by omega) (by omega) ?_
      exact W.iret (v := (-1)) hx hb hr (fun t9 ht9 hwz => ⟨⟨(-1), ((v2 V 272 0 0), P), rfl, (by simp [rCount, r0, c7]), by rw [ht9]; exact hW, va_K.moved hwz.alike hK, hN.warm hwz⟩, hS.F ht9⟩) hS.2.2 d_M_count_110
    · refine lv_aload_n hx hb d_M_count_92 rfl (lv_at hl 0 rfl) ?_
      refine va_get (D := D) (ci := 6) (v := .int (V 272 9)) (C := "BlockVaultModel") (T := T_M) (N := 15) hx hb hT in_M hown hK (hW.obj rfl) 0 rfl rfl 9 (by decide) (hT _ k330) (fun _ h9 => h9) rfl d_M_count_93 ?_
      refine lv_if_eq (tgt := 109) hx hb d_M_count_96 (by decide) (fun c8 => ?_) (fun c8 => ?_)
      · refine lv_iconst (v := (-1)) hx hb d_M_count_109 (by decide) ?_
        refine W.widen (k := 0) (n := 0) (by omega) (by omega) ?_
        exact W.iret (v := (-1)) hx hb hr (fun t9 ht9 hwz => ⟨⟨(-1), ((v2 V 272 0 0), P), rfl, (by simp [rCount, r0, c7, c8]), by rw [ht9]; exact hW, va_K.moved hwz.alike hK, hN.warm hwz⟩, hS.F ht9⟩) hS.2.2 d_M_count_110
      · refine lv_aload_n hx hb d_M_count_99 rfl (lv_at hl 0 rfl) ?_
        refine va_get (D := D) (ci := 6) (v := .ref (sh 276)) (C := "BlockVaultModel") (T := T_M) (N := 15) hx hb hT in_M hown hK (hW.obj rfl) 0 rfl rfl 5 (by decide) (hT _ k326) (fun _ h9 => h9) rfl d_M_count_100 ?_
        refine jw_calli (va_runS (As := [.ref (sh 276)]) (rest := []) ⟨hx, hb, hml, hown, hT⟩ (m_M_many l D B cA sh (v2 V 272 0 0) P 276 rfl) (va_cwS 1 hT (gS k377 k378 k8 kc_M_many) rfl rfl rfl (by decide +kernel) ⟨Nat.le_of_ble_eq_true rfl, Nat.le_of_ble_eq_true rfl⟩) (jw_preS hW hK hN) rfl rfl hl.1 rfl (lv_room (Nat.le_of_ble_eq_true rfl)) d_M_count_103 ⟨Nat.le_of_ble_eq_true rfl, Nat.le_of_ble_eq_true rfl⟩) hS (fun r9 V10 P11 H locs hw12 hW hS => ?_)
        obtain ⟨rfl, rfl, rfl⟩ := t3 hw12
        refine lv_goto (tgt := 110) hx hb d_M_count_106 (by decide) ?_
        refine W.widen (k := 0) (n := 0) (by omega) (by omega) ?_
        exact W.iret (v := (rMany (P 276))) hx hb hr (fun t9 ht9 hwz => ⟨⟨(rMany (P 276)), ((v2 V 272 0 0), P), rfl, (by simp [rCount, r0, c7, c8]), by rw [ht9]; exact hW, va_K.moved hwz.alike hK, hN.warm hwz⟩, hS.F ht9⟩) hS.2.2 d_M_count_110
  by_cases e4 : wh = 4
  · subst e4
    refine lv_tableIn (off := 105) (tgt := 111) hx hb d_M_count_6 (by decide) (by decide) rfl (by decide) ?_
    refine lv_aload_n hx hb d_M_count_111 rfl (lv_at hl 0 rfl) ?_
    refine va_get (D := D) (ci := 6) (v := .int (V 272 11)) (C := "BlockVaultModel") (T := T_M) (N := 15) hx hb hT in_M hown hK (hW.obj rfl) 0 rfl rfl 11 (by decide) (hT _ k332) (fun _ h9 => h9) rfl d_M_count_112 ?_
    refine W.widen (k := 0) (n := 0) (by omega) (by omega) ?_
    exact W.iret (v := (V 272 11)) hx hb hr (fun t9 ht9 hwz => ⟨⟨(V 272 11), ((v2 V 272 0 0), P), rfl, (by simp [rCount, r0]), by rw [ht9]; exact hW, va_K.moved hwz.alike hK, hN.warm hwz⟩, hS.F ht9⟩) hS.2.2 d_M_count_115
  by_cases e5 : wh = 5
  · subst e5
    refine lv_tableIn (off := 110) (tgt := 116) hx hb d_M_count_6 (by decide) (by decide) rfl (by decide) ?_
    refine lv_aload_n hx hb d_M_count_116 rfl (lv_at hl 0 rfl) ?_
    refine va_get (D := D) (ci := 6) (v := .int (V 272 12)) (C := "BlockVaultModel") (T := T_M) (N := 15) hx hb hT in_M hown hK (hW.obj rfl) 0 rfl rfl 12 (by decide) (hT _ k333) (fun _ h9 => h9) rfl d_M_count_117 ?_
    refine W.widen (k := 0) (n := 0) (by omega) (by omega) ?_
    exact W.iret (v := (V 272 12)) hx hb hr (fun t9 ht9 hwz => ⟨⟨(V 272 12), ((v2 V 272 0 0), P), rfl, (by simp [rCount, r0]), by rw [ht9]; exact hW, va_K.moved hwz.alike hK, hN.warm hwz⟩, hS.F ht9⟩) hS.2.2 d_M_count_120
  by_cases e6 : wh = 6
  · subst e6
    refine lv_tableIn (off := 115) (tgt := 121) hx hb d_M_count_6 (by decide) (by decide) rfl (by decide) ?_
    refine lv_aload_n hx hb d_M_count_121 rfl (lv_at hl 0 rfl) ?_
    refine va_get (D := D) (ci := 6) (v := .int (V 272 13)) (C := "BlockVaultModel") (T := T_M) (N := 15) hx hb hT in_M hown hK (hW.obj rfl) 0 rfl rfl 13 (by decide) (hT _ k334) (fun _ h9 => h9) rfl d_M_count_122 ?_
    refine W.widen (k := 0) (n := 0) (by omega) (by omega) ?_
    exact W.iret (v := (V 272 13)) hx hb hr (fun t9 ht9 hwz => ⟨⟨(V 272 13), ((v2 V 272 0 0), P), rfl, (by simp [rCount, r0]), by rw [ht9]; exact hW, va_K.moved hwz.alike hK, hN.warm hwz⟩, hS.F ht9⟩) hS.2.2 d_M_count_125
  refine lv_tableOut (tgt := 126) hx hb d_M_count_6 (out06 e0 e1 e2 e3 e4 e5 e6) (by decide) ?_
  refine lv_iconst (v := (-1)) hx hb d_M_count_126 (by decide) ?_
  refine W.widen (k := 0) (n := 0) (by omega) (by omega) ?_
  exact W.iret (v := (-1)) hx hb hr (fun t9 ht9 hwz => ⟨⟨(-1), ((v2 V 272 0 0), P), rfl, (by simp [rCount, r0, e0, e1, e2, e3, e4, e5, e6]), by rw [ht9]; exact hW, va_K.moved hwz.alike hK, hN.warm hwz⟩, hS.F ht9⟩) hS.2.2 d_M_count_127

theorem pow0 {P : VV} : p1 P 274 (rNow P 81920) = p1 (p1 (p1 P 274 (rNow P 81920)) 275 (P 275)) 277 (P 277) := by
  generalize rNow P 81920 = f
  funext q
  by_cases h1 : q = 277
  · subst h1
    rw [p1_s, p1_n (by omega)]
  · rw [p1_n h1]
    by_cases h2 : q = 275
    · subst h2
      rw [p1_s, p1_n (by omega)]
    · rw [p1_n h2]
theorem pow_step {P : VV} {f : Nat → Int32} {i : Nat} : p1 (p1 (p1 (p1 (p1 P 274 f) 275 (zF (P 275) i)) 277 (zF (P 277) i)) 275 (upd (p1 (p1 (p1 P 274 f) 275 (zF (P 275) i)) 277 (zF (P 277) i) 275) i 0)) 277 (upd (p1 (p1 (p1 (p1 P 274 f) 275 (zF (P 275) i)) 277 (zF (P 277) i)) 275 (upd (p1 (p1 (p1 P 274 f) 275 (zF (P 275) i)) 277 (zF (P 277) i) 275) i 0) 277) i 0) = p1 (p1 (p1 P 274 f) 275 (zF (P 275) (i + 1))) 277 (zF (P 277) (i + 1)) := by
  rw [p1_n (show (275 : Nat) ≠ 277 by omega), p1_s, p1_n (show (277 : Nat) ≠ 275 by omega), p1_s, zF_s, zF_s, p1_comm (show (277 : Nat) ≠ 275 by omega), p1_p1, p1_p1]

theorem rBackV_14 {V : VV} {k : Int32} : rBackV V k 272 14 = V 272 14 := by
  unfold rBackV r0
  rw [v2_k (by omega), v2_k (by omega), v2_k (by omega), v2_k (by omega)]
theorem pw_0 {V P Va Pa : VV} {k : Int32} (h8 : V 272 8 = 0) (h1 : Va = rBackV V k) (h2 : Pa = p1 (p1 (p1 P 274 (rNow P 81920)) 275 (zF (P 275) 80)) 277 (zF (P 277) 80)) (c : ¬ 0 ≤ Va 272 14) : (0, Va, Pa) = rPower V P k := by
  subst h1
  subst h2
  rw [rBackV_14] at c
  unfold rPower
  rw [if_pos h8, if_pos (Int32.not_le.mp c)]
  unfold rBackP
  rfl
theorem pw_end {V P Va Pa V1 P1 : VV} {k r x : Int32} (h8 : V 272 8 = 0) (h1 : Va = rBackV V k) (h2 : Pa = p1 (p1 (p1 P 274 (rNow P 81920)) 275 (zF (P 275) 80)) 277 (zF (P 277) 80)) (c : 0 ≤ Va 272 14) (hw : (r, V1, P1) = ((rEnded Va).1, (rEnded Va).2, Pa)) (hx : (r = 0 ∧ x = -1) ∨ (¬ r = 0 ∧ x = Va 272 14)) : (x, V1, P1) = rPower V P k := by
  obtain ⟨e1, e2, e3⟩ := t3 hw
  subst h1
  rw [rBackV_14] at c hx
  unfold rPower
  rw [if_pos h8, if_neg (Int32.not_lt.mpr c), e1, e2, ← e3, h2]
  unfold rBackP
  rcases hx with ⟨a, b⟩ | ⟨a, b⟩
  · rw [if_pos a, b]
  · rw [if_neg a, b]

set_option maxHeartbeats 4000000 in
set_option maxRecDepth 100000 in
theorem m_M_power (l : Launch) (D : va_G) (B : Nat) (cA : Nat → ClassId) (sh : Nat → Nat) (V P : VV) (k : Int32) : Met l y_M_power w_M_power ({ frames := 2, cells := 0, slots := 0, locals := 60 } : Room) (va_Pc [.ref (sh 272), .int k] (JC D B cA sh (V, P))) (va_Qi (fun (r : Int32) (u : VV × VV) => (r, u.1, u.2) = rPower V P k) (JC D B cA sh) (hm_A B)) 0 0 (hm_A B) := by
  refine Met.ofW (cc := c_M_power) (maxL := 3) (ret := (some FieldType.int)) (by decide) rfl ?_
  intro p e s m args below meth c s₁ Bd hml hv
  obtain ⟨rfl, hW, hK, hN⟩ := hv
  have hx := Bd.exec
  have hb := Bd.bytes
  have hr := Bd.returns
  have hts := atoms_spec (ws := w_M_power) Bd.pre
  have hT : ∀ w ∈ WG, w.before ([.ref (sh 272), .int k] : List Value).toArray s = true := fun w h => hts w (List.mem_cons_of_mem _ h)
  have hown : s.vm.findClass "BlockVaultModel" = some m.cls := findClass_of_methodNamed Bd.named
  have hlocks := Bd.notSynchronized
  have hW : JW D B cA sh V P s.heap := hW
  have hBs : B ≤ s.heap.size := hW.ge
  have hS : va_S (hm_A B) s.heap s.heap [] := va_S.rf
  have hl := lv_entry ([.ref (sh 272), .int k]) (n := 3) (Nat.le_of_ble_eq_true rfl)
  rw [lg_entry_eq]
  generalize (lg_sl ([.ref (sh 272), .int k]) ++ List.replicate (3 - (lg_sl ([.ref (sh 272), .int k])).length) Slot.unset).toArray = ls at hl ⊢
  have hl : lv_has ls 3 [(0, .ref (sh 272)), (1, .int k)] := hl
  refine lv_aload_n hx hb d_M_power_0 rfl (lv_at hl 0 rfl) ?_
  refine lv_iconst (v := 0) hx hb d_M_power_1 (by decide) ?_
  refine jw_put (ci := 6) (x := 0) (ty := .int) (C := "BlockVaultModel") (T := T_M) (N := 15) hx hb hT in_M t_M t_M_ok n_M hown hK hW hS rfl rfl 0 (by decide) rfl (hT _ k321) (fun _ h9 => h9) rfl (by decide +kernel) rfl rfl d_M_power_2 (fun H locs hW hS => ?_)
  refine lv_aload_n hx hb d_M_power_5 rfl (lv_at hl 0 rfl) ?_
  refine va_get (D := D) (ci := 6) (v := .int (V 272 8)) (C := "BlockVaultModel") (T := T_M) (N := 15) hx hb hT in_M hown hK (hW.obj rfl) 0 rfl rfl 8 (by decide) (hT _ k329) (fun _ h9 => h9) rfl d_M_power_6 ?_
  refine lv_if_eq (tgt := 14) hx hb d_M_power_9 (by decide) (fun c1 => ?_) (fun c1 => ?_)
  · refine lv_aload_n hx hb d_M_power_14 rfl (lv_at hl 0 rfl) ?_
    refine lv_iconst (v := 1) hx hb d_M_power_15 (by decide) ?_
    refine jw_put (ci := 6) (x := 1) (ty := .boolean) (C := "BlockVaultModel") (T := T_M) (N := 15) hx hb hT in_M t_M t_M_ok n_M hown hK hW hS rfl rfl 8 (by decide) rfl (hT _ k329) (fun _ h9 => h9) rfl (by decide +kernel) rfl rfl d_M_power_16 (fun H locs hW hS => ?_)
    refine lv_aload_n hx hb d_M_power_19 rfl (lv_at hl 0 rfl) ?_
    refine lv_iconst (v := 0) hx hb d_M_power_20 (by decide) ?_
    refine jw_put (ci := 6) (x := 0) (ty := .boolean) (C := "BlockVaultModel") (T := T_M) (N := 15) hx hb hT in_M t_M t_M_ok n_M hown hK hW hS rfl rfl 9 (by decide) rfl (hT _ k330) (fun _ h9 => h9) rfl (by decide +kernel) rfl rfl d_M_power_21 (fun H locs hW hS => ?_)
    refine lv_aload_n hx hb d_M_power_24 rfl (lv_at hl 0 rfl) ?_
    refine lv_iload_n hx hb d_M_power_25 rfl (lv_at hl 1 rfl) ?_
    refine lv_if_ge (tgt := 33) hx hb d_M_power_26 (by decide) (fun c2 => ?_) (fun c2 => ?_)
    · refine lv_iload_n hx hb d_M_power_33 rfl (lv_at hl 1 rfl) ?_
      refine jw_put (ci := 6) (x := k) (ty := .int) (C := "BlockVaultModel") (T := T_M) (N := 15) hx hb hT in_M t_M t_M_ok n_M hown hK hW hS rfl rfl 10 (by decide) rfl (hT _ k331) (fun _ h9 => h9) rfl (by decide +kernel) rfl rfl d_M_power_34 (fun H locs hW hS => ?_)
      refine lv_iconst (v := 0) hx hb d_M_power_37 (by decide) ?_
      refine lv_istore_n (lv' := [(2, .int 0), (0, .ref (sh 272)), (1, .int k)]) hx hb d_M_power_38 rfl hl (by decide) rfl (fun ls hl => ?_)
      have hbv : (v2 (v2 (v2 (v2 V 272 0 0) 272 8 1) 272 9 0) 272 10 k) = rBackV V k := by unfold rBackV rLeft; rw [if_pos c2]; rfl
      rw [hbv] at hW
      have loop : ∀ (n i : Nat) (Va Pa : VV) (H : Heap) (locs : List Loc) (ls : Array Slot), i + n = 81920 → (Va = rBackV V k ∧ Pa = p1 P 274 (rNow P i)) → JW D B cA sh Va Pa H → va_S (hm_A B) s.heap H locs → lv_has ls 3 [(2, .int (nI i)), (0, .ref (sh 272)), (1, .int k)] → W p l e (headSpec w_M_power ({ frames := 2, cells := 0, slots := 0, locals := 60 } : Room)).room s m ([.ref (sh 272), .int k] : List Value).toArray below meth c H locs 0 0 (MQ below (va_Qi (fun (r : Int32) (u : VV × VV) => (r, u.1, u.2) = rPower V P k) (JC D B cA sh) (hm_A B)) ([.ref (sh 272), .int k] : List Value).toArray s 0 0 (hm_A B)) (F0 m 39 ls []) := by
        intro n
        induction n with
        | zero =>
          intro i Va Pa H locs ls hin hinv hW hS hl
          obtain rfl : i = 81920 := by omega
          refine lv_iload_n hx hb d_M_power_39 rfl (lv_at hl 0 rfl) ?_
          refine lv_ldc (v := 81920) hx hb hown (hT _ k320) d_M_power_40 ?_
          refine lv_icmp_ge (tgt := 63) hx hb d_M_power_42 (by decide) (fun c3 => ?_) (fun c3 => ?_)
          · refine lv_iconst (v := 0) hx hb d_M_power_63 (by decide) ?_
            refine lv_istore_n (lv' := [(2, .int 0), (0, .ref (sh 272)), (1, .int k)]) hx hb d_M_power_64 rfl hl (by decide) rfl (fun ls hl => ?_)
            obtain ⟨q1, q2⟩ := hinv
            have loop2 : ∀ (n2 i2 : Nat) (Va2 Pa2 : VV) (H : Heap) (locs : List Loc) (ls : Array Slot), i2 + n2 = 80 → (Va2 = rBackV V k ∧ Pa2 = p1 (p1 (p1 P 274 (rNow P 81920)) 275 (zF (P 275) i2)) 277 (zF (P 277) i2)) → JW D B cA sh Va2 Pa2 H → va_S (hm_A B) s.heap H locs → lv_has ls 3 [(2, .int (nI i2)), (0, .ref (sh 272)), (1, .int k)] → W p l e (headSpec w_M_power ({ frames := 2, cells := 0, slots := 0, locals := 60 } : Room)).room s m ([.ref (sh 272), .int k] : List Value).toArray below meth c H locs 0 0 (MQ below (va_Qi (fun (r : Int32) (u : VV × VV) => (r, u.1, u.2) = rPower V P k) (JC D B cA sh) (hm_A B)) ([.ref (sh 272), .int k] : List Value).toArray s 0 0 (hm_A B)) (F0 m 65 ls []) := by
              intro n2
              induction n2 with
              | zero =>
                intro i2 Va2 Pa2 H locs ls hin2 hinv2 hW hS hl
                obtain rfl : i2 = 80 := by omega
                refine lv_iload_n hx hb d_M_power_65 rfl (lv_at hl 0 rfl) ?_
                refine lv_bipush (v := 80) hx hb d_M_power_66 (by decide) ?_
                refine lv_icmp_ge (tgt := 91) hx hb d_M_power_68 (by decide) (fun c4 => ?_) (fun c4 => ?_)
                · refine lv_aload_n hx hb d_M_power_91 rfl (lv_at hl 1 rfl) ?_
                  refine va_get (D := D) (ci := 6) (v := .int (Va2 272 14)) (C := "BlockVaultModel") (T := T_M) (N := 15) hx hb hT in_M hown hK (hW.obj rfl) 0 rfl rfl 14 (by decide) (hT _ k335) (fun _ h9 => h9) rfl d_M_power_92 ?_
                  refine lv_istore_n (lv' := [(2, .int (Va2 272 14)), (0, .ref (sh 272)), (1, .int k)]) hx hb d_M_power_95 rfl hl (by decide) rfl (fun ls hl => ?_)
                  refine lv_iload_n hx hb d_M_power_96 rfl (lv_at hl 0 rfl) ?_
                  refine lv_if_ge (tgt := 102) hx hb d_M_power_97 (by decide) (fun c5 => ?_) (fun c5 => ?_)
                  · refine lv_aload_n hx hb d_M_power_102 rfl (lv_at hl 1 rfl) ?_
                    refine jw_calli (va_runV (As := []) (rest := []) ⟨hx, hb, hml, hown, hT⟩ (m_M_ended l D B cA sh Va2 Pa2) (cwV 0 hT (gV k388 k390 ks7 k8 kc_M_ended) rfl rfl rfl (by decide +kernel) ⟨Nat.le_of_ble_eq_true rfl, Nat.le_of_ble_eq_true rfl⟩) (jw_preV (q := ("BlockVaultModel", T_M, 15)) hW hK hN rfl rfl) rfl rfl hl.1 rfl (lv_room (Nat.le_of_ble_eq_true rfl)) d_M_power_103 ⟨Nat.le_of_ble_eq_true rfl, Nat.le_of_ble_eq_true rfl⟩) hS (fun r6 V7 P8 H locs hw9 hW hS => ?_)
                    refine lv_if_eq (tgt := 113) hx hb d_M_power_106 (by decide) (fun c10 => ?_) (fun c10 => ?_)
                    · refine lv_iconst (v := (-1)) hx hb d_M_power_113 (by decide) ?_
                      refine W.widen (k := 0) (n := 0) (by omega) (by omega) ?_
                      exact W.iret (v := (-1)) hx hb hr (fun t9 ht9 hwz => ⟨⟨(-1), (V7, P8), rfl, (by exact pw_end c1 hinv2.1 hinv2.2 c5 hw9 (Or.inl ⟨c10, rfl⟩)), by rw [ht9]; exact hW, va_K.moved hwz.alike hK, hN.warm hwz⟩, hS.F ht9⟩) hS.2.2 d_M_power_114
                    · refine lv_iload_n hx hb d_M_power_109 rfl (lv_at hl 0 rfl) ?_
                      refine lv_goto (tgt := 114) hx hb d_M_power_110 (by decide) ?_
                      refine W.widen (k := 0) (n := 0) (by omega) (by omega) ?_
                      exact W.iret (v := (Va2 272 14)) hx hb hr (fun t9 ht9 hwz => ⟨⟨(Va2 272 14), (V7, P8), rfl, (by exact pw_end c1 hinv2.1 hinv2.2 c5 hw9 (Or.inr ⟨c10, rfl⟩)), by rw [ht9]; exact hW, va_K.moved hwz.alike hK, hN.warm hwz⟩, hS.F ht9⟩) hS.2.2 d_M_power_114
                  · refine lv_iconst (v := 0) hx hb d_M_power_100 (by decide) ?_
                    refine W.widen (k := 0) (n := 0) (by omega) (by omega) ?_
                    exact W.iret (v := 0) hx hb hr (fun t9 ht9 hwz => ⟨⟨0, (Va2, Pa2), rfl, (by exact pw_0 c1 hinv2.1 hinv2.2 c5), by rw [ht9]; exact hW, va_K.moved hwz.alike hK, hN.warm hwz⟩, hS.F ht9⟩) hS.2.2 d_M_power_101
                · exact absurd (by decide) c4
              | succ n2 ih2 =>
                intro i2 Va2 Pa2 H locs ls hin2 hinv2 hW hS hl
                have hi2 : i2 < 80 := by omega
                refine lv_iload_n hx hb d_M_power_65 rfl (lv_at hl 0 rfl) ?_
                refine lv_bipush (v := 80) hx hb d_M_power_66 (by decide) ?_
                refine lv_icmp_ge (tgt := 91) hx hb d_M_power_68 (by decide) (fun c11 => ?_) (fun c11 => ?_)
                · exact absurd c11 (nI_ge (b := 80) (by omega) (by omega))
                · refine lv_aload_n hx hb d_M_power_71 rfl (lv_at hl 1 rfl) ?_
                  refine va_get (D := D) (ci := 6) (v := .ref (sh 275)) (C := "BlockVaultModel") (T := T_M) (N := 15) hx hb hT in_M hown hK (hW.obj rfl) 0 rfl rfl 4 (by decide) (hT _ k325) (fun _ h9 => h9) rfl d_M_power_72 ?_
                  refine lv_iload_n hx hb d_M_power_75 rfl (lv_at hl 0 rfl) ?_
                  refine lv_iconst (v := 0) hx hb d_M_power_76 (by decide) ?_
                  refine jw_zastN (t := 275) (i := i2) hx hb hK hW hS rfl rfl (by omega) rfl d_M_power_77 (fun H locs hW hS => ?_)
                  refine lv_aload_n hx hb d_M_power_78 rfl (lv_at hl 1 rfl) ?_
                  refine va_get (D := D) (ci := 6) (v := .ref (sh 277)) (C := "BlockVaultModel") (T := T_M) (N := 15) hx hb hT in_M hown hK (hW.obj rfl) 0 rfl rfl 6 (by decide) (hT _ k327) (fun _ h9 => h9) rfl d_M_power_79 ?_
                  refine lv_iload_n hx hb d_M_power_82 rfl (lv_at hl 0 rfl) ?_
                  refine lv_iconst (v := 0) hx hb d_M_power_83 (by decide) ?_
                  refine jw_iastN (i := i2) hx hb hK hW hS rfl (by omega) d_M_power_84 (fun H locs hW hS => ?_)
                  refine lv_iinc (v := ((nI i2) + 1)) (lv' := [(2, .int ((nI i2) + 1)), (0, .ref (sh 272)), (1, .int k)]) hx hb d_M_power_85 hl (k := 0) rfl rfl (by decide) rfl (fun ls hl => ?_)
                  refine lv_goto (tgt := 65) hx hb d_M_power_88 (by decide) ?_
                  exact ih2 (i2 + 1) Va2 (p1 (p1 Pa2 275 (upd (Pa2 275) i2 0)) 277 (upd ((p1 Pa2 275 (upd (Pa2 275) i2 0)) 277) i2 0)) H locs ls (by omega) (⟨hinv2.1, by rw [hinv2.2]; exact pow_step⟩) hW hS (by rw [← nI_1]; exact lv_sub hl [0, 1, 2] rfl)
            exact loop2 80 0 Va Pa _ _ ls (by omega) (⟨q1, by rw [zF_0, zF_0, q2]; exact pow0⟩) hW hS (lv_sub hl [0, 1, 2] rfl)
          · exact absurd le_81920 c3
        | succ n ih =>
          intro i Va Pa H locs ls hin hinv hW hS hl
          have hi : i < 81920 := by omega
          refine lv_iload_n hx hb d_M_power_39 rfl (lv_at hl 0 rfl) ?_
          refine lv_ldc (v := 81920) hx hb hown (hT _ k320) d_M_power_40 ?_
          refine lv_icmp_ge (tgt := 63) hx hb d_M_power_42 (by decide) (fun c12 => ?_) (fun c12 => ?_)
          · exact absurd c12 (ge_81920 (by omega))
          · refine lv_aload_n hx hb d_M_power_45 rfl (lv_at hl 1 rfl) ?_
            refine va_get (D := D) (ci := 6) (v := .ref (sh 274)) (C := "BlockVaultModel") (T := T_M) (N := 15) hx hb hT in_M hown hK (hW.obj rfl) 0 rfl rfl 3 (by decide) (hT _ k324) (fun _ h9 => h9) rfl d_M_power_46 ?_
            refine lv_iload_n hx hb d_M_power_49 rfl (lv_at hl 0 rfl) ?_
            refine lv_aload_n hx hb d_M_power_50 rfl (lv_at hl 1 rfl) ?_
            refine va_get (D := D) (ci := 6) (v := .ref (sh 273)) (C := "BlockVaultModel") (T := T_M) (N := 15) hx hb hT in_M hown hK (hW.obj rfl) 0 rfl rfl 2 (by decide) (hT _ k323) (fun _ h9 => h9) rfl d_M_power_51 ?_
            refine lv_iload_n hx hb d_M_power_54 rfl (lv_at hl 0 rfl) ?_
            refine jw_bald (t := 273) (i := i) hx hb hK hW rfl rfl (by omega) d_M_power_55 (fun hbf => ?_)
            refine jw_bastN (t := 274) (i := i) hx hb hK hW hS rfl rfl (by omega) hbf d_M_power_56 (fun H locs hW hS => ?_)
            refine lv_iinc (v := ((nI i) + 1)) (lv' := [(2, .int ((nI i) + 1)), (0, .ref (sh 272)), (1, .int k)]) hx hb d_M_power_57 hl (k := 0) rfl rfl (by decide) rfl (fun ls hl => ?_)
            refine lv_goto (tgt := 39) hx hb d_M_power_60 (by decide) ?_
            exact ih (i + 1) Va (p1 Pa 274 (upd (Pa 274) i (Pa 273 i))) H locs ls (by omega) (⟨hinv.1, by rw [hinv.2]; exact now_step⟩) hW hS (by rw [← nI_1]; exact lv_sub hl [0, 1, 2] rfl)
      exact loop 81920 0 (rBackV V k) P _ _ ls (by omega) (⟨rfl, by rw [rNow_0, p1_id]⟩) hW hS (lv_sub hl [0, 1, 2] rfl)
    · refine lv_iconst (v := (-1)) hx hb d_M_power_29 (by decide) ?_
      refine lv_goto (tgt := 34) hx hb d_M_power_30 (by decide) ?_
      refine jw_put (ci := 6) (x := (-1)) (ty := .int) (C := "BlockVaultModel") (T := T_M) (N := 15) hx hb hT in_M t_M t_M_ok n_M hown hK hW hS rfl rfl 10 (by decide) rfl (hT _ k331) (fun _ h9 => h9) rfl (by decide +kernel) rfl rfl d_M_power_34 (fun H locs hW hS => ?_)
      refine lv_iconst (v := 0) hx hb d_M_power_37 (by decide) ?_
      refine lv_istore_n (lv' := [(2, .int 0), (0, .ref (sh 272)), (1, .int k)]) hx hb d_M_power_38 rfl hl (by decide) rfl (fun ls hl => ?_)
      have hbv : (v2 (v2 (v2 (v2 V 272 0 0) 272 8 1) 272 9 0) 272 10 (-1)) = rBackV V k := by unfold rBackV rLeft; rw [if_neg c2]; rfl
      rw [hbv] at hW
      have loop : ∀ (n i : Nat) (Va Pa : VV) (H : Heap) (locs : List Loc) (ls : Array Slot), i + n = 81920 → (Va = rBackV V k ∧ Pa = p1 P 274 (rNow P i)) → JW D B cA sh Va Pa H → va_S (hm_A B) s.heap H locs → lv_has ls 3 [(2, .int (nI i)), (0, .ref (sh 272)), (1, .int k)] → W p l e (headSpec w_M_power ({ frames := 2, cells := 0, slots := 0, locals := 60 } : Room)).room s m ([.ref (sh 272), .int k] : List Value).toArray below meth c H locs 0 0 (MQ below (va_Qi (fun (r : Int32) (u : VV × VV) => (r, u.1, u.2) = rPower V P k) (JC D B cA sh) (hm_A B)) ([.ref (sh 272), .int k] : List Value).toArray s 0 0 (hm_A B)) (F0 m 39 ls []) := by
        intro n
        induction n with
        | zero =>
          intro i Va Pa H locs ls hin hinv hW hS hl
          obtain rfl : i = 81920 := by omega
          refine lv_iload_n hx hb d_M_power_39 rfl (lv_at hl 0 rfl) ?_
          refine lv_ldc (v := 81920) hx hb hown (hT _ k320) d_M_power_40 ?_
          refine lv_icmp_ge (tgt := 63) hx hb d_M_power_42 (by decide) (fun c13 => ?_) (fun c13 => ?_)
          · refine lv_iconst (v := 0) hx hb d_M_power_63 (by decide) ?_
            refine lv_istore_n (lv' := [(2, .int 0), (0, .ref (sh 272)), (1, .int k)]) hx hb d_M_power_64 rfl hl (by decide) rfl (fun ls hl => ?_)
            obtain ⟨q1, q2⟩ := hinv
            have loop2 : ∀ (n2 i2 : Nat) (Va2 Pa2 : VV) (H : Heap) (locs : List Loc) (ls : Array Slot), i2 + n2 = 80 → (Va2 = rBackV V k ∧ Pa2 = p1 (p1 (p1 P 274 (rNow P 81920)) 275 (zF (P 275) i2)) 277 (zF (P 277) i2)) → JW D B cA sh Va2 Pa2 H → va_S (hm_A B) s.heap H locs → lv_has ls 3 [(2, .int (nI i2)), (0, .ref (sh 272)), (1, .int k)] → W p l e (headSpec w_M_power ({ frames := 2, cells := 0, slots := 0, locals := 60 } : Room)).room s m ([.ref (sh 272), .int k] : List Value).toArray below meth c H locs 0 0 (MQ below (va_Qi (fun (r : Int32) (u : VV × VV) => (r, u.1, u.2) = rPower V P k) (JC D B cA sh) (hm_A B)) ([.ref (sh 272), .int k] : List Value).toArray s 0 0 (hm_A B)) (F0 m 65 ls []) := by
              intro n2
              induction n2 with
              | zero =>
                intro i2 Va2 Pa2 H locs ls hin2 hinv2 hW hS hl
                obtain rfl : i2 = 80 := by omega
                refine lv_iload_n hx hb d_M_power_65 rfl (lv_at hl 0 rfl) ?_
                refine lv_bipush (v := 80) hx hb d_M_power_66 (by decide) ?_
                refine lv_icmp_ge (tgt := 91) hx hb d_M_power_68 (by decide) (fun c14 => ?_) (fun c14 => ?_)
                · refine lv_aload_n hx hb d_M_power_91 rfl (lv_at hl 1 rfl) ?_
                  refine va_get (D := D) (ci := 6) (v := .int (Va2 272 14)) (C := "BlockVaultModel") (T := T_M) (N := 15) hx hb hT in_M hown hK (hW.obj rfl) 0 rfl rfl 14 (by decide) (hT _ k335) (fun _ h9 => h9) rfl d_M_power_92 ?_
                  refine lv_istore_n (lv' := [(2, .int (Va2 272 14)), (0, .ref (sh 272)), (1, .int k)]) hx hb d_M_power_95 rfl hl (by decide) rfl (fun ls hl => ?_)
                  refine lv_iload_n hx hb d_M_power_96 rfl (lv_at hl 0 rfl) ?_
                  refine lv_if_ge (tgt := 102) hx hb d_M_power_97 (by decide) (fun c15 => ?_) (fun c15 => ?_)
                  · refine lv_aload_n hx hb d_M_power_102 rfl (lv_at hl 1 rfl) ?_
                    refine jw_calli (va_runV (As := []) (rest := []) ⟨hx, hb, hml, hown, hT⟩ (m_M_ended l D B cA sh Va2 Pa2) (cwV 0 hT (gV k388 k390 ks7 k8 kc_M_ended) rfl rfl rfl (by decide +kernel) ⟨Nat.le_of_ble_eq_true rfl, Nat.le_of_ble_eq_true rfl⟩) (jw_preV (q := ("BlockVaultModel", T_M, 15)) hW hK hN rfl rfl) rfl rfl hl.1 rfl (lv_room (Nat.le_of_ble_eq_true rfl)) d_M_power_103 ⟨Nat.le_of_ble_eq_true rfl, Nat.le_of_ble_eq_true rfl⟩) hS (fun r16 V17 P18 H locs hw19 hW hS => ?_)
                    refine lv_if_eq (tgt := 113) hx hb d_M_power_106 (by decide) (fun c20 => ?_) (fun c20 => ?_)
                    · refine lv_iconst (v := (-1)) hx hb d_M_power_113 (by decide) ?_
                      refine W.widen (k := 0) (n := 0) (by omega) (by omega) ?_
                      exact W.iret (v := (-1)) hx hb hr (fun t9 ht9 hwz => ⟨⟨(-1), (V17, P18), rfl, (by exact pw_end c1 hinv2.1 hinv2.2 c15 hw19 (Or.inl ⟨c20, rfl⟩)), by rw [ht9]; exact hW, va_K.moved hwz.alike hK, hN.warm hwz⟩, hS.F ht9⟩) hS.2.2 d_M_power_114
                    · refine lv_iload_n hx hb d_M_power_109 rfl (lv_at hl 0 rfl) ?_
                      refine lv_goto (tgt := 114) hx hb d_M_power_110 (by decide) ?_
                      refine W.widen (k := 0) (n := 0) (by omega) (by omega) ?_
                      exact W.iret (v := (Va2 272 14)) hx hb hr (fun t9 ht9 hwz => ⟨⟨(Va2 272 14), (V17, P18), rfl, (by exact pw_end c1 hinv2.1 hinv2.2 c15 hw19 (Or.inr ⟨c20, rfl⟩)), by rw [ht9]; exact hW, va_K.moved hwz.alike hK, hN.warm hwz⟩, hS.F ht9⟩) hS.2.2 d_M_power_114
                  · refine lv_iconst (v := 0) hx hb d_M_power_100 (by decide) ?_
                    refine W.widen (k := 0) (n := 0) (by omega) (by omega) ?_
                    exact W.iret (v := 0) hx hb hr (fun t9 ht9 hwz => ⟨⟨0, (Va2, Pa2), rfl, (by exact pw_0 c1 hinv2.1 hinv2.2 c15), by rw [ht9]; exact hW, va_K.moved hwz.alike hK, hN.warm hwz⟩, hS.F ht9⟩) hS.2.2 d_M_power_101
                · exact absurd (by decide) c14
              | succ n2 ih2 =>
                intro i2 Va2 Pa2 H locs ls hin2 hinv2 hW hS hl
                have hi2 : i2 < 80 := by omega
                refine lv_iload_n hx hb d_M_power_65 rfl (lv_at hl 0 rfl) ?_
                refine lv_bipush (v := 80) hx hb d_M_power_66 (by decide) ?_
                refine lv_icmp_ge (tgt := 91) hx hb d_M_power_68 (by decide) (fun c21 => ?_) (fun c21 => ?_)
                · exact absurd c21 (nI_ge (b := 80) (by omega) (by omega))
                · refine lv_aload_n hx hb d_M_power_71 rfl (lv_at hl 1 rfl) ?_
                  refine va_get (D := D) (ci := 6) (v := .ref (sh 275)) (C := "BlockVaultModel") (T := T_M) (N := 15) hx hb hT in_M hown hK (hW.obj rfl) 0 rfl rfl 4 (by decide) (hT _ k325) (fun _ h9 => h9) rfl d_M_power_72 ?_
                  refine lv_iload_n hx hb d_M_power_75 rfl (lv_at hl 0 rfl) ?_
                  refine lv_iconst (v := 0) hx hb d_M_power_76 (by decide) ?_
                  refine jw_zastN (t := 275) (i := i2) hx hb hK hW hS rfl rfl (by omega) rfl d_M_power_77 (fun H locs hW hS => ?_)
                  refine lv_aload_n hx hb d_M_power_78 rfl (lv_at hl 1 rfl) ?_
                  refine va_get (D := D) (ci := 6) (v := .ref (sh 277)) (C := "BlockVaultModel") (T := T_M) (N := 15) hx hb hT in_M hown hK (hW.obj rfl) 0 rfl rfl 6 (by decide) (hT _ k327) (fun _ h9 => h9) rfl d_M_power_79 ?_
                  refine lv_iload_n hx hb d_M_power_82 rfl (lv_at hl 0 rfl) ?_
                  refine lv_iconst (v := 0) hx hb d_M_power_83 (by decide) ?_
                  refine jw_iastN (i := i2) hx hb hK hW hS rfl (by omega) d_M_power_84 (fun H locs hW hS => ?_)
                  refine lv_iinc (v := ((nI i2) + 1)) (lv' := [(2, .int ((nI i2) + 1)), (0, .ref (sh 272)), (1, .int k)]) hx hb d_M_power_85 hl (k := 0) rfl rfl (by decide) rfl (fun ls hl => ?_)
                  refine lv_goto (tgt := 65) hx hb d_M_power_88 (by decide) ?_
                  exact ih2 (i2 + 1) Va2 (p1 (p1 Pa2 275 (upd (Pa2 275) i2 0)) 277 (upd ((p1 Pa2 275 (upd (Pa2 275) i2 0)) 277) i2 0)) H locs ls (by omega) (⟨hinv2.1, by rw [hinv2.2]; exact pow_step⟩) hW hS (by rw [← nI_1]; exact lv_sub hl [0, 1, 2] rfl)
            exact loop2 80 0 Va Pa _ _ ls (by omega) (⟨q1, by rw [zF_0, zF_0, q2]; exact pow0⟩) hW hS (lv_sub hl [0, 1, 2] rfl)
          · exact absurd le_81920 c13
        | succ n ih =>
          intro i Va Pa H locs ls hin hinv hW hS hl
          have hi : i < 81920 := by omega
          refine lv_iload_n hx hb d_M_power_39 rfl (lv_at hl 0 rfl) ?_
          refine lv_ldc (v := 81920) hx hb hown (hT _ k320) d_M_power_40 ?_
          refine lv_icmp_ge (tgt := 63) hx hb d_M_power_42 (by decide) (fun c22 => ?_) (fun c22 => ?_)
          · exact absurd c22 (ge_81920 (by omega))
          · refine lv_aload_n hx hb d_M_power_45 rfl (lv_at hl 1 rfl) ?_
            refine va_get (D := D) (ci := 6) (v := .ref (sh 274)) (C := "BlockVaultModel") (T := T_M) (N := 15) hx hb hT in_M hown hK (hW.obj rfl) 0 rfl rfl 3 (by decide) (hT _ k324) (fun _ h9 => h9) rfl d_M_power_46 ?_
            refine lv_iload_n hx hb d_M_power_49 rfl (lv_at hl 0 rfl) ?_
            refine lv_aload_n hx hb d_M_power_50 rfl (lv_at hl 1 rfl) ?_
            refine va_get (D := D) (ci := 6) (v := .ref (sh 273)) (C := "BlockVaultModel") (T := T_M) (N := 15) hx hb hT in_M hown hK (hW.obj rfl) 0 rfl rfl 2 (by decide) (hT _ k323) (fun _ h9 => h9) rfl d_M_power_51 ?_
            refine lv_iload_n hx hb d_M_power_54 rfl (lv_at hl 0 rfl) ?_
            refine jw_bald (t := 273) (i := i) hx hb hK hW rfl rfl (by omega) d_M_power_55 (fun hbf => ?_)
            refine jw_bastN (t := 274) (i := i) hx hb hK hW hS rfl rfl (by omega) hbf d_M_power_56 (fun H locs hW hS => ?_)
            refine lv_iinc (v := ((nI i) + 1)) (lv' := [(2, .int ((nI i) + 1)), (0, .ref (sh 272)), (1, .int k)]) hx hb d_M_power_57 hl (k := 0) rfl rfl (by decide) rfl (fun ls hl => ?_)
            refine lv_goto (tgt := 39) hx hb d_M_power_60 (by decide) ?_
            exact ih (i + 1) Va (p1 Pa 274 (upd (Pa 274) i (Pa 273 i))) H locs ls (by omega) (⟨hinv.1, by rw [hinv.2]; exact now_step⟩) hW hS (by rw [← nI_1]; exact lv_sub hl [0, 1, 2] rfl)
      exact loop 81920 0 (rBackV V k) P _ _ ls (by omega) (⟨rfl, by rw [rNow_0, p1_id]⟩) hW hS (lv_sub hl [0, 1, 2] rfl)
  · refine lv_iconst (v := (-1)) hx hb d_M_power_12 (by decide) ?_
    refine W.widen (k := 0) (n := 0) (by omega) (by omega) ?_
    exact W.iret (v := (-1)) hx hb hr (fun t9 ht9 hwz => ⟨⟨(-1), ((v2 V 272 0 0), P), rfl, (by unfold rPower; rw [if_neg c1]; rfl), by rw [ht9]; exact hW, va_K.moved hwz.alike hK, hN.warm hwz⟩, hS.F ht9⟩) hS.2.2 d_M_power_13

theorem p1_id2 {P : VV} {t : Nat} {f : Nat → Int32} (h : f = P t) : p1 P t f = P := by
  rw [h]
  exact p1_id
theorem fill_step {P : VV} {b k i : Nat} {v : Int32} : p1 (rFillP P b k i v) 274 (upd (rFillP P b k i v 274) (1024 * b + k + i) (v + nI i).toInt8.toInt32) = rFillP P b k (i + 1) v := by
  unfold rFillP
  rw [p1_s, p1_p1, mRun_u]
theorem fill_end {V P V1 P1 : VV} {b k n v : Int32} {xb xk xn : Nat} (hu : (V1, P1) = rLook (v2 V 272 0 0) P xb) (e1 : xb = b.toNatClampNeg) (e2 : xk = k.toNatClampNeg) (e3 : xn = n.toNatClampNeg) (hno : ¬ (V 272 8 = 0 ∨ V 272 9 = 0 ∨ ¬ rIsBlock V b ∨ ¬ mIsRun k n ∨ (P 276 b.toNatClampNeg = 0 ∧ rMany (P 276) = 10))) : (1, V1, rFillP P1 xb xk xn v) = rFill V P b k n v := by
  unfold rFill
  rw [if_neg hno, ← e1, ← e2, ← e3]
  have hu' : (V1, P1) = rLook (r0 V) P xb := hu
  rw [← hu']

set_option maxHeartbeats 4000000 in
set_option maxRecDepth 100000 in
theorem m_M_fill (l : Launch) (D : va_G) (B : Nat) (cA : Nat → ClassId) (sh : Nat → Nat) (V P : VV) (N : Nat) (hN0 : V 272 1 = nI N) (h80 : N ≤ 80) (b k n v : Int32) (hsc : V 272 8 = 0 ∨ ¬ rIsBlock V b ∨ (P 277 b.toNatClampNeg = 0 → (rScan (r0 V) P).1 = 34 → ¬ (rScan (r0 V) P).2 < 0)) : Met l y_M_fill w_M_fill ({ frames := 1, cells := 0, slots := 0, locals := 40 } : Room) (va_Pc [.ref (sh 272), .int b, .int k, .int n, .int v] (JC D B cA sh (V, P))) (va_Qi (fun (r : Int32) (u : VV × VV) => (r, u.1, u.2) = rFill V P b k n v) (JC D B cA sh) (hm_A B)) 0 0 (hm_A B) := by
  refine Met.ofW (cc := c_M_fill) (maxL := 6) (ret := (some FieldType.boolean)) (by decide) rfl ?_
  intro p e s m args below meth c s₁ Bd hml hv
  obtain ⟨rfl, hW, hK, hN⟩ := hv
  have hx := Bd.exec
  have hb := Bd.bytes
  have hr := Bd.returns
  have hts := atoms_spec (ws := w_M_fill) Bd.pre
  have hT : ∀ w ∈ WG, w.before ([.ref (sh 272), .int b, .int k, .int n, .int v] : List Value).toArray s = true := fun w h => hts w (List.mem_cons_of_mem _ h)
  have hown : s.vm.findClass "BlockVaultModel" = some m.cls := findClass_of_methodNamed Bd.named
  have hlocks := Bd.notSynchronized
  have hW : JW D B cA sh V P s.heap := hW
  have hBs : B ≤ s.heap.size := hW.ge
  have hS : va_S (hm_A B) s.heap s.heap [] := va_S.rf
  have hl := lv_entry ([.ref (sh 272), .int b, .int k, .int n, .int v]) (n := 6) (Nat.le_of_ble_eq_true rfl)
  rw [lg_entry_eq]
  generalize (lg_sl ([.ref (sh 272), .int b, .int k, .int n, .int v]) ++ List.replicate (6 - (lg_sl ([.ref (sh 272), .int b, .int k, .int n, .int v])).length) Slot.unset).toArray = ls at hl ⊢
  have hl : lv_has ls 6 [(0, .ref (sh 272)), (1, .int b), (2, .int k), (3, .int n), (4, .int v)] := hl
  refine lv_aload_n hx hb d_M_fill_0 rfl (lv_at hl 0 rfl) ?_
  refine lv_iconst (v := 0) hx hb d_M_fill_1 (by decide) ?_
  refine jw_put (ci := 6) (x := 0) (ty := .int) (C := "BlockVaultModel") (T := T_M) (N := 15) hx hb hT in_M t_M t_M_ok n_M hown hK hW hS rfl rfl 0 (by decide) rfl (hT _ k321) (fun _ h9 => h9) rfl (by decide +kernel) rfl rfl d_M_fill_2 (fun H locs hW hS => ?_)
  refine lv_aload_n hx hb d_M_fill_5 rfl (lv_at hl 0 rfl) ?_
  refine va_get (D := D) (ci := 6) (v := .int (V 272 8)) (C := "BlockVaultModel") (T := T_M) (N := 15) hx hb hT in_M hown hK (hW.obj rfl) 0 rfl rfl 8 (by decide) (hT _ k329) (fun _ h9 => h9) rfl d_M_fill_6 ?_
  refine lv_if_eq (tgt := 73) hx hb d_M_fill_9 (by decide) (fun c1 => ?_) (fun c1 => ?_)
  · refine lv_iconst (v := 0) hx hb d_M_fill_73 (by decide) ?_
    refine W.widen (k := 0) (n := 0) (by omega) (by omega) ?_
    exact W.zret (ty := .boolean) (v := 0) hx hb hr rfl (fun t9 ht9 hwz => ⟨⟨0, ((v2 V 272 0 0), P), rfl, (by unfold rFill; rw [if_pos (Or.inl c1)]; rfl), by rw [ht9]; exact hW, va_K.moved hwz.alike hK, hN.warm hwz⟩, hS.F ht9⟩) hS.2.2 d_M_fill_74
  · refine lv_aload_n hx hb d_M_fill_12 rfl (lv_at hl 0 rfl) ?_
    refine va_get (D := D) (ci := 6) (v := .int (V 272 9)) (C := "BlockVaultModel") (T := T_M) (N := 15) hx hb hT in_M hown hK (hW.obj rfl) 0 rfl rfl 9 (by decide) (hT _ k330) (fun _ h9 => h9) rfl d_M_fill_13 ?_
    refine lv_if_eq (tgt := 73) hx hb d_M_fill_16 (by decide) (fun c2 => ?_) (fun c2 => ?_)
    · refine lv_iconst (v := 0) hx hb d_M_fill_73 (by decide) ?_
      refine W.widen (k := 0) (n := 0) (by omega) (by omega) ?_
      exact W.zret (ty := .boolean) (v := 0) hx hb hr rfl (fun t9 ht9 hwz => ⟨⟨0, ((v2 V 272 0 0), P), rfl, (by unfold rFill; rw [if_pos (Or.inr (Or.inl c2))]; rfl), by rw [ht9]; exact hW, va_K.moved hwz.alike hK, hN.warm hwz⟩, hS.F ht9⟩) hS.2.2 d_M_fill_74
    · refine lv_aload_n hx hb d_M_fill_19 rfl (lv_at hl 0 rfl) ?_
      refine lv_iload_n hx hb d_M_fill_20 rfl (lv_at hl 1 rfl) ?_
      refine jw_calli (va_runV (As := [.int b]) (rest := []) ⟨hx, hb, hml, hown, hT⟩ (m_M_isBlock l D B cA sh (v2 V 272 0 0) P b) (cwV 1 hT (gV k400 k402 ks8 k8 kc_M_isBlock) rfl rfl rfl (by decide +kernel) ⟨Nat.le_of_ble_eq_true rfl, Nat.le_of_ble_eq_true rfl⟩) (jw_preV (q := ("BlockVaultModel", T_M, 15)) hW hK hN rfl rfl) rfl rfl hl.1 rfl (lv_room (Nat.le_of_ble_eq_true rfl)) d_M_fill_21 ⟨Nat.le_of_ble_eq_true rfl, Nat.le_of_ble_eq_true rfl⟩) hS (fun r3 V4 P5 H locs hw6 hW hS => ?_)
      obtain ⟨hr7, rfl, rfl⟩ := t3 hw6
      refine lv_if_eq (tgt := 73) hx hb d_M_fill_24 (by decide) (fun c8 => ?_) (fun c8 => ?_)
      · have hq : ¬ rIsBlock V b := bi_f hr7 c8
        refine lv_iconst (v := 0) hx hb d_M_fill_73 (by decide) ?_
        refine W.widen (k := 0) (n := 0) (by omega) (by omega) ?_
        exact W.zret (ty := .boolean) (v := 0) hx hb hr rfl (fun t9 ht9 hwz => ⟨⟨0, ((v2 V 272 0 0), P), rfl, (by unfold rFill; rw [if_pos (Or.inr (Or.inr (Or.inl hq)))]; rfl), by rw [ht9]; exact hW, va_K.moved hwz.alike hK, hN.warm hwz⟩, hS.F ht9⟩) hS.2.2 d_M_fill_74
      · have hq : rIsBlock V b := bi_t hr7 c8
        refine lv_iload_n hx hb d_M_fill_27 rfl (lv_at hl 3 rfl) ?_
        refine lv_iconst (v := 1) hx hb d_M_fill_28 (by decide) ?_
        refine lv_icmp_lt (tgt := 73) hx hb d_M_fill_29 (by decide) (fun c9 => ?_) (fun c9 => ?_)
        · refine lv_iconst (v := 0) hx hb d_M_fill_73 (by decide) ?_
          refine W.widen (k := 0) (n := 0) (by omega) (by omega) ?_
          exact W.zret (ty := .boolean) (v := 0) hx hb hr rfl (fun t9 ht9 hwz => ⟨⟨0, ((v2 V 272 0 0), P), rfl, (by unfold rFill; rw [if_pos (Or.inr (Or.inr (Or.inr (Or.inl (fun z => z.1 c9)))))]; rfl), by rw [ht9]; exact hW, va_K.moved hwz.alike hK, hN.warm hwz⟩, hS.F ht9⟩) hS.2.2 d_M_fill_74
        · refine lv_iload_n hx hb d_M_fill_32 rfl (lv_at hl 3 rfl) ?_
          refine lv_sipush (v := 1024) hx hb d_M_fill_33 (by decide) ?_
          refine lv_icmp_gt (tgt := 73) hx hb d_M_fill_36 (by decide) (fun c10 => ?_) (fun c10 => ?_)
          · refine lv_iconst (v := 0) hx hb d_M_fill_73 (by decide) ?_
            refine W.widen (k := 0) (n := 0) (by omega) (by omega) ?_
            exact W.zret (ty := .boolean) (v := 0) hx hb hr rfl (fun t9 ht9 hwz => ⟨⟨0, ((v2 V 272 0 0), P), rfl, (by unfold rFill; rw [if_pos (Or.inr (Or.inr (Or.inr (Or.inl (fun z => z.2.1 c10)))))]; rfl), by rw [ht9]; exact hW, va_K.moved hwz.alike hK, hN.warm hwz⟩, hS.F ht9⟩) hS.2.2 d_M_fill_74
          · refine lv_iload_n hx hb d_M_fill_39 rfl (lv_at hl 2 rfl) ?_
            refine lv_if_lt (tgt := 73) hx hb d_M_fill_40 (by decide) (fun c11 => ?_) (fun c11 => ?_)
            · refine lv_iconst (v := 0) hx hb d_M_fill_73 (by decide) ?_
              refine W.widen (k := 0) (n := 0) (by omega) (by omega) ?_
              exact W.zret (ty := .boolean) (v := 0) hx hb hr rfl (fun t9 ht9 hwz => ⟨⟨0, ((v2 V 272 0 0), P), rfl, (by unfold rFill; rw [if_pos (Or.inr (Or.inr (Or.inr (Or.inl (fun z => z.2.2.1 c11)))))]; rfl), by rw [ht9]; exact hW, va_K.moved hwz.alike hK, hN.warm hwz⟩, hS.F ht9⟩) hS.2.2 d_M_fill_74
            · refine lv_iload_n hx hb d_M_fill_43 rfl (lv_at hl 2 rfl) ?_
              refine lv_sipush (v := 1024) hx hb d_M_fill_44 (by decide) ?_
              refine lv_iload_n hx hb d_M_fill_47 rfl (lv_at hl 3 rfl) ?_
              refine lv_isub hx hb d_M_fill_48 ?_
              refine lv_icmp_gt (tgt := 73) hx hb d_M_fill_49 (by decide) (fun c12 => ?_) (fun c12 => ?_)
              · refine lv_iconst (v := 0) hx hb d_M_fill_73 (by decide) ?_
                refine W.widen (k := 0) (n := 0) (by omega) (by omega) ?_
                exact W.zret (ty := .boolean) (v := 0) hx hb hr rfl (fun t9 ht9 hwz => ⟨⟨0, ((v2 V 272 0 0), P), rfl, (by unfold rFill; rw [if_pos (Or.inr (Or.inr (Or.inr (Or.inl (fun z => z.2.2.2 c12)))))]; rfl), by rw [ht9]; exact hW, va_K.moved hwz.alike hK, hN.warm hwz⟩, hS.F ht9⟩) hS.2.2 d_M_fill_74
              · obtain ⟨xb, xbN, rfl⟩ := rIsBlock_n hN0 h80 hq
                have hsc : P 277 xb = 0 → (rScan (v2 V 272 0 0) P).1 = 34 → ¬ (rScan (v2 V 272 0 0) P).2 < 0 := by have q := (hsc.resolve_left c1).resolve_left (fun z => z hq); rw [nI_clamp (by omega)] at q; exact q
                have hrun : mIsRun k n := ⟨c9, c10, c11, c12⟩
                obtain ⟨xk, xn, rfl, rfl, hn1, hkn⟩ := mIsRun_n hrun
                refine lv_aload_n hx hb d_M_fill_52 rfl (lv_at hl 0 rfl) ?_
                refine va_get (D := D) (ci := 6) (v := .ref (sh 276)) (C := "BlockVaultModel") (T := T_M) (N := 15) hx hb hT in_M hown hK (hW.obj rfl) 0 rfl rfl 5 (by decide) (hT _ k326) (fun _ h9 => h9) rfl d_M_fill_53 ?_
                refine lv_iload_n hx hb d_M_fill_56 rfl (lv_at hl 1 rfl) ?_
                refine jw_zald (t := 276) (i := xb) hx hb hK hW rfl rfl (by omega) d_M_fill_57 ?_
                refine lv_if_ne (tgt := 75) hx hb d_M_fill_58 (by decide) (fun c13 => ?_) (fun c13 => ?_)
                · refine lv_aload_n hx hb d_M_fill_75 rfl (lv_at hl 0 rfl) ?_
                  refine lv_iload_n hx hb d_M_fill_76 rfl (lv_at hl 1 rfl) ?_
                  refine jw_callv (va_runV (As := [.int (nI xb)]) (rest := []) ⟨hx, hb, hml, hown, hT⟩ (m_M_look l D B cA sh (v2 V 272 0 0) P N hN0 h80 xb (by omega) hsc) (cwV 1 hT (gV k404 k406 ks9 k8 kc_M_look) rfl rfl rfl (by decide +kernel) ⟨Nat.le_of_ble_eq_true rfl, Nat.le_of_ble_eq_true rfl⟩) (jw_preV (q := ("BlockVaultModel", T_M, 15)) hW hK hN rfl rfl) rfl rfl hl.1 rfl (lv_room (Nat.le_of_ble_eq_true rfl)) d_M_fill_77 ⟨Nat.le_of_ble_eq_true rfl, Nat.le_of_ble_eq_true rfl⟩) hS (fun V15 P16 H locs hw17 hW hS => ?_)
                  have hu1 := hw17
                  have et : ∀ t, t ≠ 277 → P16 t = P t := fun t ht => (congrFun (congrArg Prod.snd hu1) t).trans (rLook_t ht)
                  refine lv_aload_n hx hb d_M_fill_80 rfl (lv_at hl 0 rfl) ?_
                  refine va_get (D := D) (ci := 6) (v := .ref (sh 276)) (C := "BlockVaultModel") (T := T_M) (N := 15) hx hb hT in_M hown hK (hW.obj rfl) 0 rfl rfl 5 (by decide) (hT _ k326) (fun _ h9 => h9) rfl d_M_fill_81 ?_
                  refine lv_iload_n hx hb d_M_fill_84 rfl (lv_at hl 1 rfl) ?_
                  refine lv_iconst (v := 1) hx hb d_M_fill_85 (by decide) ?_
                  refine jw_zastN (t := 276) (i := xb) hx hb hK hW hS rfl rfl (by omega) rfl d_M_fill_86 (fun H locs hW hS => ?_)
                  refine lv_aload_n hx hb d_M_fill_87 rfl (lv_at hl 0 rfl) ?_
                  refine va_get (D := D) (ci := 6) (v := .ref (sh 275)) (C := "BlockVaultModel") (T := T_M) (N := 15) hx hb hT in_M hown hK (hW.obj rfl) 0 rfl rfl 4 (by decide) (hT _ k325) (fun _ h9 => h9) rfl d_M_fill_88 ?_
                  refine lv_iload_n hx hb d_M_fill_91 rfl (lv_at hl 1 rfl) ?_
                  refine lv_iconst (v := 1) hx hb d_M_fill_92 (by decide) ?_
                  refine jw_zastN (t := 275) (i := xb) hx hb hK hW hS rfl rfl (by omega) rfl d_M_fill_93 (fun H locs hW hS => ?_)
                  refine lv_iconst (v := 0) hx hb d_M_fill_94 (by decide) ?_
                  refine lv_istore (lv' := [(5, .int 0), (0, .ref (sh 272)), (1, .int (nI xb)), (2, .int (nI xk)), (3, .int (nI xn)), (4, .int v)]) hx hb d_M_fill_95 hl (by decide) rfl (fun ls hl => ?_)
                  have hPa : (p1 (p1 P16 276 (upd (P16 276) xb 1)) 275 (upd ((p1 P16 276 (upd (P16 276) xb 1)) 275) xb 1)) = rFillP P16 xb xk 0 v := by unfold rFillP; rw [mRun_0, p1_n (show (275 : Nat) ≠ 276 by omega)]; exact (p1_id2 (by rw [p1_n (show (274 : Nat) ≠ 275 by omega), p1_n (show (274 : Nat) ≠ 276 by omega)])).symm
                  have loop : ∀ (n i : Nat) (Va Pa : VV) (H : Heap) (locs : List Loc) (ls : Array Slot), i + n = xn → (Va = V15 ∧ Pa = rFillP P16 xb xk i v) → JW D B cA sh Va Pa H → va_S (hm_A B) s.heap H locs → lv_has ls 6 [(5, .int (nI i)), (0, .ref (sh 272)), (1, .int (nI xb)), (2, .int (nI xk)), (3, .int (nI xn)), (4, .int v)] → W p l e (headSpec w_M_fill ({ frames := 1, cells := 0, slots := 0, locals := 40 } : Room)).room s m ([.ref (sh 272), .int (nI xb), .int (nI xk), .int (nI xn), .int v] : List Value).toArray below meth c H locs 0 0 (MQ below (va_Qi (fun (r : Int32) (u : VV × VV) => (r, u.1, u.2) = rFill V P (nI xb) (nI xk) (nI xn) v) (JC D B cA sh) (hm_A B)) ([.ref (sh 272), .int (nI xb), .int (nI xk), .int (nI xn), .int v] : List Value).toArray s 0 0 (hm_A B)) (F0 m 97 ls []) := by
                    intro n
                    induction n with
                    | zero =>
                      intro i Va Pa H locs ls hin hinv hW hS hl
                      obtain rfl : xn = i := by omega
                      refine lv_iload hx hb d_M_fill_97 (lv_at hl 0 rfl) ?_
                      refine lv_iload_n hx hb d_M_fill_99 rfl (lv_at hl 4 rfl) ?_
                      refine lv_icmp_ge (tgt := 130) hx hb d_M_fill_100 (by decide) (fun c18 => ?_) (fun c18 => ?_)
                      · refine lv_iconst (v := 1) hx hb d_M_fill_130 (by decide) ?_
                        refine W.widen (k := 0) (n := 0) (by omega) (by omega) ?_
                        exact W.zret (ty := .boolean) (v := 1) hx hb hr rfl (fun t9 ht9 hwz => ⟨⟨1, (Va, Pa), rfl, (by rw [hinv.1, hinv.2]; exact fill_end hu1 (by rw [nI_clamp (by omega)]) (by rw [nI_clamp (by omega)]) (by rw [nI_clamp (by omega)]) (fun q => by rcases q with q | q | q | q | q; exact c1 q; exact c2 q; exact q hq; exact q hrun; rw [nI_clamp (by omega)] at q; exact c13 q.1)), by rw [ht9]; exact hW, va_K.moved hwz.alike hK, hN.warm hwz⟩, hS.F ht9⟩) hS.2.2 d_M_fill_131
                      · exact absurd (Int32.le_refl _) c18
                    | succ n ih =>
                      intro i Va Pa H locs ls hin hinv hW hS hl
                      have hi : i < xn := by omega
                      refine lv_iload hx hb d_M_fill_97 (lv_at hl 0 rfl) ?_
                      refine lv_iload_n hx hb d_M_fill_99 rfl (lv_at hl 4 rfl) ?_
                      refine lv_icmp_ge (tgt := 130) hx hb d_M_fill_100 (by decide) (fun c19 => ?_) (fun c19 => ?_)
                      · exact absurd c19 (nI_ge (by omega) (by omega))
                      · refine lv_aload_n hx hb d_M_fill_103 rfl (lv_at hl 1 rfl) ?_
                        refine va_get (D := D) (ci := 6) (v := .ref (sh 274)) (C := "BlockVaultModel") (T := T_M) (N := 15) hx hb hT in_M hown hK (hW.obj rfl) 0 rfl rfl 3 (by decide) (hT _ k324) (fun _ h9 => h9) rfl d_M_fill_104 ?_
                        refine lv_sipush (v := 1024) hx hb d_M_fill_107 (by decide) ?_
                        refine lv_iload_n hx hb d_M_fill_110 rfl (lv_at hl 2 rfl) ?_
                        refine lv_imul hx hb d_M_fill_111 ?_
                        refine lv_iload_n hx hb d_M_fill_112 rfl (lv_at hl 3 rfl) ?_
                        refine lv_iadd hx hb d_M_fill_113 ?_
                        refine lv_iload hx hb d_M_fill_114 (lv_at hl 0 rfl) ?_
                        refine lv_iadd hx hb d_M_fill_116 ?_
                        refine lv_iload hx hb d_M_fill_117 (lv_at hl 5 rfl) ?_
                        refine lv_iload hx hb d_M_fill_119 (lv_at hl 0 rfl) ?_
                        refine lv_iadd hx hb d_M_fill_121 ?_
                        refine lv_i2b (v := (v + (nI i)).toInt8.toInt32) hx hb d_M_fill_122 rfl ?_
                        refine jw_bastN (t := 274) (i := (1024 * xb + xk + i)) hx hb hK hW hS rfl (by rw [ix_k, nI_add]) (by omega) (bb_8 _) d_M_fill_123 (fun H locs hW hS => ?_)
                        refine lv_iinc (v := ((nI i) + 1)) (lv' := [(5, .int ((nI i) + 1)), (0, .ref (sh 272)), (1, .int (nI xb)), (2, .int (nI xk)), (3, .int (nI xn)), (4, .int v)]) hx hb d_M_fill_124 hl (k := 0) rfl rfl (by decide) rfl (fun ls hl => ?_)
                        refine lv_goto (tgt := 97) hx hb d_M_fill_127 (by decide) ?_
                        exact ih (i + 1) Va (p1 Pa 274 (upd (Pa 274) (1024 * xb + xk + i) ((v + (nI i)).toInt8.toInt32))) H locs ls (by omega) (⟨hinv.1, by rw [hinv.2]; exact fill_step⟩) hW hS (by rw [← nI_1]; exact lv_sub hl [0, 1, 2, 3, 4, 5] rfl)
                  exact loop xn 0 V15 (p1 (p1 P16 276 (upd (P16 276) xb 1)) 275 (upd ((p1 P16 276 (upd (P16 276) xb 1)) 275) xb 1)) _ _ ls (by omega) (⟨rfl, hPa⟩) hW hS (lv_sub hl [0, 1, 2, 3, 4, 5] rfl)
                · refine lv_aload_n hx hb d_M_fill_61 rfl (lv_at hl 0 rfl) ?_
                  refine va_get (D := D) (ci := 6) (v := .ref (sh 276)) (C := "BlockVaultModel") (T := T_M) (N := 15) hx hb hT in_M hown hK (hW.obj rfl) 0 rfl rfl 5 (by decide) (hT _ k326) (fun _ h9 => h9) rfl d_M_fill_62 ?_
                  refine jw_calli (va_runS (As := [.ref (sh 276)]) (rest := []) ⟨hx, hb, hml, hown, hT⟩ (m_M_many l D B cA sh (v2 V 272 0 0) P 276 rfl) (va_cwS 1 hT (gS k377 k378 k8 kc_M_many) rfl rfl rfl (by decide +kernel) ⟨Nat.le_of_ble_eq_true rfl, Nat.le_of_ble_eq_true rfl⟩) (jw_preS hW hK hN) rfl rfl hl.1 rfl (lv_room (Nat.le_of_ble_eq_true rfl)) d_M_fill_65 ⟨Nat.le_of_ble_eq_true rfl, Nat.le_of_ble_eq_true rfl⟩) hS (fun r20 V21 P22 H locs hw23 hW hS => ?_)
                  obtain ⟨rfl, rfl, rfl⟩ := t3 hw23
                  refine lv_bipush (v := 10) hx hb d_M_fill_68 (by decide) ?_
                  refine lv_icmp_ne (tgt := 75) hx hb d_M_fill_70 (by decide) (fun c24 => ?_) (fun c24 => ?_)
                  · refine lv_aload_n hx hb d_M_fill_75 rfl (lv_at hl 0 rfl) ?_
                    refine lv_iload_n hx hb d_M_fill_76 rfl (lv_at hl 1 rfl) ?_
                    refine jw_callv (va_runV (As := [.int (nI xb)]) (rest := []) ⟨hx, hb, hml, hown, hT⟩ (m_M_look l D B cA sh (v2 V 272 0 0) P N hN0 h80 xb (by omega) hsc) (cwV 1 hT (gV k404 k406 ks9 k8 kc_M_look) rfl rfl rfl (by decide +kernel) ⟨Nat.le_of_ble_eq_true rfl, Nat.le_of_ble_eq_true rfl⟩) (jw_preV (q := ("BlockVaultModel", T_M, 15)) hW hK hN rfl rfl) rfl rfl hl.1 rfl (lv_room (Nat.le_of_ble_eq_true rfl)) d_M_fill_77 ⟨Nat.le_of_ble_eq_true rfl, Nat.le_of_ble_eq_true rfl⟩) hS (fun V26 P27 H locs hw28 hW hS => ?_)
                    have hu1 := hw28
                    have et : ∀ t, t ≠ 277 → P27 t = P t := fun t ht => (congrFun (congrArg Prod.snd hu1) t).trans (rLook_t ht)
                    refine lv_aload_n hx hb d_M_fill_80 rfl (lv_at hl 0 rfl) ?_
                    refine va_get (D := D) (ci := 6) (v := .ref (sh 276)) (C := "BlockVaultModel") (T := T_M) (N := 15) hx hb hT in_M hown hK (hW.obj rfl) 0 rfl rfl 5 (by decide) (hT _ k326) (fun _ h9 => h9) rfl d_M_fill_81 ?_
                    refine lv_iload_n hx hb d_M_fill_84 rfl (lv_at hl 1 rfl) ?_
                    refine lv_iconst (v := 1) hx hb d_M_fill_85 (by decide) ?_
                    refine jw_zastN (t := 276) (i := xb) hx hb hK hW hS rfl rfl (by omega) rfl d_M_fill_86 (fun H locs hW hS => ?_)
                    refine lv_aload_n hx hb d_M_fill_87 rfl (lv_at hl 0 rfl) ?_
                    refine va_get (D := D) (ci := 6) (v := .ref (sh 275)) (C := "BlockVaultModel") (T := T_M) (N := 15) hx hb hT in_M hown hK (hW.obj rfl) 0 rfl rfl 4 (by decide) (hT _ k325) (fun _ h9 => h9) rfl d_M_fill_88 ?_
                    refine lv_iload_n hx hb d_M_fill_91 rfl (lv_at hl 1 rfl) ?_
                    refine lv_iconst (v := 1) hx hb d_M_fill_92 (by decide) ?_
                    refine jw_zastN (t := 275) (i := xb) hx hb hK hW hS rfl rfl (by omega) rfl d_M_fill_93 (fun H locs hW hS => ?_)
                    refine lv_iconst (v := 0) hx hb d_M_fill_94 (by decide) ?_
                    refine lv_istore (lv' := [(5, .int 0), (0, .ref (sh 272)), (1, .int (nI xb)), (2, .int (nI xk)), (3, .int (nI xn)), (4, .int v)]) hx hb d_M_fill_95 hl (by decide) rfl (fun ls hl => ?_)
                    have hPa : (p1 (p1 P27 276 (upd (P27 276) xb 1)) 275 (upd ((p1 P27 276 (upd (P27 276) xb 1)) 275) xb 1)) = rFillP P27 xb xk 0 v := by unfold rFillP; rw [mRun_0, p1_n (show (275 : Nat) ≠ 276 by omega)]; exact (p1_id2 (by rw [p1_n (show (274 : Nat) ≠ 275 by omega), p1_n (show (274 : Nat) ≠ 276 by omega)])).symm
                    have loop : ∀ (n i : Nat) (Va Pa : VV) (H : Heap) (locs : List Loc) (ls : Array Slot), i + n = xn → (Va = V26 ∧ Pa = rFillP P27 xb xk i v) → JW D B cA sh Va Pa H → va_S (hm_A B) s.heap H locs → lv_has ls 6 [(5, .int (nI i)), (0, .ref (sh 272)), (1, .int (nI xb)), (2, .int (nI xk)), (3, .int (nI xn)), (4, .int v)] → W p l e (headSpec w_M_fill ({ frames := 1, cells := 0, slots := 0, locals := 40 } : Room)).room s m ([.ref (sh 272), .int (nI xb), .int (nI xk), .int (nI xn), .int v] : List Value).toArray below meth c H locs 0 0 (MQ below (va_Qi (fun (r : Int32) (u : VV × VV) => (r, u.1, u.2) = rFill V P (nI xb) (nI xk) (nI xn) v) (JC D B cA sh) (hm_A B)) ([.ref (sh 272), .int (nI xb), .int (nI xk), .int (nI xn), .int v] : List Value).toArray s 0 0 (hm_A B)) (F0 m 97 ls []) := by
                      intro n
                      induction n with
                      | zero =>
                        intro i Va Pa H locs ls hin hinv hW hS hl
                        obtain rfl : xn = i := by omega
                        refine lv_iload hx hb d_M_fill_97 (lv_at hl 0 rfl) ?_
                        refine lv_iload_n hx hb d_M_fill_99 rfl (lv_at hl 4 rfl) ?_
                        refine lv_icmp_ge (tgt := 130) hx hb d_M_fill_100 (by decide) (fun c29 => ?_) (fun c29 => ?_)
                        · refine lv_iconst (v := 1) hx hb d_M_fill_130 (by decide) ?_
                          refine W.widen (k := 0) (n := 0) (by omega) (by omega) ?_
                          exact W.zret (ty := .boolean) (v := 1) hx hb hr rfl (fun t9 ht9 hwz => ⟨⟨1, (Va, Pa), rfl, (by rw [hinv.1, hinv.2]; exact fill_end hu1 (by rw [nI_clamp (by omega)]) (by rw [nI_clamp (by omega)]) (by rw [nI_clamp (by omega)]) (fun q => by rcases q with q | q | q | q | q; exact c1 q; exact c2 q; exact q hq; exact q hrun; rw [nI_clamp (by omega)] at q; exact c24 q.2)), by rw [ht9]; exact hW, va_K.moved hwz.alike hK, hN.warm hwz⟩, hS.F ht9⟩) hS.2.2 d_M_fill_131
                        · exact absurd (Int32.le_refl _) c29
                      | succ n ih =>
                        intro i Va Pa H locs ls hin hinv hW hS hl
                        have hi : i < xn := by omega
                        refine lv_iload hx hb d_M_fill_97 (lv_at hl 0 rfl) ?_
                        refine lv_iload_n hx hb d_M_fill_99 rfl (lv_at hl 4 rfl) ?_
                        refine lv_icmp_ge (tgt := 130) hx hb d_M_fill_100 (by decide) (fun c30 => ?_) (fun c30 => ?_)
                        · exact absurd c30 (nI_ge (by omega) (by omega))
                        · refine lv_aload_n hx hb d_M_fill_103 rfl (lv_at hl 1 rfl) ?_
                          refine va_get (D := D) (ci := 6) (v := .ref (sh 274)) (C := "BlockVaultModel") (T := T_M) (N := 15) hx hb hT in_M hown hK (hW.obj rfl) 0 rfl rfl 3 (by decide) (hT _ k324) (fun _ h9 => h9) rfl d_M_fill_104 ?_
                          refine lv_sipush (v := 1024) hx hb d_M_fill_107 (by decide) ?_
                          refine lv_iload_n hx hb d_M_fill_110 rfl (lv_at hl 2 rfl) ?_
                          refine lv_imul hx hb d_M_fill_111 ?_
                          refine lv_iload_n hx hb d_M_fill_112 rfl (lv_at hl 3 rfl) ?_
                          refine lv_iadd hx hb d_M_fill_113 ?_
                          refine lv_iload hx hb d_M_fill_114 (lv_at hl 0 rfl) ?_
                          refine lv_iadd hx hb d_M_fill_116 ?_
                          refine lv_iload hx hb d_M_fill_117 (lv_at hl 5 rfl) ?_
                          refine lv_iload hx hb d_M_fill_119 (lv_at hl 0 rfl) ?_
                          refine lv_iadd hx hb d_M_fill_121 ?_
                          refine lv_i2b (v := (v + (nI i)).toInt8.toInt32) hx hb d_M_fill_122 rfl ?_
                          refine jw_bastN (t := 274) (i := (1024 * xb + xk + i)) hx hb hK hW hS rfl (by rw [ix_k, nI_add]) (by omega) (bb_8 _) d_M_fill_123 (fun H locs hW hS => ?_)
                          refine lv_iinc (v := ((nI i) + 1)) (lv' := [(5, .int ((nI i) + 1)), (0, .ref (sh 272)), (1, .int (nI xb)), (2, .int (nI xk)), (3, .int (nI xn)), (4, .int v)]) hx hb d_M_fill_124 hl (k := 0) rfl rfl (by decide) rfl (fun ls hl => ?_)
                          refine lv_goto (tgt := 97) hx hb d_M_fill_127 (by decide) ?_
                          exact ih (i + 1) Va (p1 Pa 274 (upd (Pa 274) (1024 * xb + xk + i) ((v + (nI i)).toInt8.toInt32))) H locs ls (by omega) (⟨hinv.1, by rw [hinv.2]; exact fill_step⟩) hW hS (by rw [← nI_1]; exact lv_sub hl [0, 1, 2, 3, 4, 5] rfl)
                    exact loop xn 0 V26 (p1 (p1 P27 276 (upd (P27 276) xb 1)) 275 (upd ((p1 P27 276 (upd (P27 276) xb 1)) 275) xb 1)) _ _ ls (by omega) (⟨rfl, hPa⟩) hW hS (lv_sub hl [0, 1, 2, 3, 4, 5] rfl)
                  · refine lv_iconst (v := 0) hx hb d_M_fill_73 (by decide) ?_
                    refine W.widen (k := 0) (n := 0) (by omega) (by omega) ?_
                    exact W.zret (ty := .boolean) (v := 0) hx hb hr rfl (fun t9 ht9 hwz => ⟨⟨0, ((v2 V 272 0 0), P), rfl, (by unfold rFill; rw [if_pos (Or.inr (Or.inr (Or.inr (Or.inr ⟨by rw [nI_clamp (by omega)]; exact c13, c24⟩))))]; rfl), by rw [ht9]; exact hW, va_K.moved hwz.alike hK, hN.warm hwz⟩, hS.F ht9⟩) hS.2.2 d_M_fill_74
end
section
/-! WHAT THE CONSTRUCTORS MAKE -/
def HN (D : va_G) (B : Nat) (cA : Nat → ClassId) (h : hm_T) (U : State) : Prop := hm_P D vwCl B h U.heap ∧ va_K D vwCl (tysA cA) U ∧ JN U
theorem HN.blind {D : va_G} {B : Nat} {cA : Nat → ClassId} {h : hm_T} {av : List Value} : FrameBlind (va_Pc av (HN D B cA h)) := fun a U g mk q =>
  ⟨q.1, q.2.1, va_K.moved (u := U) (U := U.calling g mk a) (Vm.Alike.refl U.vm) q.2.2.1, q.2.2.2.same rfl⟩
theorem hn_pre {D : va_G} {B : Nat} {cA : Nat → ClassId} {h : hm_T} {H : Heap} {s : State} {As : List Value} (hP : hm_P D vwCl B h H) (hK : va_K D vwCl (tysA cA) s) (hN : JN s) : PreS s H (va_Pc As (HN D B cA h)) As :=
  ⟨HN.blind, fun U hU hw => ⟨rfl, by rw [hU]; exact hP, va_K.moved hw.alike hK, hN.warm hw⟩⟩
/-- outside T two maps agree -/
def hm_ag (T : Nat → Prop) (h g : hm_T) : Prop := ∀ (q t : Nat) (e : va_E), ¬ T t → (h q = some (t, e) ↔ g q = some (t, e))
theorem hm_ag.rf {T : Nat → Prop} {h : hm_T} : hm_ag T h h := fun _ _ _ _ => Iff.rfl
theorem hm_ag.up {T : Nat → Prop} {h g : hm_T} (H : hm_ag T h g) {q t : Nat} {e : va_E} (hT : T t) (hq : g q = none ∨ ∃ e0, g q = some (t, e0)) : hm_ag T h (hm_up g q (t, e)) := fun q' t' e' ht' => by
  rw [H q' t' e' ht']
  by_cases c : q' = q
  · subst c
    rw [hm_up_s]
    constructor
    · intro z
      rcases hq with hq | ⟨e0, hq⟩
      · rw [hq] at z
        cases z
      · rw [hq] at z
        cases z
        exact absurd hT ht'
    · intro z
      cases z
      exact absurd hT ht'
  · rw [hm_up_n c]
theorem hm_ag.tr {T T1 T2 : Nat → Prop} {h g k : hm_T} (H1 : hm_ag T1 h g) (H2 : hm_ag T2 g k) (h1 : ∀ t, T1 t → T t) (h2 : ∀ t, T2 t → T t) : hm_ag T h k := fun q t e ht => (H1 q t e (fun z => ht (h1 t z))).trans (H2 q t e (fun z => ht (h2 t z)))
theorem hm_ag.no {T : Nat → Prop} {h g : hm_T} (H : hm_ag T h g) {t : Nat} (ht : ¬ T t) (hn : ∀ (q : Nat) (e : va_E), h q ≠ some (t, e)) : ∀ (q : Nat) (e : va_E), g q ≠ some (t, e) := fun q e z => hn q e ((H q t e ht).mpr z)
theorem hm_ag.at {T : Nat → Prop} {h g : hm_T} (H : hm_ag T h g) {q t : Nat} {e : va_E} (ht : ¬ T t) (hq : h q = some (t, e)) : g q = some (t, e) := (H q t e ht).mp hq
abbrev pg0 : va_E := .inr (3, [.null])
abbrev rw0 (p : Nat) : va_E := .inr (4, [.ref p, .int (-1), .int 0, .int 0, .int 0])
/-- the disk, the cache, the log, as they are made -/
def dkM (cA : Nat → ClassId) (g : hm_T) (a : Nat) : Prop := ∃ (ar : Nat) (f : Nat → Option Nat), g a = some (267, .inr (1, [.ref ar, .int 1, .int (-1), .int 0])) ∧ g ar = some (270, aRef (cA 1) 80 f) ∧ ∀ j, j < 80 → ∃ q, f j = some q ∧ g q = some (j, pg0)
def caM (cA : Nat → ClassId) (g : hm_T) (a : Nat) : Prop := ∃ (ar : Nat) (f : Nat → Option Nat), g a = some (268, .inr (0, [.ref ar, .int 0, .int 0])) ∧ g ar = some (271, aRef (cA 2) 34 f) ∧ ∀ j, j < 34 → ∃ q p, f j = some q ∧ g q = some (232 + j, rw0 p) ∧ g p = some (80 + j, pg0)
def lgM (g : hm_T) (a : Nat) : Prop := ∃ q p, g a = some (269, .inr (2, [.ref q, .ref p, .int 0])) ∧ g q = some (114, pg0) ∧ g p = some (115, pg0)
theorem dkM.ag {cA : Nat → ClassId} {T : Nat → Prop} {g k : hm_T} {a : Nat} (h : dkM cA g a) (H : hm_ag T g k) (n1 : ¬ T 267) (n2 : ¬ T 270) (n3 : ∀ t, t < 80 → ¬ T t) : dkM cA k a := by
  obtain ⟨ar, f, h1, h2, h3⟩ := h
  refine ⟨ar, f, H.at n1 h1, H.at n2 h2, fun j hj => ?_⟩
  obtain ⟨q, q1, q2⟩ := h3 j hj
  exact ⟨q, q1, H.at (n3 j hj) q2⟩
theorem caM.ag {cA : Nat → ClassId} {T : Nat → Prop} {g k : hm_T} {a : Nat} (h : caM cA g a) (H : hm_ag T g k) (n1 : ¬ T 268) (n2 : ¬ T 271) (n3 : ∀ t, t < 34 → ¬ T (232 + t) ∧ ¬ T (80 + t)) : caM cA k a := by
  obtain ⟨ar, f, h1, h2, h3⟩ := h
  refine ⟨ar, f, H.at n1 h1, H.at n2 h2, fun j hj => ?_⟩
  obtain ⟨q, p, q1, q2, q3⟩ := h3 j hj
  exact ⟨q, p, q1, H.at (n3 j hj).1 q2, H.at (n3 j hj).2 q3⟩
theorem lgM.ag {T : Nat → Prop} {g k : hm_T} {a : Nat} (h : lgM g a) (H : hm_ag T g k) (n1 : ¬ T 269) (n2 : ¬ T 114) (n3 : ¬ T 115) : lgM k a := by
  obtain ⟨q, p, h1, h2, h3⟩ := h
  exact ⟨q, p, H.at n1 h1, H.at n2 h2, H.at n3 h3⟩
/-- one page more on the disk -/
def dkL (cA : Nat → ClassId) (h g : hm_T) (a ar i : Nat) : Prop := g a = some (267, .inr (1, [.ref ar, .int 0, .int 0, .int 0])) ∧ (∃ f, g ar = some (270, aRef (cA 1) 80 f) ∧ ∀ j, j < i → ∃ q, f j = some q ∧ g q = some (j, pg0)) ∧ (∀ j, i ≤ j → j < 80 → ∀ (q : Nat) (e : va_E), g q ≠ some (j, e)) ∧ hm_ag (fun t => t < 80 ∨ t = 267 ∨ t = 270) h g
theorem dkL.step {cA : Nat → ClassId} {h g : hm_T} {a ar i q : Nat} {f : Nat → Option Nat} (hL : dkL cA h g a ar i) (hi : i < 80) (hf : g ar = some (270, aRef (cA 1) 80 f)) (hq : g q = none) : dkL cA h (hm_up (hm_up g q (i, pg0)) ar (270, aRef (cA 1) 80 (va_up f i (some q)))) a ar (i + 1) := by
  obtain ⟨h1, ⟨f', h2, h3⟩, h4, h5⟩ := hL
  rw [hf] at h2
  cases h2
  have na : ar ≠ q := hm_nn hf hq
  refine ⟨?_, ⟨_, hm_up_s, fun j hj => ?_⟩, fun j j1 j2 q' e z => ?_, ?_⟩
  · rw [hm_up_n (hm_ne h1 hf (by omega)), hm_up_n (hm_nn h1 hq)]
    exact h1
  · by_cases e : j = i
    · subst e
      refine ⟨q, by simp [va_up], ?_⟩
      rw [hm_up_n (Ne.symm na), hm_up_s]
    · obtain ⟨q', z1, z2⟩ := h3 j (by omega)
      refine ⟨q', by simp [va_up, e]; exact z1, ?_⟩
      rw [hm_up_n (hm_ne z2 hf (by omega)), hm_up_n (hm_nn z2 hq)]
      exact z2
  · by_cases c : q' = ar
    · subst c
      rw [hm_up_s] at z
      cases z
      omega
    · rw [hm_up_n c] at z
      by_cases d : q' = q
      · subst d
        rw [hm_up_s] at z
        cases z
        omega
      · rw [hm_up_n d] at z
        exact h4 j (by omega) j2 q' e z
  · exact (h5.up (Or.inl hi) (Or.inl hq)).up (Or.inr (Or.inr rfl)) (Or.inr ⟨_, by rw [hm_up_n na]; exact hf⟩)
def caL (cA : Nat → ClassId) (h g : hm_T) (a ar i : Nat) : Prop := g a = some (268, .inr (0, [.ref ar, .int 0, .int 0])) ∧ (∃ f, g ar = some (271, aRef (cA 2) 34 f) ∧ ∀ j, j < i → ∃ q p, f j = some q ∧ g q = some (232 + j, rw0 p) ∧ g p = some (80 + j, pg0)) ∧ (∀ j, i ≤ j → j < 34 → ∀ (q : Nat) (e : va_E), g q ≠ some (232 + j, e) ∧ g q ≠ some (80 + j, e)) ∧ hm_ag (fun t => (80 ≤ t ∧ t < 114) ∨ (232 ≤ t ∧ t < 266) ∨ t = 268 ∨ t = 271) h g
/-- what Row's constructor leaves -/
def rwM (i : Nat) (h g : hm_T) (a : Nat) : Prop := ∃ p, g a = some (232 + i, rw0 p) ∧ g p = some (80 + i, pg0) ∧ hm_ag (fun t => t = 232 + i ∨ t = 80 + i) h g
theorem caL.step {cA : Nat → ClassId} {h g u : hm_T} {a ar i q : Nat} {f : Nat → Option Nat} (hL : caL cA h g a ar i) (hi : i < 34) (hf : g ar = some (271, aRef (cA 2) 34 f)) (hq : g q = none) (hu : rwM i (hm_up g q (232 + i, .inr (4, [.null, .int 0, .int 0, .int 0, .int 0]))) u q) : u ar = some (271, aRef (cA 2) 34 f) ∧ caL cA h (hm_up u ar (271, aRef (cA 2) 34 (va_up f i (some q)))) a ar (i + 1) := by
  obtain ⟨h1, ⟨f', h2, h3⟩, h4, h5⟩ := hL
  rw [hf] at h2
  cases h2
  obtain ⟨p, u1, u2, u3⟩ := hu
  have g1 : ∀ (x t : Nat) (e : va_E), ¬ (t = 232 + i ∨ t = 80 + i) → g x = some (t, e) → u x = some (t, e) := fun x t e ht hx => u3.at ht (by rw [hm_up_n (hm_nn hx hq)]; exact hx)
  have uar := g1 _ _ _ (by omega) hf
  refine ⟨uar, ?_, ⟨_, hm_up_s, fun j hj => ?_⟩, fun j j1 j2 x e => ?_, ?_⟩
  · have z := g1 _ _ _ (by omega) h1
    rw [hm_up_n (hm_ne z uar (by omega))]
    exact z
  · by_cases e : j = i
    · subst e
      refine ⟨q, p, by simp [va_up], ?_, ?_⟩
      · rw [hm_up_n (hm_ne u1 uar (by omega))]
        exact u1
      · rw [hm_up_n (hm_ne u2 uar (by omega))]
        exact u2
    · obtain ⟨x, y, z1, z2, z3⟩ := h3 j (by omega)
      have y2 := g1 _ _ _ (by omega) z2
      have y3 := g1 _ _ _ (by omega) z3
      refine ⟨x, y, by simp [va_up, e]; exact z1, ?_, ?_⟩
      · rw [hm_up_n (hm_ne y2 uar (by omega))]
        exact y2
      · rw [hm_up_n (hm_ne y3 uar (by omega))]
        exact y3
  · have key : ∀ t : Nat, t ≠ 271 → ¬ (t = 232 + i ∨ t = 80 + i) → (∀ (x : Nat) (e : va_E), g x ≠ some (t, e)) → ∀ (x : Nat) (e : va_E), hm_up u ar (271, aRef (cA 2) 34 (va_up f i (some q))) x ≠ some (t, e) := fun t ht1 ht2 hn x e z => by
      by_cases c : x = ar
      · subst c
        rw [hm_up_s] at z
        cases z
        exact ht1 rfl
      · rw [hm_up_n c] at z
        refine (u3.no ht2 (fun x e w => ?_)) x e z
        by_cases d : x = q
        · subst d
          rw [hm_up_s] at w
          cases w
          exact ht2 (Or.inl rfl)
        · rw [hm_up_n d] at w
          exact hn x e w
    exact ⟨key _ (by omega) (by omega) (fun x e => (h4 j (by omega) j2 x e).1) x e, key _ (by omega) (by omega) (fun x e => (h4 j (by omega) j2 x e).2) x e⟩
  · have e1 : hm_ag (fun t => (80 ≤ t ∧ t < 114) ∨ (232 ≤ t ∧ t < 266) ∨ t = 268 ∨ t = 271) h u := (h5.up (e := .inr (4, [.null, .int 0, .int 0, .int 0, .int 0])) (show (80 ≤ 232 + i ∧ 232 + i < 114) ∨ (232 ≤ 232 + i ∧ 232 + i < 266) ∨ 232 + i = 268 ∨ 232 + i = 271 by omega) (Or.inl hq)).tr u3 (fun _ z => z) (fun t z => by omega)
    exact e1.up (Or.inr (Or.inr (Or.inr rfl))) (Or.inr ⟨_, uar⟩)
section HMQ
variable {p : Program} {l : Launch} {e : Env} {R : Room} {s : State} {m : MethodId} {args : Array Value} {below : List Frame} {meth : Method} {c : Code} {H : Heap} {locs : List Loc} {cells slots : Nat} {Q : State → Prop}
variable {cc : ByteArray} {pc : Nat} {ls : Array Slot} {rest : List Value} {D : va_G} {B : Nat} {cA : Nat → ClassId} {h : hm_T} {H0 : Heap}
theorem hm_newq (hexec : p.tables.exec = Jvm.exec) (hb : c.code = cc) {own C : String} {index : Nat} (hown : s.vm.findClass own = some m.cls) (hclink : (Cond.classLink own index C).before args s = true) (hover : va_AO C s) (hK : va_K D vwCl (tysA cA) s) (k : Nat) (hk : (tysA cA)[k]? = some (cA k, .object C)) (hP : hm_P D vwCl B h H) (hS : va_S (hm_A B) H0 H locs)
    {n : Int32} {N' : Nat} (hn : ¬ n < 0) (hN : n.toNatClampNeg = N') (hbytes : N' * 4 ≤ 536870912) (t : Nat) (ht : t < 278) (hm : N' ≤ hm_mx t) (hfr : ∀ (q : Nat) (e' : va_E), h q ≠ some (t, e')) (hcells : cells + 1 ≤ R.cells) (hslots : slots + N' ≤ R.slots) (hdg : decode cc pc = .ok (.anewarray index, 3))
    (kk : ∀ (q : Nat) (H1 : Heap), h q = none → hm_P D vwCl B (hm_up h q (t, aRef (cA k) N' (fun _ => none))) H1 → va_S (hm_A B) H0 H1 locs →
      W p l e R s m args below meth c H1 locs (cells + 1) (slots + N') Q (F0 m (pc + 3) ls (.ref q :: rest))) : W p l e R s m args below meth c H locs cells slots Q (F0 m pc ls (.int n :: rest)) := by
  subst hN
  refine W.anew hexec hb hown hclink (va_AO.use hover) rfl hdg rfl hn hbytes hcells hslots fun cB kA comp f1 f2 f3 f4 => ?_
  obtain ⟨_, _, _, _, _, g1⟩ := (hK.2 k _ hk).2
  have ec : cB = cA k := Option.some.inj (f1.symm.trans g1)
  subst ec
  generalize hH1 : H.push ({ cls := cA k, slots := Array.replicate n.toNatClampNeg .null, vm := .none } : Cell) = H1
  have z1 : H1.size = H.size + 1 := by rw [← hH1, Array.size_push]
  have e1 : H1[H.size]? = some (arrV (cA k) n.toNatClampNeg (fun _ => .null)) := by rw [← hH1, Array.getElem?_push_size, ← arrV_new]
  have o1 : ∀ q : Nat, q < H.size → H1[q]? = H[q]? := fun q hq => by rw [← hH1, Array.getElem?_push, if_neg (Nat.ne_of_lt hq)]
  exact kk H.size H1 hP.fresh (hP.push (cell := arrV (cA k) n.toNatClampNeg (fun _ => .null)) e1 e1 (by rw [arrV_size]; exact hm) ht hfr z1 o1) (hS.nw (by omega) o1)
theorem hm_newa (k : Nat) {atype : ArrayType} (hexec : p.tables.exec = Jvm.exec) (hb : c.code = cc) (harr : (Cond.arrayClass (newarray.typeOf atype)).before args s = true) (hdef : defaultValue (newarray.typeOf atype) = .int 0) (hcl : ∀ c0, s.vm.findClass ("[" ++ (newarray.typeOf atype).toString) = some c0 → c0 = cA k) (hP : hm_P D vwCl B h H) (hS : va_S (hm_A B) H0 H locs)
    {n : Int32} {N' : Nat} (hn : ¬ n < 0) (hN : n.toNatClampNeg = N') (hbytes : N' * componentBytes (newarray.typeOf atype) ≤ 536870912) (t : Nat) (ht : t < 278) (hm : N' ≤ hm_mx t) (hfr : ∀ (q : Nat) (e' : va_E), h q ≠ some (t, e')) (hcells : cells + 1 ≤ R.cells) (hslots : slots + N' ≤ R.slots) (hdg : decode cc pc = .ok (.newarray atype, 2))
    (kk : ∀ (q : Nat) (H1 : Heap), h q = none → hm_P D vwCl B (hm_up h q (t, aInt (cA k) N' (fun _ => 0))) H1 → va_S (hm_A B) H0 H1 locs →
      W p l e R s m args below meth c H1 locs (cells + 1) (slots + N') Q (F0 m (pc + 2) ls (.ref q :: rest))) : W p l e R s m args below meth c H locs cells slots Q (F0 m pc ls (.int n :: rest)) := by
  refine va_newaK (atype := atype) hexec hb harr rfl hdg rfl hn hN hbytes hcells hslots rfl fun H1 c0 e1 z1 o1 hAr hNm => ?_
  have ec : c0 = cA k := hcl c0 hNm
  subst ec
  rw [hdef] at e1
  exact kk H.size H1 hP.fresh (hP.push (cell := arrV (cA k) N' (fun _ => .int 0)) e1 e1 (by rw [arrV_size]; exact hm) ht hfr z1 o1) (hS.nw (by omega) o1)
theorem hm_astq (hexec : p.tables.exec = Jvm.exec) (hb : c.code = cc) (hK : va_K D vwCl (tysA cA) s) (hP : hm_P D vwCl B h H) (hS : va_S (hm_A B) H0 H locs) (k ci : Nat) {r : vw_C} {n v a t tv : Nat} {vs : List Value} {f : Nat → Option Nat} (ha : h a = some (t, aRef (cA k) n f)) (hk : (tysA cA)[k]? = some (cA k, .object r.1)) (hv : h v = some (tv, .inr (ci, vs))) (hc : vwCl[ci]? = some r) {i : Int32} (hin : vp_in i n) (hdg : decode cc pc = .ok (.aastore, 1))
    (kk : ∀ (H1 : Heap) (locs1 : List Loc), hm_P D vwCl B (hm_up h a (t, aRef (cA k) n (va_up f i.toNatClampNeg (some v)))) H1 → va_S (hm_A B) H0 H1 locs1 → W p l e R s m args below meth c H1 locs1 cells slots Q (F0 m (pc + 1) ls rest)) : W p l e R s m args below meth c H locs cells slots Q (F0 m pc ls (.ref v :: .int i :: .ref a :: rest)) := by
  have hlt : i.toNatClampNeg < n := Nat.not_le.mp fun q => hin (Or.inr q)
  have h0 : ¬ i < 0 := fun q => hin (Or.inl q)
  obtain ⟨r', hr', cellV, g1, g2, g3, -⟩ := (hP.2.1 _ _ _ hv).2.2
  have hcls := (hK.1 ci r hc).2
  obtain ⟨kA, comp, k1, k2, k3, -⟩ := (hK.2 k _ hk).2
  have hcomp : comp = D.1 ci := Option.some.inj (k3.symm.trans hcls.1)
  subst hcomp
  obtain ⟨kC, hkC, -⟩ := hcls.2
  have hc0 : H[a]? = some (vp_cell (cA k) (n, .inr (.inr (.inr (.inr f))))) := (hP.2.1 _ _ _ ha).2.2
  refine W.aast hexec hb hc0 (fun q h => by cases h) (fun h => by cases h) k1 k2 rfl hkC ⟨h0, by show _ < (arrV _ _ _).slots.size; rw [arrV_size]; exact hlt⟩ g1 (fun q h => by rw [g3] at h; cases h) (by rw [g2]; exact hkC) (by rw [g2]; exact va_assign hcls) rfl rfl hdg fun H1 e z oq => ?_
  have e' : H1[a]? = some (vp_cell (cA k) (n, .inr (.inr (.inr (.inr (va_up f i.toNatClampNeg (some v))))))) := by
    rw [e]
    rw [vp_cell_q, vp_cell_q, arrV_store]
    congr 2
    funext q
    by_cases hq : q = i.toNatClampNeg
    · subst hq
      simp [updV, va_up, va_rf]
    · simp [updV, va_up, hq]
  exact kk H1 _ (hP.set (e := aRef (cA k) n (va_up f i.toNatClampNeg (some v))) ha e' z oq (fun c0 c1 g0 g1 => by rw [hc0] at g0; rw [e'] at g1; cases g0; cases g1; rw [vp_cell_q, vp_cell_q, arrV_size, arrV_size])) (hS.put z oq (hP.ge ha))
end HMQ
end
section
section HMV
variable {p : Program} {l : Launch} {e : Env} {R : Room} {s : State} {m : MethodId} {args : Array Value} {below : List Frame} {meth : Method} {c : Code} {H : Heap} {locs : List Loc} {cells slots : Nat} {Q : State → Prop}
variable {pc : Nat} {ls : Array Slot} {rest : List Value} {D : va_G} {B : Nat} {cA : Nat → ClassId} {H0 : Heap}
theorem hm_callv {post : hm_T → Prop} {st0 : List Value} {a : Array Value} {mc ms : Nat} (hr : va_Run p l e R s m args below meth c H locs cells slots mc ms (F0 m pc ls st0) rest (va_Qv post (HN D B cA) (hm_A B) a) (hm_A B)) (hS : va_S (hm_A B) H0 H locs)
    (kk : ∀ (u : hm_T) (H1 : Heap) (locs1 : List Loc), post u → hm_P D vwCl B u H1 → va_S (hm_A B) H0 H1 locs1 → W p l e R s m args below meth c H1 locs1 (cells + mc) (slots + ms) Q (F0 m (pc + 3) ls rest)) : W p l e R s m args below meth c H locs cells slots Q (F0 m pc ls st0) :=
  va_callv hr hS (fun _ _ h => h) (fun _ h => h) (fun u t H1 locs1 ht _ hw hB _ _ hS1 => kk u H1 locs1 hw (by rw [← ht]; exact hB.1) hS1)
end HMV
theorem fr_up {g : hm_T} {a t t' : Nat} {x : va_E} (h : ∀ (q : Nat) (e : va_E), g q ≠ some (t, e)) (hn : t' ≠ t) : ∀ (q : Nat) (e : va_E), hm_up g a (t', x) q ≠ some (t, e) := fun q e z => by
  by_cases c : q = a
  · subst c
    rw [hm_up_s] at z
    cases z
    exact hn rfl
  · rw [hm_up_n c] at z
    exact h q e z

set_option maxHeartbeats 4000000 in
set_option maxRecDepth 100000 in
theorem m_P_init (l : Launch) (D : va_G) (B : Nat) (cA : Nat → ClassId) (h : hm_T) (a : Nat) : Met l y_P_init w_P_init ({ frames := 1, cells := 0, slots := 0, locals := 20 } : Room) (va_Pc [.ref a] (HN D B cA h)) (va_Qv (fun (u : hm_T) => u = h) (HN D B cA) (hm_A B)) 0 0 (hm_A B) := by
  refine Met.ofW (cc := c_P_init) (maxL := 1) (ret := none) (by decide) rfl ?_
  intro p e s m args below meth c s₁ Bd hml hv
  obtain ⟨rfl, hP, hK, hN⟩ := hv
  have hx := Bd.exec
  have hb := Bd.bytes
  have hr := Bd.returns
  have hts := atoms_spec (ws := w_P_init) Bd.pre
  have hT : ∀ w ∈ WG, w.before ([.ref a] : List Value).toArray s = true := fun w h => hts w (List.mem_cons_of_mem _ h)
  have hown : s.vm.findClass "BlockVault$Page" = some m.cls := findClass_of_methodNamed Bd.named
  have hin : meth.name = "<init>" := (name_of_methodNamed Bd.named Bd.method).1
  have hBs : B ≤ s.heap.size := hP.1
  have hS : va_S (hm_A B) s.heap s.heap [] := va_S.rf
  have hag : hm_ag (fun t => False) h h := hm_ag.rf
  have hl := lv_entry ([.ref a]) (n := 1) (Nat.le_of_ble_eq_true rfl)
  rw [lg_entry_eq]
  generalize (lg_sl ([.ref a]) ++ List.replicate (1 - (lg_sl ([.ref a])).length) Slot.unset).toArray = ls at hl ⊢
  have hl : lv_has ls 1 [(0, .ref a)] := hl
  refine lv_aload_n hx hb d_P_init_0 rfl (lv_at hl 0 rfl) ?_
  refine W.objInit hx hb hown (hT _ k37) (hT _ k17) (hT _ k18) rfl (by rw [hml]; exact hl.1) rfl d_P_init_1 (Nat.le_of_ble_eq_true rfl) (Nat.le_of_ble_eq_true rfl) ?_
  refine W.widen (k := 0) (n := 0) (by omega) (by omega) ?_
  exact W.vret hx hb hr (fun t9 ht9 hwz => ⟨⟨h, rfl, rfl, by rw [ht9]; exact hP, va_K.moved hwz.alike hK, hN.warm hwz⟩, hS.F ht9⟩) hS.2.2 d_P_init_4

set_option maxHeartbeats 4000000 in
set_option maxRecDepth 100000 in
theorem m_R_init (l : Launch) (D : va_G) (B : Nat) (cA : Nat → ClassId) (h : hm_T) (i : Nat) (hi : i < 34) (a : Nat) (ha : h a = some (232 + i, .inr (4, [.null, .int 0, .int 0, .int 0, .int 0]))) (hf : ∀ (q : Nat) (e : va_E), h q ≠ some (80 + i, e)) : Met l y_R_init w_R_init ({ frames := 2, cells := 1, slots := 1, locals := 45 } : Room) (va_Pc [.ref a] (HN D B cA h)) (va_Qv (fun (u : hm_T) => rwM i h u a) (HN D B cA) (hm_A B)) 1 1 (hm_A B) := by
  refine Met.ofW (cc := c_R_init) (maxL := 1) (ret := none) (by decide) rfl ?_
  intro p e s m args below meth c s₁ Bd hml hv
  obtain ⟨rfl, hP, hK, hN⟩ := hv
  have hx := Bd.exec
  have hb := Bd.bytes
  have hr := Bd.returns
  have hts := atoms_spec (ws := w_R_init) Bd.pre
  have hT : ∀ w ∈ WG, w.before ([.ref a] : List Value).toArray s = true := fun w h => hts w (List.mem_cons_of_mem _ h)
  have hown : s.vm.findClass "BlockVault$Row" = some m.cls := findClass_of_methodNamed Bd.named
  have hin : meth.name = "<init>" := (name_of_methodNamed Bd.named Bd.method).1
  have hBs : B ≤ s.heap.size := hP.1
  have hS : va_S (hm_A B) s.heap s.heap [] := va_S.rf
  have hag : hm_ag (fun t => t = 232 + i ∨ t = 80 + i) h h := hm_ag.rf
  have hl := lv_entry ([.ref a]) (n := 1) (Nat.le_of_ble_eq_true rfl)
  rw [lg_entry_eq]
  generalize (lg_sl ([.ref a]) ++ List.replicate (1 - (lg_sl ([.ref a])).length) Slot.unset).toArray = ls at hl ⊢
  have hl : lv_has ls 1 [(0, .ref a)] := hl
  refine lv_aload_n hx hb d_R_init_0 rfl (lv_at hl 0 rfl) ?_
  refine W.objInit hx hb hown (hT _ k67) (hT _ k17) (hT _ k18) rfl (by rw [hml]; exact hl.1) rfl d_R_init_1 (Nat.le_of_ble_eq_true rfl) (Nat.le_of_ble_eq_true rfl) ?_
  refine lv_aload_n hx hb d_R_init_4 rfl (lv_at hl 0 rfl) ?_
  refine hm_new (ci := 3) (fs := [.null]) (C := "BlockVault$Page") (T := T_P) (N := 1) hx hb hT in_P t_P t_P_ok hown (hT _ k68) (hT _ k33) (hT _ k4) hK hP hS rfl (by decide +kernel) (80 + i) (by omega) (by unfold hm_mx; (repeat' split) <;> omega) hf (Nat.le_of_ble_eq_true rfl) (Nat.le_of_ble_eq_true rfl) d_R_init_5 (fun q1 H hq2 hP hS => ?_)
  have ha : (hm_up h q1 (80 + i, .inr (3, [.null]))) a = some (232 + i, .inr (4, [.null, .int 0, .int 0, .int 0, .int 0])) := by rw [hm_up_n (hm_nn ha hq2)]; exact ha
  have hag := hag.up (e := .inr (3, [.null])) (show 80 + i = 232 + i ∨ 80 + i = 80 + i by omega) (Or.inl hq2)
  have f3 : (hm_up h q1 (80 + i, .inr (3, [.null]))) q1 = some (80 + i, .inr (3, [.null])) := hm_up_s
  generalize hm_up h q1 (80 + i, .inr (3, [.null])) = g at hP hag ha f3
  refine lv_dup hx hb d_R_init_8 rfl ?_
  refine hm_callv (va_runIN (As := []) (rest := [.ref q1, .ref a]) ⟨hx, hb, hml, hown, hT⟩ (m_P_init l D B cA g q1) ⟨va_cnB 0 hT (gI kc_P_init) rfl rfl rfl (nm1 hN) (hT _ k4) (by decide +kernel) ⟨Nat.le_of_ble_eq_true rfl, Nat.le_of_ble_eq_true rfl⟩, rfl, hT _ k35⟩ (hn_pre hP hK hN) rfl rfl hl.1 rfl (lv_room (Nat.le_of_ble_eq_true rfl)) d_R_init_9 ⟨Nat.le_of_ble_eq_true rfl, Nat.le_of_ble_eq_true rfl⟩) hS (fun u H locs hu hP hS => ?_)
  rw [hu] at hP
  refine hm_putF (ci := 4) (v := .ref q1) (ty := .object "BlockVault$Page") (C := "BlockVault$Row") (T := T_R) (N := 5) hx hb hT in_R t_R t_R_ok n_R hown hK hP hS ha rfl 0 (by decide) (hT _ k70) (fun _ h9 => h9) rfl hin rfl (by decide +kernel) rfl rfl (Nat.le_of_ble_eq_true rfl) d_R_init_12 (fun H locs hP hS => ?_)
  have hP : hm_P D vwCl B (hm_up g a (232 + i, .inr (4, [.ref q1, .int 0, .int 0, .int 0, .int 0]))) H := hP
  have f3 : (hm_up g a (232 + i, .inr (4, [.ref q1, .int 0, .int 0, .int 0, .int 0]))) q1 = some (80 + i, .inr (3, [.null])) := by rw [hm_up_n (hm_ne f3 ha (by omega))]; exact f3
  have hag := hag.up (e := .inr (4, [.ref q1, .int 0, .int 0, .int 0, .int 0])) (show 232 + i = 232 + i ∨ 232 + i = 80 + i by omega) (Or.inr ⟨_, ha⟩)
  have ha : (hm_up g a (232 + i, .inr (4, [.ref q1, .int 0, .int 0, .int 0, .int 0]))) a = some (232 + i, .inr (4, [.ref q1, .int 0, .int 0, .int 0, .int 0])) := hm_up_s
  generalize hm_up g a (232 + i, .inr (4, [.ref q1, .int 0, .int 0, .int 0, .int 0])) = g at hP hag f3 ha
  refine lv_aload_n hx hb d_R_init_15 rfl (lv_at hl 0 rfl) ?_
  refine lv_iconst (v := (-1)) hx hb d_R_init_16 (by decide) ?_
  refine hm_put (ci := 4) (v := .int (-1)) (ty := .int) (C := "BlockVault$Row") (T := T_R) (N := 5) hx hb hT in_R t_R t_R_ok n_R hown hK hP hS ha rfl 1 (by decide) (hT _ k74) (fun _ h9 => h9) rfl (by decide +kernel) rfl rfl (Nat.le_of_ble_eq_true rfl) d_R_init_17 (fun H locs hP hS => ?_)
  have hP : hm_P D vwCl B (hm_up g a (232 + i, .inr (4, [.ref q1, .int (-1), .int 0, .int 0, .int 0]))) H := hP
  have f3 : (hm_up g a (232 + i, .inr (4, [.ref q1, .int (-1), .int 0, .int 0, .int 0]))) q1 = some (80 + i, .inr (3, [.null])) := by rw [hm_up_n (hm_ne f3 ha (by omega))]; exact f3
  have hag := hag.up (e := .inr (4, [.ref q1, .int (-1), .int 0, .int 0, .int 0])) (show 232 + i = 232 + i ∨ 232 + i = 80 + i by omega) (Or.inr ⟨_, ha⟩)
  have ha : (hm_up g a (232 + i, .inr (4, [.ref q1, .int (-1), .int 0, .int 0, .int 0]))) a = some (232 + i, .inr (4, [.ref q1, .int (-1), .int 0, .int 0, .int 0])) := hm_up_s
  generalize hm_up g a (232 + i, .inr (4, [.ref q1, .int (-1), .int 0, .int 0, .int 0])) = g at hP hag f3 ha
  refine lv_aload_n hx hb d_R_init_20 rfl (lv_at hl 0 rfl) ?_
  refine lv_iconst (v := 0) hx hb d_R_init_21 (by decide) ?_
  refine hm_put (ci := 4) (v := .int 0) (ty := .int) (C := "BlockVault$Row") (T := T_R) (N := 5) hx hb hT in_R t_R t_R_ok n_R hown hK hP hS ha rfl 2 (by decide) (hT _ k77) (fun _ h9 => h9) rfl (by decide +kernel) rfl rfl (Nat.le_of_ble_eq_true rfl) d_R_init_22 (fun H locs hP hS => ?_)
  have hP : hm_P D vwCl B (hm_up g a (232 + i, .inr (4, [.ref q1, .int (-1), .int 0, .int 0, .int 0]))) H := hP
  have f3 : (hm_up g a (232 + i, .inr (4, [.ref q1, .int (-1), .int 0, .int 0, .int 0]))) q1 = some (80 + i, .inr (3, [.null])) := by rw [hm_up_n (hm_ne f3 ha (by omega))]; exact f3
  have hag := hag.up (e := .inr (4, [.ref q1, .int (-1), .int 0, .int 0, .int 0])) (show 232 + i = 232 + i ∨ 232 + i = 80 + i by omega) (Or.inr ⟨_, ha⟩)
  have ha : (hm_up g a (232 + i, .inr (4, [.ref q1, .int (-1), .int 0, .int 0, .int 0]))) a = some (232 + i, .inr (4, [.ref q1, .int (-1), .int 0, .int 0, .int 0])) := hm_up_s
  generalize hm_up g a (232 + i, .inr (4, [.ref q1, .int (-1), .int 0, .int 0, .int 0])) = g at hP hag f3 ha
  refine lv_aload_n hx hb d_R_init_25 rfl (lv_at hl 0 rfl) ?_
  refine lv_iconst (v := 0) hx hb d_R_init_26 (by decide) ?_
  refine hm_put (ci := 4) (v := .int 0) (ty := .boolean) (C := "BlockVault$Row") (T := T_R) (N := 5) hx hb hT in_R t_R t_R_ok n_R hown hK hP hS ha rfl 3 (by decide) (hT _ k79) (fun _ h9 => h9) rfl (by decide +kernel) rfl rfl (Nat.le_of_ble_eq_true rfl) d_R_init_27 (fun H locs hP hS => ?_)
  have hP : hm_P D vwCl B (hm_up g a (232 + i, .inr (4, [.ref q1, .int (-1), .int 0, .int 0, .int 0]))) H := hP
  have f3 : (hm_up g a (232 + i, .inr (4, [.ref q1, .int (-1), .int 0, .int 0, .int 0]))) q1 = some (80 + i, .inr (3, [.null])) := by rw [hm_up_n (hm_ne f3 ha (by omega))]; exact f3
  have hag := hag.up (e := .inr (4, [.ref q1, .int (-1), .int 0, .int 0, .int 0])) (show 232 + i = 232 + i ∨ 232 + i = 80 + i by omega) (Or.inr ⟨_, ha⟩)
  have ha : (hm_up g a (232 + i, .inr (4, [.ref q1, .int (-1), .int 0, .int 0, .int 0]))) a = some (232 + i, .inr (4, [.ref q1, .int (-1), .int 0, .int 0, .int 0])) := hm_up_s
  generalize hm_up g a (232 + i, .inr (4, [.ref q1, .int (-1), .int 0, .int 0, .int 0])) = g at hP hag f3 ha
  refine lv_aload_n hx hb d_R_init_30 rfl (lv_at hl 0 rfl) ?_
  refine lv_iconst (v := 0) hx hb d_R_init_31 (by decide) ?_
  refine hm_put (ci := 4) (v := .int 0) (ty := .boolean) (C := "BlockVault$Row") (T := T_R) (N := 5) hx hb hT in_R t_R t_R_ok n_R hown hK hP hS ha rfl 4 (by decide) (hT _ k83) (fun _ h9 => h9) rfl (by decide +kernel) rfl rfl (Nat.le_of_ble_eq_true rfl) d_R_init_32 (fun H locs hP hS => ?_)
  have hP : hm_P D vwCl B (hm_up g a (232 + i, .inr (4, [.ref q1, .int (-1), .int 0, .int 0, .int 0]))) H := hP
  have f3 : (hm_up g a (232 + i, .inr (4, [.ref q1, .int (-1), .int 0, .int 0, .int 0]))) q1 = some (80 + i, .inr (3, [.null])) := by rw [hm_up_n (hm_ne f3 ha (by omega))]; exact f3
  have hag := hag.up (e := .inr (4, [.ref q1, .int (-1), .int 0, .int 0, .int 0])) (show 232 + i = 232 + i ∨ 232 + i = 80 + i by omega) (Or.inr ⟨_, ha⟩)
  have ha : (hm_up g a (232 + i, .inr (4, [.ref q1, .int (-1), .int 0, .int 0, .int 0]))) a = some (232 + i, .inr (4, [.ref q1, .int (-1), .int 0, .int 0, .int 0])) := hm_up_s
  generalize hm_up g a (232 + i, .inr (4, [.ref q1, .int (-1), .int 0, .int 0, .int 0])) = g at hP hag f3 ha
  refine W.widen (k := 1) (n := 1) (by omega) (by omega) ?_
  exact W.vret hx hb hr (fun t9 ht9 hwz => ⟨⟨g, rfl, ⟨_, ha, f3, hag⟩, by rw [ht9]; exact hP, va_K.moved hwz.alike hK, hN.warm hwz⟩, hS.F ht9⟩) hS.2.2 d_R_init_35

set_option maxHeartbeats 4000000 in
set_option maxRecDepth 100000 in
theorem m_L_init (l : Launch) (D : va_G) (B : Nat) (cA : Nat → ClassId) (h : hm_T) (a : Nat) (ha : h a = some (269, .inr (2, [.null, .null, .int 0]))) (hf : ∀ (q : Nat) (e : va_E), h q ≠ some (114, e)) (hf2 : ∀ (q : Nat) (e : va_E), h q ≠ some (115, e)) : Met l y_L_init w_L_init ({ frames := 2, cells := 2, slots := 2, locals := 45 } : Room) (va_Pc [.ref a] (HN D B cA h)) (va_Qv (fun (u : hm_T) => lgM u a ∧ hm_ag (fun t => t = 269 ∨ t = 114 ∨ t = 115) h u) (HN D B cA) (hm_A B)) 2 2 (hm_A B) := by
  refine Met.ofW (cc := c_L_init) (maxL := 1) (ret := none) (by decide) rfl ?_
  intro p e s m args below meth c s₁ Bd hml hv
  obtain ⟨rfl, hP, hK, hN⟩ := hv
  have hx := Bd.exec
  have hb := Bd.bytes
  have hr := Bd.returns
  have hts := atoms_spec (ws := w_L_init) Bd.pre
  have hT : ∀ w ∈ WG, w.before ([.ref a] : List Value).toArray s = true := fun w h => hts w (List.mem_cons_of_mem _ h)
  have hown : s.vm.findClass "BlockVault$Log" = some m.cls := findClass_of_methodNamed Bd.named
  have hin : meth.name = "<init>" := (name_of_methodNamed Bd.named Bd.method).1
  have hBs : B ≤ s.heap.size := hP.1
  have hS : va_S (hm_A B) s.heap s.heap [] := va_S.rf
  have hag : hm_ag (fun t => t = 269 ∨ t = 114 ∨ t = 115) h h := hm_ag.rf
  have hl := lv_entry ([.ref a]) (n := 1) (Nat.le_of_ble_eq_true rfl)
  rw [lg_entry_eq]
  generalize (lg_sl ([.ref a]) ++ List.replicate (1 - (lg_sl ([.ref a])).length) Slot.unset).toArray = ls at hl ⊢
  have hl : lv_has ls 1 [(0, .ref a)] := hl
  refine lv_aload_n hx hb d_L_init_0 rfl (lv_at hl 0 rfl) ?_
  refine W.objInit hx hb hown (hT _ k113) (hT _ k17) (hT _ k18) rfl (by rw [hml]; exact hl.1) rfl d_L_init_1 (Nat.le_of_ble_eq_true rfl) (Nat.le_of_ble_eq_true rfl) ?_
  refine lv_aload_n hx hb d_L_init_4 rfl (lv_at hl 0 rfl) ?_
  refine hm_new (ci := 3) (fs := [.null]) (C := "BlockVault$Page") (T := T_P) (N := 1) hx hb hT in_P t_P t_P_ok hown (hT _ k114) (hT _ k33) (hT _ k4) hK hP hS rfl (by decide +kernel) (114) (by omega) (by unfold hm_mx; (repeat' split) <;> omega) hf (Nat.le_of_ble_eq_true rfl) (Nat.le_of_ble_eq_true rfl) d_L_init_5 (fun q1 H hq2 hP hS => ?_)
  have ha : (hm_up h q1 (114, .inr (3, [.null]))) a = some (269, .inr (2, [.null, .null, .int 0])) := by rw [hm_up_n (hm_nn ha hq2)]; exact ha
  have hag := hag.up (e := .inr (3, [.null])) (show 114 = 269 ∨ 114 = 114 ∨ 114 = 115 by omega) (Or.inl hq2)
  have hf2 : ∀ (q : Nat) (e : va_E), (hm_up h q1 (114, .inr (3, [.null]))) q ≠ some (115, e) := fr_up hf2 (by omega)
  have f3 : (hm_up h q1 (114, .inr (3, [.null]))) q1 = some (114, .inr (3, [.null])) := hm_up_s
  generalize hm_up h q1 (114, .inr (3, [.null])) = g at hP hag ha hf2 f3
  refine lv_dup hx hb d_L_init_8 rfl ?_
  refine hm_callv (va_runIN (As := []) (rest := [.ref q1, .ref a]) ⟨hx, hb, hml, hown, hT⟩ (m_P_init l D B cA g q1) ⟨va_cnB 0 hT (gI kc_P_init) rfl rfl rfl (nm2 hN) (hT _ k4) (by decide +kernel) ⟨Nat.le_of_ble_eq_true rfl, Nat.le_of_ble_eq_true rfl⟩, rfl, hT _ k35⟩ (hn_pre hP hK hN) rfl rfl hl.1 rfl (lv_room (Nat.le_of_ble_eq_true rfl)) d_L_init_9 ⟨Nat.le_of_ble_eq_true rfl, Nat.le_of_ble_eq_true rfl⟩) hS (fun u H locs hu hP hS => ?_)
  rw [hu] at hP
  refine hm_putF (ci := 2) (v := .ref q1) (ty := .object "BlockVault$Page") (C := "BlockVault$Log") (T := T_L) (N := 3) hx hb hT in_L t_L t_L_ok n_L hown hK hP hS ha rfl 0 (by decide) (hT _ k116) (fun _ h9 => h9) rfl hin rfl (by decide +kernel) rfl rfl (Nat.le_of_ble_eq_true rfl) d_L_init_12 (fun H locs hP hS => ?_)
  have hP : hm_P D vwCl B (hm_up g a (269, .inr (2, [.ref q1, .null, .int 0]))) H := hP
  have f3 : (hm_up g a (269, .inr (2, [.ref q1, .null, .int 0]))) q1 = some (114, .inr (3, [.null])) := by rw [hm_up_n (hm_ne f3 ha (by omega))]; exact f3
  have hag := hag.up (e := .inr (2, [.ref q1, .null, .int 0])) (show 269 = 269 ∨ 269 = 114 ∨ 269 = 115 by omega) (Or.inr ⟨_, ha⟩)
  have hf2 : ∀ (q : Nat) (e : va_E), (hm_up g a (269, .inr (2, [.ref q1, .null, .int 0]))) q ≠ some (115, e) := fr_up hf2 (by omega)
  have ha : (hm_up g a (269, .inr (2, [.ref q1, .null, .int 0]))) a = some (269, .inr (2, [.ref q1, .null, .int 0])) := hm_up_s
  generalize hm_up g a (269, .inr (2, [.ref q1, .null, .int 0])) = g at hP hag f3 hf2 ha
  refine lv_aload_n hx hb d_L_init_15 rfl (lv_at hl 0 rfl) ?_
  refine hm_new (ci := 3) (fs := [.null]) (C := "BlockVault$Page") (T := T_P) (N := 1) hx hb hT in_P t_P t_P_ok hown (hT _ k114) (hT _ k33) (hT _ k4) hK hP hS rfl (by decide +kernel) (115) (by omega) (by unfold hm_mx; (repeat' split) <;> omega) hf2 (Nat.le_of_ble_eq_true rfl) (Nat.le_of_ble_eq_true rfl) d_L_init_16 (fun q4 H hq5 hP hS => ?_)
  have f3 : (hm_up g q4 (115, .inr (3, [.null]))) q1 = some (114, .inr (3, [.null])) := by rw [hm_up_n (hm_nn f3 hq5)]; exact f3
  have ha : (hm_up g q4 (115, .inr (3, [.null]))) a = some (269, .inr (2, [.ref q1, .null, .int 0])) := by rw [hm_up_n (hm_nn ha hq5)]; exact ha
  have hag := hag.up (e := .inr (3, [.null])) (show 115 = 269 ∨ 115 = 114 ∨ 115 = 115 by omega) (Or.inl hq5)
  have f6 : (hm_up g q4 (115, .inr (3, [.null]))) q4 = some (115, .inr (3, [.null])) := hm_up_s
  generalize hm_up g q4 (115, .inr (3, [.null])) = g at hP hag f3 ha f6
  refine lv_dup hx hb d_L_init_19 rfl ?_
  refine hm_callv (va_runIN (As := []) (rest := [.ref q4, .ref a]) ⟨hx, hb, hml, hown, hT⟩ (m_P_init l D B cA g q4) ⟨va_cnB 0 hT (gI kc_P_init) rfl rfl rfl (nm2 hN) (hT _ k4) (by decide +kernel) ⟨Nat.le_of_ble_eq_true rfl, Nat.le_of_ble_eq_true rfl⟩, rfl, hT _ k35⟩ (hn_pre hP hK hN) rfl rfl hl.1 rfl (lv_room (Nat.le_of_ble_eq_true rfl)) d_L_init_20 ⟨Nat.le_of_ble_eq_true rfl, Nat.le_of_ble_eq_true rfl⟩) hS (fun u H locs hu hP hS => ?_)
  rw [hu] at hP
  refine hm_putF (ci := 2) (v := .ref q4) (ty := .object "BlockVault$Page") (C := "BlockVault$Log") (T := T_L) (N := 3) hx hb hT in_L t_L t_L_ok n_L hown hK hP hS ha rfl 1 (by decide) (hT _ k117) (fun _ h9 => h9) rfl hin rfl (by decide +kernel) rfl rfl (Nat.le_of_ble_eq_true rfl) d_L_init_23 (fun H locs hP hS => ?_)
  have hP : hm_P D vwCl B (hm_up g a (269, .inr (2, [.ref q1, .ref q4, .int 0]))) H := hP
  have f3 : (hm_up g a (269, .inr (2, [.ref q1, .ref q4, .int 0]))) q1 = some (114, .inr (3, [.null])) := by rw [hm_up_n (hm_ne f3 ha (by omega))]; exact f3
  have f6 : (hm_up g a (269, .inr (2, [.ref q1, .ref q4, .int 0]))) q4 = some (115, .inr (3, [.null])) := by rw [hm_up_n (hm_ne f6 ha (by omega))]; exact f6
  have hag := hag.up (e := .inr (2, [.ref q1, .ref q4, .int 0])) (show 269 = 269 ∨ 269 = 114 ∨ 269 = 115 by omega) (Or.inr ⟨_, ha⟩)
  have ha : (hm_up g a (269, .inr (2, [.ref q1, .ref q4, .int 0]))) a = some (269, .inr (2, [.ref q1, .ref q4, .int 0])) := hm_up_s
  generalize hm_up g a (269, .inr (2, [.ref q1, .ref q4, .int 0])) = g at hP hag f3 f6 ha
  refine lv_aload_n hx hb d_L_init_26 rfl (lv_at hl 0 rfl) ?_
  refine lv_iconst (v := 0) hx hb d_L_init_27 (by decide) ?_
  refine hm_put (ci := 2) (v := .int 0) (ty := .int) (C := "BlockVault$Log") (T := T_L) (N := 3) hx hb hT in_L t_L t_L_ok n_L hown hK hP hS ha rfl 2 (by decide) (hT _ k118) (fun _ h9 => h9) rfl (by decide +kernel) rfl rfl (Nat.le_of_ble_eq_true rfl) d_L_init_28 (fun H locs hP hS => ?_)
  have hP : hm_P D vwCl B (hm_up g a (269, .inr (2, [.ref q1, .ref q4, .int 0]))) H := hP
  have f3 : (hm_up g a (269, .inr (2, [.ref q1, .ref q4, .int 0]))) q1 = some (114, .inr (3, [.null])) := by rw [hm_up_n (hm_ne f3 ha (by omega))]; exact f3
  have f6 : (hm_up g a (269, .inr (2, [.ref q1, .ref q4, .int 0]))) q4 = some (115, .inr (3, [.null])) := by rw [hm_up_n (hm_ne f6 ha (by omega))]; exact f6
  have hag := hag.up (e := .inr (2, [.ref q1, .ref q4, .int 0])) (show 269 = 269 ∨ 269 = 114 ∨ 269 = 115 by omega) (Or.inr ⟨_, ha⟩)
  have ha : (hm_up g a (269, .inr (2, [.ref q1, .ref q4, .int 0]))) a = some (269, .inr (2, [.ref q1, .ref q4, .int 0])) := hm_up_s
  generalize hm_up g a (269, .inr (2, [.ref q1, .ref q4, .int 0])) = g at hP hag f3 f6 ha
  refine W.widen (k := 2) (n := 2) (by omega) (by omega) ?_
  exact W.vret hx hb hr (fun t9 ht9 hwz => ⟨⟨g, rfl, ⟨⟨_, _, ha, f3, f6⟩, hag⟩, by rw [ht9]; exact hP, va_K.moved hwz.alike hK, hN.warm hwz⟩, hS.F ht9⟩) hS.2.2 d_L_init_31
end
