section
-- ===== PART A: goes FIRST, ahead of the names: the tables' words, and 'selects' of the private methods out of them =====
/-- a private method of a class that the tables say can be made, by its rows of tables_1 -/
def lw_okq (q : MethodName × Nat) : Prop := (q.1.cls ≠ "java/lang/invoke/MethodHandle" ∧ q.1.cls ≠ "java/lang/invoke/VarHandle") ∧ Cond.instantiable q.1.cls q.2 ∈ tables_1 ∧ Cond.privateMethod q.1 ∈ tables_1 ∧ Cond.instanceMethod q.1 ∈ tables_1
theorem lw_p0 : lw_okq (⟨"BlockVault", "commit", "()Z"⟩, 5) := ⟨⟨by decide +kernel, by decide +kernel⟩, List.mem_of_getElem? (i := 12) (by decide +kernel), List.mem_of_getElem? (i := 163) (by decide +kernel), List.mem_of_getElem? (i := 164) (by decide +kernel)⟩
theorem lw_p1 : lw_okq (⟨"BlockVault$Log", "copyHeld", "(LBlockVault$Cache;LBlockVault$Disk;)Z"⟩, 3) := ⟨⟨by decide +kernel, by decide +kernel⟩, List.mem_of_getElem? (i := 109) (by decide +kernel), List.mem_of_getElem? (i := 171) (by decide +kernel), List.mem_of_getElem? (i := 172) (by decide +kernel)⟩
theorem lw_p2 : lw_okq (⟨"BlockVault", "isBlock", "(I)Z"⟩, 5) := ⟨⟨by decide +kernel, by decide +kernel⟩, List.mem_of_getElem? (i := 12) (by decide +kernel), List.mem_of_getElem? (i := 234) (by decide +kernel), List.mem_of_getElem? (i := 235) (by decide +kernel)⟩
theorem lw_p3 : lw_okq (⟨"BlockVault$Cache", "rowToGive", "()LBlockVault$Row;"⟩, 3) := ⟨⟨by decide +kernel, by decide +kernel⟩, List.mem_of_getElem? (i := 56) (by decide +kernel), List.mem_of_getElem? (i := 246) (by decide +kernel), List.mem_of_getElem? (i := 247) (by decide +kernel)⟩
theorem lw_p4 : lw_okq (⟨"BlockVault", "stepTakes", "(I)Z"⟩, 5) := ⟨⟨by decide +kernel, by decide +kernel⟩, List.mem_of_getElem? (i := 12) (by decide +kernel), List.mem_of_getElem? (i := 261) (by decide +kernel), List.mem_of_getElem? (i := 262) (by decide +kernel)⟩
theorem lw_p5 : lw_okq (⟨"BlockVaultModel", "commit", "()Z"⟩, 15) := ⟨⟨by decide +kernel, by decide +kernel⟩, List.mem_of_getElem? (i := 315) (by decide +kernel), List.mem_of_getElem? (i := 381) (by decide +kernel), List.mem_of_getElem? (i := 382) (by decide +kernel)⟩
theorem lw_p6 : lw_okq (⟨"BlockVaultModel", "written", "(I)Z"⟩, 15) := ⟨⟨by decide +kernel, by decide +kernel⟩, List.mem_of_getElem? (i := 315) (by decide +kernel), List.mem_of_getElem? (i := 385) (by decide +kernel), List.mem_of_getElem? (i := 386) (by decide +kernel)⟩
theorem lw_p7 : lw_okq (⟨"BlockVaultModel", "ended", "()Z"⟩, 15) := ⟨⟨by decide +kernel, by decide +kernel⟩, List.mem_of_getElem? (i := 315) (by decide +kernel), List.mem_of_getElem? (i := 389) (by decide +kernel), List.mem_of_getElem? (i := 390) (by decide +kernel)⟩
theorem lw_p8 : lw_okq (⟨"BlockVaultModel", "isBlock", "(I)Z"⟩, 15) := ⟨⟨by decide +kernel, by decide +kernel⟩, List.mem_of_getElem? (i := 315) (by decide +kernel), List.mem_of_getElem? (i := 401) (by decide +kernel), List.mem_of_getElem? (i := 402) (by decide +kernel)⟩
theorem lw_p9 : lw_okq (⟨"BlockVaultModel", "look", "(I)V"⟩, 15) := ⟨⟨by decide +kernel, by decide +kernel⟩, List.mem_of_getElem? (i := 315) (by decide +kernel), List.mem_of_getElem? (i := 405) (by decide +kernel), List.mem_of_getElem? (i := 406) (by decide +kernel)⟩
def lw_privs_1 : List (MethodName × Nat) := [(⟨"BlockVault", "commit", "()Z"⟩, 5), (⟨"BlockVault$Log", "copyHeld", "(LBlockVault$Cache;LBlockVault$Disk;)Z"⟩, 3), (⟨"BlockVault", "isBlock", "(I)Z"⟩, 5), (⟨"BlockVault$Cache", "rowToGive", "()LBlockVault$Row;"⟩, 3), (⟨"BlockVault", "stepTakes", "(I)Z"⟩, 5), (⟨"BlockVaultModel", "commit", "()Z"⟩, 15), (⟨"BlockVaultModel", "written", "(I)Z"⟩, 15), (⟨"BlockVaultModel", "ended", "()Z"⟩, 15), (⟨"BlockVaultModel", "isBlock", "(I)Z"⟩, 15), (⟨"BlockVaultModel", "look", "(I)V"⟩, 15)]
theorem lw_r1 : ∀ q ∈ lw_privs_1, lw_okq q := List.forall_mem_cons.mpr ⟨lw_p0, List.forall_mem_cons.mpr ⟨lw_p1, List.forall_mem_cons.mpr ⟨lw_p2, List.forall_mem_cons.mpr ⟨lw_p3, List.forall_mem_cons.mpr ⟨lw_p4, List.forall_mem_cons.mpr ⟨lw_p5, List.forall_mem_cons.mpr ⟨lw_p6, List.forall_mem_cons.mpr ⟨lw_p7, List.forall_mem_cons.mpr ⟨lw_p8, List.forall_mem_cons.mpr ⟨lw_p9, fun _ h => absurd h List.not_mem_nil⟩⟩⟩⟩⟩⟩⟩⟩⟩⟩
def lw_privs : List (MethodName × Nat) := lw_privs_1
def lw_tbl : List Cond := k2_sels lw_privs ++ tables_1
theorem lw_privs_ok : ∀ q ∈ lw_privs, lw_okq q := lw_r1
/-! the words that stay good: one list for every method -/
def WG : List Cond := lw_tbl.filter goodWord
theorem mg {w : Cond} (i : Nat) (h : lw_tbl[i]? = some w) (g : goodWord w = true) : w ∈ WG := List.mem_filter.mpr ⟨List.mem_of_getElem? h, g⟩
theorem mgs {ws : List Cond} (h : ws.all (fun w => decide (w ∈ lw_tbl) && goodWord w) = true) : ∀ w ∈ ws, w ∈ WG := fun w hw => by
  have h1 := List.all_eq_true.mp h w hw
  rw [Bool.and_eq_true] at h1
  exact List.mem_filter.mpr ⟨of_decide_eq_true h1.1, h1.2⟩
theorem WG_good {w : Cond} (h : w ∈ WG) : (w.onTables && w.keeps) = true ∨ ∃ ty, w = .arrayClass ty := good_of_word (List.mem_filter.mp h).2
theorem gI {c : Cond} (hc : c ∈ WG) : GoodIn WG (c :: WG) := fun w h => (List.mem_cons.mp h).elim (fun e => by rw [e]; exact ⟨hc, WG_good hc⟩) (fun h => ⟨h, WG_good h⟩)
theorem gA {a b : List Cond} (ha : ∀ w ∈ a, w ∈ WG) (hb : GoodIn WG b) : GoodIn WG (a ++ b) := fun w h => (List.mem_append.mp h).elim (fun h => ⟨ha w h, WG_good (ha w h)⟩) (hb w)
theorem gV {own C : String} {idx : Nat} {y : MethodName} {c : Cond} (h1 : Cond.methodLink own idx y ∈ WG) (h2 : Cond.instanceMethod y ∈ WG) (h3 : Cond.selects C y y ∈ WG) (h4 : Cond.initialized C ∈ WG) (hc : c ∈ WG) : GoodIn WG (wsV own idx C y (c :: WG)) := gA (fun w h => by
  simp only [List.mem_cons, List.not_mem_nil, or_false] at h
  rcases h with rfl | rfl | rfl | rfl
  · exact h1
  · exact h2
  · exact h3
  · exact h4) (gI hc)
theorem gS {own : String} {idx : Nat} {y : MethodName} {c : Cond} (h1 : Cond.methodLink own idx y ∈ WG) (h2 : Cond.static y ∈ WG) (h4 : Cond.initialized y.cls ∈ WG) (hc : c ∈ WG) : GoodIn WG (va_wsS own idx y (c :: WG)) := gA (fun w h => by
  simp only [List.mem_cons, List.not_mem_nil, or_false] at h
  rcases h with rfl | rfl | rfl
  · exact h1
  · exact h2
  · exact h4) (gI hc)
def T_C : u_T := fun k => match k with
  | 0 => ("BlockVault$Cache", "rows", "[LBlockVault$Row;", true)
  | 1 => ("BlockVault$Cache", "uses", "I", false)
  | _ => ("BlockVault$Cache", "reads", "I", false)
def t_C : Nat → FieldType := fun k => match k with
  | 0 => .array (.object "BlockVault$Row")
  | 1 => .int
  | _ => .int
theorem n_C : ∀ a, a < 3 → ∀ b, b < 3 → a ≠ b → (T_C a).2.1 ≠ (T_C b).2.1 := by decide +kernel
theorem t_C_ok : ∀ k, k < 3 → parseFieldDescriptor (T_C k).2.2.1 = some (t_C k) := by decide +kernel
set_option maxRecDepth 20000 in
theorem in_C : ∀ w ∈ u_ws "BlockVault$Cache" T_C 3, w ∈ WG := mgs (by decide +kernel)
def T_D : u_T := fun k => match k with
  | 0 => ("BlockVault$Disk", "pages", "[LBlockVault$Page;", true)
  | 1 => ("BlockVault$Disk", "on", "Z", false)
  | 2 => ("BlockVault$Disk", "writesLeft", "I", false)
  | _ => ("BlockVault$Disk", "writes", "I", false)
def t_D : Nat → FieldType := fun k => match k with
  | 0 => .array (.object "BlockVault$Page")
  | 1 => .boolean
  | 2 => .int
  | _ => .int
theorem n_D : ∀ a, a < 4 → ∀ b, b < 4 → a ≠ b → (T_D a).2.1 ≠ (T_D b).2.1 := by decide +kernel
theorem t_D_ok : ∀ k, k < 4 → parseFieldDescriptor (T_D k).2.2.1 = some (t_D k) := by decide +kernel
set_option maxRecDepth 20000 in
theorem in_D : ∀ w ∈ u_ws "BlockVault$Disk" T_D 4, w ∈ WG := mgs (by decide +kernel)
def T_L : u_T := fun k => match k with
  | 0 => ("BlockVault$Log", "head", "LBlockVault$Page;", true)
  | 1 => ("BlockVault$Log", "carried", "LBlockVault$Page;", true)
  | _ => ("BlockVault$Log", "commits", "I", false)
def t_L : Nat → FieldType := fun k => match k with
  | 0 => .object "BlockVault$Page"
  | 1 => .object "BlockVault$Page"
  | _ => .int
theorem n_L : ∀ a, a < 3 → ∀ b, b < 3 → a ≠ b → (T_L a).2.1 ≠ (T_L b).2.1 := by decide +kernel
theorem t_L_ok : ∀ k, k < 3 → parseFieldDescriptor (T_L k).2.2.1 = some (t_L k) := by decide +kernel
set_option maxRecDepth 20000 in
theorem in_L : ∀ w ∈ u_ws "BlockVault$Log" T_L 3, w ∈ WG := mgs (by decide +kernel)
def T_P : u_T := fun k => match k with
  | _ => ("BlockVault$Page", "bytes", "[B", false)
def t_P : Nat → FieldType := fun k => match k with
  | _ => .array .byte
theorem n_P : ∀ a, a < 1 → ∀ b, b < 1 → a ≠ b → (T_P a).2.1 ≠ (T_P b).2.1 := by decide +kernel
theorem t_P_ok : ∀ k, k < 1 → parseFieldDescriptor (T_P k).2.2.1 = some (t_P k) := by decide +kernel
set_option maxRecDepth 20000 in
theorem in_P : ∀ w ∈ u_ws "BlockVault$Page" T_P 1, w ∈ WG := mgs (by decide +kernel)
def T_R : u_T := fun k => match k with
  | 0 => ("BlockVault$Row", "page", "LBlockVault$Page;", true)
  | 1 => ("BlockVault$Row", "block", "I", false)
  | 2 => ("BlockVault$Row", "lastUse", "I", false)
  | 3 => ("BlockVault$Row", "held", "Z", false)
  | _ => ("BlockVault$Row", "inStep", "Z", false)
def t_R : Nat → FieldType := fun k => match k with
  | 0 => .object "BlockVault$Page"
  | 1 => .int
  | 2 => .int
  | 3 => .boolean
  | _ => .boolean
theorem n_R : ∀ a, a < 5 → ∀ b, b < 5 → a ≠ b → (T_R a).2.1 ≠ (T_R b).2.1 := by decide +kernel
theorem t_R_ok : ∀ k, k < 5 → parseFieldDescriptor (T_R k).2.2.1 = some (t_R k) := by decide +kernel
set_option maxRecDepth 20000 in
theorem in_R : ∀ w ∈ u_ws "BlockVault$Row" T_R 5, w ∈ WG := mgs (by decide +kernel)
def T_V : u_T := fun k => match k with
  | 0 => ("BlockVault", "blocks", "I", true)
  | 1 => ("BlockVault", "disk", "LBlockVault$Disk;", true)
  | 2 => ("BlockVault", "cache", "LBlockVault$Cache;", true)
  | 3 => ("BlockVault", "log", "LBlockVault$Log;", true)
  | _ => ("BlockVault", "stepOpen", "Z", false)
def t_V : Nat → FieldType := fun k => match k with
  | 0 => .int
  | 1 => .object "BlockVault$Disk"
  | 2 => .object "BlockVault$Cache"
  | 3 => .object "BlockVault$Log"
  | _ => .boolean
theorem n_V : ∀ a, a < 5 → ∀ b, b < 5 → a ≠ b → (T_V a).2.1 ≠ (T_V b).2.1 := by decide +kernel
theorem t_V_ok : ∀ k, k < 5 → parseFieldDescriptor (T_V k).2.2.1 = some (t_V k) := by decide +kernel
set_option maxRecDepth 20000 in
theorem in_V : ∀ w ∈ u_ws "BlockVault" T_V 5, w ∈ WG := mgs (by decide +kernel)
def T_M : u_T := fun k => match k with
  | 0 => ("BlockVaultModel", "thrown", "I", false)
  | 1 => ("BlockVaultModel", "blocks", "I", true)
  | 2 => ("BlockVaultModel", "safe", "[B", true)
  | 3 => ("BlockVaultModel", "now", "[B", true)
  | 4 => ("BlockVaultModel", "held", "[Z", true)
  | 5 => ("BlockVaultModel", "changed", "[Z", true)
  | 6 => ("BlockVaultModel", "stamp", "[I", true)
  | 7 => ("BlockVaultModel", "time", "I", false)
  | 8 => ("BlockVaultModel", "on", "Z", false)
  | 9 => ("BlockVaultModel", "open", "Z", false)
  | 10 => ("BlockVaultModel", "left", "I", false)
  | 11 => ("BlockVaultModel", "writes", "I", false)
  | 12 => ("BlockVaultModel", "reads", "I", false)
  | 13 => ("BlockVaultModel", "commits", "I", false)
  | _ => ("BlockVaultModel", "unended", "I", false)
def t_M : Nat → FieldType := fun k => match k with
  | 0 => .int
  | 1 => .int
  | 2 => .array .byte
  | 3 => .array .byte
  | 4 => .array .boolean
  | 5 => .array .boolean
  | 6 => .array .int
  | 7 => .int
  | 8 => .boolean
  | 9 => .boolean
  | 10 => .int
  | 11 => .int
  | 12 => .int
  | 13 => .int
  | _ => .int
theorem n_M : ∀ a, a < 15 → ∀ b, b < 15 → a ≠ b → (T_M a).2.1 ≠ (T_M b).2.1 := by decide +kernel
theorem t_M_ok : ∀ k, k < 15 → parseFieldDescriptor (T_M k).2.2.1 = some (t_M k) := by decide +kernel
set_option maxRecDepth 20000 in
theorem in_M : ∀ w ∈ u_ws "BlockVaultModel" T_M 15, w ∈ WG := mgs (by decide +kernel)
abbrev vwCl : List vw_C := [("BlockVault$Cache", T_C, 3), ("BlockVault$Disk", T_D, 4), ("BlockVault$Log", T_L, 3), ("BlockVault$Page", T_P, 1), ("BlockVault$Row", T_R, 5), ("BlockVault", T_V, 5), ("BlockVaultModel", T_M, 15)]
abbrev c_V_init : ByteArray := prog_1_method_1_code
def y_V_init : MethodName := ⟨"BlockVault", "<init>", "(I)V"⟩
abbrev w_V_init : List Cond := Cond.code y_V_init c_V_init 2 none :: WG
set_option maxRecDepth 20000 in
theorem kc_V_init : Cond.code y_V_init c_V_init 2 none ∈ WG := mg 25 (by decide +kernel) (by decide +kernel)
abbrev c_D_init : ByteArray := prog_3_method_1_code
def y_D_init : MethodName := ⟨"BlockVault$Disk", "<init>", "()V"⟩
abbrev w_D_init : List Cond := Cond.code y_D_init c_D_init 2 none :: WG
set_option maxRecDepth 20000 in
theorem kc_D_init : Cond.code y_D_init c_D_init 2 none ∈ WG := mg 39 (by decide +kernel) (by decide +kernel)
abbrev c_P_init : ByteArray := prog_5_method_1_code
def y_P_init : MethodName := ⟨"BlockVault$Page", "<init>", "()V"⟩
abbrev w_P_init : List Cond := Cond.code y_P_init c_P_init 1 none :: WG
set_option maxRecDepth 20000 in
theorem kc_P_init : Cond.code y_P_init c_P_init 1 none ∈ WG := mg 46 (by decide +kernel) (by decide +kernel)
abbrev c_C_init : ByteArray := prog_2_method_1_code
def y_C_init : MethodName := ⟨"BlockVault$Cache", "<init>", "()V"⟩
abbrev w_C_init : List Cond := Cond.code y_C_init c_C_init 2 none :: WG
set_option maxRecDepth 20000 in
theorem kc_C_init : Cond.code y_C_init c_C_init 2 none ∈ WG := mg 69 (by decide +kernel) (by decide +kernel)
abbrev c_R_init : ByteArray := prog_6_method_1_code
def y_R_init : MethodName := ⟨"BlockVault$Row", "<init>", "()V"⟩
abbrev w_R_init : List Cond := Cond.code y_R_init c_R_init 1 none :: WG
set_option maxRecDepth 20000 in
theorem kc_R_init : Cond.code y_R_init c_R_init 1 none ∈ WG := mg 76 (by decide +kernel) (by decide +kernel)
abbrev c_L_init : ByteArray := prog_4_method_1_code
def y_L_init : MethodName := ⟨"BlockVault$Log", "<init>", "()V"⟩
abbrev w_L_init : List Cond := Cond.code y_L_init c_L_init 1 none :: WG
set_option maxRecDepth 20000 in
theorem kc_L_init : Cond.code y_L_init c_L_init 1 none ∈ WG := mg 122 (by decide +kernel) (by decide +kernel)
abbrev c_V_begin : ByteArray := prog_1_method_2_code
def y_V_begin : MethodName := ⟨"BlockVault", "begin", "()Z"⟩
abbrev w_V_begin : List Cond := Cond.code y_V_begin c_V_begin 1 (some FieldType.boolean) :: WG
set_option maxRecDepth 20000 in
theorem kc_V_begin : Cond.code y_V_begin c_V_begin 1 (some FieldType.boolean) ∈ WG := mg 155 (by decide +kernel) (by decide +kernel)
abbrev c_D_isOn : ByteArray := prog_3_method_2_code
def y_D_isOn : MethodName := ⟨"BlockVault$Disk", "isOn", "()Z"⟩
abbrev w_D_isOn : List Cond := Cond.code y_D_isOn c_D_isOn 1 (some FieldType.boolean) :: WG
set_option maxRecDepth 20000 in
theorem kc_D_isOn : Cond.code y_D_isOn c_D_isOn 1 (some FieldType.boolean) ∈ WG := mg 159 (by decide +kernel) (by decide +kernel)
abbrev c_V_end : ByteArray := prog_1_method_3_code
def y_V_end : MethodName := ⟨"BlockVault", "end", "()I"⟩
abbrev w_V_end : List Cond := Cond.code y_V_end c_V_end 2 (some FieldType.int) :: WG
set_option maxRecDepth 20000 in
theorem kc_V_end : Cond.code y_V_end c_V_end 2 (some FieldType.int) ∈ WG := mg 163 (by decide +kernel) (by decide +kernel)
abbrev c_C_closeStep : ByteArray := prog_2_method_8_code
def y_C_closeStep : MethodName := ⟨"BlockVault$Cache", "closeStep", "()V"⟩
abbrev w_C_closeStep : List Cond := Cond.code y_C_closeStep c_C_closeStep 5 none :: WG
set_option maxRecDepth 20000 in
theorem kc_C_closeStep : Cond.code y_C_closeStep c_C_closeStep 5 none ∈ WG := mg 167 (by decide +kernel) (by decide +kernel)
abbrev c_C_heldRows : ByteArray := prog_2_method_6_code
def y_C_heldRows : MethodName := ⟨"BlockVault$Cache", "heldRows", "()I"⟩
abbrev w_C_heldRows : List Cond := Cond.code y_C_heldRows c_C_heldRows 6 (some FieldType.int) :: WG
set_option maxRecDepth 20000 in
theorem kc_C_heldRows : Cond.code y_C_heldRows c_C_heldRows 6 (some FieldType.int) ∈ WG := mg 171 (by decide +kernel) (by decide +kernel)
abbrev c_V_commit : ByteArray := prog_1_method_15_code
def y_V_commit : MethodName := ⟨"BlockVault", "commit", "()Z"⟩
abbrev w_V_commit : List Cond := Cond.code y_V_commit c_V_commit 1 (some FieldType.boolean) :: WG
set_option maxRecDepth 20000 in
theorem kc_V_commit : Cond.code y_V_commit c_V_commit 1 (some FieldType.boolean) ∈ WG := mg 175 (by decide +kernel) (by decide +kernel)
abbrev c_L_bringOut : ByteArray := prog_4_method_3_code
def y_L_bringOut : MethodName := ⟨"BlockVault$Log", "bringOut", "(LBlockVault$Cache;LBlockVault$Disk;)Z"⟩
abbrev w_L_bringOut : List Cond := Cond.code y_L_bringOut c_L_bringOut 3 (some FieldType.boolean) :: WG
set_option maxRecDepth 20000 in
theorem kc_L_bringOut : Cond.code y_L_bringOut c_L_bringOut 3 (some FieldType.boolean) ∈ WG := mg 179 (by decide +kernel) (by decide +kernel)
abbrev c_L_copyHeld : ByteArray := prog_4_method_4_code
def y_L_copyHeld : MethodName := ⟨"BlockVault$Log", "copyHeld", "(LBlockVault$Cache;LBlockVault$Disk;)Z"⟩
abbrev w_L_copyHeld : List Cond := Cond.code y_L_copyHeld c_L_copyHeld 8 (some FieldType.boolean) :: WG
set_option maxRecDepth 20000 in
theorem kc_L_copyHeld : Cond.code y_L_copyHeld c_L_copyHeld 8 (some FieldType.boolean) ∈ WG := mg 183 (by decide +kernel) (by decide +kernel)
abbrev c_P_putRun : ByteArray := prog_5_method_3_code
def y_P_putRun : MethodName := ⟨"BlockVault$Page", "putRun", "(III)V"⟩
abbrev w_P_putRun : List Cond := Cond.code y_P_putRun c_P_putRun 5 none :: WG
set_option maxRecDepth 20000 in
theorem kc_P_putRun : Cond.code y_P_putRun c_P_putRun 5 none ∈ WG := mg 187 (by decide +kernel) (by decide +kernel)
abbrev c_V_isRun : ByteArray := prog_1_method_13_code
def y_V_isRun : MethodName := ⟨"BlockVault", "isRun", "(II)Z"⟩
abbrev w_V_isRun : List Cond := Cond.code y_V_isRun c_V_isRun 2 (some FieldType.boolean) :: WG
set_option maxRecDepth 20000 in
theorem kc_V_isRun : Cond.code y_V_isRun c_V_isRun 2 (some FieldType.boolean) ∈ WG := mg 190 (by decide +kernel) (by decide +kernel)
abbrev c_D_write : ByteArray := prog_3_method_7_code
def y_D_write : MethodName := ⟨"BlockVault$Disk", "write", "(ILBlockVault$Page;)Z"⟩
abbrev w_D_write : List Cond := Cond.code y_D_write c_D_write 3 (some FieldType.boolean) :: WG
set_option maxRecDepth 20000 in
theorem kc_D_write : Cond.code y_D_write c_D_write 3 (some FieldType.boolean) ∈ WG := mg 194 (by decide +kernel) (by decide +kernel)
abbrev c_P_copyFrom : ByteArray := prog_5_method_4_code
def y_P_copyFrom : MethodName := ⟨"BlockVault$Page", "copyFrom", "(LBlockVault$Page;)V"⟩
abbrev w_P_copyFrom : List Cond := Cond.code y_P_copyFrom c_P_copyFrom 2 none :: WG
set_option maxRecDepth 20000 in
theorem kc_P_copyFrom : Cond.code y_P_copyFrom c_P_copyFrom 2 none ∈ WG := mg 198 (by decide +kernel) (by decide +kernel)
abbrev c_P_makeZero : ByteArray := prog_5_method_5_code
def y_P_makeZero : MethodName := ⟨"BlockVault$Page", "makeZero", "()V"⟩
abbrev w_P_makeZero : List Cond := Cond.code y_P_makeZero c_P_makeZero 1 none :: WG
set_option maxRecDepth 20000 in
theorem kc_P_makeZero : Cond.code y_P_makeZero c_P_makeZero 1 none ∈ WG := mg 202 (by decide +kernel) (by decide +kernel)
abbrev c_A_fill : ByteArray := prog_11_method_109_code
def y_A_fill : MethodName := ⟨"java/util/Arrays", "fill", "([BB)V"⟩
abbrev w_A_fill : List Cond := Cond.code y_A_fill c_A_fill 4 none :: WG
set_option maxRecDepth 20000 in
theorem kc_A_fill : Cond.code y_A_fill c_A_fill 4 none ∈ WG := mg 205 (by decide +kernel) (by decide +kernel)
abbrev c_L_bringHome : ByteArray := prog_4_method_5_code
def y_L_bringHome : MethodName := ⟨"BlockVault$Log", "bringHome", "(LBlockVault$Disk;)I"⟩
abbrev w_L_bringHome : List Cond := Cond.code y_L_bringHome c_L_bringHome 4 (some FieldType.int) :: WG
set_option maxRecDepth 20000 in
theorem kc_L_bringHome : Cond.code y_L_bringHome c_L_bringHome 4 (some FieldType.int) ∈ WG := mg 212 (by decide +kernel) (by decide +kernel)
abbrev c_D_read : ByteArray := prog_3_method_6_code
def y_D_read : MethodName := ⟨"BlockVault$Disk", "read", "(ILBlockVault$Page;)V"⟩
abbrev w_D_read : List Cond := Cond.code y_D_read c_D_read 3 none :: WG
set_option maxRecDepth 20000 in
theorem kc_D_read : Cond.code y_D_read c_D_read 3 none ∈ WG := mg 216 (by decide +kernel) (by decide +kernel)
abbrev c_P_byteAt : ByteArray := prog_5_method_2_code
def y_P_byteAt : MethodName := ⟨"BlockVault$Page", "byteAt", "(I)I"⟩
abbrev w_P_byteAt : List Cond := Cond.code y_P_byteAt c_P_byteAt 2 (some FieldType.int) :: WG
set_option maxRecDepth 20000 in
theorem kc_P_byteAt : Cond.code y_P_byteAt c_P_byteAt 2 (some FieldType.int) ∈ WG := mg 220 (by decide +kernel) (by decide +kernel)
abbrev c_C_releaseHeld : ByteArray := prog_2_method_9_code
def y_C_releaseHeld : MethodName := ⟨"BlockVault$Cache", "releaseHeld", "()V"⟩
abbrev w_C_releaseHeld : List Cond := Cond.code y_C_releaseHeld c_C_releaseHeld 5 none :: WG
set_option maxRecDepth 20000 in
theorem kc_C_releaseHeld : Cond.code y_C_releaseHeld c_C_releaseHeld 5 none ∈ WG := mg 225 (by decide +kernel) (by decide +kernel)
abbrev c_C_makeEmpty : ByteArray := prog_2_method_10_code
def y_C_makeEmpty : MethodName := ⟨"BlockVault$Cache", "makeEmpty", "()V"⟩
abbrev w_C_makeEmpty : List Cond := Cond.code y_C_makeEmpty c_C_makeEmpty 5 none :: WG
set_option maxRecDepth 20000 in
theorem kc_C_makeEmpty : Cond.code y_C_makeEmpty c_C_makeEmpty 5 none ∈ WG := mg 229 (by decide +kernel) (by decide +kernel)
abbrev c_R_makeEmpty : ByteArray := prog_6_method_2_code
def y_R_makeEmpty : MethodName := ⟨"BlockVault$Row", "makeEmpty", "()V"⟩
abbrev w_R_makeEmpty : List Cond := Cond.code y_R_makeEmpty c_R_makeEmpty 1 none :: WG
set_option maxRecDepth 20000 in
theorem kc_R_makeEmpty : Cond.code y_R_makeEmpty c_R_makeEmpty 1 none ∈ WG := mg 233 (by decide +kernel) (by decide +kernel)
abbrev c_V_flush : ByteArray := prog_1_method_4_code
def y_V_flush : MethodName := ⟨"BlockVault", "flush", "()I"⟩
abbrev w_V_flush : List Cond := Cond.code y_V_flush c_V_flush 2 (some FieldType.int) :: WG
set_option maxRecDepth 20000 in
theorem kc_V_flush : Cond.code y_V_flush c_V_flush 2 (some FieldType.int) ∈ WG := mg 238 (by decide +kernel) (by decide +kernel)
abbrev c_V_get : ByteArray := prog_1_method_5_code
def y_V_get : MethodName := ⟨"BlockVault", "get", "(II)I"⟩
abbrev w_V_get : List Cond := Cond.code y_V_get c_V_get 3 (some FieldType.int) :: WG
set_option maxRecDepth 20000 in
theorem kc_V_get : Cond.code y_V_get c_V_get 3 (some FieldType.int) ∈ WG := mg 242 (by decide +kernel) (by decide +kernel)
abbrev c_V_isBlock : ByteArray := prog_1_method_12_code
def y_V_isBlock : MethodName := ⟨"BlockVault", "isBlock", "(I)Z"⟩
abbrev w_V_isBlock : List Cond := Cond.code y_V_isBlock c_V_isBlock 3 (some FieldType.boolean) :: WG
set_option maxRecDepth 20000 in
theorem kc_V_isBlock : Cond.code y_V_isBlock c_V_isBlock 3 (some FieldType.boolean) ∈ WG := mg 246 (by decide +kernel) (by decide +kernel)
abbrev c_C_lookAt : ByteArray := prog_2_method_3_code
def y_C_lookAt : MethodName := ⟨"BlockVault$Cache", "lookAt", "(ILBlockVault$Disk;)LBlockVault$Row;"⟩
abbrev w_C_lookAt : List Cond := Cond.code y_C_lookAt c_C_lookAt 4 (some (FieldType.object "BlockVault$Row")) :: WG
set_option maxRecDepth 20000 in
theorem kc_C_lookAt : Cond.code y_C_lookAt c_C_lookAt 4 (some (FieldType.object "BlockVault$Row")) ∈ WG := mg 250 (by decide +kernel) (by decide +kernel)
abbrev c_C_rowOf : ByteArray := prog_2_method_2_code
def y_C_rowOf : MethodName := ⟨"BlockVault$Cache", "rowOf", "(I)LBlockVault$Row;"⟩
abbrev w_C_rowOf : List Cond := Cond.code y_C_rowOf c_C_rowOf 6 (some (FieldType.object "BlockVault$Row")) :: WG
set_option maxRecDepth 20000 in
theorem kc_C_rowOf : Cond.code y_C_rowOf c_C_rowOf 6 (some (FieldType.object "BlockVault$Row")) ∈ WG := mg 254 (by decide +kernel) (by decide +kernel)
abbrev c_C_rowToGive : ByteArray := prog_2_method_4_code
def y_C_rowToGive : MethodName := ⟨"BlockVault$Cache", "rowToGive", "()LBlockVault$Row;"⟩
abbrev w_C_rowToGive : List Cond := Cond.code y_C_rowToGive c_C_rowToGive 6 (some (FieldType.object "BlockVault$Row")) :: WG
set_option maxRecDepth 20000 in
theorem kc_C_rowToGive : Cond.code y_C_rowToGive c_C_rowToGive 6 (some (FieldType.object "BlockVault$Row")) ∈ WG := mg 258 (by decide +kernel) (by decide +kernel)
abbrev c_R_givesWayBefore : ByteArray := prog_6_method_3_code
def y_R_givesWayBefore : MethodName := ⟨"BlockVault$Row", "givesWayBefore", "(LBlockVault$Row;)Z"⟩
abbrev w_R_givesWayBefore : List Cond := Cond.code y_R_givesWayBefore c_R_givesWayBefore 2 (some FieldType.boolean) :: WG
set_option maxRecDepth 20000 in
theorem kc_R_givesWayBefore : Cond.code y_R_givesWayBefore c_R_givesWayBefore 2 (some FieldType.boolean) ∈ WG := mg 262 (by decide +kernel) (by decide +kernel)
abbrev c_V_fill : ByteArray := prog_1_method_6_code
def y_V_fill : MethodName := ⟨"BlockVault", "fill", "(IIII)Z"⟩
abbrev w_V_fill : List Cond := Cond.code y_V_fill c_V_fill 6 (some FieldType.boolean) :: WG
set_option maxRecDepth 20000 in
theorem kc_V_fill : Cond.code y_V_fill c_V_fill 6 (some FieldType.boolean) ∈ WG := mg 268 (by decide +kernel) (by decide +kernel)
abbrev c_V_stepTakes : ByteArray := prog_1_method_14_code
def y_V_stepTakes : MethodName := ⟨"BlockVault", "stepTakes", "(I)Z"⟩
abbrev w_V_stepTakes : List Cond := Cond.code y_V_stepTakes c_V_stepTakes 4 (some FieldType.boolean) :: WG
set_option maxRecDepth 20000 in
theorem kc_V_stepTakes : Cond.code y_V_stepTakes c_V_stepTakes 4 (some FieldType.boolean) ∈ WG := mg 273 (by decide +kernel) (by decide +kernel)
abbrev c_C_stepRows : ByteArray := prog_2_method_7_code
def y_C_stepRows : MethodName := ⟨"BlockVault$Cache", "stepRows", "()I"⟩
abbrev w_C_stepRows : List Cond := Cond.code y_C_stepRows c_C_stepRows 6 (some FieldType.int) :: WG
set_option maxRecDepth 20000 in
theorem kc_C_stepRows : Cond.code y_C_stepRows c_C_stepRows 6 (some FieldType.int) ∈ WG := mg 278 (by decide +kernel) (by decide +kernel)
abbrev c_V_cut : ByteArray := prog_1_method_7_code
def y_V_cut : MethodName := ⟨"BlockVault", "cut", "(I)Z"⟩
abbrev w_V_cut : List Cond := Cond.code y_V_cut c_V_cut 2 (some FieldType.boolean) :: WG
set_option maxRecDepth 20000 in
theorem kc_V_cut : Cond.code y_V_cut c_V_cut 2 (some FieldType.boolean) ∈ WG := mg 283 (by decide +kernel) (by decide +kernel)
abbrev c_D_goAfter : ByteArray := prog_3_method_4_code
def y_D_goAfter : MethodName := ⟨"BlockVault$Disk", "goAfter", "(I)V"⟩
abbrev w_D_goAfter : List Cond := Cond.code y_D_goAfter c_D_goAfter 2 none :: WG
set_option maxRecDepth 20000 in
theorem kc_D_goAfter : Cond.code y_D_goAfter c_D_goAfter 2 none ∈ WG := mg 287 (by decide +kernel) (by decide +kernel)
abbrev c_V_power : ByteArray := prog_1_method_8_code
def y_V_power : MethodName := ⟨"BlockVault", "power", "(I)I"⟩
abbrev w_V_power : List Cond := Cond.code y_V_power c_V_power 2 (some FieldType.int) :: WG
set_option maxRecDepth 20000 in
theorem kc_V_power : Cond.code y_V_power c_V_power 2 (some FieldType.int) ∈ WG := mg 291 (by decide +kernel) (by decide +kernel)
abbrev c_D_comeBack : ByteArray := prog_3_method_3_code
def y_D_comeBack : MethodName := ⟨"BlockVault$Disk", "comeBack", "()V"⟩
abbrev w_D_comeBack : List Cond := Cond.code y_D_comeBack c_D_comeBack 1 none :: WG
set_option maxRecDepth 20000 in
theorem kc_D_comeBack : Cond.code y_D_comeBack c_D_comeBack 1 none ∈ WG := mg 295 (by decide +kernel) (by decide +kernel)
abbrev c_V_count : ByteArray := prog_1_method_9_code
def y_V_count : MethodName := ⟨"BlockVault", "count", "(I)I"⟩
abbrev w_V_count : List Cond := Cond.code y_V_count c_V_count 2 (some FieldType.int) :: WG
set_option maxRecDepth 20000 in
theorem kc_V_count : Cond.code y_V_count c_V_count 2 (some FieldType.int) ∈ WG := mg 300 (by decide +kernel) (by decide +kernel)
abbrev c_D_writesMade : ByteArray := prog_3_method_5_code
def y_D_writesMade : MethodName := ⟨"BlockVault$Disk", "writesMade", "()I"⟩
abbrev w_D_writesMade : List Cond := Cond.code y_D_writesMade c_D_writesMade 1 (some FieldType.int) :: WG
set_option maxRecDepth 20000 in
theorem kc_D_writesMade : Cond.code y_D_writesMade c_D_writesMade 1 (some FieldType.int) ∈ WG := mg 304 (by decide +kernel) (by decide +kernel)
abbrev c_C_readsMade : ByteArray := prog_2_method_5_code
def y_C_readsMade : MethodName := ⟨"BlockVault$Cache", "readsMade", "()I"⟩
abbrev w_C_readsMade : List Cond := Cond.code y_C_readsMade c_C_readsMade 1 (some FieldType.int) :: WG
set_option maxRecDepth 20000 in
theorem kc_C_readsMade : Cond.code y_C_readsMade c_C_readsMade 1 (some FieldType.int) ∈ WG := mg 308 (by decide +kernel) (by decide +kernel)
abbrev c_L_commitsCounted : ByteArray := prog_4_method_2_code
def y_L_commitsCounted : MethodName := ⟨"BlockVault$Log", "commitsCounted", "()I"⟩
abbrev w_L_commitsCounted : List Cond := Cond.code y_L_commitsCounted c_L_commitsCounted 1 (some FieldType.int) :: WG
set_option maxRecDepth 20000 in
theorem kc_L_commitsCounted : Cond.code y_L_commitsCounted c_L_commitsCounted 1 (some FieldType.int) ∈ WG := mg 312 (by decide +kernel) (by decide +kernel)
abbrev c_V_held : ByteArray := prog_1_method_10_code
def y_V_held : MethodName := ⟨"BlockVault", "held", "(I)Z"⟩
abbrev w_V_held : List Cond := Cond.code y_V_held c_V_held 3 (some FieldType.boolean) :: WG
set_option maxRecDepth 20000 in
theorem kc_V_held : Cond.code y_V_held c_V_held 3 (some FieldType.boolean) ∈ WG := mg 316 (by decide +kernel) (by decide +kernel)
abbrev c_V_cached : ByteArray := prog_1_method_11_code
def y_V_cached : MethodName := ⟨"BlockVault", "cached", "(I)Z"⟩
abbrev w_V_cached : List Cond := Cond.code y_V_cached c_V_cached 2 (some FieldType.boolean) :: WG
set_option maxRecDepth 20000 in
theorem kc_V_cached : Cond.code y_V_cached c_V_cached 2 (some FieldType.boolean) ∈ WG := mg 320 (by decide +kernel) (by decide +kernel)
abbrev c_W_cell : ByteArray := method_2_code
def y_W_cell : MethodName := ⟨"BlockVaultLaw", "cell", "([II)I"⟩
abbrev w_W_cell : List Cond := Cond.code y_W_cell c_W_cell 2 (some FieldType.int) :: WG
set_option maxRecDepth 20000 in
theorem kc_W_cell : Cond.code y_W_cell c_W_cell 2 (some FieldType.int) ∈ WG := mg 323 (by decide +kernel) (by decide +kernel)
abbrev c_M_init : ByteArray := prog_8_method_1_code
def y_M_init : MethodName := ⟨"BlockVaultModel", "<init>", "(I)V"⟩
abbrev w_M_init : List Cond := Cond.code y_M_init c_M_init 2 none :: WG
set_option maxRecDepth 20000 in
theorem kc_M_init : Cond.code y_M_init c_M_init 2 none ∈ WG := mg 328 (by decide +kernel) (by decide +kernel)
abbrev c_M_begin : ByteArray := prog_8_method_5_code
def y_M_begin : MethodName := ⟨"BlockVaultModel", "begin", "()Z"⟩
abbrev w_M_begin : List Cond := Cond.code y_M_begin c_M_begin 2 (some FieldType.boolean) :: WG
set_option maxRecDepth 20000 in
theorem kc_M_begin : Cond.code y_M_begin c_M_begin 2 (some FieldType.boolean) ∈ WG := mg 382 (by decide +kernel) (by decide +kernel)
abbrev c_M_end : ByteArray := prog_8_method_9_code
def y_M_end : MethodName := ⟨"BlockVaultModel", "end", "()I"⟩
abbrev w_M_end : List Cond := Cond.code y_M_end c_M_end 2 (some FieldType.int) :: WG
set_option maxRecDepth 20000 in
theorem kc_M_end : Cond.code y_M_end c_M_end 2 (some FieldType.int) ∈ WG := mg 386 (by decide +kernel) (by decide +kernel)
abbrev c_M_many : ByteArray := prog_8_method_4_code
def y_M_many : MethodName := ⟨"BlockVaultModel", "many", "([Z)I"⟩
abbrev w_M_many : List Cond := Cond.code y_M_many c_M_many 3 (some FieldType.int) :: WG
set_option maxRecDepth 20000 in
theorem kc_M_many : Cond.code y_M_many c_M_many 3 (some FieldType.int) ∈ WG := mg 389 (by decide +kernel) (by decide +kernel)
abbrev c_M_commit : ByteArray := prog_8_method_7_code
def y_M_commit : MethodName := ⟨"BlockVaultModel", "commit", "()Z"⟩
abbrev w_M_commit : List Cond := Cond.code y_M_commit c_M_commit 4 (some FieldType.boolean) :: WG
set_option maxRecDepth 20000 in
theorem kc_M_commit : Cond.code y_M_commit c_M_commit 4 (some FieldType.boolean) ∈ WG := mg 393 (by decide +kernel) (by decide +kernel)
abbrev c_M_written : ByteArray := prog_8_method_6_code
def y_M_written : MethodName := ⟨"BlockVaultModel", "written", "(I)Z"⟩
abbrev w_M_written : List Cond := Cond.code y_M_written c_M_written 2 (some FieldType.boolean) :: WG
set_option maxRecDepth 20000 in
theorem kc_M_written : Cond.code y_M_written c_M_written 2 (some FieldType.boolean) ∈ WG := mg 397 (by decide +kernel) (by decide +kernel)
abbrev c_M_ended : ByteArray := prog_8_method_8_code
def y_M_ended : MethodName := ⟨"BlockVaultModel", "ended", "()Z"⟩
abbrev w_M_ended : List Cond := Cond.code y_M_ended c_M_ended 2 (some FieldType.boolean) :: WG
set_option maxRecDepth 20000 in
theorem kc_M_ended : Cond.code y_M_ended c_M_ended 2 (some FieldType.boolean) ∈ WG := mg 401 (by decide +kernel) (by decide +kernel)
abbrev c_M_flush : ByteArray := prog_8_method_10_code
def y_M_flush : MethodName := ⟨"BlockVaultModel", "flush", "()I"⟩
abbrev w_M_flush : List Cond := Cond.code y_M_flush c_M_flush 2 (some FieldType.int) :: WG
set_option maxRecDepth 20000 in
theorem kc_M_flush : Cond.code y_M_flush c_M_flush 2 (some FieldType.int) ∈ WG := mg 405 (by decide +kernel) (by decide +kernel)
abbrev c_M_get : ByteArray := prog_8_method_12_code
def y_M_get : MethodName := ⟨"BlockVaultModel", "get", "(II)I"⟩
abbrev w_M_get : List Cond := Cond.code y_M_get c_M_get 3 (some FieldType.int) :: WG
set_option maxRecDepth 20000 in
theorem kc_M_get : Cond.code y_M_get c_M_get 3 (some FieldType.int) ∈ WG := mg 409 (by decide +kernel) (by decide +kernel)
abbrev c_M_isBlock : ByteArray := prog_8_method_3_code
def y_M_isBlock : MethodName := ⟨"BlockVaultModel", "isBlock", "(I)Z"⟩
abbrev w_M_isBlock : List Cond := Cond.code y_M_isBlock c_M_isBlock 2 (some FieldType.boolean) :: WG
set_option maxRecDepth 20000 in
theorem kc_M_isBlock : Cond.code y_M_isBlock c_M_isBlock 2 (some FieldType.boolean) ∈ WG := mg 413 (by decide +kernel) (by decide +kernel)
abbrev c_M_look : ByteArray := prog_8_method_11_code
def y_M_look : MethodName := ⟨"BlockVaultModel", "look", "(I)V"⟩
abbrev w_M_look : List Cond := Cond.code y_M_look c_M_look 5 none :: WG
set_option maxRecDepth 20000 in
theorem kc_M_look : Cond.code y_M_look c_M_look 5 none ∈ WG := mg 417 (by decide +kernel) (by decide +kernel)
abbrev c_M_fill : ByteArray := prog_8_method_13_code
def y_M_fill : MethodName := ⟨"BlockVaultModel", "fill", "(IIII)Z"⟩
abbrev w_M_fill : List Cond := Cond.code y_M_fill c_M_fill 6 (some FieldType.boolean) :: WG
set_option maxRecDepth 20000 in
theorem kc_M_fill : Cond.code y_M_fill c_M_fill 6 (some FieldType.boolean) ∈ WG := mg 421 (by decide +kernel) (by decide +kernel)
abbrev c_M_cut : ByteArray := prog_8_method_14_code
def y_M_cut : MethodName := ⟨"BlockVaultModel", "cut", "(I)Z"⟩
abbrev w_M_cut : List Cond := Cond.code y_M_cut c_M_cut 2 (some FieldType.boolean) :: WG
set_option maxRecDepth 20000 in
theorem kc_M_cut : Cond.code y_M_cut c_M_cut 2 (some FieldType.boolean) ∈ WG := mg 425 (by decide +kernel) (by decide +kernel)
abbrev c_M_power : ByteArray := prog_8_method_15_code
def y_M_power : MethodName := ⟨"BlockVaultModel", "power", "(I)I"⟩
abbrev w_M_power : List Cond := Cond.code y_M_power c_M_power 3 (some FieldType.int) :: WG
set_option maxRecDepth 20000 in
theorem kc_M_power : Cond.code y_M_power c_M_power 3 (some FieldType.int) ∈ WG := mg 429 (by decide +kernel) (by decide +kernel)
abbrev c_M_count : ByteArray := prog_8_method_16_code
def y_M_count : MethodName := ⟨"BlockVaultModel", "count", "(I)I"⟩
abbrev w_M_count : List Cond := Cond.code y_M_count c_M_count 2 (some FieldType.int) :: WG
set_option maxRecDepth 20000 in
theorem kc_M_count : Cond.code y_M_count c_M_count 2 (some FieldType.int) ∈ WG := mg 433 (by decide +kernel) (by decide +kernel)
abbrev c_M_held : ByteArray := prog_8_method_17_code
def y_M_held : MethodName := ⟨"BlockVaultModel", "held", "(I)Z"⟩
abbrev w_M_held : List Cond := Cond.code y_M_held c_M_held 2 (some FieldType.boolean) :: WG
set_option maxRecDepth 20000 in
theorem kc_M_held : Cond.code y_M_held c_M_held 2 (some FieldType.boolean) ∈ WG := mg 437 (by decide +kernel) (by decide +kernel)
abbrev c_M_cached : ByteArray := prog_8_method_18_code
def y_M_cached : MethodName := ⟨"BlockVaultModel", "cached", "(I)Z"⟩
abbrev w_M_cached : List Cond := Cond.code y_M_cached c_M_cached 2 (some FieldType.boolean) :: WG
set_option maxRecDepth 20000 in
theorem kc_M_cached : Cond.code y_M_cached c_M_cached 2 (some FieldType.boolean) ∈ WG := mg 441 (by decide +kernel) (by decide +kernel)
abbrev c_W_law : ByteArray := code
def y_W_law : MethodName := ⟨"BlockVaultLaw", "law", "([I)Z"⟩
set_option maxRecDepth 20000 in
theorem k0 : Cond.initialized "BlockVaultLaw" ∈ WG := mg 10 (by decide +kernel) (by decide +kernel)
set_option maxRecDepth 20000 in
theorem k1 : Cond.initialized "BlockVault" ∈ WG := mg 11 (by decide +kernel) (by decide +kernel)
set_option maxRecDepth 20000 in
theorem k2 : Cond.initialized "java/lang/Math" ∈ WG := mg 12 (by decide +kernel) (by decide +kernel)
set_option maxRecDepth 20000 in
theorem k3 : Cond.initialized "BlockVault$Disk" ∈ WG := mg 13 (by decide +kernel) (by decide +kernel)
set_option maxRecDepth 20000 in
theorem k4 : Cond.initialized "BlockVault$Page" ∈ WG := mg 14 (by decide +kernel) (by decide +kernel)
set_option maxRecDepth 20000 in
theorem k5 : Cond.initialized "BlockVault$Cache" ∈ WG := mg 15 (by decide +kernel) (by decide +kernel)
set_option maxRecDepth 20000 in
theorem k6 : Cond.initialized "BlockVault$Row" ∈ WG := mg 16 (by decide +kernel) (by decide +kernel)
set_option maxRecDepth 20000 in
theorem k7 : Cond.initialized "BlockVault$Log" ∈ WG := mg 17 (by decide +kernel) (by decide +kernel)
set_option maxRecDepth 20000 in
theorem k8 : Cond.initialized "BlockVaultModel" ∈ WG := mg 18 (by decide +kernel) (by decide +kernel)
set_option maxRecDepth 20000 in
theorem k9 : Cond.initialized "java/util/Arrays" ∈ WG := mg 19 (by decide +kernel) (by decide +kernel)
set_option maxRecDepth 20000 in
theorem k10 : Cond.initialized "java/lang/System" ∈ WG := mg 20 (by decide +kernel) (by decide +kernel)
set_option maxRecDepth 20000 in
theorem k11 : Cond.classLink "BlockVaultLaw" 7 "BlockVault" ∈ WG := mg 21 (by decide +kernel) (by decide +kernel)
set_option maxRecDepth 20000 in
theorem k12 : Cond.instantiable "BlockVault" 5 ∈ WG := mg 22 (by decide +kernel) (by decide +kernel)
set_option maxRecDepth 20000 in
theorem k13 : Cond.methodLink "BlockVaultLaw" 15 ⟨"BlockVault", "<init>", "(I)V"⟩ ∈ WG := mg 23 (by decide +kernel) (by decide +kernel)
set_option maxRecDepth 20000 in
theorem k14 : Cond.instanceMethod ⟨"BlockVault", "<init>", "(I)V"⟩ ∈ WG := mg 24 (by decide +kernel) (by decide +kernel)
set_option maxRecDepth 20000 in
theorem k16 : Cond.methodLink "BlockVault" 3 ⟨"java/lang/Object", "<init>", "()V"⟩ ∈ WG := mg 26 (by decide +kernel) (by decide +kernel)
set_option maxRecDepth 20000 in
theorem k17 : Cond.instanceMethod ⟨"java/lang/Object", "<init>", "()V"⟩ ∈ WG := mg 27 (by decide +kernel) (by decide +kernel)
set_option maxRecDepth 20000 in
theorem k18 : Cond.code ⟨"java/lang/Object", "<init>", "()V"⟩ object_method_1_code 1 none ∈ WG := mg 28 (by decide +kernel) (by decide +kernel)
set_option maxRecDepth 20000 in
theorem k19 : Cond.methodLink "BlockVault" 9 ⟨"java/lang/Math", "min", "(II)I"⟩ ∈ WG := mg 29 (by decide +kernel) (by decide +kernel)
set_option maxRecDepth 20000 in
theorem k20 : Cond.static ⟨"java/lang/Math", "min", "(II)I"⟩ ∈ WG := mg 30 (by decide +kernel) (by decide +kernel)
set_option maxRecDepth 20000 in
theorem k21 : Cond.code ⟨"java/lang/Math", "min", "(II)I"⟩ prog_9_method_69_code 2 (some FieldType.int) ∈ WG := mg 31 (by decide +kernel) (by decide +kernel)
set_option maxRecDepth 20000 in
theorem k22 : Cond.methodLink "BlockVault" 15 ⟨"java/lang/Math", "max", "(II)I"⟩ ∈ WG := mg 32 (by decide +kernel) (by decide +kernel)
set_option maxRecDepth 20000 in
theorem k23 : Cond.static ⟨"java/lang/Math", "max", "(II)I"⟩ ∈ WG := mg 33 (by decide +kernel) (by decide +kernel)
set_option maxRecDepth 20000 in
theorem k24 : Cond.code ⟨"java/lang/Math", "max", "(II)I"⟩ prog_9_method_65_code 2 (some FieldType.int) ∈ WG := mg 34 (by decide +kernel) (by decide +kernel)
set_option maxRecDepth 20000 in
theorem k25 : Cond.classLink "BlockVault" 22 "BlockVault$Disk" ∈ WG := mg 35 (by decide +kernel) (by decide +kernel)
set_option maxRecDepth 20000 in
theorem k26 : Cond.instantiable "BlockVault$Disk" 4 ∈ WG := mg 36 (by decide +kernel) (by decide +kernel)
set_option maxRecDepth 20000 in
theorem k27 : Cond.methodLink "BlockVault" 24 ⟨"BlockVault$Disk", "<init>", "()V"⟩ ∈ WG := mg 37 (by decide +kernel) (by decide +kernel)
set_option maxRecDepth 20000 in
theorem k28 : Cond.instanceMethod ⟨"BlockVault$Disk", "<init>", "()V"⟩ ∈ WG := mg 38 (by decide +kernel) (by decide +kernel)
set_option maxRecDepth 20000 in
theorem k30 : Cond.methodLink "BlockVault$Disk" 3 ⟨"java/lang/Object", "<init>", "()V"⟩ ∈ WG := mg 40 (by decide +kernel) (by decide +kernel)
set_option maxRecDepth 20000 in
theorem k31 : Cond.classLink "BlockVault$Disk" 9 "BlockVault$Page" ∈ WG := mg 41 (by decide +kernel) (by decide +kernel)
set_option maxRecDepth 20000 in
theorem k33 : Cond.instantiable "BlockVault$Page" 1 ∈ WG := mg 43 (by decide +kernel) (by decide +kernel)
set_option maxRecDepth 20000 in
theorem k35 : Cond.instanceMethod ⟨"BlockVault$Page", "<init>", "()V"⟩ ∈ WG := mg 45 (by decide +kernel) (by decide +kernel)
set_option maxRecDepth 20000 in
theorem k37 : Cond.methodLink "BlockVault$Page" 3 ⟨"java/lang/Object", "<init>", "()V"⟩ ∈ WG := mg 47 (by decide +kernel) (by decide +kernel)
set_option maxRecDepth 20000 in
theorem k38 : Cond.fieldLink "BlockVault$Page" 9 "BlockVault$Page" "bytes" "[B" ∈ WG := mg 48 (by decide +kernel) (by decide +kernel)
set_option maxRecDepth 20000 in
theorem k42 : Cond.fieldLink "BlockVault$Disk" 11 "BlockVault$Disk" "pages" "[LBlockVault$Page;" ∈ WG := mg 52 (by decide +kernel) (by decide +kernel)
set_option maxRecDepth 20000 in
theorem k43 : Cond.fieldLink "BlockVault$Disk" 18 "BlockVault$Disk" "on" "Z" ∈ WG := mg 53 (by decide +kernel) (by decide +kernel)
set_option maxRecDepth 20000 in
theorem k44 : Cond.fieldLink "BlockVault$Disk" 22 "BlockVault$Disk" "writesLeft" "I" ∈ WG := mg 54 (by decide +kernel) (by decide +kernel)
set_option maxRecDepth 20000 in
theorem k45 : Cond.fieldLink "BlockVault$Disk" 26 "BlockVault$Disk" "writes" "I" ∈ WG := mg 55 (by decide +kernel) (by decide +kernel)
set_option maxRecDepth 20000 in
theorem k55 : Cond.classLink "BlockVault" 29 "BlockVault$Cache" ∈ WG := mg 65 (by decide +kernel) (by decide +kernel)
set_option maxRecDepth 20000 in
theorem k56 : Cond.instantiable "BlockVault$Cache" 3 ∈ WG := mg 66 (by decide +kernel) (by decide +kernel)
set_option maxRecDepth 20000 in
theorem k57 : Cond.methodLink "BlockVault" 31 ⟨"BlockVault$Cache", "<init>", "()V"⟩ ∈ WG := mg 67 (by decide +kernel) (by decide +kernel)
set_option maxRecDepth 20000 in
theorem k58 : Cond.instanceMethod ⟨"BlockVault$Cache", "<init>", "()V"⟩ ∈ WG := mg 68 (by decide +kernel) (by decide +kernel)
set_option maxRecDepth 20000 in
theorem k60 : Cond.methodLink "BlockVault$Cache" 3 ⟨"java/lang/Object", "<init>", "()V"⟩ ∈ WG := mg 70 (by decide +kernel) (by decide +kernel)
set_option maxRecDepth 20000 in
theorem k61 : Cond.classLink "BlockVault$Cache" 9 "BlockVault$Row" ∈ WG := mg 71 (by decide +kernel) (by decide +kernel)
set_option maxRecDepth 20000 in
theorem k63 : Cond.instantiable "BlockVault$Row" 5 ∈ WG := mg 73 (by decide +kernel) (by decide +kernel)
set_option maxRecDepth 20000 in
theorem k64 : Cond.methodLink "BlockVault$Cache" 17 ⟨"BlockVault$Row", "<init>", "()V"⟩ ∈ WG := mg 74 (by decide +kernel) (by decide +kernel)
set_option maxRecDepth 20000 in
theorem k65 : Cond.instanceMethod ⟨"BlockVault$Row", "<init>", "()V"⟩ ∈ WG := mg 75 (by decide +kernel) (by decide +kernel)
set_option maxRecDepth 20000 in
theorem k67 : Cond.methodLink "BlockVault$Row" 3 ⟨"java/lang/Object", "<init>", "()V"⟩ ∈ WG := mg 77 (by decide +kernel) (by decide +kernel)
set_option maxRecDepth 20000 in
theorem k68 : Cond.classLink "BlockVault$Row" 9 "BlockVault$Page" ∈ WG := mg 78 (by decide +kernel) (by decide +kernel)
set_option maxRecDepth 20000 in
theorem k70 : Cond.fieldLink "BlockVault$Row" 12 "BlockVault$Row" "page" "LBlockVault$Page;" ∈ WG := mg 80 (by decide +kernel) (by decide +kernel)
set_option maxRecDepth 20000 in
theorem k74 : Cond.fieldLink "BlockVault$Row" 18 "BlockVault$Row" "block" "I" ∈ WG := mg 84 (by decide +kernel) (by decide +kernel)
set_option maxRecDepth 20000 in
theorem k77 : Cond.fieldLink "BlockVault$Row" 22 "BlockVault$Row" "lastUse" "I" ∈ WG := mg 87 (by decide +kernel) (by decide +kernel)
set_option maxRecDepth 20000 in
theorem k79 : Cond.fieldLink "BlockVault$Row" 25 "BlockVault$Row" "held" "Z" ∈ WG := mg 89 (by decide +kernel) (by decide +kernel)
set_option maxRecDepth 20000 in
theorem k83 : Cond.fieldLink "BlockVault$Row" 29 "BlockVault$Row" "inStep" "Z" ∈ WG := mg 93 (by decide +kernel) (by decide +kernel)
set_option maxRecDepth 20000 in
theorem k97 : Cond.fieldLink "BlockVault$Cache" 11 "BlockVault$Cache" "rows" "[LBlockVault$Row;" ∈ WG := mg 107 (by decide +kernel) (by decide +kernel)
set_option maxRecDepth 20000 in
theorem k99 : Cond.fieldLink "BlockVault$Cache" 18 "BlockVault$Cache" "uses" "I" ∈ WG := mg 109 (by decide +kernel) (by decide +kernel)
set_option maxRecDepth 20000 in
theorem k100 : Cond.fieldLink "BlockVault$Cache" 22 "BlockVault$Cache" "reads" "I" ∈ WG := mg 110 (by decide +kernel) (by decide +kernel)
set_option maxRecDepth 20000 in
theorem k108 : Cond.classLink "BlockVault" 36 "BlockVault$Log" ∈ WG := mg 118 (by decide +kernel) (by decide +kernel)
set_option maxRecDepth 20000 in
theorem k109 : Cond.instantiable "BlockVault$Log" 3 ∈ WG := mg 119 (by decide +kernel) (by decide +kernel)
set_option maxRecDepth 20000 in
theorem k110 : Cond.methodLink "BlockVault" 38 ⟨"BlockVault$Log", "<init>", "()V"⟩ ∈ WG := mg 120 (by decide +kernel) (by decide +kernel)
set_option maxRecDepth 20000 in
theorem k111 : Cond.instanceMethod ⟨"BlockVault$Log", "<init>", "()V"⟩ ∈ WG := mg 121 (by decide +kernel) (by decide +kernel)
set_option maxRecDepth 20000 in
theorem k113 : Cond.methodLink "BlockVault$Log" 3 ⟨"java/lang/Object", "<init>", "()V"⟩ ∈ WG := mg 123 (by decide +kernel) (by decide +kernel)
set_option maxRecDepth 20000 in
theorem k114 : Cond.classLink "BlockVault$Log" 9 "BlockVault$Page" ∈ WG := mg 124 (by decide +kernel) (by decide +kernel)
set_option maxRecDepth 20000 in
theorem k116 : Cond.fieldLink "BlockVault$Log" 12 "BlockVault$Log" "head" "LBlockVault$Page;" ∈ WG := mg 126 (by decide +kernel) (by decide +kernel)
set_option maxRecDepth 20000 in
theorem k117 : Cond.fieldLink "BlockVault$Log" 18 "BlockVault$Log" "carried" "LBlockVault$Page;" ∈ WG := mg 127 (by decide +kernel) (by decide +kernel)
set_option maxRecDepth 20000 in
theorem k118 : Cond.fieldLink "BlockVault$Log" 21 "BlockVault$Log" "commits" "I" ∈ WG := mg 128 (by decide +kernel) (by decide +kernel)
set_option maxRecDepth 20000 in
theorem k126 : Cond.fieldLink "BlockVault" 18 "BlockVault" "blocks" "I" ∈ WG := mg 136 (by decide +kernel) (by decide +kernel)
set_option maxRecDepth 20000 in
theorem k127 : Cond.fieldLink "BlockVault" 25 "BlockVault" "disk" "LBlockVault$Disk;" ∈ WG := mg 137 (by decide +kernel) (by decide +kernel)
set_option maxRecDepth 20000 in
theorem k128 : Cond.fieldLink "BlockVault" 32 "BlockVault" "cache" "LBlockVault$Cache;" ∈ WG := mg 138 (by decide +kernel) (by decide +kernel)
set_option maxRecDepth 20000 in
theorem k129 : Cond.fieldLink "BlockVault" 39 "BlockVault" "log" "LBlockVault$Log;" ∈ WG := mg 139 (by decide +kernel) (by decide +kernel)
set_option maxRecDepth 20000 in
theorem k130 : Cond.fieldLink "BlockVault" 43 "BlockVault" "stepOpen" "Z" ∈ WG := mg 140 (by decide +kernel) (by decide +kernel)
set_option maxRecDepth 20000 in
theorem k142 : Cond.methodLink "BlockVaultLaw" 21 ⟨"BlockVault", "begin", "()Z"⟩ ∈ WG := mg 152 (by decide +kernel) (by decide +kernel)
set_option maxRecDepth 20000 in
theorem k143 : Cond.instanceMethod ⟨"BlockVault", "begin", "()Z"⟩ ∈ WG := mg 153 (by decide +kernel) (by decide +kernel)
set_option maxRecDepth 20000 in
theorem k144 : Cond.selects "BlockVault" ⟨"BlockVault", "begin", "()Z"⟩ ⟨"BlockVault", "begin", "()Z"⟩ ∈ WG := mg 154 (by decide +kernel) (by decide +kernel)
set_option maxRecDepth 20000 in
theorem k146 : Cond.methodLink "BlockVault" 47 ⟨"BlockVault$Disk", "isOn", "()Z"⟩ ∈ WG := mg 156 (by decide +kernel) (by decide +kernel)
set_option maxRecDepth 20000 in
theorem k147 : Cond.instanceMethod ⟨"BlockVault$Disk", "isOn", "()Z"⟩ ∈ WG := mg 157 (by decide +kernel) (by decide +kernel)
set_option maxRecDepth 20000 in
theorem k148 : Cond.selects "BlockVault$Disk" ⟨"BlockVault$Disk", "isOn", "()Z"⟩ ⟨"BlockVault$Disk", "isOn", "()Z"⟩ ∈ WG := mg 158 (by decide +kernel) (by decide +kernel)
set_option maxRecDepth 20000 in
theorem k150 : Cond.methodLink "BlockVaultLaw" 26 ⟨"BlockVault", "end", "()I"⟩ ∈ WG := mg 160 (by decide +kernel) (by decide +kernel)
set_option maxRecDepth 20000 in
theorem k151 : Cond.instanceMethod ⟨"BlockVault", "end", "()I"⟩ ∈ WG := mg 161 (by decide +kernel) (by decide +kernel)
set_option maxRecDepth 20000 in
theorem k152 : Cond.selects "BlockVault" ⟨"BlockVault", "end", "()I"⟩ ⟨"BlockVault", "end", "()I"⟩ ∈ WG := mg 162 (by decide +kernel) (by decide +kernel)
set_option maxRecDepth 20000 in
theorem k154 : Cond.methodLink "BlockVault" 51 ⟨"BlockVault$Cache", "closeStep", "()V"⟩ ∈ WG := mg 164 (by decide +kernel) (by decide +kernel)
set_option maxRecDepth 20000 in
theorem k155 : Cond.instanceMethod ⟨"BlockVault$Cache", "closeStep", "()V"⟩ ∈ WG := mg 165 (by decide +kernel) (by decide +kernel)
set_option maxRecDepth 20000 in
theorem k156 : Cond.selects "BlockVault$Cache" ⟨"BlockVault$Cache", "closeStep", "()V"⟩ ⟨"BlockVault$Cache", "closeStep", "()V"⟩ ∈ WG := mg 166 (by decide +kernel) (by decide +kernel)
set_option maxRecDepth 20000 in
theorem k158 : Cond.methodLink "BlockVault" 54 ⟨"BlockVault$Cache", "heldRows", "()I"⟩ ∈ WG := mg 168 (by decide +kernel) (by decide +kernel)
set_option maxRecDepth 20000 in
theorem k159 : Cond.instanceMethod ⟨"BlockVault$Cache", "heldRows", "()I"⟩ ∈ WG := mg 169 (by decide +kernel) (by decide +kernel)
set_option maxRecDepth 20000 in
theorem k160 : Cond.selects "BlockVault$Cache" ⟨"BlockVault$Cache", "heldRows", "()I"⟩ ⟨"BlockVault$Cache", "heldRows", "()I"⟩ ∈ WG := mg 170 (by decide +kernel) (by decide +kernel)
set_option maxRecDepth 20000 in
theorem k162 : Cond.methodLink "BlockVault" 58 ⟨"BlockVault", "commit", "()Z"⟩ ∈ WG := mg 172 (by decide +kernel) (by decide +kernel)
set_option maxRecDepth 20000 in
theorem k164 : Cond.instanceMethod ⟨"BlockVault", "commit", "()Z"⟩ ∈ WG := mg 174 (by decide +kernel) (by decide +kernel)
set_option maxRecDepth 20000 in
theorem k166 : Cond.methodLink "BlockVault" 125 ⟨"BlockVault$Log", "bringOut", "(LBlockVault$Cache;LBlockVault$Disk;)Z"⟩ ∈ WG := mg 176 (by decide +kernel) (by decide +kernel)
set_option maxRecDepth 20000 in
theorem k167 : Cond.instanceMethod ⟨"BlockVault$Log", "bringOut", "(LBlockVault$Cache;LBlockVault$Disk;)Z"⟩ ∈ WG := mg 177 (by decide +kernel) (by decide +kernel)
set_option maxRecDepth 20000 in
theorem k168 : Cond.selects "BlockVault$Log" ⟨"BlockVault$Log", "bringOut", "(LBlockVault$Cache;LBlockVault$Disk;)Z"⟩ ⟨"BlockVault$Log", "bringOut", "(LBlockVault$Cache;LBlockVault$Disk;)Z"⟩ ∈ WG := mg 178 (by decide +kernel) (by decide +kernel)
set_option maxRecDepth 20000 in
theorem k170 : Cond.methodLink "BlockVault$Log" 25 ⟨"BlockVault$Log", "copyHeld", "(LBlockVault$Cache;LBlockVault$Disk;)Z"⟩ ∈ WG := mg 180 (by decide +kernel) (by decide +kernel)
set_option maxRecDepth 20000 in
theorem k172 : Cond.instanceMethod ⟨"BlockVault$Log", "copyHeld", "(LBlockVault$Cache;LBlockVault$Disk;)Z"⟩ ∈ WG := mg 182 (by decide +kernel) (by decide +kernel)
set_option maxRecDepth 20000 in
theorem k174 : Cond.methodLink "BlockVault$Log" 54 ⟨"BlockVault$Page", "putRun", "(III)V"⟩ ∈ WG := mg 184 (by decide +kernel) (by decide +kernel)
set_option maxRecDepth 20000 in
theorem k175 : Cond.instanceMethod ⟨"BlockVault$Page", "putRun", "(III)V"⟩ ∈ WG := mg 185 (by decide +kernel) (by decide +kernel)
set_option maxRecDepth 20000 in
theorem k176 : Cond.selects "BlockVault$Page" ⟨"BlockVault$Page", "putRun", "(III)V"⟩ ⟨"BlockVault$Page", "putRun", "(III)V"⟩ ∈ WG := mg 186 (by decide +kernel) (by decide +kernel)
set_option maxRecDepth 20000 in
theorem k179 : Cond.static ⟨"BlockVault", "isRun", "(II)Z"⟩ ∈ WG := mg 189 (by decide +kernel) (by decide +kernel)
set_option maxRecDepth 20000 in
theorem k181 : Cond.methodLink "BlockVault$Log" 29 ⟨"BlockVault$Disk", "write", "(ILBlockVault$Page;)Z"⟩ ∈ WG := mg 191 (by decide +kernel) (by decide +kernel)
set_option maxRecDepth 20000 in
theorem k182 : Cond.instanceMethod ⟨"BlockVault$Disk", "write", "(ILBlockVault$Page;)Z"⟩ ∈ WG := mg 192 (by decide +kernel) (by decide +kernel)
set_option maxRecDepth 20000 in
theorem k183 : Cond.selects "BlockVault$Disk" ⟨"BlockVault$Disk", "write", "(ILBlockVault$Page;)Z"⟩ ⟨"BlockVault$Disk", "write", "(ILBlockVault$Page;)Z"⟩ ∈ WG := mg 193 (by decide +kernel) (by decide +kernel)
set_option maxRecDepth 20000 in
theorem k185 : Cond.methodLink "BlockVault$Disk" 29 ⟨"BlockVault$Page", "copyFrom", "(LBlockVault$Page;)V"⟩ ∈ WG := mg 195 (by decide +kernel) (by decide +kernel)
set_option maxRecDepth 20000 in
theorem k186 : Cond.instanceMethod ⟨"BlockVault$Page", "copyFrom", "(LBlockVault$Page;)V"⟩ ∈ WG := mg 196 (by decide +kernel) (by decide +kernel)
set_option maxRecDepth 20000 in
theorem k187 : Cond.selects "BlockVault$Page" ⟨"BlockVault$Page", "copyFrom", "(LBlockVault$Page;)V"⟩ ⟨"BlockVault$Page", "copyFrom", "(LBlockVault$Page;)V"⟩ ∈ WG := mg 197 (by decide +kernel) (by decide +kernel)
set_option maxRecDepth 20000 in
theorem k189 : Cond.methodLink "BlockVault$Page" 19 ⟨"BlockVault$Page", "makeZero", "()V"⟩ ∈ WG := mg 199 (by decide +kernel) (by decide +kernel)
set_option maxRecDepth 20000 in
theorem k190 : Cond.instanceMethod ⟨"BlockVault$Page", "makeZero", "()V"⟩ ∈ WG := mg 200 (by decide +kernel) (by decide +kernel)
set_option maxRecDepth 20000 in
theorem k191 : Cond.selects "BlockVault$Page" ⟨"BlockVault$Page", "makeZero", "()V"⟩ ⟨"BlockVault$Page", "makeZero", "()V"⟩ ∈ WG := mg 201 (by decide +kernel) (by decide +kernel)
set_option maxRecDepth 20000 in
theorem k193 : Cond.methodLink "BlockVault$Page" 28 ⟨"java/util/Arrays", "fill", "([BB)V"⟩ ∈ WG := mg 203 (by decide +kernel) (by decide +kernel)
set_option maxRecDepth 20000 in
theorem k194 : Cond.static ⟨"java/util/Arrays", "fill", "([BB)V"⟩ ∈ WG := mg 204 (by decide +kernel) (by decide +kernel)
set_option maxRecDepth 20000 in
theorem k196 : Cond.methodLink "BlockVault$Page" 22 ⟨"java/lang/System", "arraycopy", "(Ljava/lang/Object;ILjava/lang/Object;II)V"⟩ ∈ WG := mg 206 (by decide +kernel) (by decide +kernel)
set_option maxRecDepth 20000 in
theorem k197 : Cond.static ⟨"java/lang/System", "arraycopy", "(Ljava/lang/Object;ILjava/lang/Object;II)V"⟩ ∈ WG := mg 207 (by decide +kernel) (by decide +kernel)
set_option maxRecDepth 20000 in
theorem k198 : Cond.native ⟨"java/lang/System", "arraycopy", "(Ljava/lang/Object;ILjava/lang/Object;II)V"⟩ ∈ WG := mg 208 (by decide +kernel) (by decide +kernel)
set_option maxRecDepth 20000 in
theorem k199 : Cond.methodLink "BlockVault$Log" 35 ⟨"BlockVault$Log", "bringHome", "(LBlockVault$Disk;)I"⟩ ∈ WG := mg 209 (by decide +kernel) (by decide +kernel)
set_option maxRecDepth 20000 in
theorem k200 : Cond.instanceMethod ⟨"BlockVault$Log", "bringHome", "(LBlockVault$Disk;)I"⟩ ∈ WG := mg 210 (by decide +kernel) (by decide +kernel)
set_option maxRecDepth 20000 in
theorem k201 : Cond.selects "BlockVault$Log" ⟨"BlockVault$Log", "bringHome", "(LBlockVault$Disk;)I"⟩ ⟨"BlockVault$Log", "bringHome", "(LBlockVault$Disk;)I"⟩ ∈ WG := mg 211 (by decide +kernel) (by decide +kernel)
set_option maxRecDepth 20000 in
theorem k203 : Cond.methodLink "BlockVault$Log" 61 ⟨"BlockVault$Disk", "read", "(ILBlockVault$Page;)V"⟩ ∈ WG := mg 213 (by decide +kernel) (by decide +kernel)
set_option maxRecDepth 20000 in
theorem k204 : Cond.instanceMethod ⟨"BlockVault$Disk", "read", "(ILBlockVault$Page;)V"⟩ ∈ WG := mg 214 (by decide +kernel) (by decide +kernel)
set_option maxRecDepth 20000 in
theorem k205 : Cond.selects "BlockVault$Disk" ⟨"BlockVault$Disk", "read", "(ILBlockVault$Page;)V"⟩ ⟨"BlockVault$Disk", "read", "(ILBlockVault$Page;)V"⟩ ∈ WG := mg 215 (by decide +kernel) (by decide +kernel)
set_option maxRecDepth 20000 in
theorem k207 : Cond.methodLink "BlockVault$Log" 65 ⟨"BlockVault$Page", "byteAt", "(I)I"⟩ ∈ WG := mg 217 (by decide +kernel) (by decide +kernel)
set_option maxRecDepth 20000 in
theorem k208 : Cond.instanceMethod ⟨"BlockVault$Page", "byteAt", "(I)I"⟩ ∈ WG := mg 218 (by decide +kernel) (by decide +kernel)
set_option maxRecDepth 20000 in
theorem k209 : Cond.selects "BlockVault$Page" ⟨"BlockVault$Page", "byteAt", "(I)I"⟩ ⟨"BlockVault$Page", "byteAt", "(I)I"⟩ ∈ WG := mg 219 (by decide +kernel) (by decide +kernel)
set_option maxRecDepth 20000 in
theorem k211 : Cond.methodLink "BlockVault$Log" 69 ⟨"java/lang/Math", "min", "(II)I"⟩ ∈ WG := mg 221 (by decide +kernel) (by decide +kernel)
set_option maxRecDepth 20000 in
theorem k212 : Cond.methodLink "BlockVault" 129 ⟨"BlockVault$Cache", "releaseHeld", "()V"⟩ ∈ WG := mg 222 (by decide +kernel) (by decide +kernel)
set_option maxRecDepth 20000 in
theorem k213 : Cond.instanceMethod ⟨"BlockVault$Cache", "releaseHeld", "()V"⟩ ∈ WG := mg 223 (by decide +kernel) (by decide +kernel)
set_option maxRecDepth 20000 in
theorem k214 : Cond.selects "BlockVault$Cache" ⟨"BlockVault$Cache", "releaseHeld", "()V"⟩ ⟨"BlockVault$Cache", "releaseHeld", "()V"⟩ ∈ WG := mg 224 (by decide +kernel) (by decide +kernel)
set_option maxRecDepth 20000 in
theorem k216 : Cond.methodLink "BlockVault" 132 ⟨"BlockVault$Cache", "makeEmpty", "()V"⟩ ∈ WG := mg 226 (by decide +kernel) (by decide +kernel)
set_option maxRecDepth 20000 in
theorem k217 : Cond.instanceMethod ⟨"BlockVault$Cache", "makeEmpty", "()V"⟩ ∈ WG := mg 227 (by decide +kernel) (by decide +kernel)
set_option maxRecDepth 20000 in
theorem k218 : Cond.selects "BlockVault$Cache" ⟨"BlockVault$Cache", "makeEmpty", "()V"⟩ ⟨"BlockVault$Cache", "makeEmpty", "()V"⟩ ∈ WG := mg 228 (by decide +kernel) (by decide +kernel)
set_option maxRecDepth 20000 in
theorem k220 : Cond.methodLink "BlockVault$Cache" 60 ⟨"BlockVault$Row", "makeEmpty", "()V"⟩ ∈ WG := mg 230 (by decide +kernel) (by decide +kernel)
set_option maxRecDepth 20000 in
theorem k221 : Cond.instanceMethod ⟨"BlockVault$Row", "makeEmpty", "()V"⟩ ∈ WG := mg 231 (by decide +kernel) (by decide +kernel)
set_option maxRecDepth 20000 in
theorem k222 : Cond.selects "BlockVault$Row" ⟨"BlockVault$Row", "makeEmpty", "()V"⟩ ⟨"BlockVault$Row", "makeEmpty", "()V"⟩ ∈ WG := mg 232 (by decide +kernel) (by decide +kernel)
set_option maxRecDepth 20000 in
theorem k224 : Cond.arrayClass FieldType.byte ∈ WG := mg 234 (by decide +kernel) (by decide +kernel)
set_option maxRecDepth 20000 in
theorem k225 : Cond.methodLink "BlockVaultLaw" 31 ⟨"BlockVault", "flush", "()I"⟩ ∈ WG := mg 235 (by decide +kernel) (by decide +kernel)
set_option maxRecDepth 20000 in
theorem k226 : Cond.instanceMethod ⟨"BlockVault", "flush", "()I"⟩ ∈ WG := mg 236 (by decide +kernel) (by decide +kernel)
set_option maxRecDepth 20000 in
theorem k227 : Cond.selects "BlockVault" ⟨"BlockVault", "flush", "()I"⟩ ⟨"BlockVault", "flush", "()I"⟩ ∈ WG := mg 237 (by decide +kernel) (by decide +kernel)
set_option maxRecDepth 20000 in
theorem k229 : Cond.methodLink "BlockVaultLaw" 35 ⟨"BlockVault", "get", "(II)I"⟩ ∈ WG := mg 239 (by decide +kernel) (by decide +kernel)
set_option maxRecDepth 20000 in
theorem k230 : Cond.instanceMethod ⟨"BlockVault", "get", "(II)I"⟩ ∈ WG := mg 240 (by decide +kernel) (by decide +kernel)
set_option maxRecDepth 20000 in
theorem k231 : Cond.selects "BlockVault" ⟨"BlockVault", "get", "(II)I"⟩ ⟨"BlockVault", "get", "(II)I"⟩ ∈ WG := mg 241 (by decide +kernel) (by decide +kernel)
set_option maxRecDepth 20000 in
theorem k233 : Cond.methodLink "BlockVault" 61 ⟨"BlockVault", "isBlock", "(I)Z"⟩ ∈ WG := mg 243 (by decide +kernel) (by decide +kernel)
set_option maxRecDepth 20000 in
theorem k235 : Cond.instanceMethod ⟨"BlockVault", "isBlock", "(I)Z"⟩ ∈ WG := mg 245 (by decide +kernel) (by decide +kernel)
set_option maxRecDepth 20000 in
theorem k237 : Cond.methodLink "BlockVault" 65 ⟨"BlockVault$Cache", "lookAt", "(ILBlockVault$Disk;)LBlockVault$Row;"⟩ ∈ WG := mg 247 (by decide +kernel) (by decide +kernel)
set_option maxRecDepth 20000 in
theorem k238 : Cond.instanceMethod ⟨"BlockVault$Cache", "lookAt", "(ILBlockVault$Disk;)LBlockVault$Row;"⟩ ∈ WG := mg 248 (by decide +kernel) (by decide +kernel)
set_option maxRecDepth 20000 in
theorem k239 : Cond.selects "BlockVault$Cache" ⟨"BlockVault$Cache", "lookAt", "(ILBlockVault$Disk;)LBlockVault$Row;"⟩ ⟨"BlockVault$Cache", "lookAt", "(ILBlockVault$Disk;)LBlockVault$Row;"⟩ ∈ WG := mg 249 (by decide +kernel) (by decide +kernel)
set_option maxRecDepth 20000 in
theorem k241 : Cond.methodLink "BlockVault$Cache" 28 ⟨"BlockVault$Cache", "rowOf", "(I)LBlockVault$Row;"⟩ ∈ WG := mg 251 (by decide +kernel) (by decide +kernel)
set_option maxRecDepth 20000 in
theorem k242 : Cond.instanceMethod ⟨"BlockVault$Cache", "rowOf", "(I)LBlockVault$Row;"⟩ ∈ WG := mg 252 (by decide +kernel) (by decide +kernel)
set_option maxRecDepth 20000 in
theorem k243 : Cond.selects "BlockVault$Cache" ⟨"BlockVault$Cache", "rowOf", "(I)LBlockVault$Row;"⟩ ⟨"BlockVault$Cache", "rowOf", "(I)LBlockVault$Row;"⟩ ∈ WG := mg 253 (by decide +kernel) (by decide +kernel)
set_option maxRecDepth 20000 in
theorem k245 : Cond.methodLink "BlockVault$Cache" 32 ⟨"BlockVault$Cache", "rowToGive", "()LBlockVault$Row;"⟩ ∈ WG := mg 255 (by decide +kernel) (by decide +kernel)
set_option maxRecDepth 20000 in
theorem k247 : Cond.instanceMethod ⟨"BlockVault$Cache", "rowToGive", "()LBlockVault$Row;"⟩ ∈ WG := mg 257 (by decide +kernel) (by decide +kernel)
set_option maxRecDepth 20000 in
theorem k249 : Cond.methodLink "BlockVault$Cache" 49 ⟨"BlockVault$Row", "givesWayBefore", "(LBlockVault$Row;)Z"⟩ ∈ WG := mg 259 (by decide +kernel) (by decide +kernel)
set_option maxRecDepth 20000 in
theorem k250 : Cond.instanceMethod ⟨"BlockVault$Row", "givesWayBefore", "(LBlockVault$Row;)Z"⟩ ∈ WG := mg 260 (by decide +kernel) (by decide +kernel)
set_option maxRecDepth 20000 in
theorem k251 : Cond.selects "BlockVault$Row" ⟨"BlockVault$Row", "givesWayBefore", "(LBlockVault$Row;)Z"⟩ ⟨"BlockVault$Row", "givesWayBefore", "(LBlockVault$Row;)Z"⟩ ∈ WG := mg 261 (by decide +kernel) (by decide +kernel)
set_option maxRecDepth 20000 in
theorem k253 : Cond.methodLink "BlockVault$Cache" 40 ⟨"BlockVault$Disk", "read", "(ILBlockVault$Page;)V"⟩ ∈ WG := mg 263 (by decide +kernel) (by decide +kernel)
set_option maxRecDepth 20000 in
theorem k254 : Cond.methodLink "BlockVault" 75 ⟨"BlockVault$Page", "byteAt", "(I)I"⟩ ∈ WG := mg 264 (by decide +kernel) (by decide +kernel)
set_option maxRecDepth 20000 in
theorem k255 : Cond.methodLink "BlockVaultLaw" 40 ⟨"BlockVault", "fill", "(IIII)Z"⟩ ∈ WG := mg 265 (by decide +kernel) (by decide +kernel)
set_option maxRecDepth 20000 in
theorem k256 : Cond.instanceMethod ⟨"BlockVault", "fill", "(IIII)Z"⟩ ∈ WG := mg 266 (by decide +kernel) (by decide +kernel)
set_option maxRecDepth 20000 in
theorem k257 : Cond.selects "BlockVault" ⟨"BlockVault", "fill", "(IIII)Z"⟩ ⟨"BlockVault", "fill", "(IIII)Z"⟩ ∈ WG := mg 267 (by decide +kernel) (by decide +kernel)
set_option maxRecDepth 20000 in
theorem k259 : Cond.methodLink "BlockVault" 81 ⟨"BlockVault", "isRun", "(II)Z"⟩ ∈ WG := mg 269 (by decide +kernel) (by decide +kernel)
set_option maxRecDepth 20000 in
theorem k260 : Cond.methodLink "BlockVault" 85 ⟨"BlockVault", "stepTakes", "(I)Z"⟩ ∈ WG := mg 270 (by decide +kernel) (by decide +kernel)
set_option maxRecDepth 20000 in
theorem k262 : Cond.instanceMethod ⟨"BlockVault", "stepTakes", "(I)Z"⟩ ∈ WG := mg 272 (by decide +kernel) (by decide +kernel)
set_option maxRecDepth 20000 in
theorem k264 : Cond.methodLink "BlockVault" 121 ⟨"BlockVault$Cache", "rowOf", "(I)LBlockVault$Row;"⟩ ∈ WG := mg 274 (by decide +kernel) (by decide +kernel)
set_option maxRecDepth 20000 in
theorem k265 : Cond.methodLink "BlockVault" 109 ⟨"BlockVault$Cache", "stepRows", "()I"⟩ ∈ WG := mg 275 (by decide +kernel) (by decide +kernel)
set_option maxRecDepth 20000 in
theorem k266 : Cond.instanceMethod ⟨"BlockVault$Cache", "stepRows", "()I"⟩ ∈ WG := mg 276 (by decide +kernel) (by decide +kernel)
set_option maxRecDepth 20000 in
theorem k267 : Cond.selects "BlockVault$Cache" ⟨"BlockVault$Cache", "stepRows", "()I"⟩ ⟨"BlockVault$Cache", "stepRows", "()I"⟩ ∈ WG := mg 277 (by decide +kernel) (by decide +kernel)
set_option maxRecDepth 20000 in
theorem k269 : Cond.methodLink "BlockVault" 94 ⟨"BlockVault$Page", "putRun", "(III)V"⟩ ∈ WG := mg 279 (by decide +kernel) (by decide +kernel)
set_option maxRecDepth 20000 in
theorem k270 : Cond.methodLink "BlockVaultLaw" 45 ⟨"BlockVault", "cut", "(I)Z"⟩ ∈ WG := mg 280 (by decide +kernel) (by decide +kernel)
set_option maxRecDepth 20000 in
theorem k271 : Cond.instanceMethod ⟨"BlockVault", "cut", "(I)Z"⟩ ∈ WG := mg 281 (by decide +kernel) (by decide +kernel)
set_option maxRecDepth 20000 in
theorem k272 : Cond.selects "BlockVault" ⟨"BlockVault", "cut", "(I)Z"⟩ ⟨"BlockVault", "cut", "(I)Z"⟩ ∈ WG := mg 282 (by decide +kernel) (by decide +kernel)
set_option maxRecDepth 20000 in
theorem k274 : Cond.methodLink "BlockVault" 98 ⟨"BlockVault$Disk", "goAfter", "(I)V"⟩ ∈ WG := mg 284 (by decide +kernel) (by decide +kernel)
set_option maxRecDepth 20000 in
theorem k275 : Cond.instanceMethod ⟨"BlockVault$Disk", "goAfter", "(I)V"⟩ ∈ WG := mg 285 (by decide +kernel) (by decide +kernel)
set_option maxRecDepth 20000 in
theorem k276 : Cond.selects "BlockVault$Disk" ⟨"BlockVault$Disk", "goAfter", "(I)V"⟩ ⟨"BlockVault$Disk", "goAfter", "(I)V"⟩ ∈ WG := mg 286 (by decide +kernel) (by decide +kernel)
set_option maxRecDepth 20000 in
theorem k278 : Cond.methodLink "BlockVaultLaw" 50 ⟨"BlockVault", "power", "(I)I"⟩ ∈ WG := mg 288 (by decide +kernel) (by decide +kernel)
set_option maxRecDepth 20000 in
theorem k279 : Cond.instanceMethod ⟨"BlockVault", "power", "(I)I"⟩ ∈ WG := mg 289 (by decide +kernel) (by decide +kernel)
set_option maxRecDepth 20000 in
theorem k280 : Cond.selects "BlockVault" ⟨"BlockVault", "power", "(I)I"⟩ ⟨"BlockVault", "power", "(I)I"⟩ ∈ WG := mg 290 (by decide +kernel) (by decide +kernel)
set_option maxRecDepth 20000 in
theorem k282 : Cond.methodLink "BlockVault" 102 ⟨"BlockVault$Disk", "comeBack", "()V"⟩ ∈ WG := mg 292 (by decide +kernel) (by decide +kernel)
set_option maxRecDepth 20000 in
theorem k283 : Cond.instanceMethod ⟨"BlockVault$Disk", "comeBack", "()V"⟩ ∈ WG := mg 293 (by decide +kernel) (by decide +kernel)
set_option maxRecDepth 20000 in
theorem k284 : Cond.selects "BlockVault$Disk" ⟨"BlockVault$Disk", "comeBack", "()V"⟩ ⟨"BlockVault$Disk", "comeBack", "()V"⟩ ∈ WG := mg 294 (by decide +kernel) (by decide +kernel)
set_option maxRecDepth 20000 in
theorem k286 : Cond.methodLink "BlockVault" 105 ⟨"BlockVault$Log", "bringHome", "(LBlockVault$Disk;)I"⟩ ∈ WG := mg 296 (by decide +kernel) (by decide +kernel)
set_option maxRecDepth 20000 in
theorem k287 : Cond.methodLink "BlockVaultLaw" 55 ⟨"BlockVault", "count", "(I)I"⟩ ∈ WG := mg 297 (by decide +kernel) (by decide +kernel)
set_option maxRecDepth 20000 in
theorem k288 : Cond.instanceMethod ⟨"BlockVault", "count", "(I)I"⟩ ∈ WG := mg 298 (by decide +kernel) (by decide +kernel)
set_option maxRecDepth 20000 in
theorem k289 : Cond.selects "BlockVault" ⟨"BlockVault", "count", "(I)I"⟩ ⟨"BlockVault", "count", "(I)I"⟩ ∈ WG := mg 299 (by decide +kernel) (by decide +kernel)
set_option maxRecDepth 20000 in
theorem k291 : Cond.methodLink "BlockVault" 112 ⟨"BlockVault$Disk", "writesMade", "()I"⟩ ∈ WG := mg 301 (by decide +kernel) (by decide +kernel)
set_option maxRecDepth 20000 in
theorem k292 : Cond.instanceMethod ⟨"BlockVault$Disk", "writesMade", "()I"⟩ ∈ WG := mg 302 (by decide +kernel) (by decide +kernel)
set_option maxRecDepth 20000 in
theorem k293 : Cond.selects "BlockVault$Disk" ⟨"BlockVault$Disk", "writesMade", "()I"⟩ ⟨"BlockVault$Disk", "writesMade", "()I"⟩ ∈ WG := mg 303 (by decide +kernel) (by decide +kernel)
set_option maxRecDepth 20000 in
theorem k295 : Cond.methodLink "BlockVault" 115 ⟨"BlockVault$Cache", "readsMade", "()I"⟩ ∈ WG := mg 305 (by decide +kernel) (by decide +kernel)
set_option maxRecDepth 20000 in
theorem k296 : Cond.instanceMethod ⟨"BlockVault$Cache", "readsMade", "()I"⟩ ∈ WG := mg 306 (by decide +kernel) (by decide +kernel)
set_option maxRecDepth 20000 in
theorem k297 : Cond.selects "BlockVault$Cache" ⟨"BlockVault$Cache", "readsMade", "()I"⟩ ⟨"BlockVault$Cache", "readsMade", "()I"⟩ ∈ WG := mg 307 (by decide +kernel) (by decide +kernel)
set_option maxRecDepth 20000 in
theorem k299 : Cond.methodLink "BlockVault" 118 ⟨"BlockVault$Log", "commitsCounted", "()I"⟩ ∈ WG := mg 309 (by decide +kernel) (by decide +kernel)
set_option maxRecDepth 20000 in
theorem k300 : Cond.instanceMethod ⟨"BlockVault$Log", "commitsCounted", "()I"⟩ ∈ WG := mg 310 (by decide +kernel) (by decide +kernel)
set_option maxRecDepth 20000 in
theorem k301 : Cond.selects "BlockVault$Log" ⟨"BlockVault$Log", "commitsCounted", "()I"⟩ ⟨"BlockVault$Log", "commitsCounted", "()I"⟩ ∈ WG := mg 311 (by decide +kernel) (by decide +kernel)
set_option maxRecDepth 20000 in
theorem k303 : Cond.methodLink "BlockVaultLaw" 59 ⟨"BlockVault", "held", "(I)Z"⟩ ∈ WG := mg 313 (by decide +kernel) (by decide +kernel)
set_option maxRecDepth 20000 in
theorem k304 : Cond.instanceMethod ⟨"BlockVault", "held", "(I)Z"⟩ ∈ WG := mg 314 (by decide +kernel) (by decide +kernel)
set_option maxRecDepth 20000 in
theorem k305 : Cond.selects "BlockVault" ⟨"BlockVault", "held", "(I)Z"⟩ ⟨"BlockVault", "held", "(I)Z"⟩ ∈ WG := mg 315 (by decide +kernel) (by decide +kernel)
set_option maxRecDepth 20000 in
theorem k307 : Cond.methodLink "BlockVaultLaw" 63 ⟨"BlockVault", "cached", "(I)Z"⟩ ∈ WG := mg 317 (by decide +kernel) (by decide +kernel)
set_option maxRecDepth 20000 in
theorem k308 : Cond.instanceMethod ⟨"BlockVault", "cached", "(I)Z"⟩ ∈ WG := mg 318 (by decide +kernel) (by decide +kernel)
set_option maxRecDepth 20000 in
theorem k309 : Cond.selects "BlockVault" ⟨"BlockVault", "cached", "(I)Z"⟩ ⟨"BlockVault", "cached", "(I)Z"⟩ ∈ WG := mg 319 (by decide +kernel) (by decide +kernel)
set_option maxRecDepth 20000 in
theorem k311 : Cond.methodLink "BlockVaultLaw" 9 ⟨"BlockVaultLaw", "cell", "([II)I"⟩ ∈ WG := mg 321 (by decide +kernel) (by decide +kernel)
set_option maxRecDepth 20000 in
theorem k312 : Cond.static ⟨"BlockVaultLaw", "cell", "([II)I"⟩ ∈ WG := mg 322 (by decide +kernel) (by decide +kernel)
set_option maxRecDepth 20000 in
theorem k314 : Cond.classLink "BlockVaultLaw" 18 "BlockVaultModel" ∈ WG := mg 324 (by decide +kernel) (by decide +kernel)
set_option maxRecDepth 20000 in
theorem k315 : Cond.instantiable "BlockVaultModel" 15 ∈ WG := mg 325 (by decide +kernel) (by decide +kernel)
set_option maxRecDepth 20000 in
theorem k316 : Cond.methodLink "BlockVaultLaw" 20 ⟨"BlockVaultModel", "<init>", "(I)V"⟩ ∈ WG := mg 326 (by decide +kernel) (by decide +kernel)
set_option maxRecDepth 20000 in
theorem k317 : Cond.instanceMethod ⟨"BlockVaultModel", "<init>", "(I)V"⟩ ∈ WG := mg 327 (by decide +kernel) (by decide +kernel)
set_option maxRecDepth 20000 in
theorem k319 : Cond.methodLink "BlockVaultModel" 1 ⟨"java/lang/Object", "<init>", "()V"⟩ ∈ WG := mg 329 (by decide +kernel) (by decide +kernel)
set_option maxRecDepth 20000 in
theorem k320 : Cond.constant "BlockVaultModel" 7 (81920 : Int32) ∈ WG := mg 330 (by decide +kernel) (by decide +kernel)
set_option maxRecDepth 20000 in
theorem k321 : Cond.fieldLink "BlockVaultModel" 42 "BlockVaultModel" "thrown" "I" ∈ WG := mg 331 (by decide +kernel) (by decide +kernel)
set_option maxRecDepth 20000 in
theorem k322 : Cond.fieldLink "BlockVaultModel" 39 "BlockVaultModel" "blocks" "I" ∈ WG := mg 332 (by decide +kernel) (by decide +kernel)
set_option maxRecDepth 20000 in
theorem k323 : Cond.fieldLink "BlockVaultModel" 8 "BlockVaultModel" "safe" "[B" ∈ WG := mg 333 (by decide +kernel) (by decide +kernel)
set_option maxRecDepth 20000 in
theorem k324 : Cond.fieldLink "BlockVaultModel" 14 "BlockVaultModel" "now" "[B" ∈ WG := mg 334 (by decide +kernel) (by decide +kernel)
set_option maxRecDepth 20000 in
theorem k325 : Cond.fieldLink "BlockVaultModel" 17 "BlockVaultModel" "held" "[Z" ∈ WG := mg 335 (by decide +kernel) (by decide +kernel)
set_option maxRecDepth 20000 in
theorem k326 : Cond.fieldLink "BlockVaultModel" 21 "BlockVaultModel" "changed" "[Z" ∈ WG := mg 336 (by decide +kernel) (by decide +kernel)
set_option maxRecDepth 20000 in
theorem k327 : Cond.fieldLink "BlockVaultModel" 24 "BlockVaultModel" "stamp" "[I" ∈ WG := mg 337 (by decide +kernel) (by decide +kernel)
set_option maxRecDepth 20000 in
theorem k328 : Cond.fieldLink "BlockVaultModel" 72 "BlockVaultModel" "time" "I" ∈ WG := mg 338 (by decide +kernel) (by decide +kernel)
set_option maxRecDepth 20000 in
theorem k329 : Cond.fieldLink "BlockVaultModel" 28 "BlockVaultModel" "on" "Z" ∈ WG := mg 339 (by decide +kernel) (by decide +kernel)
set_option maxRecDepth 20000 in
theorem k330 : Cond.fieldLink "BlockVaultModel" 45 "BlockVaultModel" "open" "Z" ∈ WG := mg 340 (by decide +kernel) (by decide +kernel)
set_option maxRecDepth 20000 in
theorem k331 : Cond.fieldLink "BlockVaultModel" 32 "BlockVaultModel" "left" "I" ∈ WG := mg 341 (by decide +kernel) (by decide +kernel)
set_option maxRecDepth 20000 in
theorem k332 : Cond.fieldLink "BlockVaultModel" 48 "BlockVaultModel" "writes" "I" ∈ WG := mg 342 (by decide +kernel) (by decide +kernel)
set_option maxRecDepth 20000 in
theorem k333 : Cond.fieldLink "BlockVaultModel" 69 "BlockVaultModel" "reads" "I" ∈ WG := mg 343 (by decide +kernel) (by decide +kernel)
set_option maxRecDepth 20000 in
theorem k334 : Cond.fieldLink "BlockVaultModel" 59 "BlockVaultModel" "commits" "I" ∈ WG := mg 344 (by decide +kernel) (by decide +kernel)
set_option maxRecDepth 20000 in
theorem k335 : Cond.fieldLink "BlockVaultModel" 36 "BlockVaultModel" "unended" "I" ∈ WG := mg 345 (by decide +kernel) (by decide +kernel)
set_option maxRecDepth 20000 in
theorem k367 : Cond.arrayClass FieldType.boolean ∈ WG := mg 377 (by decide +kernel) (by decide +kernel)
set_option maxRecDepth 20000 in
theorem k368 : Cond.arrayClass FieldType.int ∈ WG := mg 378 (by decide +kernel) (by decide +kernel)
set_option maxRecDepth 20000 in
theorem k369 : Cond.methodLink "BlockVaultLaw" 25 ⟨"BlockVaultModel", "begin", "()Z"⟩ ∈ WG := mg 379 (by decide +kernel) (by decide +kernel)
set_option maxRecDepth 20000 in
theorem k370 : Cond.instanceMethod ⟨"BlockVaultModel", "begin", "()Z"⟩ ∈ WG := mg 380 (by decide +kernel) (by decide +kernel)
set_option maxRecDepth 20000 in
theorem k371 : Cond.selects "BlockVaultModel" ⟨"BlockVaultModel", "begin", "()Z"⟩ ⟨"BlockVaultModel", "begin", "()Z"⟩ ∈ WG := mg 381 (by decide +kernel) (by decide +kernel)
set_option maxRecDepth 20000 in
theorem k373 : Cond.methodLink "BlockVaultLaw" 30 ⟨"BlockVaultModel", "end", "()I"⟩ ∈ WG := mg 383 (by decide +kernel) (by decide +kernel)
set_option maxRecDepth 20000 in
theorem k374 : Cond.instanceMethod ⟨"BlockVaultModel", "end", "()I"⟩ ∈ WG := mg 384 (by decide +kernel) (by decide +kernel)
set_option maxRecDepth 20000 in
theorem k375 : Cond.selects "BlockVaultModel" ⟨"BlockVaultModel", "end", "()I"⟩ ⟨"BlockVaultModel", "end", "()I"⟩ ∈ WG := mg 385 (by decide +kernel) (by decide +kernel)
set_option maxRecDepth 20000 in
theorem k377 : Cond.methodLink "BlockVaultModel" 51 ⟨"BlockVaultModel", "many", "([Z)I"⟩ ∈ WG := mg 387 (by decide +kernel) (by decide +kernel)
set_option maxRecDepth 20000 in
theorem k378 : Cond.static ⟨"BlockVaultModel", "many", "([Z)I"⟩ ∈ WG := mg 388 (by decide +kernel) (by decide +kernel)
set_option maxRecDepth 20000 in
theorem k380 : Cond.methodLink "BlockVaultModel" 66 ⟨"BlockVaultModel", "commit", "()Z"⟩ ∈ WG := mg 390 (by decide +kernel) (by decide +kernel)
set_option maxRecDepth 20000 in
theorem k382 : Cond.instanceMethod ⟨"BlockVaultModel", "commit", "()Z"⟩ ∈ WG := mg 392 (by decide +kernel) (by decide +kernel)
set_option maxRecDepth 20000 in
theorem k384 : Cond.methodLink "BlockVaultModel" 55 ⟨"BlockVaultModel", "written", "(I)Z"⟩ ∈ WG := mg 394 (by decide +kernel) (by decide +kernel)
set_option maxRecDepth 20000 in
theorem k386 : Cond.instanceMethod ⟨"BlockVaultModel", "written", "(I)Z"⟩ ∈ WG := mg 396 (by decide +kernel) (by decide +kernel)
set_option maxRecDepth 20000 in
theorem k388 : Cond.methodLink "BlockVaultModel" 62 ⟨"BlockVaultModel", "ended", "()Z"⟩ ∈ WG := mg 398 (by decide +kernel) (by decide +kernel)
set_option maxRecDepth 20000 in
theorem k390 : Cond.instanceMethod ⟨"BlockVaultModel", "ended", "()Z"⟩ ∈ WG := mg 400 (by decide +kernel) (by decide +kernel)
set_option maxRecDepth 20000 in
theorem k392 : Cond.methodLink "BlockVaultLaw" 34 ⟨"BlockVaultModel", "flush", "()I"⟩ ∈ WG := mg 402 (by decide +kernel) (by decide +kernel)
set_option maxRecDepth 20000 in
theorem k393 : Cond.instanceMethod ⟨"BlockVaultModel", "flush", "()I"⟩ ∈ WG := mg 403 (by decide +kernel) (by decide +kernel)
set_option maxRecDepth 20000 in
theorem k394 : Cond.selects "BlockVaultModel" ⟨"BlockVaultModel", "flush", "()I"⟩ ⟨"BlockVaultModel", "flush", "()I"⟩ ∈ WG := mg 404 (by decide +kernel) (by decide +kernel)
set_option maxRecDepth 20000 in
theorem k396 : Cond.methodLink "BlockVaultLaw" 39 ⟨"BlockVaultModel", "get", "(II)I"⟩ ∈ WG := mg 406 (by decide +kernel) (by decide +kernel)
set_option maxRecDepth 20000 in
theorem k397 : Cond.instanceMethod ⟨"BlockVaultModel", "get", "(II)I"⟩ ∈ WG := mg 407 (by decide +kernel) (by decide +kernel)
set_option maxRecDepth 20000 in
theorem k398 : Cond.selects "BlockVaultModel" ⟨"BlockVaultModel", "get", "(II)I"⟩ ⟨"BlockVaultModel", "get", "(II)I"⟩ ∈ WG := mg 408 (by decide +kernel) (by decide +kernel)
set_option maxRecDepth 20000 in
theorem k400 : Cond.methodLink "BlockVaultModel" 75 ⟨"BlockVaultModel", "isBlock", "(I)Z"⟩ ∈ WG := mg 410 (by decide +kernel) (by decide +kernel)
set_option maxRecDepth 20000 in
theorem k402 : Cond.instanceMethod ⟨"BlockVaultModel", "isBlock", "(I)Z"⟩ ∈ WG := mg 412 (by decide +kernel) (by decide +kernel)
set_option maxRecDepth 20000 in
theorem k404 : Cond.methodLink "BlockVaultModel" 78 ⟨"BlockVaultModel", "look", "(I)V"⟩ ∈ WG := mg 414 (by decide +kernel) (by decide +kernel)
set_option maxRecDepth 20000 in
theorem k406 : Cond.instanceMethod ⟨"BlockVaultModel", "look", "(I)V"⟩ ∈ WG := mg 416 (by decide +kernel) (by decide +kernel)
set_option maxRecDepth 20000 in
theorem k408 : Cond.methodLink "BlockVaultLaw" 44 ⟨"BlockVaultModel", "fill", "(IIII)Z"⟩ ∈ WG := mg 418 (by decide +kernel) (by decide +kernel)
set_option maxRecDepth 20000 in
theorem k409 : Cond.instanceMethod ⟨"BlockVaultModel", "fill", "(IIII)Z"⟩ ∈ WG := mg 419 (by decide +kernel) (by decide +kernel)
set_option maxRecDepth 20000 in
theorem k410 : Cond.selects "BlockVaultModel" ⟨"BlockVaultModel", "fill", "(IIII)Z"⟩ ⟨"BlockVaultModel", "fill", "(IIII)Z"⟩ ∈ WG := mg 420 (by decide +kernel) (by decide +kernel)
set_option maxRecDepth 20000 in
theorem k412 : Cond.methodLink "BlockVaultLaw" 49 ⟨"BlockVaultModel", "cut", "(I)Z"⟩ ∈ WG := mg 422 (by decide +kernel) (by decide +kernel)
set_option maxRecDepth 20000 in
theorem k413 : Cond.instanceMethod ⟨"BlockVaultModel", "cut", "(I)Z"⟩ ∈ WG := mg 423 (by decide +kernel) (by decide +kernel)
set_option maxRecDepth 20000 in
theorem k414 : Cond.selects "BlockVaultModel" ⟨"BlockVaultModel", "cut", "(I)Z"⟩ ⟨"BlockVaultModel", "cut", "(I)Z"⟩ ∈ WG := mg 424 (by decide +kernel) (by decide +kernel)
set_option maxRecDepth 20000 in
theorem k416 : Cond.methodLink "BlockVaultLaw" 54 ⟨"BlockVaultModel", "power", "(I)I"⟩ ∈ WG := mg 426 (by decide +kernel) (by decide +kernel)
set_option maxRecDepth 20000 in
theorem k417 : Cond.instanceMethod ⟨"BlockVaultModel", "power", "(I)I"⟩ ∈ WG := mg 427 (by decide +kernel) (by decide +kernel)
set_option maxRecDepth 20000 in
theorem k418 : Cond.selects "BlockVaultModel" ⟨"BlockVaultModel", "power", "(I)I"⟩ ⟨"BlockVaultModel", "power", "(I)I"⟩ ∈ WG := mg 428 (by decide +kernel) (by decide +kernel)
set_option maxRecDepth 20000 in
theorem k420 : Cond.methodLink "BlockVaultLaw" 58 ⟨"BlockVaultModel", "count", "(I)I"⟩ ∈ WG := mg 430 (by decide +kernel) (by decide +kernel)
set_option maxRecDepth 20000 in
theorem k421 : Cond.instanceMethod ⟨"BlockVaultModel", "count", "(I)I"⟩ ∈ WG := mg 431 (by decide +kernel) (by decide +kernel)
set_option maxRecDepth 20000 in
theorem k422 : Cond.selects "BlockVaultModel" ⟨"BlockVaultModel", "count", "(I)I"⟩ ⟨"BlockVaultModel", "count", "(I)I"⟩ ∈ WG := mg 432 (by decide +kernel) (by decide +kernel)
set_option maxRecDepth 20000 in
theorem k424 : Cond.methodLink "BlockVaultLaw" 62 ⟨"BlockVaultModel", "held", "(I)Z"⟩ ∈ WG := mg 434 (by decide +kernel) (by decide +kernel)
set_option maxRecDepth 20000 in
theorem k425 : Cond.instanceMethod ⟨"BlockVaultModel", "held", "(I)Z"⟩ ∈ WG := mg 435 (by decide +kernel) (by decide +kernel)
set_option maxRecDepth 20000 in
theorem k426 : Cond.selects "BlockVaultModel" ⟨"BlockVaultModel", "held", "(I)Z"⟩ ⟨"BlockVaultModel", "held", "(I)Z"⟩ ∈ WG := mg 436 (by decide +kernel) (by decide +kernel)
set_option maxRecDepth 20000 in
theorem k428 : Cond.methodLink "BlockVaultLaw" 66 ⟨"BlockVaultModel", "cached", "(I)Z"⟩ ∈ WG := mg 438 (by decide +kernel) (by decide +kernel)
set_option maxRecDepth 20000 in
theorem k429 : Cond.instanceMethod ⟨"BlockVaultModel", "cached", "(I)Z"⟩ ∈ WG := mg 439 (by decide +kernel) (by decide +kernel)
set_option maxRecDepth 20000 in
theorem k430 : Cond.selects "BlockVaultModel" ⟨"BlockVaultModel", "cached", "(I)Z"⟩ ⟨"BlockVaultModel", "cached", "(I)Z"⟩ ∈ WG := mg 440 (by decide +kernel) (by decide +kernel)
set_option maxRecDepth 20000 in
theorem ks0 : Cond.selects "BlockVault" ⟨"BlockVault", "commit", "()Z"⟩ ⟨"BlockVault", "commit", "()Z"⟩ ∈ WG := mg 0 (by decide +kernel) (by decide +kernel)
set_option maxRecDepth 20000 in
theorem ks1 : Cond.selects "BlockVault$Log" ⟨"BlockVault$Log", "copyHeld", "(LBlockVault$Cache;LBlockVault$Disk;)Z"⟩ ⟨"BlockVault$Log", "copyHeld", "(LBlockVault$Cache;LBlockVault$Disk;)Z"⟩ ∈ WG := mg 1 (by decide +kernel) (by decide +kernel)
set_option maxRecDepth 20000 in
theorem ks2 : Cond.selects "BlockVault" ⟨"BlockVault", "isBlock", "(I)Z"⟩ ⟨"BlockVault", "isBlock", "(I)Z"⟩ ∈ WG := mg 2 (by decide +kernel) (by decide +kernel)
set_option maxRecDepth 20000 in
theorem ks3 : Cond.selects "BlockVault$Cache" ⟨"BlockVault$Cache", "rowToGive", "()LBlockVault$Row;"⟩ ⟨"BlockVault$Cache", "rowToGive", "()LBlockVault$Row;"⟩ ∈ WG := mg 3 (by decide +kernel) (by decide +kernel)
set_option maxRecDepth 20000 in
theorem ks4 : Cond.selects "BlockVault" ⟨"BlockVault", "stepTakes", "(I)Z"⟩ ⟨"BlockVault", "stepTakes", "(I)Z"⟩ ∈ WG := mg 4 (by decide +kernel) (by decide +kernel)
set_option maxRecDepth 20000 in
theorem ks5 : Cond.selects "BlockVaultModel" ⟨"BlockVaultModel", "commit", "()Z"⟩ ⟨"BlockVaultModel", "commit", "()Z"⟩ ∈ WG := mg 5 (by decide +kernel) (by decide +kernel)
set_option maxRecDepth 20000 in
theorem ks6 : Cond.selects "BlockVaultModel" ⟨"BlockVaultModel", "written", "(I)Z"⟩ ⟨"BlockVaultModel", "written", "(I)Z"⟩ ∈ WG := mg 6 (by decide +kernel) (by decide +kernel)
set_option maxRecDepth 20000 in
theorem ks7 : Cond.selects "BlockVaultModel" ⟨"BlockVaultModel", "ended", "()Z"⟩ ⟨"BlockVaultModel", "ended", "()Z"⟩ ∈ WG := mg 7 (by decide +kernel) (by decide +kernel)
set_option maxRecDepth 20000 in
theorem ks8 : Cond.selects "BlockVaultModel" ⟨"BlockVaultModel", "isBlock", "(I)Z"⟩ ⟨"BlockVaultModel", "isBlock", "(I)Z"⟩ ∈ WG := mg 8 (by decide +kernel) (by decide +kernel)
set_option maxRecDepth 20000 in
theorem ks9 : Cond.selects "BlockVaultModel" ⟨"BlockVaultModel", "look", "(I)V"⟩ ⟨"BlockVaultModel", "look", "(I)V"⟩ ∈ WG := mg 9 (by decide +kernel) (by decide +kernel)
/-! links to nest mates: they go with the world -/
def nestF : List (String × Nat × String × String × String × String) := [("BlockVault$Cache", 36, "BlockVault$Row", "page", "LBlockVault$Page;", "BlockVault"), ("BlockVault$Log", 58, "BlockVault$Row", "page", "LBlockVault$Page;", "BlockVault"), ("BlockVault", 69, "BlockVault$Row", "page", "LBlockVault$Page;", "BlockVault"), ("BlockVault$Cache", 25, "BlockVault$Row", "block", "I", "BlockVault"), ("BlockVault$Log", 51, "BlockVault$Row", "block", "I", "BlockVault"), ("BlockVault$Cache", 46, "BlockVault$Row", "lastUse", "I", "BlockVault"), ("BlockVault$Log", 45, "BlockVault$Row", "held", "Z", "BlockVault"), ("BlockVault$Cache", 53, "BlockVault$Row", "held", "Z", "BlockVault"), ("BlockVault", 88, "BlockVault$Row", "held", "Z", "BlockVault"), ("BlockVault", 91, "BlockVault$Row", "inStep", "Z", "BlockVault"), ("BlockVault$Cache", 57, "BlockVault$Row", "inStep", "Z", "BlockVault"), ("BlockVault$Log", 39, "BlockVault$Cache", "rows", "[LBlockVault$Row;", "BlockVault")]
def nestM : List (String × Nat × MethodName × String) := [("BlockVault$Disk", 17, ⟨"BlockVault$Page", "<init>", "()V"⟩, "BlockVault"), ("BlockVault$Row", 11, ⟨"BlockVault$Page", "<init>", "()V"⟩, "BlockVault"), ("BlockVault$Log", 11, ⟨"BlockVault$Page", "<init>", "()V"⟩, "BlockVault"), ("BlockVault$Page", 15, ⟨"BlockVault", "isRun", "(II)Z"⟩, "BlockVault")]
def JN (U : State) : Prop := (∀ q ∈ nestF, va_Nw (.fieldLinkNest q.1 q.2.1 q.2.2.1 q.2.2.2.1 q.2.2.2.2.1 q.2.2.2.2.2) U) ∧ (∀ q ∈ nestM, va_Nw (.methodLinkNest q.1 q.2.1 q.2.2.1 q.2.2.2) U) ∧ va_AO "BlockVault$Page" U ∧ va_AO "BlockVault$Row" U
theorem JN.warm {s U : State} (h : JN s) (hW : s.WarmedH U.vm) : JN U := ⟨fun q hq => va_Nw.warmF hW (h.1 q hq), fun q hq => va_Nw.warmM hW (h.2.1 q hq), h.2.2.1.moved hW.alike, h.2.2.2.moved hW.alike⟩
theorem JN.same {u U : State} (h : JN u) (e : u.vm = U.vm) : JN U := ⟨fun q hq => va_Nw.same rfl e (h.1 q hq), fun q hq => va_Nw.same rfl e (h.2.1 q hq), by
  refine h.2.2.1.moved ?_
  rw [← e]
  exact Vm.Alike.refl _, by
  refine h.2.2.2.moved ?_
  rw [← e]
  exact Vm.Alike.refl _⟩
theorem nf0 {s : State} {args : Array Value} (h : JN s) : (Cond.fieldLinkNest "BlockVault$Cache" 36 "BlockVault$Row" "page" "LBlockVault$Page;" "BlockVault").before args s = true := va_Nw.use rfl (h.1 _ (List.mem_of_getElem? (i := 0) rfl))
theorem nf1 {s : State} {args : Array Value} (h : JN s) : (Cond.fieldLinkNest "BlockVault$Log" 58 "BlockVault$Row" "page" "LBlockVault$Page;" "BlockVault").before args s = true := va_Nw.use rfl (h.1 _ (List.mem_of_getElem? (i := 1) rfl))
theorem nf2 {s : State} {args : Array Value} (h : JN s) : (Cond.fieldLinkNest "BlockVault" 69 "BlockVault$Row" "page" "LBlockVault$Page;" "BlockVault").before args s = true := va_Nw.use rfl (h.1 _ (List.mem_of_getElem? (i := 2) rfl))
theorem nf3 {s : State} {args : Array Value} (h : JN s) : (Cond.fieldLinkNest "BlockVault$Cache" 25 "BlockVault$Row" "block" "I" "BlockVault").before args s = true := va_Nw.use rfl (h.1 _ (List.mem_of_getElem? (i := 3) rfl))
theorem nf4 {s : State} {args : Array Value} (h : JN s) : (Cond.fieldLinkNest "BlockVault$Log" 51 "BlockVault$Row" "block" "I" "BlockVault").before args s = true := va_Nw.use rfl (h.1 _ (List.mem_of_getElem? (i := 4) rfl))
theorem nf5 {s : State} {args : Array Value} (h : JN s) : (Cond.fieldLinkNest "BlockVault$Cache" 46 "BlockVault$Row" "lastUse" "I" "BlockVault").before args s = true := va_Nw.use rfl (h.1 _ (List.mem_of_getElem? (i := 5) rfl))
theorem nf6 {s : State} {args : Array Value} (h : JN s) : (Cond.fieldLinkNest "BlockVault$Log" 45 "BlockVault$Row" "held" "Z" "BlockVault").before args s = true := va_Nw.use rfl (h.1 _ (List.mem_of_getElem? (i := 6) rfl))
theorem nf7 {s : State} {args : Array Value} (h : JN s) : (Cond.fieldLinkNest "BlockVault$Cache" 53 "BlockVault$Row" "held" "Z" "BlockVault").before args s = true := va_Nw.use rfl (h.1 _ (List.mem_of_getElem? (i := 7) rfl))
theorem nf8 {s : State} {args : Array Value} (h : JN s) : (Cond.fieldLinkNest "BlockVault" 88 "BlockVault$Row" "held" "Z" "BlockVault").before args s = true := va_Nw.use rfl (h.1 _ (List.mem_of_getElem? (i := 8) rfl))
theorem nf9 {s : State} {args : Array Value} (h : JN s) : (Cond.fieldLinkNest "BlockVault" 91 "BlockVault$Row" "inStep" "Z" "BlockVault").before args s = true := va_Nw.use rfl (h.1 _ (List.mem_of_getElem? (i := 9) rfl))
theorem nf10 {s : State} {args : Array Value} (h : JN s) : (Cond.fieldLinkNest "BlockVault$Cache" 57 "BlockVault$Row" "inStep" "Z" "BlockVault").before args s = true := va_Nw.use rfl (h.1 _ (List.mem_of_getElem? (i := 10) rfl))
theorem nf11 {s : State} {args : Array Value} (h : JN s) : (Cond.fieldLinkNest "BlockVault$Log" 39 "BlockVault$Cache" "rows" "[LBlockVault$Row;" "BlockVault").before args s = true := va_Nw.use rfl (h.1 _ (List.mem_of_getElem? (i := 11) rfl))
theorem nm0 {s : State} (h : JN s) : va_Nw (Cond.methodLinkNest "BlockVault$Disk" 17 ⟨"BlockVault$Page", "<init>", "()V"⟩ "BlockVault") s := h.2.1 _ (List.mem_of_getElem? (i := 0) rfl)
theorem nm1 {s : State} (h : JN s) : va_Nw (Cond.methodLinkNest "BlockVault$Row" 11 ⟨"BlockVault$Page", "<init>", "()V"⟩ "BlockVault") s := h.2.1 _ (List.mem_of_getElem? (i := 1) rfl)
theorem nm2 {s : State} (h : JN s) : va_Nw (Cond.methodLinkNest "BlockVault$Log" 11 ⟨"BlockVault$Page", "<init>", "()V"⟩ "BlockVault") s := h.2.1 _ (List.mem_of_getElem? (i := 2) rfl)
theorem nm3 {s : State} (h : JN s) : va_Nw (Cond.methodLinkNest "BlockVault$Page" 15 ⟨"BlockVault", "isRun", "(II)Z"⟩ "BlockVault") s := h.2.1 _ (List.mem_of_getElem? (i := 3) rfl)
end
section
/-! MAPS OF CELLS: the heap since the base B as a map from addresses to (tag, cell); tags are apart, every cell since B is in the map -/
abbrev hm_T : Type := Nat → Option (Nat × va_E)
def hm_up (h : hm_T) (a : Nat) (x : Nat × va_E) : hm_T := fun q => if q = a then some x else h q
theorem hm_up_s {h : hm_T} {a : Nat} {x : Nat × va_E} : hm_up h a x a = some x := by simp [hm_up]
theorem hm_up_n {h : hm_T} {a q : Nat} {x : Nat × va_E} (n : q ≠ a) : hm_up h a x q = h q := by simp [hm_up, n]
/-- how many slots a cell of a tag may have -/
def hm_mx (t : Nat) : Nat := if t < 116 then 80 else if t < 232 then 1024 else if t = 273 ∨ t = 274 then 81920 else 80
def hm_A (B : Nat) : Nat → Prop := fun q => B ≤ q
def hm_P (D : va_G) (cl : List vw_C) (B : Nat) (h : hm_T) (H : Heap) : Prop :=
  B ≤ H.size ∧
  (∀ (a t : Nat) (e : va_E), h a = some (t, e) → B ≤ a ∧ t < 278 ∧ va_at D cl (a, e) H) ∧
  (∀ q : Nat, B ≤ q → q < H.size → ∃ (cell : Cell) (t : Nat) (e : va_E), H[q]? = some cell ∧ h q = some (t, e) ∧ cell.slots.size ≤ hm_mx t) ∧
  (∀ (q q' t : Nat) (e e' : va_E), h q = some (t, e) → h q' = some (t, e') → q = q')
theorem hm_P.one {D : va_G} {cl : List vw_C} {B : Nat} {h : hm_T} {H : Heap} (hP : hm_P D cl B h H) {a t : Nat} {e : va_E} (ha : h a = some (t, e)) : va_P D cl [(a, e)] H := by
  intro k q hq
  have hz : k < 1 := (List.getElem?_eq_some_iff.mp hq).1
  rw [show k = 0 by omega] at hq
  cases hq
  exact (hP.2.1 a t e ha).2.2
theorem hm_P.ge {D : va_G} {cl : List vw_C} {B : Nat} {h : hm_T} {H : Heap} (hP : hm_P D cl B h H) {a t : Nat} {e : va_E} (ha : h a = some (t, e)) : hm_A B a := (hP.2.1 a t e ha).1
theorem hm_P.fresh {D : va_G} {cl : List vw_C} {B : Nat} {h : hm_T} {H : Heap} (hP : hm_P D cl B h H) : h H.size = none := by
  cases hh : h H.size with
  | none => rfl
  | some x =>
    obtain ⟨t, e⟩ := x
    have := (hP.2.1 _ _ _ hh).2.2.lt
    exact absurd this (Nat.lt_irrefl _)
theorem hm_ne {h : hm_T} {a b t t' : Nat} {e e' : va_E} (ha : h a = some (t, e)) (hb : h b = some (t', e')) (hn : t ≠ t') : a ≠ b := by
  intro hab
  subst hab
  rw [ha] at hb
  cases hb
  exact hn rfl
theorem hm_nn {h : hm_T} {a b t : Nat} {e : va_E} (ha : h a = some (t, e)) (hb : h b = none) : a ≠ b := by
  intro hab
  subst hab
  rw [ha] at hb
  cases hb
theorem hm_P.set {D : va_G} {cl : List vw_C} {B : Nat} {h : hm_T} {H H1 : Heap} (hP : hm_P D cl B h H) {a t : Nat} {e0 e : va_E} (ha : h a = some (t, e0)) (hat : va_at D cl (a, e) H1) (hz : H1.size = H.size) (ho : ∀ q : Nat, q ≠ a → H1[q]? = H[q]?)
    (hc : ∀ c0 c1 : Cell, H[a]? = some c0 → H1[a]? = some c1 → c1.slots.size = c0.slots.size) : hm_P D cl B (hm_up h a (t, e)) H1 := by
  refine ⟨by rw [hz]; exact hP.1, fun q t' e' hq => ?_, fun q h1 h2 => ?_, fun q q' t' e1 e2 h1 h2 => ?_⟩
  · by_cases hqa : q = a
    · subst hqa
      rw [hm_up_s] at hq
      cases hq
      exact ⟨(hP.2.1 _ _ _ ha).1, (hP.2.1 _ _ _ ha).2.1, hat⟩
    · rw [hm_up_n hqa] at hq
      obtain ⟨x1, x2, x3⟩ := hP.2.1 _ _ _ hq
      exact ⟨x1, x2, x3.kept (ho q hqa)⟩
  · obtain ⟨c0, t', e', g1, g2, g3⟩ := hP.2.2.1 q h1 (by rw [← hz]; exact h2)
    by_cases hqa : q = a
    · subst hqa
      rw [ha] at g2
      cases g2
      have hc1 : H1[q]? = some H1[q] := Array.getElem?_eq_getElem h2
      exact ⟨_, t, e, hc1, hm_up_s, by rw [hc _ _ g1 hc1]; exact g3⟩
    · exact ⟨c0, t', e', by rw [ho q hqa]; exact g1, by rw [hm_up_n hqa]; exact g2, g3⟩
  · by_cases hqa : q = a
    · by_cases hqa' : q' = a
      · rw [hqa, hqa']
      · subst hqa
        rw [hm_up_s] at h1
        rw [hm_up_n hqa'] at h2
        cases h1
        exact hP.2.2.2 _ _ _ _ _ ha h2
    · by_cases hqa' : q' = a
      · subst hqa'
        rw [hm_up_s] at h2
        rw [hm_up_n hqa] at h1
        cases h2
        exact hP.2.2.2 _ _ _ _ _ h1 ha
      · rw [hm_up_n hqa] at h1
        rw [hm_up_n hqa'] at h2
        exact hP.2.2.2 _ _ _ _ _ h1 h2
theorem hm_P.push {D : va_G} {cl : List vw_C} {B : Nat} {h : hm_T} {H H1 : Heap} (hP : hm_P D cl B h H) {t : Nat} {e : va_E} {cell : Cell} (hat : va_at D cl (H.size, e) H1) (hc : H1[H.size]? = some cell) (hm : cell.slots.size ≤ hm_mx t) (ht : t < 278)
    (hfr : ∀ (q : Nat) (e' : va_E), h q ≠ some (t, e')) (hz : H1.size = H.size + 1) (ho : ∀ q : Nat, q < H.size → H1[q]? = H[q]?) : hm_P D cl B (hm_up h H.size (t, e)) H1 := by
  have hB := hP.1
  refine ⟨by omega, fun q t' e' hq => ?_, fun q h1 h2 => ?_, fun q q' t' e1 e2 h1 h2 => ?_⟩
  · by_cases hqa : q = H.size
    · subst hqa
      rw [hm_up_s] at hq
      cases hq
      exact ⟨hB, ht, hat⟩
    · rw [hm_up_n hqa] at hq
      obtain ⟨x1, x2, x3⟩ := hP.2.1 _ _ _ hq
      exact ⟨x1, x2, x3.kept (ho q x3.lt)⟩
  · by_cases hqa : q = H.size
    · subst hqa
      exact ⟨cell, t, e, hc, hm_up_s, hm⟩
    · have hq : q < H.size := by omega
      obtain ⟨c0, t', e', g1, g2, g3⟩ := hP.2.2.1 q h1 hq
      exact ⟨c0, t', e', by rw [ho q hq]; exact g1, by rw [hm_up_n hqa]; exact g2, g3⟩
  · by_cases hqa : q = H.size
    · by_cases hqa' : q' = H.size
      · rw [hqa, hqa']
      · subst hqa
        rw [hm_up_s] at h1
        rw [hm_up_n hqa'] at h2
        cases h1
        exact absurd h2 (hfr _ _)
    · by_cases hqa' : q' = H.size
      · subst hqa'
        rw [hm_up_s] at h2
        rw [hm_up_n hqa] at h1
        cases h2
        exact absurd h1 (hfr _ _)
      · rw [hm_up_n hqa] at h1
        rw [hm_up_n hqa'] at h2
        exact hP.2.2.2 _ _ _ _ _ h1 h2
/-! how many cells and slots there can be: the tags are apart and below 278 -/
theorem hm_cut (mx : Nat → Nat) (T : Nat) : ∀ l : List Nat, l.Nodup → (l.map mx).sum ≤ ((l.filter (fun x => !(x == T))).map mx).sum + mx T
  | [], _ => by simp
  | a :: l, h => by
    have h' := List.nodup_cons.mp h
    by_cases e : a = T
    · subst e
      have hf : l.filter (fun x => !(x == a)) = l := List.filter_eq_self.mpr (fun x hx => by
        have : x ≠ a := fun hxa => h'.1 (hxa ▸ hx)
        simp [this])
      simp [hf]
      omega
    · have ih := hm_cut mx T l h'.2
      simp [e]
      omega
theorem hm_tot (mx : Nat → Nat) : ∀ (T : Nat) (l : List Nat), l.Nodup → (∀ x ∈ l, x < T) → (l.map mx).sum ≤ ((List.range T).map mx).sum
  | 0, l, _, h => by
    cases l with
    | nil => simp
    | cons a l => exact absurd (h a List.mem_cons_self) (Nat.not_lt_zero _)
  | T + 1, l, hn, h => by
    have h1 := hm_cut mx T l hn
    have h2 := hm_tot mx T (l.filter (fun x => !(x == T))) (List.Pairwise.filter _ hn) (fun x hx => by
      have hx' := List.mem_filter.mp hx
      have hlt := h x hx'.1
      have hne : x ≠ T := by
        have := hx'.2
        simp at this
        exact this
      omega)
    rw [List.range_succ, List.map_append, List.sum_append_nat]
    simp only [List.map_cons, List.map_nil, List.sum_cons, List.sum_nil]
    omega
theorem hm_le {α : Type} (sz : α → Nat) : ∀ (L : List α) (f : Nat → Nat), (∀ (i : Nat) (x : α), L[i]? = some x → sz x ≤ f i) → (L.map sz).sum ≤ ((List.range L.length).map f).sum
  | [], f, _ => by simp
  | a :: L, f, h => by
    have ih := hm_le sz L (fun i => f (i + 1)) (fun i x hx => h (i + 1) x (by simpa using hx))
    have h0 := h 0 a rfl
    rw [List.length_cons, List.range_succ_eq_map, List.map_cons, List.map_cons, List.sum_cons, List.sum_cons, List.map_map]
    have e : (f ∘ Nat.succ) = fun i => f (i + 1) := rfl
    rw [e]
    omega
theorem hm_drop : ∀ (k : Nat) (L : List Nat), (L.drop k).sum ≤ L.sum
  | 0, L => by simp
  | k + 1, [] => by simp
  | k + 1, a :: L => by
    have := hm_drop k L
    simp only [List.drop_succ_cons, List.sum_cons]
    omega
def hm_tag (h : hm_T) (q : Nat) : Nat := match h q with
  | some x => x.1
  | none => 0
theorem hm_P.tags {D : va_G} {cl : List vw_C} {B : Nat} {h : hm_T} {H : Heap} (hP : hm_P D cl B h H) (mx : Nat → Nat) : ((List.range (H.size - B)).map (fun i => mx (hm_tag h (B + i)))).sum ≤ ((List.range 278).map mx).sum := by
  have hk : ∀ i, i < H.size - B → ∃ (t : Nat) (e : va_E), h (B + i) = some (t, e) := fun i hi => by
    obtain ⟨c0, t, e, -, g2, -⟩ := hP.2.2.1 (B + i) (by omega) (by omega)
    exact ⟨t, e, g2⟩
  have h1 := hm_tot mx 278 ((List.range (H.size - B)).map (fun i => hm_tag h (B + i))) ?_ ?_
  · rw [List.map_map] at h1
    exact h1
  · refine List.pairwise_map.mpr (List.Pairwise.imp_of_mem ?_ List.nodup_range)
    intro a b ha hb hab heq
    obtain ⟨t, e, g⟩ := hk a (List.mem_range.mp ha)
    obtain ⟨t', e', g'⟩ := hk b (List.mem_range.mp hb)
    simp only [hm_tag, g, g'] at heq
    subst heq
    have := hP.2.2.2 _ _ _ _ _ g g'
    exact hab (by omega)
  · intro x hx
    obtain ⟨i, hi, rfl⟩ := List.mem_map.mp hx
    obtain ⟨t, e, g⟩ := hk i (List.mem_range.mp hi)
    simp only [hm_tag, g]
    exact (hP.2.1 _ _ _ g).2.1
theorem hm_P.small {D : va_G} {cl : List vw_C} {B : Nat} {h : hm_T} {H : Heap} (hP : hm_P D cl B h H) : H.size ≤ B + 278 ∧ ((H.toList.drop B).map (fun c : Cell => c.slots.size)).sum ≤ 295424 := by
  constructor
  · have h1 := hP.tags (fun _ => 1)
    rw [List.map_const', List.map_const', List.sum_replicate_nat, List.sum_replicate_nat, List.length_range, List.length_range] at h1
    omega
  · have h1 := hP.tags hm_mx
    have hc : ((List.range 278).map hm_mx).sum = 295424 := by decide +kernel
    rw [hc] at h1
    have hlen : (H.toList.drop B).length = H.size - B := by simp
    have h2 := hm_le (fun c : Cell => c.slots.size) (H.toList.drop B) (fun i => hm_mx (hm_tag h (B + i))) (fun i x hx => by
      have hi : i < (H.toList.drop B).length := (List.getElem?_eq_some_iff.mp hx).1
      rw [hlen] at hi
      obtain ⟨c0, t, e, g1, g2, g3⟩ := hP.2.2.1 (B + i) (by omega) (by omega)
      rw [List.getElem?_drop, Array.getElem?_toList, g1] at hx
      cases hx
      simp only [hm_tag, g2]
      exact g3)
    rw [hlen] at h2
    omega
section HMW
variable {p : Program} {l : Launch} {e : Env} {R : Room} {s : State} {m : MethodId} {args : Array Value} {below : List Frame} {meth : Method} {c : Code} {H : Heap} {locs : List Loc} {cells slots : Nat} {Q : State → Prop}
/-- the room is counted afresh off the map -/
theorem hm_tight {D : va_G} {cl : List vw_C} {B : Nat} {h : hm_T} {g : JFrame} (hB : B ≤ s.heap.size) (hP : hm_P D cl B h H) (kk : W p l e R s m args below meth c H locs 278 295424 Q g) : W p l e R s m args below meth c H locs cells slots Q g := by
  intro T hT X
  obtain ⟨h1, h2⟩ := hP.small
  refine kk T hT { X with same := ?_ }
  obtain ⟨a1, a2, a3, a4, a5, a6⟩ := X.same
  refine ⟨a1, a2, ?_, a4, ?_, a6⟩
  · show T.heap.size ≤ _
    rw [hT]
    omega
  · show ((T.heap.toList.drop s.heap.size).map (fun c : Cell => c.slots.size)).sum ≤ _
    rw [hT]
    have e1 : H.toList.drop s.heap.size = (H.toList.drop B).drop (s.heap.size - B) := by
      rw [List.drop_drop]
      congr 1
      omega
    rw [e1, List.map_drop]
    exact Nat.le_trans (hm_drop _ _) h2
end HMW
end
section
/-! THE WORLD: both systems as numbers V (name of an object, number of its field) and rows of numbers P (name of an array or page).
NAMES: 0..79 the disk's pages, 80..113 the rows' pages, 114 the log's head, 115 what it carries; 116 + t the bytes of page t; 232 + i the rows; 266 the vault, 267 its disk, 268 its cache, 269 its log, 270 the disk's array of pages, 271 the cache's array of rows; 272 the reference, 273 .. 277 its arrays (safe, now, held, changed, stamp). sh: where a name's cell lies. -/
abbrev VV : Type := Nat → Nat → Int32
def v2 (V : VV) (t k : Nat) (x : Int32) : VV := fun t' k' => if t' = t ∧ k' = k then x else V t' k'
def p1 (P : VV) (t : Nat) (f : Nat → Int32) : VV := fun t' => if t' = t then f else P t'
theorem v2_s {V : VV} {t k : Nat} {x : Int32} : v2 V t k x t k = x := by simp [v2]
theorem v2_n {V : VV} {t k t' k' : Nat} {x : Int32} (h : ¬ (t' = t ∧ k' = k)) : v2 V t k x t' k' = V t' k' := by simp only [v2, if_neg h]
theorem v2_t {V : VV} {t k t' k' : Nat} {x : Int32} (h : t' ≠ t) : v2 V t k x t' k' = V t' k' := v2_n (fun q => h q.1)
theorem v2_k {V : VV} {t k t' k' : Nat} {x : Int32} (h : k' ≠ k) : v2 V t k x t' k' = V t' k' := v2_n (fun q => h q.2)
theorem p1_s {P : VV} {t : Nat} {f : Nat → Int32} : p1 P t f t = f := by simp [p1]
theorem p1_n {P : VV} {t t' : Nat} {f : Nat → Int32} (h : t' ≠ t) : p1 P t f t' = P t' := by simp only [p1, if_neg h]
/-- an object's number in vwCl, and its fields: a number of its own, or the name that it holds -/
def lay (t : Nat) : Option (Nat × List (Option Nat)) :=
  if t = 266 then some (5, [none, some 267, some 268, some 269, none])
  else if t = 267 then some (1, [some 270, none, none, none])
  else if t = 268 then some (0, [some 271, none, none])
  else if t = 269 then some (2, [some 114, some 115, none])
  else if t = 272 then some (6, [none, none, some 273, some 274, some 275, some 276, some 277, none, none, none, none, none, none, none, none])
  else if 232 ≤ t ∧ t < 266 then some (4, [some (t - 152), none, none, none, none])
  else none
theorem lay_row {i : Nat} (h : i < 34) : lay (232 + i) = some (4, [some (80 + i), none, none, none, none]) := by
  unfold lay
  rw [if_neg (by omega), if_neg (by omega), if_neg (by omega), if_neg (by omega), if_neg (by omega), if_pos (by omega)]
  rw [show 232 + i - 152 = 80 + i by omega]
theorem lay_lo {t : Nat} (h : t < 232) : lay t = none := by
  unfold lay
  rw [if_neg (by omega), if_neg (by omega), if_neg (by omega), if_neg (by omega), if_neg (by omega), if_neg (by omega)]
theorem lay_hi {t : Nat} (h : 272 < t) : lay t = none := by
  unfold lay
  rw [if_neg (by omega), if_neg (by omega), if_neg (by omega), if_neg (by omega), if_neg (by omega), if_neg (by omega)]
theorem lay_270 : lay 270 = none := by decide
theorem lay_271 : lay 271 = none := by decide
def fvals (sh : Nat → Nat) (V : VV) (t : Nat) : Nat → List (Option Nat) → List Value
  | _, [] => []
  | k, none :: r => .int (V t k) :: fvals sh V t (k + 1) r
  | k, some t' :: r => .ref (sh t') :: fvals sh V t (k + 1) r
theorem fvals_len (sh : Nat → Nat) (V : VV) (t : Nat) : ∀ (k : Nat) (l : List (Option Nat)), (fvals sh V t k l).length = l.length
  | _, [] => rfl
  | k, none :: r => by simp [fvals, fvals_len sh V t (k + 1) r]
  | k, some t' :: r => by simp [fvals, fvals_len sh V t (k + 1) r]
theorem fvals_eq {sh : Nat → Nat} {V V' : VV} {t : Nat} : ∀ (k : Nat) (l : List (Option Nat)), (∀ j, k ≤ j → V' t j = V t j) → fvals sh V' t k l = fvals sh V t k l
  | _, [], _ => rfl
  | k, none :: r, h => by simp only [fvals]; rw [h k (Nat.le_refl k), fvals_eq (k + 1) r (fun j hj => h j (by omega))]
  | k, some t' :: r, h => by simp only [fvals]; rw [fvals_eq (k + 1) r (fun j hj => h j (by omega))]
theorem fvals_set {sh : Nat → Nat} {V : VV} {t : Nat} {x : Int32} : ∀ (j k : Nat) (l : List (Option Nat)), l[k]? = some none → (fvals sh V t j l).set k (.int x) = fvals sh (v2 V t (j + k) x) t j l
  | _, k, [], h => by simp at h
  | j, 0, none :: r, _ => by
    simp only [fvals, List.set_cons_zero, Nat.add_zero, v2_s]
    rw [fvals_eq (V := V) (j + 1) r (fun i hi => v2_k (by omega))]
  | j, 0, some t' :: r, h => by simp at h
  | j, k + 1, none :: r, h => by
    simp only [fvals, List.set_cons_succ]
    rw [fvals_set (j + 1) k r (by simpa using h), v2_k (show j ≠ j + (k + 1) by omega), show j + 1 + k = j + (k + 1) by omega]
  | j, k + 1, some t' :: r, h => by
    simp only [fvals, List.set_cons_succ]
    rw [fvals_set (j + 1) k r (by simpa using h), show j + 1 + k = j + (k + 1) by omega]
/-- the reference's arrays: how long, and the number of their kind in tysA -/
def mar (t : Nat) : Option (Nat × Nat) := if t = 273 ∨ t = 274 then some (81920, 0) else if t = 275 ∨ t = 276 then some (80, 3) else if t = 277 then some (80, 4) else none
theorem mar_spec {t n k : Nat} (h : mar t = some (n, k)) : 273 ≤ t ∧ t ≤ 277 := by
  unfold mar at h
  by_cases h1 : t = 273 ∨ t = 274
  · omega
  · rw [if_neg h1] at h
    by_cases h2 : t = 275 ∨ t = 276
    · omega
    · rw [if_neg h2] at h
      by_cases h3 : t = 277
      · omega
      · rw [if_neg h3] at h
        cases h
def bfit (g : Nat → Int32) (n : Nat) : Prop := ∀ k, k < n → fits .byte (.int (g k)) = true
abbrev aRef (cA : ClassId) (n : Nat) (f : Nat → Option Nat) : va_E := .inl (cA, n, .inr (.inr (.inr (.inr f))))
abbrev aInt (cA : ClassId) (n : Nat) (f : Nat → Int32) : va_E := .inl (cA, n, .inl f)
/-- a page: nothing (all 0), or its bytes -/
def pgAt (cA : Nat → ClassId) (sh : Nat → Nat) (h : hm_T) (t : Nat) (g : Nat → Int32) : Prop :=
  (h (sh t) = some (t, .inr (3, [.null])) ∧ (∀ k, k < 1024 → g k = 0) ∧ ∀ (q : Nat) (e : va_E), h q ≠ some (116 + t, e)) ∨
  ∃ (b : Nat) (g0 : Nat → Int32), h (sh t) = some (t, .inr (3, [.ref b])) ∧ h b = some (116 + t, aInt (cA 0) 1024 g0) ∧ (∀ k, k < 1024 → g0 k = g k) ∧ bfit g0 1024
def JH (cA : Nat → ClassId) (sh : Nat → Nat) (V P : VV) (h : hm_T) : Prop :=
  (∀ (t ci : Nat) (fl : List (Option Nat)), lay t = some (ci, fl) → h (sh t) = some (t, .inr (ci, fvals sh V t 0 fl))) ∧
  (∃ f, h (sh 270) = some (270, aRef (cA 1) 80 f) ∧ ∀ i, i < 80 → f i = some (sh i)) ∧
  (∃ f, h (sh 271) = some (271, aRef (cA 2) 34 f) ∧ ∀ i, i < 34 → f i = some (sh (232 + i))) ∧
  (∀ t, t < 116 → pgAt cA sh h t (P t)) ∧
  (∀ (t n k : Nat), mar t = some (n, k) → h (sh t) = some (t, aInt (cA k) n (P t))) ∧
  bfit (P 273) 81920 ∧ bfit (P 274) 81920
theorem pgAt.cell {cA : Nat → ClassId} {sh : Nat → Nat} {h : hm_T} {t : Nat} {g : Nat → Int32} (hp : pgAt cA sh h t g) : ∃ x : Value, h (sh t) = some (t, .inr (3, [x])) := by
  rcases hp with ⟨h1, -⟩ | ⟨b, g0, h1, -⟩
  · exact ⟨_, h1⟩
  · exact ⟨_, h1⟩
/-- a page that other cells' changes leave alone -/
theorem pgAt.kept {cA : Nat → ClassId} {sh : Nat → Nat} {h h' : hm_T} {t : Nat} {g : Nat → Int32} (hp : pgAt cA sh h t g) (h1 : ∀ (q t' : Nat) (e : va_E), (t' = t ∨ t' = 116 + t) → h q = some (t', e) → h' q = some (t', e)) (h2 : ∀ (q : Nat) (e : va_E), h' q = some (116 + t, e) → h q = some (116 + t, e)) : pgAt cA sh h' t g := by
  rcases hp with ⟨a1, a2, a3⟩ | ⟨b, g0, a1, a2, a3, a4⟩
  · exact Or.inl ⟨h1 _ _ _ (Or.inl rfl) a1, a2, fun q e hq => a3 q e (h2 q e hq)⟩
  · exact Or.inr ⟨b, g0, h1 _ _ _ (Or.inl rfl) a1, h1 _ _ _ (Or.inr rfl) a2, a3, a4⟩
/-- one cell's change, whose tag is none of the page's -/
theorem pgAt.up {cA : Nat → ClassId} {sh : Nat → Nat} {h : hm_T} {t : Nat} {g : Nat → Int32} (hp : pgAt cA sh h t g) {a t0 : Nat} {e0 e1 : va_E} (ha : h a = some (t0, e0)) (n1 : t0 ≠ t) (n2 : t0 ≠ 116 + t) : pgAt cA sh (hm_up h a (t0, e1)) t g := by
  refine hp.kept (fun q t' e ht hq => ?_) (fun q e hq => ?_)
  · rw [hm_up_n (hm_ne hq ha (by omega))]
    exact hq
  · by_cases hqa : q = a
    · subst hqa
      rw [hm_up_s] at hq
      cases hq
      exact absurd rfl n2
    · rw [hm_up_n hqa] at hq
      exact hq
theorem JH.put {cA : Nat → ClassId} {sh : Nat → Nat} {V P : VV} {h : hm_T} (hJ : JH cA sh V P h) {t ci k : Nat} {fl : List (Option Nat)} (hl : lay t = some (ci, fl)) (hf : fl[k]? = some none) (x : Int32) :
    JH cA sh (v2 V t k x) P (hm_up h (sh t) (t, .inr (ci, (fvals sh V t 0 fl).set k (.int x)))) := by
  obtain ⟨j1, ⟨f1, j2, j2'⟩, ⟨f2, j3, j3'⟩, j4, j5, j6⟩ := hJ
  have ht := j1 t ci fl hl
  have hlo : 232 ≤ t := by
    rcases Nat.lt_or_ge t 232 with q | q
    · rw [lay_lo q] at hl
      cases hl
    · exact q
  have n270 : (270 : Nat) ≠ t := fun q => by rw [← q, lay_270] at hl; cases hl
  have n271 : (271 : Nat) ≠ t := fun q => by rw [← q, lay_271] at hl; cases hl
  refine ⟨fun t' ci' fl' hl' => ?_, ⟨f1, ?_, j2'⟩, ⟨f2, ?_, j3'⟩, fun t' ht' => ?_, fun t' n k' hm => ?_, j6⟩
  · by_cases e : t' = t
    · subst e
      rw [hl] at hl'
      cases hl'
      rw [hm_up_s, fvals_set 0 k fl hf, Nat.zero_add]
    · rw [hm_up_n (hm_ne (j1 t' ci' fl' hl') ht e), j1 t' ci' fl' hl', fvals_eq (V := V) 0 fl' (fun j _ => v2_t e)]
  · rw [hm_up_n (hm_ne j2 ht n270)]
    exact j2
  · rw [hm_up_n (hm_ne j3 ht n271)]
    exact j3
  · exact (j4 t' ht').up ht (by omega) (by omega)
  · have hr := mar_spec hm
    have hn : t' ≠ t := fun q => by
      rw [q] at hr
      rw [lay_hi (by omega)] at hl
      cases hl
    rw [hm_up_n (hm_ne (j5 t' n k' hm) ht hn)]
    exact j5 t' n k' hm
/-- a page's change: its own two cells alone -/
theorem JH.page {cA : Nat → ClassId} {sh : Nat → Nat} {V P : VV} {h h' : hm_T} (hJ : JH cA sh V P h) {t : Nat} (ht : t < 116) {g : Nat → Int32} (h1 : ∀ (q t' : Nat) (e : va_E), t' ≠ t → t' ≠ 116 + t → h q = some (t', e) → h' q = some (t', e)) (h2 : ∀ (q t' : Nat) (e : va_E), t' ≠ t → t' ≠ 116 + t → h' q = some (t', e) → h q = some (t', e)) (hg : pgAt cA sh h' t g) : JH cA sh V (p1 P t g) h' := by
  obtain ⟨j1, ⟨f1, j2, j2'⟩, ⟨f2, j3, j3'⟩, j4, j5, j6⟩ := hJ
  refine ⟨fun t' ci' fl' hl' => ?_, ⟨f1, h1 _ _ _ (by omega) (by omega) j2, j2'⟩, ⟨f2, h1 _ _ _ (by omega) (by omega) j3, j3'⟩, fun t' ht' => ?_, fun t' n k' hm => ?_, ?_⟩
  · have hlo : 232 ≤ t' := by
      rcases Nat.lt_or_ge t' 232 with q | q
      · rw [lay_lo q] at hl'
        cases hl'
      · exact q
    exact h1 _ _ _ (by omega) (by omega) (j1 t' ci' fl' hl')
  · by_cases e : t' = t
    · subst e
      rw [p1_s]
      exact hg
    · rw [p1_n e]
      exact (j4 t' ht').kept (fun q t'' e'' ho hq => h1 q t'' e'' (by omega) (by omega) hq) (fun q e'' hq => h2 q _ e'' (by omega) (by omega) hq)
  · have hr := mar_spec hm
    rw [p1_n (by omega)]
    exact h1 _ _ _ (by omega) (by omega) (j5 t' n k' hm)
  · rw [p1_n (by omega), p1_n (by omega)]
    exact j6
theorem JH.arr {cA : Nat → ClassId} {sh : Nat → Nat} {V P : VV} {h : hm_T} (hJ : JH cA sh V P h) {t n k : Nat} (hm : mar t = some (n, k)) (g : Nat → Int32) (hb : t = 273 ∨ t = 274 → bfit g 81920) : JH cA sh V (p1 P t g) (hm_up h (sh t) (t, aInt (cA k) n g)) := by
  obtain ⟨j1, ⟨f1, j2, j2'⟩, ⟨f2, j3, j3'⟩, j4, j5, j6⟩ := hJ
  have hr := mar_spec hm
  have ht := j5 t n k hm
  refine ⟨fun t' ci' fl' hl' => ?_, ⟨f1, ?_, j2'⟩, ⟨f2, ?_, j3'⟩, fun t' ht' => ?_, fun t' n' k' hm' => ?_, ?_⟩
  · have hhi : t' ≤ 272 := by
      rcases Nat.lt_or_ge 272 t' with q | q
      · rw [lay_hi q] at hl'
        cases hl'
      · exact q
    rw [hm_up_n (hm_ne (j1 t' ci' fl' hl') ht (by omega))]
    exact j1 t' ci' fl' hl'
  · rw [hm_up_n (hm_ne j2 ht (by omega))]
    exact j2
  · rw [hm_up_n (hm_ne j3 ht (by omega))]
    exact j3
  · rw [p1_n (by omega)]
    exact (j4 t' ht').up ht (by omega) (by omega)
  · by_cases e : t' = t
    · subst e
      rw [hm] at hm'
      cases hm'
      rw [hm_up_s, p1_s]
    · rw [hm_up_n (hm_ne (j5 t' n' k' hm') ht e), p1_n e]
      exact j5 t' n' k' hm'
  · constructor
    · by_cases e : 273 = t
      · subst e
        rw [p1_s]
        exact hb (Or.inl rfl)
      · rw [p1_n e]
        exact j6.1
    · by_cases e : 274 = t
      · subst e
        rw [p1_s]
        exact hb (Or.inr rfl)
      · rw [p1_n e]
        exact j6.2
abbrev tysA (cA : Nat → ClassId) : List (ClassId × FieldType) := [(cA 0, .byte), (cA 1, .object "BlockVault$Page"), (cA 2, .object "BlockVault$Row"), (cA 3, .boolean), (cA 4, .int)]
def JW (D : va_G) (B : Nat) (cA : Nat → ClassId) (sh : Nat → Nat) (V P : VV) (H : Heap) : Prop := ∃ h : hm_T, hm_P D vwCl B h H ∧ JH cA sh V P h
def JC (D : va_G) (B : Nat) (cA : Nat → ClassId) (sh : Nat → Nat) (u : VV × VV) (U : State) : Prop := JW D B cA sh u.1 u.2 U.heap ∧ va_K D vwCl (tysA cA) U ∧ JN U
theorem JW.obj {D : va_G} {B : Nat} {cA : Nat → ClassId} {sh : Nat → Nat} {V P : VV} {H : Heap} (hW : JW D B cA sh V P H) {t ci : Nat} {fl : List (Option Nat)} (hl : lay t = some (ci, fl)) : va_P D vwCl [(sh t, .inr (ci, fvals sh V t 0 fl))] H := by
  obtain ⟨h, hP, hJ⟩ := hW
  exact hP.one (hJ.1 t ci fl hl)
theorem JW.mar {D : va_G} {B : Nat} {cA : Nat → ClassId} {sh : Nat → Nat} {V P : VV} {H : Heap} (hW : JW D B cA sh V P H) {t n k : Nat} (hl : mar t = some (n, k)) : va_P D vwCl [(sh t, aInt (cA k) n (P t))] H := by
  obtain ⟨h, hP, hJ⟩ := hW
  exact hP.one (hJ.2.2.2.2.1 t n k hl)
theorem JW.ge {D : va_G} {B : Nat} {cA : Nat → ClassId} {sh : Nat → Nat} {V P : VV} {H : Heap} (hW : JW D B cA sh V P H) : B ≤ H.size := by
  obtain ⟨h, hP, -⟩ := hW
  exact hP.1
theorem JC.blind {D : va_G} {B : Nat} {cA : Nat → ClassId} {sh : Nat → Nat} {u : VV × VV} {av : List Value} : FrameBlind (va_Pc av (JC D B cA sh u)) := fun a U g mk q =>
  ⟨q.1, q.2.1, va_K.moved (u := U) (U := U.calling g mk a) (Vm.Alike.refl U.vm) q.2.2.1, q.2.2.2.same rfl⟩
theorem jw_preS {D : va_G} {B : Nat} {cA : Nat → ClassId} {sh : Nat → Nat} {V P : VV} {H : Heap} {s : State} {As : List Value} (hW : JW D B cA sh V P H) (hK : va_K D vwCl (tysA cA) s) (hN : JN s) : PreS s H (va_Pc As (JC D B cA sh (V, P))) As :=
  ⟨JC.blind, fun U hU hw => ⟨rfl, by rw [hU]; exact hW, va_K.moved hw.alike hK, hN.warm hw⟩⟩
theorem jw_preV {D : va_G} {B : Nat} {cA : Nat → ClassId} {sh : Nat → Nat} {V P : VV} {H : Heap} {s : State} {t ci : Nat} {fl : List (Option Nat)} {q : vw_C} {As : List Value} (hW : JW D B cA sh V P H) (hK : va_K D vwCl (tysA cA) s) (hN : JN s) (hl : lay t = some (ci, fl)) (hc : vwCl[ci]? = some q) :
    PreV s H q.1 (sh t) (va_Pc (.ref (sh t) :: As) (JC D B cA sh (V, P))) As :=
  ⟨JC.blind, va_recv hK (hW.obj hl) hc (q0 := 0) rfl, fun U hU hw => ⟨rfl, by rw [hU]; exact hW, va_K.moved hw.alike hK, hN.warm hw⟩⟩
theorem jw_preP {D : va_G} {B : Nat} {cA : Nat → ClassId} {sh : Nat → Nat} {V P : VV} {H : Heap} {s : State} {t : Nat} {q : vw_C} {As : List Value} (hW : JW D B cA sh V P H) (hK : va_K D vwCl (tysA cA) s) (hN : JN s) (ht : t < 116) (hc : vwCl[3]? = some q) :
    PreV s H q.1 (sh t) (va_Pc (.ref (sh t) :: As) (JC D B cA sh (V, P))) As := by
  refine ⟨JC.blind, ?_, fun U hU hw => ⟨rfl, by rw [hU]; exact hW, va_K.moved hw.alike hK, hN.warm hw⟩⟩
  obtain ⟨h, hP, hJ⟩ := hW
  obtain ⟨x, hx⟩ := (hJ.2.2.2.1 t ht).cell
  exact va_recv hK (hP.one hx) hc (q0 := 0) rfl
section JWR
variable {p : Program} {l : Launch} {e : Env} {R : Room} {s : State} {m : MethodId} {args : Array Value} {below : List Frame} {meth : Method} {c : Code} {H : Heap} {locs : List Loc} {cells slots : Nat} {Q : State → Prop}
variable {cc : ByteArray} {pc : Nat} {ls : Array Slot} {rest : List Value} {D : va_G} {B : Nat} {cA : Nat → ClassId} {sh : Nat → Nat} {V P : VV} {H0 : Heap}
theorem jw_tight {g : JFrame} (hB : B ≤ s.heap.size) (hW : JW D B cA sh V P H) (kk : W p l e R s m args below meth c H locs 278 295424 Q g) : W p l e R s m args below meth c H locs cells slots Q g := by
  obtain ⟨h, hP, -⟩ := hW
  exact hm_tight hB hP kk
theorem jw_put (hexec : p.tables.exec = Jvm.exec) (hb : c.code = cc) {own ref C : String} {T : u_T} {N ci index : Nat} {Ts : List Cond} (hts : ∀ w ∈ Ts, w.before args s = true) (hin : ∀ w ∈ u_ws C T N, w ∈ Ts) (ty0 : Nat → FieldType) (hty : ∀ k, k < N → parseFieldDescriptor (T k).2.2.1 = some (ty0 k)) (hnm : ∀ a, a < N → ∀ b, b < N → a ≠ b → (T a).2.1 ≠ (T b).2.1) (hown : s.vm.findClass own = some m.cls) (hK : va_K D vwCl (tysA cA) s) (hW : JW D B cA sh V P H) (hS0 : va_S (hm_A B) H0 H locs)
    {t : Nat} {fl : List (Option Nat)} (hl : lay t = some (ci, fl)) (hc : vwCl[ci]? = some (C, T, N)) (k : Nat) (hk : k < N) (hf : fl[k]? = some none) (hlink : (Cond.fieldLink own index ref (T k).2.1 (T k).2.2.1).before args s = true) (hsame : ∀ x, s.fieldFound? (T k).1 (T k).2.1 (T k).2.2.1 = some x → s.fieldFound? ref (T k).2.1 (T k).2.2.1 = some x) (hfin : (T k).2.2.2 = false) {ty : FieldType} {x : Int32} (hd : parseFieldDescriptor (T k).2.2.1 = some ty) (hn : narrow ty (.int x) = .int x) (hfit : fits ty (.int x) = true)
    (hdg : decode cc pc = .ok (.putfield index, 3)) (kk : ∀ (H1 : Heap) (locs1 : List Loc), JW D B cA sh (v2 V t k x) P H1 → va_S (hm_A B) H0 H1 locs1 → W p l e R s m args below meth c H1 locs1 cells slots Q (F0 m (pc + 3) ls rest)) : W p l e R s m args below meth c H locs cells slots Q (F0 m pc ls (.int x :: .ref (sh t) :: rest)) := by
  have hap := va_apart (own := own) hts hin ty0 hty hnm hK hc
  obtain ⟨h, hP, hJ⟩ := hW
  have he := hJ.1 t ci fl hl
  obtain ⟨r, h1, cell, q1, q2, q3, q4⟩ := (hP.2.1 _ _ _ he).2.2
  have hr : r = (C, T, N) := Option.some.inj (h1.symm.trans hc)
  subst hr
  obtain ⟨hS, hfc, kC, hkC, hkind⟩ := hK.1 ci _ hc
  obtain ⟨cf, kf, fi, f, hi, hsl⟩ := hS k hk
  have hlay := hts _ (hin _ (u_in_lay hk))
  unfold u_lay at hlay
  rw [if_neg (by rw [hfin]; decide)] at hlay
  have hst := (u_facts hfc hkC (u_lays hts hin hk) hi).1
  have h6 := u_store hfc hkC hkind hlay hi hd hn hfit
  have hlen : k < (fvals sh V t 0 fl).length := by
    rw [fvals_len]
    exact (List.getElem?_eq_some_iff.mp hf).1
  refine W.putK hexec hb (f := f) ⟨hown, hlink, ⟨_, _, _, hsame _ hi⟩, hst⟩ (by rw [q2]; exact h6) q1 q3 (by rw [hsl]; exact k2_hasslot (q4 k hk)) rfl rfl hdg fun H' e1 e2 e3 => ?_
  rw [hsl] at e1 ⊢
  exact kk H' _ ⟨_, hP.set (e := .inr (ci, (fvals sh V t 0 fl).set k (.int x))) he ⟨_, hc, t_OB.to (V := updV (vp_V (fvals sh V t 0 fl)) k (.int x)) ⟨_, e1, q2, q3, t_set q4 hap hk (.int x)⟩ (fun j _ => vp_updV_set hlen (.int x) j)⟩ e2 e3 (fun c0 c1 g0 g1 => by
    rw [q1] at g0
    rw [e1] at g1
    cases g0
    cases g1
    exact k2_slotsz _ _ _), hJ.put hl hf x⟩ (hS0.put e2 e3 (hP.ge he))
theorem jw_putN (hexec : p.tables.exec = Jvm.exec) (hb : c.code = cc) {own ref C host : String} {T : u_T} {N ci index : Nat} {Ts : List Cond} (hts : ∀ w ∈ Ts, w.before args s = true) (hin : ∀ w ∈ u_ws C T N, w ∈ Ts) (ty0 : Nat → FieldType) (hty : ∀ k, k < N → parseFieldDescriptor (T k).2.2.1 = some (ty0 k)) (hnm : ∀ a, a < N → ∀ b, b < N → a ≠ b → (T a).2.1 ≠ (T b).2.1) (hown : s.vm.findClass own = some m.cls) (hK : va_K D vwCl (tysA cA) s) (hW : JW D B cA sh V P H) (hS0 : va_S (hm_A B) H0 H locs)
    {t : Nat} {fl : List (Option Nat)} (hl : lay t = some (ci, fl)) (hc : vwCl[ci]? = some (C, T, N)) (k : Nat) (hk : k < N) (hf : fl[k]? = some none) (hlink : (Cond.fieldLinkNest own index ref (T k).2.1 (T k).2.2.1 host).before args s = true) (hsame : ∀ x, s.fieldFound? (T k).1 (T k).2.1 (T k).2.2.1 = some x → s.fieldFound? ref (T k).2.1 (T k).2.2.1 = some x) (hfin : (T k).2.2.2 = false) {ty : FieldType} {x : Int32} (hd : parseFieldDescriptor (T k).2.2.1 = some ty) (hn : narrow ty (.int x) = .int x) (hfit : fits ty (.int x) = true)
    (hdg : decode cc pc = .ok (.putfield index, 3)) (kk : ∀ (H1 : Heap) (locs1 : List Loc), JW D B cA sh (v2 V t k x) P H1 → va_S (hm_A B) H0 H1 locs1 → W p l e R s m args below meth c H1 locs1 cells slots Q (F0 m (pc + 3) ls rest)) : W p l e R s m args below meth c H locs cells slots Q (F0 m pc ls (.int x :: .ref (sh t) :: rest)) := by
  have hap := va_apart (own := own) hts hin ty0 hty hnm hK hc
  obtain ⟨h, hP, hJ⟩ := hW
  have he := hJ.1 t ci fl hl
  obtain ⟨r, h1, cell, q1, q2, q3, q4⟩ := (hP.2.1 _ _ _ he).2.2
  have hr : r = (C, T, N) := Option.some.inj (h1.symm.trans hc)
  subst hr
  obtain ⟨hS, hfc, kC, hkC, hkind⟩ := hK.1 ci _ hc
  obtain ⟨cf, kf, fi, f, hi, hsl⟩ := hS k hk
  have hlay := hts _ (hin _ (u_in_lay hk))
  unfold u_lay at hlay
  rw [if_neg (by rw [hfin]; decide)] at hlay
  have hst := (u_facts hfc hkC (u_lays hts hin hk) hi).1
  have h6 := u_store hfc hkC hkind hlay hi hd hn hfit
  have hlen : k < (fvals sh V t 0 fl).length := by
    rw [fvals_len]
    exact (List.getElem?_eq_some_iff.mp hf).1
  refine va_WputK hexec hb (f := f) hown hlink (hsame _ hi) hst (by rw [q2]; exact h6) q1 q3 (by rw [hsl]; exact k2_hasslot (q4 k hk)) rfl rfl hdg fun H' e1 e2 e3 => ?_
  rw [hsl] at e1 ⊢
  exact kk H' _ ⟨_, hP.set (e := .inr (ci, (fvals sh V t 0 fl).set k (.int x))) he ⟨_, hc, t_OB.to (V := updV (vp_V (fvals sh V t 0 fl)) k (.int x)) ⟨_, e1, q2, q3, t_set q4 hap hk (.int x)⟩ (fun j _ => vp_updV_set hlen (.int x) j)⟩ e2 e3 (fun c0 c1 g0 g1 => by
    rw [q1] at g0
    rw [e1] at g1
    cases g0
    cases g1
    exact k2_slotsz _ _ _), hJ.put hl hf x⟩ (hS0.put e2 e3 (hP.ge he))
/-- stores into an array of ints, by the map -/
theorem hm_iast {h : hm_T} {n a t : Nat} {f : Nat → Int32} {c0 : ClassId} (hexec : p.tables.exec = Jvm.exec) (hb : c.code = cc) (hA : ArrOfT s c0 .int) (hP : hm_P D vwCl B h H) (ha : h a = some (t, aInt c0 n f)) (hS : va_S (hm_A B) H0 H locs) {i x : Int32} (hin : vp_in i n) (hdg : decode cc pc = .ok (.iastore, 1))
    (kk : ∀ (H1 : Heap) (locs1 : List Loc), hm_P D vwCl B (hm_up h a (t, aInt c0 n (upd f i.toNatClampNeg x))) H1 → va_S (hm_A B) H0 H1 locs1 → W p l e R s m args below meth c H1 locs1 cells slots Q (F0 m (pc + 1) ls rest)) : W p l e R s m args below meth c H locs cells slots Q (F0 m pc ls (.int x :: .int i :: .ref a :: rest)) := by
  have hc0 : H[a]? = some (vp_cell c0 (n, .inl f)) := (hP.2.1 _ _ _ ha).2.2
  refine W.iast hexec hb hc0 (hA n (fun j => .int (f j))) (fun q => by cases q) (by show ¬ (i < 0 ∨ (arrV _ _ _).slots.size ≤ _); rw [arrV_size]; exact hin) rfl rfl hdg fun H1 e z oq => ?_
  have e' : H1[a]? = some (vp_cell c0 (n, .inl (upd f i.toNatClampNeg x))) := by
    rw [e, vp_cell_i, vp_cell_i, arrV_store]
    congr 2
    funext q
    by_cases hq : q = i.toNatClampNeg
    · subst hq
      simp [updV, upd]
    · simp [updV, upd, hq]
  exact kk H1 _ (hP.set (e := aInt c0 n (upd f i.toNatClampNeg x)) ha e' z oq (fun c0 c1 g0 g1 => by rw [hc0] at g0; rw [e'] at g1; cases g0; cases g1; rw [vp_cell_i, vp_cell_i, arrV_size, arrV_size])) (hS.put z oq (hP.ge ha))
theorem hm_zast {h : hm_T} {n a t : Nat} {f : Nat → Int32} {c0 : ClassId} (hexec : p.tables.exec = Jvm.exec) (hb : c.code = cc) (hA : ArrOfT s c0 .boolean) (hP : hm_P D vwCl B h H) (ha : h a = some (t, aInt c0 n f)) (hS : va_S (hm_A B) H0 H locs) {i x : Int32} (hin : vp_in i n) (hdg : decode cc pc = .ok (.bastore, 1))
    (kk : ∀ (H1 : Heap) (locs1 : List Loc), hm_P D vwCl B (hm_up h a (t, aInt c0 n (upd f i.toNatClampNeg (vp_nar .boolean x)))) H1 → va_S (hm_A B) H0 H1 locs1 → W p l e R s m args below meth c H1 locs1 cells slots Q (F0 m (pc + 1) ls rest)) : W p l e R s m args below meth c H locs cells slots Q (F0 m pc ls (.int x :: .int i :: .ref a :: rest)) := by
  have hc0 : H[a]? = some (vp_cell c0 (n, .inl f)) := (hP.2.1 _ _ _ ha).2.2
  refine W.zast hexec hb hc0 (hA n (fun j => .int (f j))) (fun q => by cases q) (by show ¬ (i < 0 ∨ (arrV _ _ _).slots.size ≤ _); rw [arrV_size]; exact hin) rfl rfl hdg fun H1 e z oq => ?_
  have e' : H1[a]? = some (vp_cell c0 (n, .inl (upd f i.toNatClampNeg (vp_nar .boolean x)))) := by
    rw [e, vp_cell_i, vp_cell_i, arrV_store]
    congr 2
    funext q
    by_cases hq : q = i.toNatClampNeg
    · subst hq
      simp [updV, upd, vp_nar, narrow]
    · simp [updV, upd, hq]
  exact kk H1 _ (hP.set (e := aInt c0 n (upd f i.toNatClampNeg (vp_nar .boolean x))) ha e' z oq (fun c0 c1 g0 g1 => by rw [hc0] at g0; rw [e'] at g1; cases g0; cases g1; rw [vp_cell_i, vp_cell_i, arrV_size, arrV_size])) (hS.put z oq (hP.ge ha))
theorem hm_bast {h : hm_T} {n a t : Nat} {f : Nat → Int32} {c0 : ClassId} (hexec : p.tables.exec = Jvm.exec) (hb : c.code = cc) (hA : ArrOfT s c0 .byte) (hP : hm_P D vwCl B h H) (ha : h a = some (t, aInt c0 n f)) (hS : va_S (hm_A B) H0 H locs) {i x : Int32} (hin : vp_in i n) (hdg : decode cc pc = .ok (.bastore, 1))
    (kk : ∀ (H1 : Heap) (locs1 : List Loc), hm_P D vwCl B (hm_up h a (t, aInt c0 n (upd f i.toNatClampNeg x.toInt8.toInt32))) H1 → va_S (hm_A B) H0 H1 locs1 → W p l e R s m args below meth c H1 locs1 cells slots Q (F0 m (pc + 1) ls rest)) : W p l e R s m args below meth c H locs cells slots Q (F0 m pc ls (.int x :: .int i :: .ref a :: rest)) := by
  have hc0 : H[a]? = some (vp_cell c0 (n, .inl f)) := (hP.2.1 _ _ _ ha).2.2
  refine W.bast hexec hb hc0 (hA n (fun j => .int (f j))) (fun q => by cases q) (by show ¬ (i < 0 ∨ (arrV _ _ _).slots.size ≤ _); rw [arrV_size]; exact hin) rfl rfl hdg fun H1 e z oq => ?_
  have e' : H1[a]? = some (vp_cell c0 (n, .inl (upd f i.toNatClampNeg x.toInt8.toInt32))) := by
    rw [e, vp_cell_i, vp_cell_i, arrV_store]
    congr 2
    funext q
    by_cases hq : q = i.toNatClampNeg
    · subst hq
      simp [updV, upd, narrow]
    · simp [updV, upd, hq]
  exact kk H1 _ (hP.set (e := aInt c0 n (upd f i.toNatClampNeg x.toInt8.toInt32)) ha e' z oq (fun c0 c1 g0 g1 => by rw [hc0] at g0; rw [e'] at g1; cases g0; cases g1; rw [vp_cell_i, vp_cell_i, arrV_size, arrV_size])) (hS.put z oq (hP.ge ha))
/-- the disk's array of pages, the cache's of rows -/
theorem jw_aldP (hexec : p.tables.exec = Jvm.exec) (hb : c.code = cc) (hK : va_K D vwCl (tysA cA) s) (hW : JW D B cA sh V P H) {i : Nat} {x : Int32} (hx : x = nI i) (hi : i < 80) (hdg : decode cc pc = .ok (.aaload, 1))
    (kk : W p l e R s m args below meth c H locs cells slots Q (F0 m (pc + 1) ls (.ref (sh i) :: rest))) : W p l e R s m args below meth c H locs cells slots Q (F0 m pc ls (.int x :: .ref (sh 270) :: rest)) := by
  obtain ⟨h, hP, hJ⟩ := hW
  obtain ⟨f, h1, h2⟩ := hJ.2.1
  subst hx
  refine va_aldq hexec hb hK (hP.one h1) 0 1 rfl rfl (vp_in_nI hi (by omega)) hdg ?_
  rw [nI_clamp (by omega), h2 i hi]
  exact kk
theorem jw_aldR (hexec : p.tables.exec = Jvm.exec) (hb : c.code = cc) (hK : va_K D vwCl (tysA cA) s) (hW : JW D B cA sh V P H) {i : Nat} {x : Int32} (hx : x = nI i) (hi : i < 34) (hdg : decode cc pc = .ok (.aaload, 1))
    (kk : W p l e R s m args below meth c H locs cells slots Q (F0 m (pc + 1) ls (.ref (sh (232 + i)) :: rest))) : W p l e R s m args below meth c H locs cells slots Q (F0 m pc ls (.int x :: .ref (sh 271) :: rest)) := by
  obtain ⟨h, hP, hJ⟩ := hW
  obtain ⟨f, h1, h2⟩ := hJ.2.2.1
  subst hx
  refine va_aldq hexec hb hK (hP.one h1) 0 2 rfl rfl (vp_in_nI hi (by omega)) hdg ?_
  rw [nI_clamp (by omega), h2 i hi]
  exact kk
theorem jw_alenP (hexec : p.tables.exec = Jvm.exec) (hb : c.code = cc) (hK : va_K D vwCl (tysA cA) s) (hW : JW D B cA sh V P H) (hdg : decode cc pc = .ok (.arraylength, 1))
    (kk : W p l e R s m args below meth c H locs cells slots Q (F0 m (pc + 1) ls (.int 80 :: rest))) : W p l e R s m args below meth c H locs cells slots Q (F0 m pc ls (.ref (sh 270) :: rest)) := by
  obtain ⟨h, hP, hJ⟩ := hW
  obtain ⟨f, h1, h2⟩ := hJ.2.1
  exact va_alen hexec hb hK (hP.one h1) 0 1 rfl rfl (v := 80) rfl hdg kk
theorem jw_alenR (hexec : p.tables.exec = Jvm.exec) (hb : c.code = cc) (hK : va_K D vwCl (tysA cA) s) (hW : JW D B cA sh V P H) (hdg : decode cc pc = .ok (.arraylength, 1))
    (kk : W p l e R s m args below meth c H locs cells slots Q (F0 m (pc + 1) ls (.int 34 :: rest))) : W p l e R s m args below meth c H locs cells slots Q (F0 m pc ls (.ref (sh 271) :: rest)) := by
  obtain ⟨h, hP, hJ⟩ := hW
  obtain ⟨f, h1, h2⟩ := hJ.2.2.1
  exact va_alen hexec hb hK (hP.one h1) 0 2 rfl rfl (v := 34) rfl hdg kk
/-- stores into the reference's arrays -/
theorem jw_iast (hexec : p.tables.exec = Jvm.exec) (hb : c.code = cc) (hK : va_K D vwCl (tysA cA) s) (hW : JW D B cA sh V P H) (hS : va_S (hm_A B) H0 H locs) {i x : Int32} (hin : vp_in i 80) (hdg : decode cc pc = .ok (.iastore, 1))
    (kk : ∀ (H1 : Heap) (locs1 : List Loc), JW D B cA sh V (p1 P 277 (upd (P 277) i.toNatClampNeg x)) H1 → va_S (hm_A B) H0 H1 locs1 → W p l e R s m args below meth c H1 locs1 cells slots Q (F0 m (pc + 1) ls rest)) : W p l e R s m args below meth c H locs cells slots Q (F0 m pc ls (.int x :: .int i :: .ref (sh 277) :: rest)) := by
  obtain ⟨h, hP, hJ⟩ := hW
  exact hm_iast hexec hb (hK.2 4 (cA 4, .int) rfl).1 hP (hJ.2.2.2.2.1 277 80 4 rfl) hS hin hdg (fun H1 locs1 hP1 hS1 => kk H1 locs1 ⟨_, hP1, hJ.arr rfl _ (fun h => by omega)⟩ hS1)
theorem jw_zast (hexec : p.tables.exec = Jvm.exec) (hb : c.code = cc) (hK : va_K D vwCl (tysA cA) s) (hW : JW D B cA sh V P H) (hS : va_S (hm_A B) H0 H locs) {t : Nat} (hm : mar t = some (80, 3)) {i x : Int32} (hin : vp_in i 80) (hdg : decode cc pc = .ok (.bastore, 1))
    (kk : ∀ (H1 : Heap) (locs1 : List Loc), JW D B cA sh V (p1 P t (upd (P t) i.toNatClampNeg (vp_nar .boolean x))) H1 → va_S (hm_A B) H0 H1 locs1 → W p l e R s m args below meth c H1 locs1 cells slots Q (F0 m (pc + 1) ls rest)) : W p l e R s m args below meth c H locs cells slots Q (F0 m pc ls (.int x :: .int i :: .ref (sh t) :: rest)) := by
  obtain ⟨h, hP, hJ⟩ := hW
  exact hm_zast hexec hb (hK.2 3 (cA 3, .boolean) rfl).1 hP (hJ.2.2.2.2.1 t 80 3 hm) hS hin hdg (fun H1 locs1 hP1 hS1 => kk H1 locs1 ⟨_, hP1, hJ.arr hm _ (fun h => by rcases h with h | h <;> (rw [h] at hm; exact absurd hm (by decide)))⟩ hS1)
theorem mar_byte {t : Nat} (hm : mar t = some (81920, 0)) : t = 273 ∨ t = 274 := by
  have hr := mar_spec hm
  by_cases h5 : t = 275
  · rw [h5] at hm
    exact absurd hm (by decide)
  · by_cases h6 : t = 276
    · rw [h6] at hm
      exact absurd hm (by decide)
    · by_cases h7 : t = 277
      · rw [h7] at hm
        exact absurd hm (by decide)
      · omega
theorem jw_bast (hexec : p.tables.exec = Jvm.exec) (hb : c.code = cc) (hK : va_K D vwCl (tysA cA) s) (hW : JW D B cA sh V P H) (hS : va_S (hm_A B) H0 H locs) {t : Nat} (hm : mar t = some (81920, 0)) {i x : Int32} (hin : vp_in i 81920) (hdg : decode cc pc = .ok (.bastore, 1))
    (kk : ∀ (H1 : Heap) (locs1 : List Loc), JW D B cA sh V (p1 P t (upd (P t) i.toNatClampNeg x.toInt8.toInt32)) H1 → va_S (hm_A B) H0 H1 locs1 → W p l e R s m args below meth c H1 locs1 cells slots Q (F0 m (pc + 1) ls rest)) : W p l e R s m args below meth c H locs cells slots Q (F0 m pc ls (.int x :: .int i :: .ref (sh t) :: rest)) := by
  obtain ⟨h, hP, hJ⟩ := hW
  have hold : bfit (P t) 81920 := by
    rcases mar_byte hm with h1 | h1
    · rw [h1]
      exact hJ.2.2.2.2.2.1
    · rw [h1]
      exact hJ.2.2.2.2.2.2
  exact hm_bast hexec hb (hK.2 0 (cA 0, .byte) rfl).1 hP (hJ.2.2.2.2.1 t 81920 0 hm) hS hin hdg (fun H1 locs1 hP1 hS1 => kk H1 locs1 ⟨_, hP1, hJ.arr hm _ (fun _ k hk => by
    by_cases hq : k = i.toNatClampNeg
    · subst hq
      rw [pk_us]
      exact pk_fb x
    · rw [pk_un hq]
      exact hold k hk)⟩ hS1)
/-- behind a call -/
theorem jw_calli {post : Int32 → VV × VV → Prop} {st0 : List Value} {a : Array Value} {mc ms : Nat} (hr : va_Run p l e R s m args below meth c H locs cells slots mc ms (F0 m pc ls st0) rest (va_Qi post (JC D B cA sh) (hm_A B) a) (hm_A B)) (hS : va_S (hm_A B) H0 H locs)
    (kk : ∀ (r : Int32) (V1 P1 : VV) (H1 : Heap) (locs1 : List Loc), post r (V1, P1) → JW D B cA sh V1 P1 H1 → va_S (hm_A B) H0 H1 locs1 → W p l e R s m args below meth c H1 locs1 (cells + mc) (slots + ms) Q (F0 m (pc + 3) ls (.int r :: rest))) : W p l e R s m args below meth c H locs cells slots Q (F0 m pc ls st0) :=
  va_calli hr hS (fun _ _ h => h) (fun _ h => h) (fun r u t H1 locs1 ht _ hw hB _ _ hS1 => kk r u.1 u.2 H1 locs1 hw (by rw [← ht]; exact hB.1) hS1)
theorem jw_callv {post : VV × VV → Prop} {st0 : List Value} {a : Array Value} {mc ms : Nat} (hr : va_Run p l e R s m args below meth c H locs cells slots mc ms (F0 m pc ls st0) rest (va_Qv post (JC D B cA sh) (hm_A B) a) (hm_A B)) (hS : va_S (hm_A B) H0 H locs)
    (kk : ∀ (V1 P1 : VV) (H1 : Heap) (locs1 : List Loc), post (V1, P1) → JW D B cA sh V1 P1 H1 → va_S (hm_A B) H0 H1 locs1 → W p l e R s m args below meth c H1 locs1 (cells + mc) (slots + ms) Q (F0 m (pc + 3) ls rest)) : W p l e R s m args below meth c H locs cells slots Q (F0 m pc ls st0) :=
  va_callv hr hS (fun _ _ h => h) (fun _ h => h) (fun u t H1 locs1 ht _ hw hB _ _ hS1 => kk u.1 u.2 H1 locs1 hw (by rw [← ht]; exact hB.1) hS1)
theorem jw_callq {post : Option Nat → VV × VV → Prop} {st0 : List Value} {a : Array Value} {mc ms : Nat} (hr : va_Run p l e R s m args below meth c H locs cells slots mc ms (F0 m pc ls st0) rest (va_Qq post (JC D B cA sh) (hm_A B) a) (hm_A B)) (hS : va_S (hm_A B) H0 H locs)
    (kk : ∀ (r : Option Nat) (V1 P1 : VV) (H1 : Heap) (locs1 : List Loc), post r (V1, P1) → JW D B cA sh V1 P1 H1 → va_S (hm_A B) H0 H1 locs1 → W p l e R s m args below meth c H1 locs1 (cells + mc) (slots + ms) Q (F0 m (pc + 3) ls (va_rf r :: rest))) : W p l e R s m args below meth c H locs cells slots Q (F0 m pc ls st0) :=
  va_callq hr hS (fun _ _ h => h) (fun _ h => h) (fun r u t H1 locs1 ht _ hw hB _ _ hS1 => kk r u.1 u.2 H1 locs1 hw (by rw [← ht]; exact hB.1) hS1)
end JWR
end
section
/-! WHAT THE METHODS DO, as functions of (V, P): they follow the bytecode's own branches -/
abbrev mIsBlock (V : VV) (b : Int32) : Prop := ¬ b < 0 ∧ ¬ V 266 0 ≤ b ∧ ¬ (¬ b < 2 ∧ ¬ 32 < b)
abbrev mIsRun (k n : Int32) : Prop := ¬ n < 1 ∧ ¬ 1024 < n ∧ ¬ k < 0 ∧ ¬ 1024 - n < k
def bI (q : Prop) [Decidable q] : Int32 := if q then 1 else 0
/-- Page -/
def mByte (g : Nat → Int32) (k : Int32) : Int32 := if k < 0 ∨ 1024 ≤ k then 0 else g k.toNatClampNeg &&& 255
def mRun (g : Nat → Int32) (k : Nat) (v : Int32) (n : Nat) : Nat → Int32 := fun j => if k ≤ j ∧ j < k + n then (v + nI (j - k)).toInt8.toInt32 else g j
def mPut (g : Nat → Int32) (k n v : Int32) : Nat → Int32 := if mIsRun k n then mRun g k.toNatClampNeg v n.toNatClampNeg else g
/-- Disk -/
def mRead (P : VV) (b : Int32) (t : Nat) : VV := if b < 0 ∨ 80 ≤ b then P else p1 P t (P b.toNatClampNeg)
def mWrite (V P : VV) (b : Int32) (t : Nat) : Int32 × VV × VV :=
  if V 267 1 = 0 ∨ b < 0 ∨ ¬ b < 80 then (0, V, P)
  else if V 267 2 = 0 then (0, v2 V 267 1 0, P)
  else if V 267 2 ≤ 0 then (1, v2 V 267 3 (V 267 3 + 1), p1 P b.toNatClampNeg (P t))
  else (1, v2 (v2 V 267 2 (V 267 2 - 1)) 267 3 (V 267 3 + 1), p1 P b.toNatClampNeg (P t))
/-- Row, Cache -/
def mGW (V : VV) (i j : Nat) : Int32 := if V (232 + i) 3 = V (232 + j) 3 then (if V (232 + j) 2 ≤ V (232 + i) 2 then 0 else 1) else V (232 + j) 3
def fd (q : Nat → Bool) : Nat → Nat → Option Nat
  | 0, _ => none
  | n + 1, i => if q i then some i else fd q n (i + 1)
def mRow (V : VV) (b : Int32) : Option Nat := fd (fun i => decide (V (232 + i) 1 = b)) 34 0
def gL (V : VV) : Nat → Nat → Nat → Nat
  | 0, _, f => f
  | n + 1, i, f => gL V n (i + 1) (if mGW V i f = 0 then f else i)
def mGive (V : VV) : Nat := gL V 34 0 0
def cR (V : VV) (k : Nat) : Nat → Nat → Int32 → Int32
  | 0, _, a => a
  | n + 1, i, a => cR V k n (i + 1) (if V (232 + i) k = 0 then a else a + 1)
def mCnt (V : VV) (k : Nat) : Int32 := cR V k 34 0 0
def zR (k : Nat) : Nat → Nat → VV → VV
  | 0, _, V => V
  | n + 1, i, V => zR k n (i + 1) (v2 V (232 + i) k 0)
def mEmp (V : VV) (i : Nat) : VV := v2 (v2 (v2 (v2 V (232 + i) 1 (-1)) (232 + i) 2 0) (232 + i) 3 0) (232 + i) 4 0
def eR : Nat → Nat → VV → VV
  | 0, _, V => V
  | n + 1, i, V => eR n (i + 1) (mEmp V i)
def mTouch (V : VV) (i : Nat) : VV := v2 (v2 V 268 1 (V 268 1 + 1)) (232 + i) 2 (V 268 1 + 1)
def mTake (V : VV) (i : Nat) (b : Int32) : VV := v2 (v2 V (232 + i) 1 b) 268 2 (V 268 2 + 1)
def mLook (V P : VV) (b : Int32) : Nat × VV × VV := match mRow V b with
  | some i => (i, mTouch V i, P)
  | none => (mGive V, mTouch (mTake V (mGive V) b) (mGive V), mRead P b (80 + mGive V))
/-- Log -/
def chL : Nat → Nat → Int32 → VV → VV → Int32 × VV × VV
  | 0, _, k, V, P => (1, V, p1 P 114 (mPut (P 114) 0 1 k))
  | n + 1, i, k, V, P =>
    if V (232 + i) 3 = 0 ∨ 30 ≤ k then chL n (i + 1) k V P
    else if (mWrite V (p1 P 114 (mPut (P 114) (k + 1) 1 (V (232 + i) 1))) (2 + (k + 1)) (80 + i)).1 = 0 then (0, (mWrite V (p1 P 114 (mPut (P 114) (k + 1) 1 (V (232 + i) 1))) (2 + (k + 1)) (80 + i)).2)
    else chL n (i + 1) (k + 1) (mWrite V (p1 P 114 (mPut (P 114) (k + 1) 1 (V (232 + i) 1))) (2 + (k + 1)) (80 + i)).2.1 (mWrite V (p1 P 114 (mPut (P 114) (k + 1) 1 (V (232 + i) 1))) (2 + (k + 1)) (80 + i)).2.2
def mCopy (V P : VV) : Int32 × VV × VV := chL 34 0 0 V P
def mFin (n : Int32) (V P : VV) : Int32 × VV × VV :=
  if (mWrite V (p1 P 114 (mPut (P 114) 0 1 0)) 2 114).1 = 0 then (-1, (mWrite V (p1 P 114 (mPut (P 114) 0 1 0)) 2 114).2) else (n, (mWrite V (p1 P 114 (mPut (P 114) 0 1 0)) 2 114).2)
def bhL (n : Int32) : Nat → Nat → VV → VV → Int32 × VV × VV
  | 0, _, V, P => mFin n V P
  | r + 1, i, V, P =>
    if (mWrite V (mRead P (2 + nI i) 115) (mByte (mRead P (2 + nI i) 115 114) (nI i)) 115).1 = 0 then (-1, (mWrite V (mRead P (2 + nI i) 115) (mByte (mRead P (2 + nI i) 115 114) (nI i)) 115).2)
    else bhL n r (i + 1) (mWrite V (mRead P (2 + nI i) 115) (mByte (mRead P (2 + nI i) 115 114) (nI i)) 115).2.1 (mWrite V (mRead P (2 + nI i) 115) (mByte (mRead P (2 + nI i) 115 114) (nI i)) 115).2.2
def mN (P : VV) : Int32 := if 30 < mByte (mRead P 2 114 114) 0 then 30 else mByte (mRead P 2 114 114) 0
def mHome (V P : VV) : Int32 × VV × VV := if mN P = 0 then (0, V, mRead P 2 114) else bhL (mN P) (mN P).toNatClampNeg 1 V (mRead P 2 114)
def mOut2 (V P : VV) : Int32 × VV × VV := (if (mHome V P).1 = -1 then 0 else 1, (mHome V P).2)
def mOut1 (V P : VV) : Int32 × VV × VV := if (mWrite V P 2 114).1 = 0 then (0, (mWrite V P 2 114).2) else mOut2 (v2 (mWrite V P 2 114).2.1 269 2 ((mWrite V P 2 114).2.1 269 2 + 1)) (mWrite V P 2 114).2.2
def mOut (V P : VV) : Int32 × VV × VV := if (mCopy V P).1 = 0 then (0, (mCopy V P).2) else mOut1 (mCopy V P).2.1 (mCopy V P).2.2
/-- the vault -/
def mCommit (V P : VV) : Int32 × VV × VV := if (mOut V P).1 = 0 then (0, eR 34 0 (mOut V P).2.1, (mOut V P).2.2) else (1, zR 3 34 0 (mOut V P).2.1, (mOut V P).2.2)
def mBegin (V P : VV) : Int32 × VV × VV := if V 267 1 = 0 ∨ ¬ V 266 4 = 0 then (0, V, P) else (1, v2 V 266 4 1, P)
def mClose (V : VV) : VV := zR 4 34 0 (v2 V 266 4 0)
def mEnd (V P : VV) : Int32 × VV × VV :=
  if V 267 1 = 0 ∨ V 266 4 = 0 then (-1, V, P)
  else if 20 < mCnt (mClose V) 3 then (if (mCommit (mClose V) P).1 = 0 then -1 else 0, (mCommit (mClose V) P).2)
  else (mCnt (mClose V) 3, mClose V, P)
def mFlush (V P : VV) : Int32 × VV × VV :=
  if V 267 1 = 0 ∨ ¬ V 266 4 = 0 then (-1, V, P)
  else if mCnt V 3 = 0 then (0, V, P)
  else (if (mCommit V P).1 = 0 then -1 else mCnt V 3, (mCommit V P).2)
def mGet (V P : VV) (b k : Int32) : Int32 × VV × VV :=
  if V 267 1 = 0 ∨ ¬ mIsBlock V b ∨ k < 0 ∨ ¬ k < 1024 then (-1, V, P)
  else (mByte ((mLook V P b).2.2 (80 + (mLook V P b).1)) k, (mLook V P b).2)
def mTakes (V : VV) (b : Int32) : Int32 := match mRow V b with
  | some i => if V (232 + i) 4 = 0 then (if 10 ≤ mCnt V 4 then 0 else 1) else 1
  | none => if 10 ≤ mCnt V 4 then 0 else 1
def mMark (V : VV) (i : Nat) : VV := v2 (v2 V (232 + i) 3 1) (232 + i) 4 1
def mFill (V P : VV) (b k n v : Int32) : Int32 × VV × VV :=
  if V 267 1 = 0 ∨ V 266 4 = 0 ∨ ¬ mIsBlock V b ∨ ¬ mIsRun k n ∨ mTakes V b = 0 then (0, V, P)
  else (1, mMark (mLook V P b).2.1 (mLook V P b).1, p1 (mLook V P b).2.2 (80 + (mLook V P b).1) (mPut ((mLook V P b).2.2 (80 + (mLook V P b).1)) k n v))
def mCut (V P : VV) (k : Int32) : Int32 × VV × VV := if V 267 1 = 0 then (0, V, P) else (1, v2 V 267 2 k, P)
def mPower (V P : VV) (k : Int32) : Int32 × VV × VV := if V 267 1 = 0 then mHome (v2 (v2 V 267 1 1) 267 2 k) P else (-1, V, P)
def mCount (V : VV) (w : Int32) : Int32 :=
  if w = 0 then (if V 267 1 = 0 then 0 else 1)
  else if w = 1 then V 266 0
  else if w = 2 then mCnt V 3
  else if w = 3 then (if V 266 4 = 0 then -1 else mCnt V 4)
  else if w = 4 then V 267 3
  else if w = 5 then V 268 2
  else if w = 6 then V 269 2
  else -1
def mHeld (V : VV) (b : Int32) : Int32 :=
  if V 267 1 = 0 ∨ ¬ mIsBlock V b then 0 else match mRow V b with
  | some i => if V (232 + i) 3 = 0 then 0 else 1
  | none => 0
def mCached (V : VV) (b : Int32) : Int32 := if V 267 1 = 0 ∨ ¬ mIsBlock V b then 0 else match mRow V b with
  | some _ => 1
  | none => 0
/-! THE REFERENCE (name 272: thrown 0, blocks 1, time 7, on 8, whether a step is under way 9, left 10, writes 11, reads 12, commits 13, unended 14; its arrays 273 safe, 274 now, 275 held, 276 changed, 277 stamp) -/
abbrev rIsBlock (V : VV) (b : Int32) : Prop := ¬ b < 0 ∧ ¬ V 272 1 ≤ b ∧ (b < 2 ∨ ¬ b ≤ 32)
def cM (f : Nat → Int32) : Nat → Nat → Int32 → Int32
  | 0, _, a => a
  | n + 1, k, a => cM f n (k + 1) (if f k = 0 then a + 0 else a + 1)
def rMany (f : Nat → Int32) : Int32 := cM f 80 0 0
def r0 (V : VV) : VV := v2 V 272 0 0
def zF (f : Nat → Int32) (i : Nat) : Nat → Int32 := fun j => if j < i then 0 else f j
def rWritten (V : VV) (n : Int32) : Int32 × VV :=
  if V 272 10 < 0 then (1, v2 (v2 V 272 11 (V 272 11 + n)) 272 10 (V 272 10))
  else if V 272 10 < n then (0, v2 (v2 (v2 V 272 11 (V 272 11 + V 272 10)) 272 10 (-1)) 272 8 0)
  else (1, v2 (v2 V 272 11 (V 272 11 + n)) 272 10 (V 272 10 - n))
def rEnded (V : VV) : Int32 × VV := ((rWritten V (V 272 14 + 1)).1, v2 (rWritten V (V 272 14 + 1)).2 272 14 (if (rWritten V (V 272 14 + 1)).1 = 0 then (rWritten V (V 272 14 + 1)).2 272 14 else -1))
def rSafe (P : VV) (i : Nat) : Nat → Int32 := fun j => if j < 1024 * i ∧ ¬ P 275 (j / 1024) = 0 then P 274 j else P 273 j
def rP (P : VV) (i : Nat) : VV := p1 (p1 P 273 (rSafe P i)) 275 (zF (P 275) i)
def rCommit2 (V P : VV) (n : Int32) : Int32 × VV × VV := ((rEnded (v2 (v2 V 272 13 (V 272 13 + 1)) 272 14 n)).1, (rEnded (v2 (v2 V 272 13 (V 272 13 + 1)) 272 14 n)).2, rP P (V 272 1).toNatClampNeg)
def rCommit (V P : VV) : Int32 × VV × VV := if (rWritten V (rMany (P 275) + 1)).1 = 0 then (0, (rWritten V (rMany (P 275) + 1)).2, P) else rCommit2 (rWritten V (rMany (P 275) + 1)).2 P (rMany (P 275))
def rBegin (V P : VV) : Int32 × VV × VV := if V 272 8 = 0 ∨ ¬ V 272 9 = 0 then (0, r0 V, P) else (1, v2 (r0 V) 272 9 1, p1 P 276 (zF (P 276) 80))
def rShut (V : VV) : VV := v2 (r0 V) 272 9 0
def rEnd (V P : VV) : Int32 × VV × VV :=
  if V 272 8 = 0 ∨ V 272 9 = 0 then (-1, r0 V, P)
  else if 20 < rMany (P 275) then (if (rCommit (rShut V) P).1 = 0 then -1 else 0, (rCommit (rShut V) P).2)
  else (rMany (P 275), rShut V, P)
def rFlush (V P : VV) : Int32 × VV × VV :=
  if V 272 8 = 0 ∨ ¬ V 272 9 = 0 then (-1, r0 V, P)
  else if rMany (P 275) = 0 then (rMany (P 275), r0 V, P)
  else (if (rCommit (r0 V) P).1 = 0 then -1 else rMany (P 275), (rCommit (r0 V) P).2)
/-- the scan of look: how many blocks are in the cache, and the oldest that isn't held (-1: none) -/
def lkL (st hd : Nat → Int32) : Nat → Nat → Int32 → Int32 → Int32 × Int32
  | 0, _, r, o => (r, o)
  | n + 1, k, r, o => lkL st hd n (k + 1) (if st k ≤ 0 then r + 0 else r + 1) (if st k ≤ 0 ∨ ¬ hd k = 0 ∨ (¬ o < 0 ∧ st o.toNatClampNeg ≤ st k) then o else nI k)
def rScan (V P : VV) : Int32 × Int32 := lkL (P 277) (P 275) (V 272 1).toNatClampNeg 0 0 (-1)
def rStamp (V P : VV) (b : Nat) : VV := p1 P 277 (upd (P 277) b (V 272 7 + 1))
def rTick (V : VV) : VV := v2 V 272 7 (V 272 7 + 1)
def rEvict (V P : VV) : VV := if (rScan V P).1 = 34 then p1 P 277 (upd (P 277) (rScan V P).2.toNatClampNeg 0) else P
def rLook (V P : VV) (b : Nat) : VV × VV := if P 277 b = 0 then (rTick (v2 V 272 12 (V 272 12 + 1)), rStamp V (rEvict V P) b) else (rTick V, rStamp V P b)
def rGet (V P : VV) (b k : Int32) : Int32 × VV × VV :=
  if V 272 8 = 0 ∨ ¬ rIsBlock V b ∨ k < 0 ∨ ¬ k ≤ 1023 then (-1, r0 V, P)
  else (P 274 (1024 * b.toNatClampNeg + k.toNatClampNeg) &&& 255, rLook (r0 V) P b.toNatClampNeg)
def rFillP (P : VV) (b k n : Nat) (v : Int32) : VV := p1 (p1 (p1 P 276 (upd (P 276) b 1)) 275 (upd (P 275) b 1)) 274 (mRun (P 274) (1024 * b + k) v n)
def rFill (V P : VV) (b k n v : Int32) : Int32 × VV × VV :=
  if V 272 8 = 0 ∨ V 272 9 = 0 ∨ ¬ rIsBlock V b ∨ ¬ mIsRun k n ∨ (P 276 b.toNatClampNeg = 0 ∧ rMany (P 276) = 10) then (0, r0 V, P)
  else (1, (rLook (r0 V) P b.toNatClampNeg).1, rFillP (rLook (r0 V) P b.toNatClampNeg).2 b.toNatClampNeg k.toNatClampNeg n.toNatClampNeg v)
def rLeft (k : Int32) : Int32 := if 0 ≤ k then k else -1
def rCut (V P : VV) (k : Int32) : Int32 × VV × VV := if V 272 8 = 0 then (0, r0 V, P) else (1, v2 (r0 V) 272 10 (rLeft k), P)
def rBackV (V : VV) (k : Int32) : VV := v2 (v2 (v2 (r0 V) 272 8 1) 272 9 0) 272 10 (rLeft k)
def rNow (P : VV) (i : Nat) : Nat → Int32 := fun j => if j < i then P 273 j else P 274 j
def rBackP (P : VV) : VV := p1 (p1 (p1 P 274 (rNow P 81920)) 275 (zF (P 275) 80)) 277 (zF (P 277) 80)
def rPower (V P : VV) (k : Int32) : Int32 × VV × VV :=
  if V 272 8 = 0 then (if V 272 14 < 0 then (0, rBackV V k, rBackP P) else (if (rEnded (rBackV V k)).1 = 0 then -1 else V 272 14, (rEnded (rBackV V k)).2, rBackP P))
  else (-1, r0 V, P)
def rCount (V P : VV) (w : Int32) : Int32 :=
  if w = 0 then (if V 272 8 = 0 then 0 else 1)
  else if w = 1 then V 272 1
  else if w = 2 then (if V 272 8 = 0 then 0 else rMany (P 275))
  else if w = 3 then (if V 272 8 = 0 ∨ V 272 9 = 0 then -1 else rMany (P 276))
  else if w = 4 then V 272 11
  else if w = 5 then V 272 12
  else if w = 6 then V 272 13
  else -1
def rHeld (V P : VV) (b : Int32) : Int32 := if V 272 8 = 0 ∨ ¬ rIsBlock V b ∨ P 275 b.toNatClampNeg = 0 then 0 else 1
def rCached (V P : VV) (b : Int32) : Int32 := if V 272 8 = 0 ∨ ¬ rIsBlock V b ∨ P 277 b.toNatClampNeg ≤ 0 then 0 else 1
end
section
/-! COUNTING, SEARCHING: pure -/
def cU (q : Nat → Bool) : Nat → Nat → Nat
  | 0, _ => 0
  | n + 1, i => (q i).toNat + cU q n (i + 1)
theorem cU_congr {q q' : Nat → Bool} : ∀ (n i : Nat), (∀ j, i ≤ j → j < i + n → q j = q' j) → cU q n i = cU q' n i
  | 0, _, _ => rfl
  | n + 1, i, h => by
    simp only [cU]
    rw [h i (Nat.le_refl i) (by omega), cU_congr n (i + 1) (fun j h1 h2 => h j (by omega) (by omega))]
theorem cU_le (q : Nat → Bool) : ∀ (n i : Nat), cU q n i ≤ n
  | 0, _ => Nat.le_refl _
  | n + 1, i => by
    have := cU_le q n (i + 1)
    have h2 : (q i).toNat ≤ 1 := Bool.toNat_le _
    simp only [cU]
    omega
theorem cU_zero {q : Nat → Bool} : ∀ (n i : Nat), (∀ j, i ≤ j → j < i + n → q j = false) → cU q n i = 0
  | 0, _, _ => rfl
  | n + 1, i, h => by
    simp only [cU]
    rw [h i (Nat.le_refl i) (by omega), cU_zero n (i + 1) (fun j h1 h2 => h j (by omega) (by omega))]
    rfl
theorem cU_zero' {q : Nat → Bool} : ∀ (n i : Nat), cU q n i = 0 → ∀ j, i ≤ j → j < i + n → q j = false
  | 0, i, _, j, h1, h2 => by omega
  | n + 1, i, h, j, h1, h2 => by
    simp only [cU] at h
    by_cases e : j = i
    · subst e
      cases hq : q j with
      | false => rfl
      | true =>
        rw [hq] at h
        simp only [Bool.toNat_true] at h
        omega
    · exact cU_zero' n (i + 1) (by omega) j (by omega) (by omega)
theorem cU_full {q : Nat → Bool} : ∀ (n i : Nat), cU q n i = n → ∀ j, i ≤ j → j < i + n → q j = true
  | 0, i, _, j, h1, h2 => by omega
  | n + 1, i, h, j, h1, h2 => by
    simp only [cU] at h
    have h3 := cU_le q n (i + 1)
    have h4 : (q i).toNat ≤ 1 := Bool.toNat_le _
    by_cases e : j = i
    · subst e
      cases hq : q j with
      | true => rfl
      | false =>
        rw [hq] at h
        simp only [Bool.toNat_false] at h
        omega
    · exact cU_full n (i + 1) (by omega) j (by omega) (by omega)
/-- one place changed -/
theorem cU_set {q q' : Nat → Bool} {x : Nat} : ∀ (n i : Nat), i ≤ x → x < i + n → (∀ j, i ≤ j → j < i + n → j ≠ x → q' j = q j) → cU q' n i + (q x).toNat = cU q n i + (q' x).toNat
  | 0, i, h1, h2, _ => by omega
  | n + 1, i, h1, h2, h => by
    simp only [cU]
    by_cases e : i = x
    · subst e
      rw [cU_congr (q := q') (q' := q) n (i + 1) (fun j h3 h4 => h j (by omega) (by omega) (by omega))]
      omega
    · rw [h i (Nat.le_refl i) (by omega) e]
      have := cU_set (q := q) (q' := q') n (i + 1) (by omega) (by omega) (fun j h3 h4 h5 => h j (by omega) (by omega) h5)
      omega
theorem cU_sub {q q' : Nat → Bool} : ∀ (n i : Nat), (∀ j, i ≤ j → j < i + n → q j = true → q' j = true) → cU q n i ≤ cU q' n i
  | 0, _, _ => Nat.le_refl _
  | n + 1, i, h => by
    simp only [cU]
    have h1 := cU_sub (q := q) (q' := q') n (i + 1) (fun j h1 h2 => h j (by omega) (by omega))
    have h2 : (q i).toNat ≤ (q' i).toNat := by
      cases hq : q i with
      | false => simp
      | true => rw [h i (Nat.le_refl i) (by omega) hq]; exact Nat.le_refl _
    omega
abbrev nz (f : Nat → Int32) : Nat → Bool := fun j => decide (¬ f j = 0)
abbrev hR (V : VV) (k : Nat) : Nat := cU (nz fun i => V (232 + i) k) 34 0
abbrev hB (f : Nat → Int32) : Nat := cU (nz f) 80 0
theorem cR_eq (V : VV) (k : Nat) : ∀ (n i : Nat) (a : Nat), cR V k n i (nI a) = nI (a + cU (nz fun i => V (232 + i) k) n i)
  | 0, _, a => rfl
  | n + 1, i, a => by
    simp only [cR, cU]
    by_cases h : V (232 + i) k = 0
    · rw [if_pos h, cR_eq V k n (i + 1) a]
      simp [nz, h]
    · rw [if_neg h, nI_1, cR_eq V k n (i + 1) (a + 1)]
      simp only [nz, h, not_false_eq_true, decide_true, Bool.toNat_true]
      congr 1
      omega
theorem mCnt_eq (V : VV) (k : Nat) : mCnt V k = nI (hR V k) := by
  have := cR_eq V k 34 0 0
  rw [nI_0, Nat.zero_add] at this
  exact this
theorem cM_eq (f : Nat → Int32) : ∀ (n i : Nat) (a : Nat), cM f n i (nI a) = nI (a + cU (nz f) n i)
  | 0, _, a => rfl
  | n + 1, i, a => by
    simp only [cM, cU]
    by_cases h : f i = 0
    · rw [if_pos h, Int32.add_zero, cM_eq f n (i + 1) a]
      simp [nz, h]
    · rw [if_neg h, nI_1, cM_eq f n (i + 1) (a + 1)]
      simp only [nz, h, not_false_eq_true, decide_true, Bool.toNat_true]
      congr 1
      omega
theorem rMany_eq (f : Nat → Int32) : rMany f = nI (hB f) := by
  have := cM_eq f 80 0 0
  rw [nI_0, Nat.zero_add] at this
  exact this
/-- the first place -/
theorem fd_some {q : Nat → Bool} : ∀ (n i x : Nat), fd q n i = some x → i ≤ x ∧ x < i + n ∧ q x = true
  | 0, _, _, h => by simp [fd] at h
  | n + 1, i, x, h => by
    simp only [fd] at h
    by_cases e : q i = true
    · rw [if_pos e] at h
      cases h
      exact ⟨Nat.le_refl _, by omega, e⟩
    · rw [if_neg e] at h
      obtain ⟨a, b, c⟩ := fd_some n (i + 1) x h
      exact ⟨by omega, by omega, c⟩
theorem fd_none {q : Nat → Bool} : ∀ (n i : Nat), fd q n i = none → ∀ j, i ≤ j → j < i + n → q j = false
  | 0, i, _, j, h1, h2 => by omega
  | n + 1, i, h, j, h1, h2 => by
    simp only [fd] at h
    by_cases e : q i = true
    · rw [if_pos e] at h
      cases h
    · rw [if_neg e] at h
      by_cases ej : j = i
      · subst ej
        exact Bool.eq_false_iff.mpr e
      · exact fd_none n (i + 1) h j (by omega) (by omega)
theorem mRow_some {V : VV} {b : Int32} {i : Nat} (h : mRow V b = some i) : i < 34 ∧ V (232 + i) 1 = b := by
  obtain ⟨-, h2, h3⟩ := fd_some 34 0 i h
  exact ⟨by omega, by simpa using h3⟩
theorem mRow_none {V : VV} {b : Int32} (h : mRow V b = none) {i : Nat} (hi : i < 34) : ¬ V (232 + i) 1 = b := by
  have := fd_none 34 0 h i (by omega) (by omega)
  simpa using this
theorem gL_lt (V : VV) : ∀ (n i f : Nat), f < 34 → i + n ≤ 34 → gL V n i f < 34
  | 0, _, f, h, _ => h
  | n + 1, i, f, h, h2 => by
    simp only [gL]
    by_cases e : mGW V i f = 0
    · rw [if_pos e]
      exact gL_lt V n (i + 1) f h (by omega)
    · rw [if_neg e]
      exact gL_lt V n (i + 1) i (by omega) (by omega)
theorem mGive_lt (V : VV) : mGive V < 34 := gL_lt V 34 0 0 (by omega) (by omega)
theorem mLook_lt (V P : VV) (b : Int32) : (mLook V P b).1 < 34 := by
  unfold mLook
  split
  · rename_i i h
    exact (mRow_some h).1
  · exact mGive_lt V
end
