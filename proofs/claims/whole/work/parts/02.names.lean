/-! names: classes, fields, codes, the tables' good words -/
abbrev R_D : String := "DiagramHouse$Diagrams"
def F_D : u_T := fun k => match k with
  | 0 => ("DiagramHouse$Diagrams", "functions", "LDiagramHouse$Functions;", true)
  | 1 => ("DiagramHouse$Diagrams", "nodes", "LDiagramHouse$Nodes;", true)
  | 2 => ("DiagramHouse$Diagrams", "drawing", "LDiagramHouse$Drawing;", true)
  | 3 => ("DiagramHouse$Diagrams", "trial", "LDiagramHouse$Trial;", true)
  | 4 => ("DiagramHouse$Diagrams", "order", "[I", true)
  | 5 => ("DiagramHouse$Diagrams", "roots", "[I", true)
  | 6 => ("DiagramHouse$Diagrams", "changed", "I", false)
  | 7 => ("DiagramHouse$Diagrams", "mates", "[I", true)
  | 8 => ("DiagramHouse$Diagrams", "matesKnown", "Z", false)
  | 9 => ("DiagramHouse$Diagrams", "turns", "[I", true)
  | 10 => ("DiagramHouse$Diagrams", "place", "I", false)
  | 11 => ("DiagramHouse$Diagrams", "best", "I", false)
  | _ => ("DiagramHouse$Diagrams", "leastSize", "I", false)
def tyc_D : Nat → FieldType := fun k => match k with
  | 0 => .object "DiagramHouse$Functions"
  | 1 => .object "DiagramHouse$Nodes"
  | 2 => .object "DiagramHouse$Drawing"
  | 3 => .object "DiagramHouse$Trial"
  | 4 => .array .int
  | 5 => .array .int
  | 6 => .int
  | 7 => .array .int
  | 8 => .boolean
  | 9 => .array .int
  | 10 => .int
  | 11 => .int
  | _ => .int
theorem nmc_D : ∀ a, a < 13 → ∀ b, b < 13 → a ≠ b → (F_D a).2.1 ≠ (F_D b).2.1 := by decide +kernel
theorem tyc_D_ok : ∀ k, k < 13 → parseFieldDescriptor (F_D k).2.2.1 = some (tyc_D k) := by decide +kernel
theorem bl_D : ∀ j, j < 13 → defaultValue (tyc_D j) = vp_V [.null, .null, .null, .null, .null, .null, .int 0, .null, .int 0, .null, .int 0, .int 0, .int 0] j := by decide +kernel
abbrev R_G : String := "DiagramHouse$Drawing"
def F_G : u_T := fun k => match k with
  | 0 => ("DiagramHouse$Drawing", "functions", "LDiagramHouse$Functions;", true)
  | 1 => ("DiagramHouse$Drawing", "nodes", "LDiagramHouse$Nodes;", true)
  | 2 => ("DiagramHouse$Drawing", "asking", "[I", true)
  | 3 => ("DiagramHouse$Drawing", "spots", "[I", true)
  | 4 => ("DiagramHouse$Drawing", "parts", "[I", true)
  | 5 => ("DiagramHouse$Drawing", "words", "[J", true)
  | 6 => ("DiagramHouse$Drawing", "wordParts", "[I", true)
  | 7 => ("DiagramHouse$Drawing", "fourParts", "[I", true)
  | 8 => ("DiagramHouse$Drawing", "bitOf", "[I", true)
  | _ => ("DiagramHouse$Drawing", "inputOf", "[I", true)
def tyc_G : Nat → FieldType := fun k => match k with
  | 0 => .object "DiagramHouse$Functions"
  | 1 => .object "DiagramHouse$Nodes"
  | 2 => .array .int
  | 3 => .array .int
  | 4 => .array .int
  | 5 => .array .long
  | 6 => .array .int
  | 7 => .array .int
  | 8 => .array .int
  | _ => .array .int
theorem nmc_G : ∀ a, a < 10 → ∀ b, b < 10 → a ≠ b → (F_G a).2.1 ≠ (F_G b).2.1 := by decide +kernel
theorem tyc_G_ok : ∀ k, k < 10 → parseFieldDescriptor (F_G k).2.2.1 = some (tyc_G k) := by decide +kernel
theorem bl_G : ∀ j, j < 10 → defaultValue (tyc_G j) = vp_V [.null, .null, .null, .null, .null, .null, .null, .null, .null, .null] j := by decide +kernel
abbrev R_F : String := "DiagramHouse$Functions"
def F_F : u_T := fun k => match k with
  | 0 => ("DiagramHouse$Functions", "rows", "[[J", true)
  | 1 => ("DiagramHouse$Functions", "mayUse", "[I", true)
  | 2 => ("DiagramHouse$Functions", "sure", "I", false)
  | 3 => ("DiagramHouse$Functions", "broad", "I", false)
  | _ => ("DiagramHouse$Functions", "spare", "[J", false)
def tyc_F : Nat → FieldType := fun k => match k with
  | 0 => .array (.array .long)
  | 1 => .array .int
  | 2 => .int
  | 3 => .int
  | _ => .array .long
theorem nmc_F : ∀ a, a < 5 → ∀ b, b < 5 → a ≠ b → (F_F a).2.1 ≠ (F_F b).2.1 := by decide +kernel
theorem tyc_F_ok : ∀ k, k < 5 → parseFieldDescriptor (F_F k).2.2.1 = some (tyc_F k) := by decide +kernel
theorem bl_F : ∀ j, j < 5 → defaultValue (tyc_F j) = vp_V [.null, .null, .int 0, .int 0, .null] j := by decide +kernel
abbrev R_N : String := "DiagramHouse$Nodes"
def F_N : u_T := fun k => match k with
  | 0 => ("DiagramHouse$Nodes", "nodes", "[I", false)
  | 1 => ("DiagramHouse$Nodes", "leading", "[I", false)
  | 2 => ("DiagramHouse$Nodes", "members", "[[I", true)
  | 3 => ("DiagramHouse$Nodes", "asks", "[I", true)
  | 4 => ("DiagramHouse$Nodes", "memberAt", "[I", false)
  | 5 => ("DiagramHouse$Nodes", "next", "[I", false)
  | 6 => ("DiagramHouse$Nodes", "heads", "[I", false)
  | 7 => ("DiagramHouse$Nodes", "headShift", "I", false)
  | 8 => ("DiagramHouse$Nodes", "free", "I", false)
  | 9 => ("DiagramHouse$Nodes", "fresh", "I", false)
  | 10 => ("DiagramHouse$Nodes", "size", "I", false)
  | 11 => ("DiagramHouse$Nodes", "seen", "[I", false)
  | _ => ("DiagramHouse$Nodes", "looks", "I", false)
def tyc_N : Nat → FieldType := fun k => match k with
  | 0 => .array .int
  | 1 => .array .int
  | 2 => .array (.array .int)
  | 3 => .array .int
  | 4 => .array .int
  | 5 => .array .int
  | 6 => .array .int
  | 7 => .int
  | 8 => .int
  | 9 => .int
  | 10 => .int
  | 11 => .array .int
  | _ => .int
theorem nmc_N : ∀ a, a < 13 → ∀ b, b < 13 → a ≠ b → (F_N a).2.1 ≠ (F_N b).2.1 := by decide +kernel
theorem tyc_N_ok : ∀ k, k < 13 → parseFieldDescriptor (F_N k).2.2.1 = some (tyc_N k) := by decide +kernel
theorem bl_N : ∀ j, j < 13 → defaultValue (tyc_N j) = vp_V [.null, .null, .null, .null, .null, .null, .null, .int 0, .int 0, .int 0, .int 0, .null, .int 0] j := by decide +kernel
abbrev R_T : String := "DiagramHouse$Trial"
def F_T : u_T := fun k => match k with
  | 0 => ("DiagramHouse$Trial", "nodes", "LDiagramHouse$Nodes;", true)
  | 1 => ("DiagramHouse$Trial", "first", "I", false)
  | 2 => ("DiagramHouse$Trial", "asks", "I", false)
  | 3 => ("DiagramHouse$Trial", "leading", "[I", false)
  | 4 => ("DiagramHouse$Trial", "marks", "[I", false)
  | 5 => ("DiagramHouse$Trial", "mark", "I", false)
  | 6 => ("DiagramHouse$Trial", "parts", "[I", false)
  | 7 => ("DiagramHouse$Trial", "next", "[I", false)
  | 8 => ("DiagramHouse$Trial", "heads", "[I", true)
  | _ => ("DiagramHouse$Trial", "places", "[I", true)
def tyc_T : Nat → FieldType := fun k => match k with
  | 0 => .object "DiagramHouse$Nodes"
  | 1 => .int
  | 2 => .int
  | 3 => .array .int
  | 4 => .array .int
  | 5 => .int
  | 6 => .array .int
  | 7 => .array .int
  | 8 => .array .int
  | _ => .array .int
theorem nmc_T : ∀ a, a < 10 → ∀ b, b < 10 → a ≠ b → (F_T a).2.1 ≠ (F_T b).2.1 := by decide +kernel
theorem tyc_T_ok : ∀ k, k < 10 → parseFieldDescriptor (F_T k).2.2.1 = some (tyc_T k) := by decide +kernel
theorem bl_T : ∀ j, j < 10 → defaultValue (tyc_T j) = vp_V [.null, .int 0, .int 0, .null, .null, .int 0, .null, .null, .null, .null] j := by decide +kernel
abbrev R_H : String := "DiagramHouse"
def F_H : u_T := fun k => match k with
  | 0 => ("DiagramHouse", "functions", "LDiagramHouse$Functions;", true)
  | _ => ("DiagramHouse", "diagrams", "LDiagramHouse$Diagrams;", true)
def tyc_H : Nat → FieldType := fun k => match k with
  | 0 => .object "DiagramHouse$Functions"
  | _ => .object "DiagramHouse$Diagrams"
theorem nmc_H : ∀ a, a < 2 → ∀ b, b < 2 → a ≠ b → (F_H a).2.1 ≠ (F_H b).2.1 := by decide +kernel
theorem tyc_H_ok : ∀ k, k < 2 → parseFieldDescriptor (F_H k).2.2.1 = some (tyc_H k) := by decide +kernel
theorem bl_H : ∀ j, j < 2 → defaultValue (tyc_H j) = vp_V [.null, .null] j := by decide +kernel
abbrev R_M : String := "DiagramHouseModel"
def F_M : u_T := fun k => match k with
  | 0 => ("DiagramHouseModel", "thrown", "I", false)
  | 1 => ("DiagramHouseModel", "tables", "[Z", true)
  | 2 => ("DiagramHouseModel", "made", "[Z", true)
  | 3 => ("DiagramHouseModel", "order", "[I", true)
  | 4 => ("DiagramHouseModel", "left", "[I", true)
  | 5 => ("DiagramHouseModel", "pairs", "I", false)
  | 6 => ("DiagramHouseModel", "lows", "[I", true)
  | 7 => ("DiagramHouseModel", "highs", "[I", true)
  | 8 => ("DiagramHouseModel", "slots", "[I", true)
  | 9 => ("DiagramHouseModel", "stamps", "[I", true)
  | 10 => ("DiagramHouseModel", "stamp", "I", false)
  | 11 => ("DiagramHouseModel", "questions", "[I", true)
  | 12 => ("DiagramHouseModel", "kept", "[I", true)
  | _ => ("DiagramHouseModel", "done", "[Z", true)
def tyc_M : Nat → FieldType := fun k => match k with
  | 0 => .int
  | 1 => .array .boolean
  | 2 => .array .boolean
  | 3 => .array .int
  | 4 => .array .int
  | 5 => .int
  | 6 => .array .int
  | 7 => .array .int
  | 8 => .array .int
  | 9 => .array .int
  | 10 => .int
  | 11 => .array .int
  | 12 => .array .int
  | _ => .array .boolean
theorem nmc_M : ∀ a, a < 14 → ∀ b, b < 14 → a ≠ b → (F_M a).2.1 ≠ (F_M b).2.1 := by decide +kernel
theorem tyc_M_ok : ∀ k, k < 14 → parseFieldDescriptor (F_M k).2.2.1 = some (tyc_M k) := by decide +kernel
theorem bl_M : ∀ j, j < 14 → defaultValue (tyc_M j) = vp_V [.int 0, .null, .null, .null, .null, .int 0, .null, .null, .null, .null, .int 0, .null, .null, .null] j := by decide +kernel
abbrev vwCl : List vw_C := [(R_D, F_D, 13), (R_G, F_G, 10), (R_F, F_F, 5), (R_N, F_N, 13), (R_T, F_T, 10), (R_H, F_H, 2), (R_M, F_M, 14)]
/-- the words of the tables that last -/
def xT : List Cond := lw_tbl.filter goodWord
theorem xt {i : Nat} {w : Cond} (h : tables_1[i]? = some w) (g : goodWord w = true) : w ∈ xT := List.mem_filter.mpr ⟨List.mem_append_right _ (List.mem_of_getElem? h), g⟩
theorem xtp {i : Nat} {w : Cond} (h : (k2_sels lw_privs)[i]? = some w) (g : goodWord w = true) : w ∈ xT := List.mem_filter.mpr ⟨List.mem_append_left _ (List.mem_of_getElem? h), g⟩
theorem xm {w c : Cond} (h : w ∈ xT) : w ∈ c :: xT := List.mem_cons_of_mem _ h
theorem xmu {ws : List Cond} {c : Cond} (h : ∀ w ∈ ws, w ∈ xT) : ∀ w ∈ ws, w ∈ c :: xT := fun w hw => List.mem_cons_of_mem _ (h w hw)
theorem xgood {w c : Cond} (h : c ∈ xT) : GoodIn (w :: xT) (c :: xT) := fun x hx => by
  rcases List.mem_cons.mp hx with e | e
  · subst e
    exact ⟨List.mem_cons_of_mem _ h, good_of_word (List.mem_filter.mp h).2⟩
  · exact ⟨List.mem_cons_of_mem _ e, good_of_word (List.mem_filter.mp e).2⟩
theorem wo_I : Cond.arrayOver (.array .int) ∈ lw_tbl := List.mem_append_right _ (List.mem_of_getElem? (i := 65) (by decide +kernel))
theorem wo_J : Cond.arrayOver (.array .long) ∈ lw_tbl := List.mem_append_right _ (List.mem_of_getElem? (i := 32) (by decide +kernel))
theorem x_innerI (c : ClassId) (k : Nat) : Jvm.Free.Multi.innerC c k (defaultValue .int) = vp_cell c (k, .inl (fun _ => 0)) := arrV_new c k _
theorem x_innerJ (c : ClassId) (k : Nat) : Jvm.Free.Multi.innerC c k (defaultValue .long) = vp_cell c (k, .inr (.inl (fun _ => 0))) := arrV_new c k _
theorem uws_D : ∀ w ∈ u_ws R_D F_D 13, w ∈ xT := by
  have h : ∀ w ∈ u_ws R_D F_D 13, w ∈ tables_1 ∧ goodWord w = true := by decide +kernel
  exact fun w hw => List.mem_filter.mpr ⟨List.mem_append_right _ (h w hw).1, (h w hw).2⟩
theorem uws_G : ∀ w ∈ u_ws R_G F_G 10, w ∈ xT := by
  have h : ∀ w ∈ u_ws R_G F_G 10, w ∈ tables_1 ∧ goodWord w = true := by decide +kernel
  exact fun w hw => List.mem_filter.mpr ⟨List.mem_append_right _ (h w hw).1, (h w hw).2⟩
theorem uws_F : ∀ w ∈ u_ws R_F F_F 5, w ∈ xT := by
  have h : ∀ w ∈ u_ws R_F F_F 5, w ∈ tables_1 ∧ goodWord w = true := by decide +kernel
  exact fun w hw => List.mem_filter.mpr ⟨List.mem_append_right _ (h w hw).1, (h w hw).2⟩
theorem uws_N : ∀ w ∈ u_ws R_N F_N 13, w ∈ xT := by
  have h : ∀ w ∈ u_ws R_N F_N 13, w ∈ tables_1 ∧ goodWord w = true := by decide +kernel
  exact fun w hw => List.mem_filter.mpr ⟨List.mem_append_right _ (h w hw).1, (h w hw).2⟩
theorem uws_T : ∀ w ∈ u_ws R_T F_T 10, w ∈ xT := by
  have h : ∀ w ∈ u_ws R_T F_T 10, w ∈ tables_1 ∧ goodWord w = true := by decide +kernel
  exact fun w hw => List.mem_filter.mpr ⟨List.mem_append_right _ (h w hw).1, (h w hw).2⟩
theorem uws_H : ∀ w ∈ u_ws R_H F_H 2, w ∈ xT := by
  have h : ∀ w ∈ u_ws R_H F_H 2, w ∈ tables_1 ∧ goodWord w = true := by decide +kernel
  exact fun w hw => List.mem_filter.mpr ⟨List.mem_append_right _ (h w hw).1, (h w hw).2⟩
theorem uws_M : ∀ w ∈ u_ws R_M F_M 14, w ∈ xT := by
  have h : ∀ w ∈ u_ws R_M F_M 14, w ∈ tables_1 ∧ goodWord w = true := by decide +kernel
  exact fun w hw => List.mem_filter.mpr ⟨List.mem_append_right _ (h w hw).1, (h w hw).2⟩
abbrev b_N_found : ByteArray := prog_5_method_6_code
abbrev y_N_found : MethodName := ⟨"DiagramHouse$Nodes", "found", "(I)I"⟩
abbrev ws_N_found : List Cond := Cond.code y_N_found b_N_found 4 (some .int) :: xT
abbrev b_N_enlist : ByteArray := prog_5_method_8_code
abbrev y_N_enlist : MethodName := ⟨"DiagramHouse$Nodes", "enlist", "(II)V"⟩
abbrev ws_N_enlist : List Cond := Cond.code y_N_enlist b_N_enlist 5 none :: xT
abbrev b_N_link : ByteArray := prog_5_method_9_code
abbrev y_N_link : MethodName := ⟨"DiagramHouse$Nodes", "link", "(I)V"⟩
abbrev ws_N_link : List Cond := Cond.code y_N_link b_N_link 3 none :: xT
abbrev b_T_link : ByteArray := prog_6_method_9_code
abbrev y_T_link : MethodName := ⟨"DiagramHouse$Trial", "link", "(III)V"⟩
abbrev ws_T_link : List Cond := Cond.code y_T_link b_T_link 7 none :: xT
