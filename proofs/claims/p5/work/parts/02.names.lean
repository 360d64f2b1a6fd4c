def gd_tbl : List Cond := lw_tbl.filter goodWord
theorem gd_good : GoodIn gd_tbl gd_tbl := fun w h => ⟨h, good_of_word (List.mem_filter.mp h).2⟩
def nx_tbl : List Cond := [(Jvm.Cond.methodLinkNest "CharOutlines" (9 : Nat) ({ cls := "CharOutlines$Bytes", name := "<init>", desc := "()V" } : Jvm.MethodName) "CharOutlines"), (Jvm.Cond.methodLinkNest "CharOutlines" (18 : Nat) ({ cls := "CharOutlines$Machine", name := "<init>", desc := "()V" } : Jvm.MethodName) "CharOutlines"), (Jvm.Cond.methodLinkNest "CharOutlines$Machine" (11 : Nat) ({ cls := "CharOutlines$Strings", name := "<init>", desc := "()V" } : Jvm.MethodName) "CharOutlines"), (Jvm.Cond.methodLinkNest "CharOutlines$Strings" (11 : Nat) ({ cls := "CharOutlines$Shelf", name := "<init>", desc := "()V" } : Jvm.MethodName) "CharOutlines"), (Jvm.Cond.methodLinkNest "CharOutlines$Shelf" (11 : Nat) ({ cls := "CharOutlines$Bytes", name := "<init>", desc := "()V" } : Jvm.MethodName) "CharOutlines"), (Jvm.Cond.methodLinkNest "CharOutlines$Machine" (20 : Nat) ({ cls := "CharOutlines$Values", name := "<init>", desc := "()V" } : Jvm.MethodName) "CharOutlines"), (Jvm.Cond.methodLinkNest "CharOutlines$Machine" (27 : Nat) ({ cls := "CharOutlines$Reckoning", name := "<init>", desc := "()V" } : Jvm.MethodName) "CharOutlines"), (Jvm.Cond.methodLinkNest "CharOutlines$Machine" (34 : Nat) ({ cls := "CharOutlines$Outline", name := "<init>", desc := "()V" } : Jvm.MethodName) "CharOutlines"), (Jvm.Cond.castable "java/lang/IndexOutOfBoundsException" "java/lang/IndexOutOfBoundsException"), (Jvm.Cond.declares ({ cls := "java/lang/RuntimeException", name := "<init>", desc := "()V" } : Jvm.MethodName)), (Jvm.Cond.declares ({ cls := "java/lang/RuntimeException", name := "<init>", desc := "(Ljava/lang/String;)V" } : Jvm.MethodName)), (Jvm.Cond.declares ({ cls := "java/lang/Exception", name := "<init>", desc := "()V" } : Jvm.MethodName)), (Jvm.Cond.declares ({ cls := "java/lang/Exception", name := "<init>", desc := "(Ljava/lang/String;)V" } : Jvm.MethodName)), (Jvm.Cond.declares ({ cls := "java/lang/Throwable", name := "<init>", desc := "()V" } : Jvm.MethodName)), (Jvm.Cond.declares ({ cls := "java/lang/Throwable", name := "<init>", desc := "(Ljava/lang/String;)V" } : Jvm.MethodName)), (Jvm.Cond.castable "java/lang/IllegalArgumentException" "java/lang/IllegalArgumentException")]
theorem nx_ok : NXok nx_tbl := by
  intro w hw
  simp only [nx_tbl, List.mem_cons, List.not_mem_nil, or_false] at hw
  rcases hw with rfl | rfl | rfl | rfl | rfl | rfl | rfl | rfl | rfl | rfl | rfl | rfl | rfl | rfl | rfl | rfl
  · exact Or.inl ⟨_, _, _, _, rfl⟩
  · exact Or.inl ⟨_, _, _, _, rfl⟩
  · exact Or.inl ⟨_, _, _, _, rfl⟩
  · exact Or.inl ⟨_, _, _, _, rfl⟩
  · exact Or.inl ⟨_, _, _, _, rfl⟩
  · exact Or.inl ⟨_, _, _, _, rfl⟩
  · exact Or.inl ⟨_, _, _, _, rfl⟩
  · exact Or.inl ⟨_, _, _, _, rfl⟩
  · exact Or.inr (Or.inr (Or.inr ⟨_, _, rfl⟩))
  · exact Or.inr (Or.inr (Or.inl ⟨_, rfl⟩))
  · exact Or.inr (Or.inr (Or.inl ⟨_, rfl⟩))
  · exact Or.inr (Or.inr (Or.inl ⟨_, rfl⟩))
  · exact Or.inr (Or.inr (Or.inl ⟨_, rfl⟩))
  · exact Or.inr (Or.inr (Or.inl ⟨_, rfl⟩))
  · exact Or.inr (Or.inr (Or.inl ⟨_, rfl⟩))
  · exact Or.inr (Or.inr (Or.inr ⟨_, _, rfl⟩))
set_option maxRecDepth 100000 in
theorem nx_in : ∀ w ∈ nx_tbl, w ∈ lw_tbl := by
  intro w hw
  simp only [nx_tbl, List.mem_cons, List.not_mem_nil, or_false] at hw
  rcases hw with rfl | rfl | rfl | rfl | rfl | rfl | rfl | rfl | rfl | rfl | rfl | rfl | rfl | rfl | rfl | rfl
  · exact List.mem_of_getElem? (i := 88) rfl
  · exact List.mem_of_getElem? (i := 102) rfl
  · exact List.mem_of_getElem? (i := 108) rfl
  · exact List.mem_of_getElem? (i := 114) rfl
  · exact List.mem_of_getElem? (i := 119) rfl
  · exact List.mem_of_getElem? (i := 155) rfl
  · exact List.mem_of_getElem? (i := 171) rfl
  · exact List.mem_of_getElem? (i := 181) rfl
  · exact List.mem_of_getElem? (i := 302) rfl
  · exact List.mem_of_getElem? (i := 303) rfl
  · exact List.mem_of_getElem? (i := 304) rfl
  · exact List.mem_of_getElem? (i := 305) rfl
  · exact List.mem_of_getElem? (i := 306) rfl
  · exact List.mem_of_getElem? (i := 307) rfl
  · exact List.mem_of_getElem? (i := 308) rfl
  · exact List.mem_of_getElem? (i := 368) rfl
abbrev TY (cB cI cJ : ClassId) : List (ClassId × FieldType) := [(cB, .byte), (cI, .int), (cJ, .long)]
abbrev R_By : String := "CharOutlines$Bytes"
def F_By : u_T := fun k => match k with
  | 0 => ("CharOutlines$Bytes", "room", "[B", false)
  | _ => ("CharOutlines$Bytes", "length", "I", false)
def t_By : Nat → FieldType := fun k => match k with
  | 0 => .array .byte
  | _ => .int
theorem n_By : ∀ a, a < 2 → ∀ b, b < 2 → a ≠ b → (F_By a).2.1 ≠ (F_By b).2.1 := by decide +kernel
theorem t_By_ok : ∀ k, k < 2 → parseFieldDescriptor (F_By k).2.2.1 = some (t_By k) := by decide +kernel
set_option maxRecDepth 100000 in
theorem i_By : ∀ w ∈ u_ws R_By F_By 2, w ∈ gd_tbl := by
  intro w hw
  obtain ⟨k, hk, rfl⟩ := List.mem_map.mp hw
  have hk : k < 2 := List.mem_range.mp hk
  match k, hk with
  | 0, _ => exact List.mem_filter.mpr ⟨List.mem_of_getElem? (i := 94) rfl, rfl⟩
  | 1, _ => exact List.mem_filter.mpr ⟨List.mem_of_getElem? (i := 96) rfl, rfl⟩
  | k + 2, h => exact absurd h (by omega)
set_option maxRecDepth 100000 in
theorem in_By : Cond.instantiable R_By 2 ∈ gd_tbl := List.mem_filter.mpr ⟨List.mem_of_getElem? (i := 87) rfl, rfl⟩
set_option maxRecDepth 100000 in
theorem ini_By : Cond.initialized R_By ∈ gd_tbl := List.mem_filter.mpr ⟨List.mem_of_getElem? (i := 61) rfl, rfl⟩
abbrev R_Sh : String := "CharOutlines$Shelf"
def F_Sh : u_T := fun k => match k with
  | 0 => ("CharOutlines$Shelf", "bytes", "LCharOutlines$Bytes;", true)
  | _ => ("CharOutlines$Shelf", "strings", "I", false)
def t_Sh : Nat → FieldType := fun k => match k with
  | 0 => .object "CharOutlines$Bytes"
  | _ => .int
theorem n_Sh : ∀ a, a < 2 → ∀ b, b < 2 → a ≠ b → (F_Sh a).2.1 ≠ (F_Sh b).2.1 := by decide +kernel
theorem t_Sh_ok : ∀ k, k < 2 → parseFieldDescriptor (F_Sh k).2.2.1 = some (t_Sh k) := by decide +kernel
set_option maxRecDepth 100000 in
theorem i_Sh : ∀ w ∈ u_ws R_Sh F_Sh 2, w ∈ gd_tbl := by
  intro w hw
  obtain ⟨k, hk, rfl⟩ := List.mem_map.mp hw
  have hk : k < 2 := List.mem_range.mp hk
  match k, hk with
  | 0, _ => exact List.mem_filter.mpr ⟨List.mem_of_getElem? (i := 122) rfl, rfl⟩
  | 1, _ => exact List.mem_filter.mpr ⟨List.mem_of_getElem? (i := 124) rfl, rfl⟩
  | k + 2, h => exact absurd h (by omega)
set_option maxRecDepth 100000 in
theorem in_Sh : Cond.instantiable R_Sh 2 ∈ gd_tbl := List.mem_filter.mpr ⟨List.mem_of_getElem? (i := 113) rfl, rfl⟩
set_option maxRecDepth 100000 in
theorem ini_Sh : Cond.initialized R_Sh ∈ gd_tbl := List.mem_filter.mpr ⟨List.mem_of_getElem? (i := 64) rfl, rfl⟩
abbrev R_St : String := "CharOutlines$Strings"
def F_St : u_T := fun k => match k with
  | 0 => ("CharOutlines$Strings", "programs", "LCharOutlines$Shelf;", true)
  | 1 => ("CharOutlines$Strings", "globals", "LCharOutlines$Shelf;", true)
  | 2 => ("CharOutlines$Strings", "locals", "LCharOutlines$Shelf;", true)
  | 3 => ("CharOutlines$Strings", "kinds", "[I", true)
  | 4 => ("CharOutlines$Strings", "places", "[I", true)
  | 5 => ("CharOutlines$Strings", "ends", "[I", true)
  | 6 => ("CharOutlines$Strings", "depth", "I", false)
  | _ => ("CharOutlines$Strings", "deepest", "I", false)
def t_St : Nat → FieldType := fun k => match k with
  | 0 => .object "CharOutlines$Shelf"
  | 1 => .object "CharOutlines$Shelf"
  | 2 => .object "CharOutlines$Shelf"
  | 3 => .array .int
  | 4 => .array .int
  | 5 => .array .int
  | 6 => .int
  | _ => .int
theorem n_St : ∀ a, a < 8 → ∀ b, b < 8 → a ≠ b → (F_St a).2.1 ≠ (F_St b).2.1 := by decide +kernel
theorem t_St_ok : ∀ k, k < 8 → parseFieldDescriptor (F_St k).2.2.1 = some (t_St k) := by decide +kernel
set_option maxRecDepth 100000 in
theorem i_St : ∀ w ∈ u_ws R_St F_St 8, w ∈ gd_tbl := by
  intro w hw
  obtain ⟨k, hk, rfl⟩ := List.mem_map.mp hw
  have hk : k < 8 := List.mem_range.mp hk
  match k, hk with
  | 0, _ => exact List.mem_filter.mpr ⟨List.mem_of_getElem? (i := 135) rfl, rfl⟩
  | 1, _ => exact List.mem_filter.mpr ⟨List.mem_of_getElem? (i := 137) rfl, rfl⟩
  | 2, _ => exact List.mem_filter.mpr ⟨List.mem_of_getElem? (i := 139) rfl, rfl⟩
  | 3, _ => exact List.mem_filter.mpr ⟨List.mem_of_getElem? (i := 141) rfl, rfl⟩
  | 4, _ => exact List.mem_filter.mpr ⟨List.mem_of_getElem? (i := 143) rfl, rfl⟩
  | 5, _ => exact List.mem_filter.mpr ⟨List.mem_of_getElem? (i := 145) rfl, rfl⟩
  | 6, _ => exact List.mem_filter.mpr ⟨List.mem_of_getElem? (i := 147) rfl, rfl⟩
  | 7, _ => exact List.mem_filter.mpr ⟨List.mem_of_getElem? (i := 149) rfl, rfl⟩
  | k + 8, h => exact absurd h (by omega)
set_option maxRecDepth 100000 in
theorem in_St : Cond.instantiable R_St 8 ∈ gd_tbl := List.mem_filter.mpr ⟨List.mem_of_getElem? (i := 107) rfl, rfl⟩
set_option maxRecDepth 100000 in
theorem ini_St : Cond.initialized R_St ∈ gd_tbl := List.mem_filter.mpr ⟨List.mem_of_getElem? (i := 63) rfl, rfl⟩
abbrev R_Va : String := "CharOutlines$Values"
def F_Va : u_T := fun k => match k with
  | 0 => ("CharOutlines$Values", "values", "[I", true)
  | 1 => ("CharOutlines$Values", "turned", "[I", true)
  | _ => ("CharOutlines$Values", "size", "I", false)
def t_Va : Nat → FieldType := fun k => match k with
  | 0 => .array .int
  | 1 => .array .int
  | _ => .int
theorem n_Va : ∀ a, a < 3 → ∀ b, b < 3 → a ≠ b → (F_Va a).2.1 ≠ (F_Va b).2.1 := by decide +kernel
theorem t_Va_ok : ∀ k, k < 3 → parseFieldDescriptor (F_Va k).2.2.1 = some (t_Va k) := by decide +kernel
set_option maxRecDepth 100000 in
theorem i_Va : ∀ w ∈ u_ws R_Va F_Va 3, w ∈ gd_tbl := by
  intro w hw
  obtain ⟨k, hk, rfl⟩ := List.mem_map.mp hw
  have hk : k < 3 := List.mem_range.mp hk
  match k, hk with
  | 0, _ => exact List.mem_filter.mpr ⟨List.mem_of_getElem? (i := 162) rfl, rfl⟩
  | 1, _ => exact List.mem_filter.mpr ⟨List.mem_of_getElem? (i := 164) rfl, rfl⟩
  | 2, _ => exact List.mem_filter.mpr ⟨List.mem_of_getElem? (i := 166) rfl, rfl⟩
  | k + 3, h => exact absurd h (by omega)
set_option maxRecDepth 100000 in
theorem in_Va : Cond.instantiable R_Va 3 ∈ gd_tbl := List.mem_filter.mpr ⟨List.mem_of_getElem? (i := 154) rfl, rfl⟩
set_option maxRecDepth 100000 in
theorem ini_Va : Cond.initialized R_Va ∈ gd_tbl := List.mem_filter.mpr ⟨List.mem_of_getElem? (i := 65) rfl, rfl⟩
abbrev R_Ou : String := "CharOutlines$Outline"
def F_Ou : u_T := fun k => match k with
  | 0 => ("CharOutlines$Outline", "room", "[I", false)
  | 1 => ("CharOutlines$Outline", "marks", "I", false)
  | 2 => ("CharOutlines$Outline", "x", "I", false)
  | _ => ("CharOutlines$Outline", "y", "I", false)
def t_Ou : Nat → FieldType := fun k => match k with
  | 0 => .array .int
  | 1 => .int
  | 2 => .int
  | _ => .int
theorem n_Ou : ∀ a, a < 4 → ∀ b, b < 4 → a ≠ b → (F_Ou a).2.1 ≠ (F_Ou b).2.1 := by decide +kernel
theorem t_Ou_ok : ∀ k, k < 4 → parseFieldDescriptor (F_Ou k).2.2.1 = some (t_Ou k) := by decide +kernel
set_option maxRecDepth 100000 in
theorem i_Ou : ∀ w ∈ u_ws R_Ou F_Ou 4, w ∈ gd_tbl := by
  intro w hw
  obtain ⟨k, hk, rfl⟩ := List.mem_map.mp hw
  have hk : k < 4 := List.mem_range.mp hk
  match k, hk with
  | 0, _ => exact List.mem_filter.mpr ⟨List.mem_of_getElem? (i := 189) rfl, rfl⟩
  | 1, _ => exact List.mem_filter.mpr ⟨List.mem_of_getElem? (i := 191) rfl, rfl⟩
  | 2, _ => exact List.mem_filter.mpr ⟨List.mem_of_getElem? (i := 193) rfl, rfl⟩
  | 3, _ => exact List.mem_filter.mpr ⟨List.mem_of_getElem? (i := 195) rfl, rfl⟩
  | k + 4, h => exact absurd h (by omega)
set_option maxRecDepth 100000 in
theorem in_Ou : Cond.instantiable R_Ou 4 ∈ gd_tbl := List.mem_filter.mpr ⟨List.mem_of_getElem? (i := 180) rfl, rfl⟩
set_option maxRecDepth 100000 in
theorem ini_Ou : Cond.initialized R_Ou ∈ gd_tbl := List.mem_filter.mpr ⟨List.mem_of_getElem? (i := 67) rfl, rfl⟩
abbrev R_Re : String := "CharOutlines$Reckoning"
def F_Re : u_T := fun k => match k with
  | _ => ("CharOutlines$Reckoning", "places", "[I", true)
def t_Re : Nat → FieldType := fun k => match k with
  | _ => .array .int
theorem n_Re : ∀ a, a < 1 → ∀ b, b < 1 → a ≠ b → (F_Re a).2.1 ≠ (F_Re b).2.1 := by decide +kernel
theorem t_Re_ok : ∀ k, k < 1 → parseFieldDescriptor (F_Re k).2.2.1 = some (t_Re k) := by decide +kernel
set_option maxRecDepth 100000 in
theorem i_Re : ∀ w ∈ u_ws R_Re F_Re 1, w ∈ gd_tbl := by
  intro w hw
  obtain ⟨k, hk, rfl⟩ := List.mem_map.mp hw
  have hk : k < 1 := List.mem_range.mp hk
  match k, hk with
  | 0, _ => exact List.mem_filter.mpr ⟨List.mem_of_getElem? (i := 176) rfl, rfl⟩
  | k + 1, h => exact absurd h (by omega)
set_option maxRecDepth 100000 in
theorem in_Re : Cond.instantiable R_Re 1 ∈ gd_tbl := List.mem_filter.mpr ⟨List.mem_of_getElem? (i := 170) rfl, rfl⟩
set_option maxRecDepth 100000 in
theorem ini_Re : Cond.initialized R_Re ∈ gd_tbl := List.mem_filter.mpr ⟨List.mem_of_getElem? (i := 66) rfl, rfl⟩
abbrev R_Ma : String := "CharOutlines$Machine"
def F_Ma : u_T := fun k => match k with
  | 0 => ("CharOutlines$Machine", "strings", "LCharOutlines$Strings;", true)
  | 1 => ("CharOutlines$Machine", "values", "LCharOutlines$Values;", true)
  | 2 => ("CharOutlines$Machine", "reckoning", "LCharOutlines$Reckoning;", true)
  | 3 => ("CharOutlines$Machine", "outline", "LCharOutlines$Outline;", true)
  | 4 => ("CharOutlines$Machine", "hasRun", "Z", false)
  | 5 => ("CharOutlines$Machine", "steps", "I", false)
  | 6 => ("CharOutlines$Machine", "hints", "I", false)
  | 7 => ("CharOutlines$Machine", "widthPassed", "Z", false)
  | 8 => ("CharOutlines$Machine", "widthTold", "Z", false)
  | 9 => ("CharOutlines$Machine", "width", "I", false)
  | _ => ("CharOutlines$Machine", "moved", "Z", false)
def t_Ma : Nat → FieldType := fun k => match k with
  | 0 => .object "CharOutlines$Strings"
  | 1 => .object "CharOutlines$Values"
  | 2 => .object "CharOutlines$Reckoning"
  | 3 => .object "CharOutlines$Outline"
  | 4 => .boolean
  | 5 => .int
  | 6 => .int
  | 7 => .boolean
  | 8 => .boolean
  | 9 => .int
  | _ => .boolean
theorem n_Ma : ∀ a, a < 11 → ∀ b, b < 11 → a ≠ b → (F_Ma a).2.1 ≠ (F_Ma b).2.1 := by decide +kernel
theorem t_Ma_ok : ∀ k, k < 11 → parseFieldDescriptor (F_Ma k).2.2.1 = some (t_Ma k) := by decide +kernel
set_option maxRecDepth 100000 in
theorem i_Ma : ∀ w ∈ u_ws R_Ma F_Ma 11, w ∈ gd_tbl := by
  intro w hw
  obtain ⟨k, hk, rfl⟩ := List.mem_map.mp hw
  have hk : k < 11 := List.mem_range.mp hk
  match k, hk with
  | 0, _ => exact List.mem_filter.mpr ⟨List.mem_of_getElem? (i := 209) rfl, rfl⟩
  | 1, _ => exact List.mem_filter.mpr ⟨List.mem_of_getElem? (i := 211) rfl, rfl⟩
  | 2, _ => exact List.mem_filter.mpr ⟨List.mem_of_getElem? (i := 213) rfl, rfl⟩
  | 3, _ => exact List.mem_filter.mpr ⟨List.mem_of_getElem? (i := 215) rfl, rfl⟩
  | 4, _ => exact List.mem_filter.mpr ⟨List.mem_of_getElem? (i := 217) rfl, rfl⟩
  | 5, _ => exact List.mem_filter.mpr ⟨List.mem_of_getElem? (i := 219) rfl, rfl⟩
  | 6, _ => exact List.mem_filter.mpr ⟨List.mem_of_getElem? (i := 221) rfl, rfl⟩
  | 7, _ => exact List.mem_filter.mpr ⟨List.mem_of_getElem? (i := 223) rfl, rfl⟩
  | 8, _ => exact List.mem_filter.mpr ⟨List.mem_of_getElem? (i := 225) rfl, rfl⟩
  | 9, _ => exact List.mem_filter.mpr ⟨List.mem_of_getElem? (i := 227) rfl, rfl⟩
  | 10, _ => exact List.mem_filter.mpr ⟨List.mem_of_getElem? (i := 229) rfl, rfl⟩
  | k + 11, h => exact absurd h (by omega)
set_option maxRecDepth 100000 in
theorem in_Ma : Cond.instantiable R_Ma 11 ∈ gd_tbl := List.mem_filter.mpr ⟨List.mem_of_getElem? (i := 101) rfl, rfl⟩
set_option maxRecDepth 100000 in
theorem ini_Ma : Cond.initialized R_Ma ∈ gd_tbl := List.mem_filter.mpr ⟨List.mem_of_getElem? (i := 62) rfl, rfl⟩
abbrev R_CO : String := "CharOutlines"
def F_CO : u_T := fun k => match k with
  | 0 => ("CharOutlines", "row", "LCharOutlines$Bytes;", true)
  | _ => ("CharOutlines", "machine", "LCharOutlines$Machine;", true)
def t_CO : Nat → FieldType := fun k => match k with
  | 0 => .object "CharOutlines$Bytes"
  | _ => .object "CharOutlines$Machine"
theorem n_CO : ∀ a, a < 2 → ∀ b, b < 2 → a ≠ b → (F_CO a).2.1 ≠ (F_CO b).2.1 := by decide +kernel
theorem t_CO_ok : ∀ k, k < 2 → parseFieldDescriptor (F_CO k).2.2.1 = some (t_CO k) := by decide +kernel
set_option maxRecDepth 100000 in
theorem i_CO : ∀ w ∈ u_ws R_CO F_CO 2, w ∈ gd_tbl := by
  intro w hw
  obtain ⟨k, hk, rfl⟩ := List.mem_map.mp hw
  have hk : k < 2 := List.mem_range.mp hk
  match k, hk with
  | 0, _ => exact List.mem_filter.mpr ⟨List.mem_of_getElem? (i := 234) rfl, rfl⟩
  | 1, _ => exact List.mem_filter.mpr ⟨List.mem_of_getElem? (i := 236) rfl, rfl⟩
  | k + 2, h => exact absurd h (by omega)
set_option maxRecDepth 100000 in
theorem in_CO : Cond.instantiable R_CO 2 ∈ gd_tbl := List.mem_filter.mpr ⟨List.mem_of_getElem? (i := 79) rfl, rfl⟩
set_option maxRecDepth 100000 in
theorem ini_CO : Cond.initialized R_CO ∈ gd_tbl := List.mem_filter.mpr ⟨List.mem_of_getElem? (i := 60) rfl, rfl⟩
abbrev R_Mo : String := "CharOutlinesModel"
def F_Mo : u_T := fun k => match k with
  | 0 => ("CharOutlinesModel", "fault", "I", false)
  | 1 => ("CharOutlinesModel", "size", "I", false)
  | 2 => ("CharOutlinesModel", "row", "[I", true)
  | 3 => ("CharOutlinesModel", "shelves", "[I", true)
  | 4 => ("CharOutlinesModel", "many", "[I", true)
  | 5 => ("CharOutlinesModel", "widths", "[I", true)
  | 6 => ("CharOutlinesModel", "marks", "I", false)
  | 7 => ("CharOutlinesModel", "mark", "[I", true)
  | 8 => ("CharOutlinesModel", "shown", "I", false)
  | 9 => ("CharOutlinesModel", "shownMark", "[I", true)
  | 10 => ("CharOutlinesModel", "wasRun", "Z", false)
  | 11 => ("CharOutlinesModel", "wrong", "I", false)
  | 12 => ("CharOutlinesModel", "ended", "Z", false)
  | 13 => ("CharOutlinesModel", "steps", "I", false)
  | 14 => ("CharOutlinesModel", "hints", "I", false)
  | 15 => ("CharOutlinesModel", "hasWidth", "Z", false)
  | 16 => ("CharOutlinesModel", "width", "I", false)
  | 17 => ("CharOutlinesModel", "first", "Z", false)
  | 18 => ("CharOutlinesModel", "moved", "Z", false)
  | 19 => ("CharOutlinesModel", "deepest", "I", false)
  | 20 => ("CharOutlinesModel", "x", "I", false)
  | 21 => ("CharOutlinesModel", "y", "I", false)
  | 22 => ("CharOutlinesModel", "top", "I", false)
  | 23 => ("CharOutlinesModel", "stack", "[I", true)
  | 24 => ("CharOutlinesModel", "places", "[I", true)
  | 25 => ("CharOutlinesModel", "depth", "I", false)
  | 26 => ("CharOutlinesModel", "kinds", "[I", true)
  | 27 => ("CharOutlinesModel", "ats", "[I", true)
  | _ => ("CharOutlinesModel", "ends", "[I", true)
def t_Mo : Nat → FieldType := fun k => match k with
  | 0 => .int
  | 1 => .int
  | 2 => .array .int
  | 3 => .array .int
  | 4 => .array .int
  | 5 => .array .int
  | 6 => .int
  | 7 => .array .int
  | 8 => .int
  | 9 => .array .int
  | 10 => .boolean
  | 11 => .int
  | 12 => .boolean
  | 13 => .int
  | 14 => .int
  | 15 => .boolean
  | 16 => .int
  | 17 => .boolean
  | 18 => .boolean
  | 19 => .int
  | 20 => .int
  | 21 => .int
  | 22 => .int
  | 23 => .array .int
  | 24 => .array .int
  | 25 => .int
  | 26 => .array .int
  | 27 => .array .int
  | _ => .array .int
theorem n_Mo : ∀ a, a < 29 → ∀ b, b < 29 → a ≠ b → (F_Mo a).2.1 ≠ (F_Mo b).2.1 := by decide +kernel
theorem t_Mo_ok : ∀ k, k < 29 → parseFieldDescriptor (F_Mo k).2.2.1 = some (t_Mo k) := by decide +kernel
set_option maxRecDepth 100000 in
theorem i_Mo : ∀ w ∈ u_ws R_Mo F_Mo 29, w ∈ gd_tbl := by
  intro w hw
  obtain ⟨k, hk, rfl⟩ := List.mem_map.mp hw
  have hk : k < 29 := List.mem_range.mp hk
  match k, hk with
  | 0, _ => exact List.mem_filter.mpr ⟨List.mem_of_getElem? (i := 780) rfl, rfl⟩
  | 1, _ => exact List.mem_filter.mpr ⟨List.mem_of_getElem? (i := 782) rfl, rfl⟩
  | 2, _ => exact List.mem_filter.mpr ⟨List.mem_of_getElem? (i := 784) rfl, rfl⟩
  | 3, _ => exact List.mem_filter.mpr ⟨List.mem_of_getElem? (i := 786) rfl, rfl⟩
  | 4, _ => exact List.mem_filter.mpr ⟨List.mem_of_getElem? (i := 788) rfl, rfl⟩
  | 5, _ => exact List.mem_filter.mpr ⟨List.mem_of_getElem? (i := 790) rfl, rfl⟩
  | 6, _ => exact List.mem_filter.mpr ⟨List.mem_of_getElem? (i := 792) rfl, rfl⟩
  | 7, _ => exact List.mem_filter.mpr ⟨List.mem_of_getElem? (i := 794) rfl, rfl⟩
  | 8, _ => exact List.mem_filter.mpr ⟨List.mem_of_getElem? (i := 796) rfl, rfl⟩
  | 9, _ => exact List.mem_filter.mpr ⟨List.mem_of_getElem? (i := 798) rfl, rfl⟩
  | 10, _ => exact List.mem_filter.mpr ⟨List.mem_of_getElem? (i := 800) rfl, rfl⟩
  | 11, _ => exact List.mem_filter.mpr ⟨List.mem_of_getElem? (i := 802) rfl, rfl⟩
  | 12, _ => exact List.mem_filter.mpr ⟨List.mem_of_getElem? (i := 804) rfl, rfl⟩
  | 13, _ => exact List.mem_filter.mpr ⟨List.mem_of_getElem? (i := 806) rfl, rfl⟩
  | 14, _ => exact List.mem_filter.mpr ⟨List.mem_of_getElem? (i := 808) rfl, rfl⟩
  | 15, _ => exact List.mem_filter.mpr ⟨List.mem_of_getElem? (i := 810) rfl, rfl⟩
  | 16, _ => exact List.mem_filter.mpr ⟨List.mem_of_getElem? (i := 812) rfl, rfl⟩
  | 17, _ => exact List.mem_filter.mpr ⟨List.mem_of_getElem? (i := 814) rfl, rfl⟩
  | 18, _ => exact List.mem_filter.mpr ⟨List.mem_of_getElem? (i := 816) rfl, rfl⟩
  | 19, _ => exact List.mem_filter.mpr ⟨List.mem_of_getElem? (i := 818) rfl, rfl⟩
  | 20, _ => exact List.mem_filter.mpr ⟨List.mem_of_getElem? (i := 820) rfl, rfl⟩
  | 21, _ => exact List.mem_filter.mpr ⟨List.mem_of_getElem? (i := 822) rfl, rfl⟩
  | 22, _ => exact List.mem_filter.mpr ⟨List.mem_of_getElem? (i := 824) rfl, rfl⟩
  | 23, _ => exact List.mem_filter.mpr ⟨List.mem_of_getElem? (i := 826) rfl, rfl⟩
  | 24, _ => exact List.mem_filter.mpr ⟨List.mem_of_getElem? (i := 828) rfl, rfl⟩
  | 25, _ => exact List.mem_filter.mpr ⟨List.mem_of_getElem? (i := 830) rfl, rfl⟩
  | 26, _ => exact List.mem_filter.mpr ⟨List.mem_of_getElem? (i := 832) rfl, rfl⟩
  | 27, _ => exact List.mem_filter.mpr ⟨List.mem_of_getElem? (i := 834) rfl, rfl⟩
  | 28, _ => exact List.mem_filter.mpr ⟨List.mem_of_getElem? (i := 836) rfl, rfl⟩
  | k + 29, h => exact absurd h (by omega)
set_option maxRecDepth 100000 in
theorem in_Mo : Cond.instantiable R_Mo 29 ∈ gd_tbl := List.mem_filter.mpr ⟨List.mem_of_getElem? (i := 745) rfl, rfl⟩
set_option maxRecDepth 100000 in
theorem ini_Mo : Cond.initialized R_Mo ∈ gd_tbl := List.mem_filter.mpr ⟨List.mem_of_getElem? (i := 68) rfl, rfl⟩
abbrev classes : List vw_C := [(R_By, F_By, 2), (R_Sh, F_Sh, 2), (R_St, F_St, 8), (R_Va, F_Va, 3), (R_Ou, F_Ou, 4), (R_Re, F_Re, 1), (R_Ma, F_Ma, 11), (R_CO, F_CO, 2), (R_Mo, F_Mo, 29)]
set_option maxRecDepth 100000 in
theorem ar_B : Cond.arrayClass .byte ∈ gd_tbl := List.mem_filter.mpr ⟨List.mem_of_getElem? (i := 99) rfl, rfl⟩
set_option maxRecDepth 100000 in
theorem ar_I : Cond.arrayClass .int ∈ gd_tbl := List.mem_filter.mpr ⟨List.mem_of_getElem? (i := 152) rfl, rfl⟩
set_option maxRecDepth 100000 in
theorem ar_J : Cond.arrayClass .long ∈ gd_tbl := List.mem_filter.mpr ⟨List.mem_of_getElem? (i := 1059) rfl, rfl⟩
abbrev R_La : String := "CharOutlinesLaw"
set_option maxRecDepth 100000 in
theorem im_objectInit : Cond.instanceMethod objectInit ∈ gd_tbl := List.mem_filter.mpr ⟨List.mem_of_getElem? (i := 84) rfl, rfl⟩
set_option maxRecDepth 100000 in
theorem co_objectInit : Cond.code objectInit ⟨#[0xb1]⟩ 1 none ∈ gd_tbl := List.mem_filter.mpr ⟨List.mem_of_getElem? (i := 85) rfl, rfl⟩
