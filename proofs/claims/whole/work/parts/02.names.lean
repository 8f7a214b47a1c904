/-! names, written by names.py out of the claim: classes, methods, decoded code, words by their places -/
def px_WA : List Cond := lw_tbl.filter goodWord
theorem px_mA {w : Cond} (h : w ∈ tables_1) (hg : goodWord w = true) : w ∈ px_WA := List.mem_filter.mpr ⟨List.mem_append_right _ h, hg⟩
theorem px_m1 {w : Cond} (i : Nat) (h : tables_1_1[i]? = some w) (hg : goodWord w = true := by rfl) : w ∈ px_WA := px_mA (List.mem_append_left _ (List.mem_of_getElem? h)) hg
theorem px_m2 {w : Cond} (i : Nat) (h : tables_1_2[i]? = some w) (hg : goodWord w = true := by rfl) : w ∈ px_WA := px_mA (List.mem_append_right _ (List.mem_append_left _ (List.mem_of_getElem? h))) hg
theorem px_m3 {w : Cond} (i : Nat) (h : tables_1_3[i]? = some w) (hg : goodWord w = true := by rfl) : w ∈ px_WA := px_mA (List.mem_append_right _ (List.mem_append_right _ (List.mem_append_left _ (List.mem_of_getElem? h)))) hg
theorem px_m4 {w : Cond} (i : Nat) (h : tables_1_4[i]? = some w) (hg : goodWord w = true := by rfl) : w ∈ px_WA := px_mA (List.mem_append_right _ (List.mem_append_right _ (List.mem_append_right _ (List.mem_append_left _ (List.mem_of_getElem? h))))) hg
theorem px_m5 {w : Cond} (i : Nat) (h : tables_1_5[i]? = some w) (hg : goodWord w = true := by rfl) : w ∈ px_WA := px_mA (List.mem_append_right _ (List.mem_append_right _ (List.mem_append_right _ (List.mem_append_right _ (List.mem_of_getElem? h))))) hg
theorem px_sel {q : MethodName × Nat} (h : q ∈ lw_privs) : Cond.selects q.1.cls q.1 q.1 ∈ px_WA := List.mem_filter.mpr ⟨List.mem_append_left _ (List.mem_map.mpr ⟨q, h, rfl⟩), rfl⟩
theorem px_gd : GoodIn px_WA px_WA := fun w hw => ⟨hw, good_of_word (List.mem_filter.mp hw).2⟩
theorem px_hts {args : Array Value} {s : State} (h : ∀ w ∈ lw_tbl, w.before args s = true) : ∀ w ∈ px_WA, w.before args s = true := fun w hw => h w (List.mem_filter.mp hw).1
def pT_PV : u_T := fun k => match k with
  | 0 => ("ParityVolume", "typed", "LParityVolume$Row;", true)
  | 1 => ("ParityVolume", "files", "[LParityVolume$Row;", true)
  | 2 => ("ParityVolume", "store", "LParityVolume$Row;", true)
  | 3 => ("ParityVolume", "slices", "LParityVolume$Slices;", true)
  | 4 => ("ParityVolume", "writer", "LParityVolume$Writer;", true)
  | 5 => ("ParityVolume", "catalog", "LParityVolume$Catalog;", true)
  | _ => ("ParityVolume", "mender", "LParityVolume$Mender;", true)
def pY_PV : Nat → FieldType := fun k => match k with
  | 0 => .object "ParityVolume$Row"
  | 1 => .array (.object "ParityVolume$Row")
  | 2 => .object "ParityVolume$Row"
  | 3 => .object "ParityVolume$Slices"
  | 4 => .object "ParityVolume$Writer"
  | 5 => .object "ParityVolume$Catalog"
  | _ => .object "ParityVolume$Mender"
theorem pN_PV : ∀ a, a < 7 → ∀ b, b < 7 → a ≠ b → (pT_PV a).2.1 ≠ (pT_PV b).2.1 := by decide +kernel
theorem pY_PV_ok : ∀ k, k < 7 → parseFieldDescriptor (pT_PV k).2.2.1 = some (pY_PV k) := by decide +kernel
theorem pW_PV : ∀ w ∈ u_ws "ParityVolume" pT_PV 7, w ∈ px_WA := List.forall_mem_cons.mpr ⟨px_m1 217 (by decide +kernel), List.forall_mem_cons.mpr ⟨px_m1 219 (by decide +kernel), List.forall_mem_cons.mpr ⟨px_m1 221 (by decide +kernel), List.forall_mem_cons.mpr ⟨px_m1 223 (by decide +kernel), List.forall_mem_cons.mpr ⟨px_m1 225 (by decide +kernel), List.forall_mem_cons.mpr ⟨px_m1 227 (by decide +kernel), List.forall_mem_cons.mpr ⟨px_m1 229 (by decide +kernel), fun _ h => absurd h List.not_mem_nil⟩⟩⟩⟩⟩⟩⟩
def pT_Row : u_T := fun k => match k with
  | 0 => ("ParityVolume$Row", "bytes", "[I", true)
  | _ => ("ParityVolume$Row", "count", "I", false)
def pY_Row : Nat → FieldType := fun k => match k with
  | 0 => .array .int
  | _ => .int
theorem pN_Row : ∀ a, a < 2 → ∀ b, b < 2 → a ≠ b → (pT_Row a).2.1 ≠ (pT_Row b).2.1 := by decide +kernel
theorem pY_Row_ok : ∀ k, k < 2 → parseFieldDescriptor (pT_Row k).2.2.1 = some (pY_Row k) := by decide +kernel
theorem pW_Row : ∀ w ∈ u_ws "ParityVolume$Row" pT_Row 2, w ∈ px_WA := List.forall_mem_cons.mpr ⟨px_m1 31 (by decide +kernel), List.forall_mem_cons.mpr ⟨px_m1 33 (by decide +kernel), fun _ h => absurd h List.not_mem_nil⟩⟩
def pT_Slices : u_T := fun k => match k with
  | 0 => ("ParityVolume$Slices", "content", "LParityVolume$Row;", true)
  | 1 => ("ParityVolume$Slices", "starts", "[I", true)
  | 2 => ("ParityVolume$Slices", "sizes", "[I", true)
  | 3 => ("ParityVolume$Slices", "weighed", "[I", true)
  | _ => ("ParityVolume$Slices", "fileCount", "I", false)
def pY_Slices : Nat → FieldType := fun k => match k with
  | 0 => .object "ParityVolume$Row"
  | 1 => .array .int
  | 2 => .array .int
  | 3 => .array .int
  | _ => .int
theorem pN_Slices : ∀ a, a < 5 → ∀ b, b < 5 → a ≠ b → (pT_Slices a).2.1 ≠ (pT_Slices b).2.1 := by decide +kernel
theorem pY_Slices_ok : ∀ k, k < 5 → parseFieldDescriptor (pT_Slices k).2.2.1 = some (pY_Slices k) := by decide +kernel
theorem pW_Slices : ∀ w ∈ u_ws "ParityVolume$Slices" pT_Slices 5, w ∈ px_WA := List.forall_mem_cons.mpr ⟨px_m1 51 (by decide +kernel), List.forall_mem_cons.mpr ⟨px_m1 53 (by decide +kernel), List.forall_mem_cons.mpr ⟨px_m1 55 (by decide +kernel), List.forall_mem_cons.mpr ⟨px_m1 57 (by decide +kernel), List.forall_mem_cons.mpr ⟨px_m1 59 (by decide +kernel), fun _ h => absurd h List.not_mem_nil⟩⟩⟩⟩⟩
def pT_Sum : u_T := fun k => match k with
  | 0 => ("ParityVolume$Sum", "message", "[I", true)
  | 1 => ("ParityVolume$Sum", "words", "[I", true)
  | 2 => ("ParityVolume$Sum", "state", "[I", true)
  | _ => ("ParityVolume$Sum", "count", "I", false)
def pY_Sum : Nat → FieldType := fun k => match k with
  | 0 => .array .int
  | 1 => .array .int
  | 2 => .array .int
  | _ => .int
theorem pN_Sum : ∀ a, a < 4 → ∀ b, b < 4 → a ≠ b → (pT_Sum a).2.1 ≠ (pT_Sum b).2.1 := by decide +kernel
theorem pY_Sum_ok : ∀ k, k < 4 → parseFieldDescriptor (pT_Sum k).2.2.1 = some (pY_Sum k) := by decide +kernel
theorem pW_Sum : ∀ w ∈ u_ws "ParityVolume$Sum" pT_Sum 4, w ∈ px_WA := List.forall_mem_cons.mpr ⟨px_m1 72 (by decide +kernel), List.forall_mem_cons.mpr ⟨px_m1 74 (by decide +kernel), List.forall_mem_cons.mpr ⟨px_m1 76 (by decide +kernel), List.forall_mem_cons.mpr ⟨px_m1 78 (by decide +kernel), fun _ h => absurd h List.not_mem_nil⟩⟩⟩⟩
def pT_Packets : u_T := fun k => match k with
  | 0 => ("ParityVolume$Packets", "row", "LParityVolume$Row;", true)
  | 1 => ("ParityVolume$Packets", "sum", "LParityVolume$Sum;", true)
  | _ => ("ParityVolume$Packets", "openAt", "I", false)
def pY_Packets : Nat → FieldType := fun k => match k with
  | 0 => .object "ParityVolume$Row"
  | 1 => .object "ParityVolume$Sum"
  | _ => .int
theorem pN_Packets : ∀ a, a < 3 → ∀ b, b < 3 → a ≠ b → (pT_Packets a).2.1 ≠ (pT_Packets b).2.1 := by decide +kernel
theorem pY_Packets_ok : ∀ k, k < 3 → parseFieldDescriptor (pT_Packets k).2.2.1 = some (pY_Packets k) := by decide +kernel
theorem pW_Packets : ∀ w ∈ u_ws "ParityVolume$Packets" pT_Packets 3, w ∈ px_WA := List.forall_mem_cons.mpr ⟨px_m1 90 (by decide +kernel), List.forall_mem_cons.mpr ⟨px_m1 92 (by decide +kernel), List.forall_mem_cons.mpr ⟨px_m1 94 (by decide +kernel), fun _ h => absurd h List.not_mem_nil⟩⟩⟩
def pT_Writer : u_T := fun k => match k with
  | 0 => ("ParityVolume$Writer", "packets", "LParityVolume$Packets;", true)
  | 1 => ("ParityVolume$Writer", "row", "LParityVolume$Row;", true)
  | 2 => ("ParityVolume$Writer", "slices", "LParityVolume$Slices;", true)
  | _ => ("ParityVolume$Writer", "sum", "LParityVolume$Sum;", true)
def pY_Writer : Nat → FieldType := fun k => match k with
  | 0 => .object "ParityVolume$Packets"
  | 1 => .object "ParityVolume$Row"
  | 2 => .object "ParityVolume$Slices"
  | _ => .object "ParityVolume$Sum"
theorem pN_Writer : ∀ a, a < 4 → ∀ b, b < 4 → a ≠ b → (pT_Writer a).2.1 ≠ (pT_Writer b).2.1 := by decide +kernel
theorem pY_Writer_ok : ∀ k, k < 4 → parseFieldDescriptor (pT_Writer k).2.2.1 = some (pY_Writer k) := by decide +kernel
theorem pW_Writer : ∀ w ∈ u_ws "ParityVolume$Writer" pT_Writer 4, w ∈ px_WA := List.forall_mem_cons.mpr ⟨px_m1 111 (by decide +kernel), List.forall_mem_cons.mpr ⟨px_m1 113 (by decide +kernel), List.forall_mem_cons.mpr ⟨px_m1 115 (by decide +kernel), List.forall_mem_cons.mpr ⟨px_m1 117 (by decide +kernel), fun _ h => absurd h List.not_mem_nil⟩⟩⟩⟩
def pT_Catalog : u_T := fun k => match k with
  | 0 => ("ParityVolume$Catalog", "packets", "LParityVolume$Packets;", true)
  | 1 => ("ParityVolume$Catalog", "row", "LParityVolume$Row;", true)
  | 2 => ("ParityVolume$Catalog", "sum", "LParityVolume$Sum;", true)
  | 3 => ("ParityVolume$Catalog", "found", "[I", true)
  | 4 => ("ParityVolume$Catalog", "fileBodies", "[I", true)
  | 5 => ("ParityVolume$Catalog", "checksBodies", "[I", true)
  | 6 => ("ParityVolume$Catalog", "recoveryBodies", "[I", true)
  | 7 => ("ParityVolume$Catalog", "foundCount", "I", false)
  | 8 => ("ParityVolume$Catalog", "mainPlace", "I", false)
  | 9 => ("ParityVolume$Catalog", "counted", "I", false)
  | _ => ("ParityVolume$Catalog", "recoveries", "I", false)
def pY_Catalog : Nat → FieldType := fun k => match k with
  | 0 => .object "ParityVolume$Packets"
  | 1 => .object "ParityVolume$Row"
  | 2 => .object "ParityVolume$Sum"
  | 3 => .array .int
  | 4 => .array .int
  | 5 => .array .int
  | 6 => .array .int
  | 7 => .int
  | 8 => .int
  | 9 => .int
  | _ => .int
theorem pN_Catalog : ∀ a, a < 11 → ∀ b, b < 11 → a ≠ b → (pT_Catalog a).2.1 ≠ (pT_Catalog b).2.1 := by decide +kernel
theorem pY_Catalog_ok : ∀ k, k < 11 → parseFieldDescriptor (pT_Catalog k).2.2.1 = some (pY_Catalog k) := by decide +kernel
theorem pW_Catalog : ∀ w ∈ u_ws "ParityVolume$Catalog" pT_Catalog 11, w ∈ px_WA := List.forall_mem_cons.mpr ⟨px_m1 138 (by decide +kernel), List.forall_mem_cons.mpr ⟨px_m1 140 (by decide +kernel), List.forall_mem_cons.mpr ⟨px_m1 142 (by decide +kernel), List.forall_mem_cons.mpr ⟨px_m1 144 (by decide +kernel), List.forall_mem_cons.mpr ⟨px_m1 146 (by decide +kernel), List.forall_mem_cons.mpr ⟨px_m1 148 (by decide +kernel), List.forall_mem_cons.mpr ⟨px_m1 150 (by decide +kernel), List.forall_mem_cons.mpr ⟨px_m1 152 (by decide +kernel), List.forall_mem_cons.mpr ⟨px_m1 154 (by decide +kernel), List.forall_mem_cons.mpr ⟨px_m1 156 (by decide +kernel), List.forall_mem_cons.mpr ⟨px_m1 158 (by decide +kernel), fun _ h => absurd h List.not_mem_nil⟩⟩⟩⟩⟩⟩⟩⟩⟩⟩⟩
def pT_Mender : u_T := fun k => match k with
  | 0 => ("ParityVolume$Mender", "catalog", "LParityVolume$Catalog;", true)
  | 1 => ("ParityVolume$Mender", "slices", "LParityVolume$Slices;", true)
  | 2 => ("ParityVolume$Mender", "sum", "LParityVolume$Sum;", true)
  | 3 => ("ParityVolume$Mender", "equations", "LParityVolume$Equations;", true)
  | 4 => ("ParityVolume$Mender", "damaged", "[I", true)
  | 5 => ("ParityVolume$Mender", "damagedCount", "I", false)
  | _ => ("ParityVolume$Mender", "damagedBits", "I", false)
def pY_Mender : Nat → FieldType := fun k => match k with
  | 0 => .object "ParityVolume$Catalog"
  | 1 => .object "ParityVolume$Slices"
  | 2 => .object "ParityVolume$Sum"
  | 3 => .object "ParityVolume$Equations"
  | 4 => .array .int
  | 5 => .int
  | _ => .int
theorem pN_Mender : ∀ a, a < 7 → ∀ b, b < 7 → a ≠ b → (pT_Mender a).2.1 ≠ (pT_Mender b).2.1 := by decide +kernel
theorem pY_Mender_ok : ∀ k, k < 7 → parseFieldDescriptor (pT_Mender k).2.2.1 = some (pY_Mender k) := by decide +kernel
theorem pW_Mender : ∀ w ∈ u_ws "ParityVolume$Mender" pT_Mender 7, w ∈ px_WA := List.forall_mem_cons.mpr ⟨px_m1 195 (by decide +kernel), List.forall_mem_cons.mpr ⟨px_m1 197 (by decide +kernel), List.forall_mem_cons.mpr ⟨px_m1 199 (by decide +kernel), List.forall_mem_cons.mpr ⟨px_m1 201 (by decide +kernel), List.forall_mem_cons.mpr ⟨px_m1 203 (by decide +kernel), List.forall_mem_cons.mpr ⟨px_m1 205 (by decide +kernel), List.forall_mem_cons.mpr ⟨px_m1 207 (by decide +kernel), fun _ h => absurd h List.not_mem_nil⟩⟩⟩⟩⟩⟩⟩
def pT_Equations : u_T := fun k => match k with
  | 0 => ("ParityVolume$Equations", "rows", "[[I", true)
  | 1 => ("ParityVolume$Equations", "pivots", "[I", true)
  | 2 => ("ParityVolume$Equations", "unknowns", "I", false)
  | _ => ("ParityVolume$Equations", "taken", "I", false)
def pY_Equations : Nat → FieldType := fun k => match k with
  | 0 => .array (.array .int)
  | 1 => .array .int
  | 2 => .int
  | _ => .int
theorem pN_Equations : ∀ a, a < 4 → ∀ b, b < 4 → a ≠ b → (pT_Equations a).2.1 ≠ (pT_Equations b).2.1 := by decide +kernel
theorem pY_Equations_ok : ∀ k, k < 4 → parseFieldDescriptor (pT_Equations k).2.2.1 = some (pY_Equations k) := by decide +kernel
theorem pW_Equations : ∀ w ∈ u_ws "ParityVolume$Equations" pT_Equations 4, w ∈ px_WA := List.forall_mem_cons.mpr ⟨px_m1 179 (by decide +kernel), List.forall_mem_cons.mpr ⟨px_m1 181 (by decide +kernel), List.forall_mem_cons.mpr ⟨px_m1 183 (by decide +kernel), List.forall_mem_cons.mpr ⟨px_m1 185 (by decide +kernel), fun _ h => absurd h List.not_mem_nil⟩⟩⟩⟩
def pT_Mo : u_T := fun k => match k with
  | 0 => ("ParityVolumeModel", "k", "[I", true)
  | 1 => ("ParityVolumeModel", "powers", "[I", true)
  | 2 => ("ParityVolumeModel", "typed", "I", false)
  | 3 => ("ParityVolumeModel", "typing", "[I", true)
  | 4 => ("ParityVolumeModel", "files", "[I", true)
  | 5 => ("ParityVolumeModel", "sizes", "[I", true)
  | 6 => ("ParityVolumeModel", "size", "I", false)
  | 7 => ("ParityVolumeModel", "volume", "[I", true)
  | 8 => ("ParityVolumeModel", "laid", "I", false)
  | 9 => ("ParityVolumeModel", "lay", "[I", true)
  | 10 => ("ParityVolumeModel", "w", "[I", true)
  | 11 => ("ParityVolumeModel", "sum", "[I", true)
  | 12 => ("ParityVolumeModel", "main", "I", false)
  | 13 => ("ParityVolumeModel", "many", "I", false)
  | 14 => ("ParityVolumeModel", "told", "[I", true)
  | 15 => ("ParityVolumeModel", "first", "[I", true)
  | 16 => ("ParityVolumeModel", "filePacket", "[I", true)
  | 17 => ("ParityVolumeModel", "checkPacket", "[I", true)
  | 18 => ("ParityVolumeModel", "recovery", "[I", true)
  | 19 => ("ParityVolumeModel", "counted", "I", false)
  | 20 => ("ParityVolumeModel", "slices", "[I", true)
  | 21 => ("ParityVolumeModel", "rows", "[I", true)
  | 22 => ("ParityVolumeModel", "values", "[I", true)
  | _ => ("ParityVolumeModel", "lost", "[I", true)
def pY_Mo : Nat → FieldType := fun k => match k with
  | 0 => .array .int
  | 1 => .array .int
  | 2 => .int
  | 3 => .array .int
  | 4 => .array .int
  | 5 => .array .int
  | 6 => .int
  | 7 => .array .int
  | 8 => .int
  | 9 => .array .int
  | 10 => .array .int
  | 11 => .array .int
  | 12 => .int
  | 13 => .int
  | 14 => .array .int
  | 15 => .array .int
  | 16 => .array .int
  | 17 => .array .int
  | 18 => .array .int
  | 19 => .int
  | 20 => .array .int
  | 21 => .array .int
  | 22 => .array .int
  | _ => .array .int
theorem pN_Mo : ∀ a, a < 24 → ∀ b, b < 24 → a ≠ b → (pT_Mo a).2.1 ≠ (pT_Mo b).2.1 := by decide +kernel
theorem pY_Mo_ok : ∀ k, k < 24 → parseFieldDescriptor (pT_Mo k).2.2.1 = some (pY_Mo k) := by decide +kernel
theorem pW_Mo : ∀ w ∈ u_ws "ParityVolumeModel" pT_Mo 24, w ∈ px_WA := List.forall_mem_cons.mpr ⟨px_m4 62 (by decide +kernel), List.forall_mem_cons.mpr ⟨px_m4 64 (by decide +kernel), List.forall_mem_cons.mpr ⟨px_m4 66 (by decide +kernel), List.forall_mem_cons.mpr ⟨px_m4 68 (by decide +kernel), List.forall_mem_cons.mpr ⟨px_m4 70 (by decide +kernel), List.forall_mem_cons.mpr ⟨px_m4 72 (by decide +kernel), List.forall_mem_cons.mpr ⟨px_m4 74 (by decide +kernel), List.forall_mem_cons.mpr ⟨px_m4 76 (by decide +kernel), List.forall_mem_cons.mpr ⟨px_m4 78 (by decide +kernel), List.forall_mem_cons.mpr ⟨px_m4 80 (by decide +kernel), List.forall_mem_cons.mpr ⟨px_m4 82 (by decide +kernel), List.forall_mem_cons.mpr ⟨px_m4 84 (by decide +kernel), List.forall_mem_cons.mpr ⟨px_m4 86 (by decide +kernel), List.forall_mem_cons.mpr ⟨px_m4 88 (by decide +kernel), List.forall_mem_cons.mpr ⟨px_m4 90 (by decide +kernel), List.forall_mem_cons.mpr ⟨px_m4 92 (by decide +kernel), List.forall_mem_cons.mpr ⟨px_m4 94 (by decide +kernel), List.forall_mem_cons.mpr ⟨px_m4 96 (by decide +kernel), List.forall_mem_cons.mpr ⟨px_m4 98 (by decide +kernel), List.forall_mem_cons.mpr ⟨px_m4 100 (by decide +kernel), List.forall_mem_cons.mpr ⟨px_m4 102 (by decide +kernel), List.forall_mem_cons.mpr ⟨px_m4 104 (by decide +kernel), List.forall_mem_cons.mpr ⟨px_m4 106 (by decide +kernel), List.forall_mem_cons.mpr ⟨px_m4 108 (by decide +kernel), fun _ h => absurd h List.not_mem_nil⟩⟩⟩⟩⟩⟩⟩⟩⟩⟩⟩⟩⟩⟩⟩⟩⟩⟩⟩⟩⟩⟩⟩⟩
abbrev px_cl : List vw_C := [("ParityVolume", pT_PV, 7), ("ParityVolume$Row", pT_Row, 2), ("ParityVolume$Slices", pT_Slices, 5), ("ParityVolume$Sum", pT_Sum, 4), ("ParityVolume$Packets", pT_Packets, 3), ("ParityVolume$Writer", pT_Writer, 4), ("ParityVolume$Catalog", pT_Catalog, 11), ("ParityVolume$Mender", pT_Mender, 7), ("ParityVolume$Equations", pT_Equations, 4), ("ParityVolumeModel", pT_Mo, 24)]
def px_Zc : List (Nat ⊕ ((Nat × List Nat) ⊕ (Nat × List (Option Nat)))) := [.inr (.inr (0, [some 1, some 3, some 10, some 12, some 23, some 24, some 29])), .inr (.inr (1, [some 2, none])), .inl 40, .inr (.inl (1, [4, 6, 8])), .inr (.inr (1, [some 5, none])), .inl 40, .inr (.inr (1, [some 7, none])), .inl 40, .inr (.inr (1, [some 9, none])), .inl 40, .inr (.inr (1, [some 11, none])), .inl 694, .inr (.inr (2, [some 13, some 15, some 16, some 17, none])), .inr (.inr (1, [some 14, none])), .inl 96, .inl 3, .inl 3, .inl 4, .inr (.inr (3, [some 19, some 20, some 21, none])), .inl 768, .inl 16, .inl 4, .inr (.inr (4, [some 10, some 18, none])), .inr (.inr (5, [some 22, some 10, some 12, some 18])), .inr (.inr (6, [some 22, some 10, some 18, some 25, some 26, some 27, some 28, none, none, none, none])), .inl 26, .inl 3, .inl 3, .inl 256, .inr (.inr (7, [some 24, some 12, some 18, some 30, some 45, none, none])), .inr (.inr (8, [some 31, some 44, none, none])), .inr (.inl (2, [32, 33, 34, 35, 36, 37, 38, 39, 40, 41, 42, 43])), .inl 16, .inl 16, .inl 16, .inl 16, .inl 16, .inl 16, .inl 16, .inl 16, .inl 16, .inl 16, .inl 16, .inl 16, .inl 12, .inl 12]
def px_Zr : List (Nat ⊕ ((Nat × List Nat) ⊕ (Nat × List (Option Nat)))) := [.inr (.inr (9, [some 1, some 2, none, some 3, some 4, some 5, none, some 6, none, some 7, some 8, some 9, none, none, some 10, some 11, some 12, some 13, some 14, none, some 15, some 16, some 17, some 18])), .inl 64, .inl 12, .inl 40, .inl 120, .inl 3, .inl 800, .inl 900, .inl 16, .inl 16, .inl 3, .inl 4, .inl 3, .inl 3, .inl 256, .inl 96, .inl 144, .inl 48, .inl 12]
abbrev px_rf : List Nat := [4, 6, 8]
abbrev px_re : List Nat := [32, 33, 34, 35, 36, 37, 38, 39, 40, 41, 42, 43]
def px_t0 : List Int32 := [(-680876936), (-389564586), 606105819, (-1044525330), (-176418897), 1200080426, (-1473231341), (-45705983), 1770035416, (-1958414417), (-42063), (-1990404162), 1804603682, (-40341101), (-1502002290), 1236535329, (-165796510), (-1069501632), 643717713, (-373897302), (-701558691), 38016083, (-660478335), (-405537848), 568446438, (-1019803690), (-187363961), 1163531501, (-1444681467), (-51403784), 1735328473, (-1926607734), (-378558), (-2022574463), 1839030562, (-35309556), (-1530992060), 1272893353, (-155497632), (-1094730640), 681279174, (-358537222), (-722521979), 76029189, (-640364487), (-421815835), 530742520, (-995338651), (-198630844), 1126891415, (-1416354905), (-57434055), 1700485571, (-1894986606), (-1051523), (-2054922799), 1873313359, (-30611744), (-1560198380), 1309151649, (-145523070), (-1120210379), 718787259, (-343485551)]
def px_t1 : List Int32 := [7, 12, 17, 22, 5, 9, 14, 20, 4, 11, 16, 23, 6, 10, 15, 21]
def px_t2 : List Int32 := [1, 2, 4, 7, 8, 11, 13, 14, 16, 19, 22, 23]
def px_tb : List (List Int32 × String × String) := [(px_t0, "ParityVolume$Sum", "K"), (px_t1, "ParityVolume$Sum", "TURNS"), (px_t2, "ParityVolume$Field", "BASE_LOGS")]
def px_NW : List (String × Nat × MethodName × String) := [("ParityVolume$Slices", 41, ⟨"ParityVolume", "slicesOf", "(I)I"⟩, "ParityVolume"), ("ParityVolume$Slices", 55, ⟨"ParityVolume", "isFile", "(I)Z"⟩, "ParityVolume"), ("ParityVolume$Writer", 91, ⟨"ParityVolume", "slicesOf", "(I)I"⟩, "ParityVolume"), ("ParityVolume$Catalog", 102, ⟨"ParityVolume", "slicesOf", "(I)I"⟩, "ParityVolume"), ("ParityVolume$Mender", 69, ⟨"ParityVolume", "slicesOf", "(I)I"⟩, "ParityVolume"), ("ParityVolume$Catalog", 84, ⟨"ParityVolume", "isFile", "(I)Z"⟩, "ParityVolume")]
theorem px_NWt : ∀ q ∈ px_NW, Cond.methodLinkNest q.1 q.2.1 q.2.2.1 q.2.2.2 ∈ lw_tbl := List.forall_mem_cons.mpr ⟨List.mem_append_right _ (List.mem_append_right _ (List.mem_append_left _ (List.mem_of_getElem? (i := 61) (by decide +kernel)))), List.forall_mem_cons.mpr ⟨List.mem_append_right _ (List.mem_append_right _ (List.mem_append_left _ (List.mem_of_getElem? (i := 88) (by decide +kernel)))), List.forall_mem_cons.mpr ⟨List.mem_append_right _ (List.mem_append_right _ (List.mem_append_left _ (List.mem_of_getElem? (i := 170) (by decide +kernel)))), List.forall_mem_cons.mpr ⟨List.mem_append_right _ (List.mem_append_right _ (List.mem_append_right _ (List.mem_append_left _ (List.mem_of_getElem? (i := 27) (by decide +kernel))))), List.forall_mem_cons.mpr ⟨List.mem_append_right _ (List.mem_append_right _ (List.mem_append_right _ (List.mem_append_left _ (List.mem_of_getElem? (i := 74) (by decide +kernel))))), List.forall_mem_cons.mpr ⟨List.mem_append_right _ (List.mem_append_right _ (List.mem_append_right _ (List.mem_append_left _ (List.mem_of_getElem? (i := 80) (by decide +kernel))))), fun _ h => absurd h List.not_mem_nil⟩⟩⟩⟩⟩⟩
