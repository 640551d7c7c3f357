/-! the constants: static int arrays (0 .. 4), Strings (10 ..), the script (20) -/
def jst : List (String × String × List Int32) := [("FoamHead$Foam", "ROW_STEP", [0, 1, 1, 0, -1, -1]), ("FoamHead$Foam", "ODD_STEP", [1, 1, 0, -1, 0, 1]), ("FoamHead$Foam", "EVEN_STEP", [1, 0, -1, -1, -1, 0]), ("FoamHead$Kinds", "ABOVE", [-1, 0, 1, 0, 0, 3, 0]), ("FoamHead$Voices", "BODIES", [10, 11, 12, 13, 20, 0, 0, 21, 30, 0, 31, 0, 0, 41, 40, 0, 0, 0, 0, 50, 0, 60, 61, 0, 70, 0, 0, 0])]
def jstr : List (String × Nat × String) := [("FoamHead$Reader", 18, ""), ("FoamHead$Reader", 24, "stghn"), ("FoamHead$Reader", 26, "wvstn"), ("FoamHead$Reader", 28, "sgwrk"), ("FoamHeadModel", 27, "stghn"), ("FoamHeadModel", 29, "wvstn"), ("FoamHeadModel", 31, "sgwrk")]
def jcs (xs : List Int32) (k : Nat) : Option (List Int32) := bif Nat.blt k 5 then (jst[k]?).map (fun q => q.2.2) else bif k == 20 then some xs else none
def jtys (cT : Nat → ClassId) : List (ClassId × FieldType) := [(cT 0, .int), (cT 1, .array .int), (cT 2, .object "FoamHead$Text"), (cT 3, .object "java/lang/String")]
def jnest : List (String × Nat × MethodName × String) := [("FoamHead", 9, ⟨"FoamHead$World", "<init>", "()V"⟩, "FoamHead"), ("FoamHead$World", 11, ⟨"FoamHead$Foam", "<init>", "()V"⟩, "FoamHead"), ("FoamHead$World", 20, ⟨"FoamHead$Text", "<init>", "()V"⟩, "FoamHead"), ("FoamHead", 24, ⟨"FoamHead$Reader", "<init>", "()V"⟩, "FoamHead"), ("FoamHead", 31, ⟨"FoamHead$Search", "<init>", "()V"⟩, "FoamHead"), ("FoamHead", 38, ⟨"FoamHead$Voices", "<init>", "()V"⟩, "FoamHead"), ("FoamHead", 45, ⟨"FoamHead$Sheets", "<init>", "()V"⟩, "FoamHead")]
def jAOA (U : State) : Prop := (Cond.arrayOver (.array .int)).before #[] U = true
/-- what holds of the machine beside the cells, in every method's start -/
def jK (xs : List Int32) (ca : Nat → Nat) (cT : Nat → ClassId) (D : va_G) (A : Nat → Prop) (U : State) (H : Heap) : Prop :=
  va_K D vwCl (jtys cT) U ∧ (∀ (k : Nat) (l : List Int32), jcs xs k = some l → va_T .int (ca k) l.length (fun j => .int (l.getD j 0)) A U H) ∧
  (∀ (k : Nat) (q : String × String × List Int32), jst[k]? = some q → va_Z q.1 q.2.1 "[I" (.ref (ca k)) A U H) ∧
  (∀ (k : Nat) (q : String × Nat × String), jstr[k]? = some q → vk_R q.1 q.2.1 q.2.2 (ca (10 + k)) U ∧ va_O "java/lang/String" (ca (10 + k)) A U H) ∧
  (∀ (k : Nat) (q : String × Nat × MethodName × String), jnest[k]? = some q → va_Nw (.methodLinkNest q.1 q.2.1 q.2.2.1 q.2.2.2) U) ∧
  va_AO "FoamHead$Text" U ∧ va_AO "java/lang/String" U ∧ jAOA U
