/-! ===== AN ABSTRACT MACHINE: memory by numbers of cells; a judgement 'am_W' that is the least one closed under a row for each instruction ===== -/
abbrev am_I : Type := Nat → Nat → Int32
abbrev am_L : Type := Nat → Nat → Int64
/-- what a cell is: an object of a class, or an array of a kind (0 int, 1 byte, 2 boolean, 3 long, 4 Roads, 5 Rule, 6 State, 7 int rows, 8 the script) and a length -/
abbrev am_Sh : Type := Nat ⊕ (Nat × Nat)
/-- references, shapes, and the number of the next cell -/
abbrev am_G : Type := (Nat → Nat → Nat) × (Nat → am_Sh) × Nat
abbrev am_Q : Type := Option Value → am_I → am_L → am_G → Prop
abbrev am_C : Type := Nat → List Value → am_I → am_L → am_G → am_Q → Prop
abbrev am_Row : Type := Nat × Instr × Nat × Nat × Nat × Int
/-- a method: its name, bytes, locals, answer, own class, cells and slots that it may make, rows -/
abbrev am_E : Type := MethodName × ByteArray × Nat × Option FieldType × Nat × Nat × Nat × List am_Row
abbrev am_X : Type := Nat → List Value → List Value → am_I → am_L → am_G → Nat → Nat → Prop
def am_maxL (e : am_E) : Nat := e.2.2.1
def am_ret (e : am_E) : Option FieldType := e.2.2.2.1
def am_own (e : am_E) : Nat := e.2.2.2.2.1
def am_mc (e : am_E) : Nat := e.2.2.2.2.2.1
def am_ms (e : am_E) : Nat := e.2.2.2.2.2.2.1
def am_rows (e : am_E) : List am_Row := e.2.2.2.2.2.2.2
def am_find : List am_Row → Nat → Option (Instr × Nat × Nat × Nat × Int)
  | [], _ => none
  | r :: t, pc => bif Nat.beq r.1 pc then some r.2 else am_find t pc
def am_at (e : am_E) (pc : Nat) : Option (Instr × Nat × Nat × Nat × Int) := am_find (am_rows e) pc
def am_nil : am_E := (⟨"", "", ""⟩, ⟨#[]⟩, 0, none, 0, 0, 0, [])
