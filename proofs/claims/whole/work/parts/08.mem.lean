/-! THE MEMORY once all is made: ints, longs, references that change; shapes and the other references stand in tables. -/
abbrev Mem : Type := (Nat → Nat → Int32) × (Nat → Nat → Int64) × (Nat → Nat → Nat)
def up2 {α : Type} (f : Nat → Nat → α) (a k : Nat) (v : α) : Nat → Nat → α := fun a' k' => if a' = a then (if k' = k then v else f a' k') else f a' k'
def sR (a k : Nat) : Nat := bb (Nat.ble 100 a) ((srT.getD (a - 100) []).getD k 0) 0
def gI (m : Mem) (a k : Nat) : Int32 := m.1 a k
def gL (m : Mem) (a k : Nat) : Int64 := m.2.1 a k
def gR (m : Mem) (a k : Nat) : Nat := bb (Nat.beq (sR a k) 0) (m.2.2 a k) (sR a k)
def wI (m : Mem) (a k : Nat) (v : Int32) : Mem := (up2 m.1 a k v, m.2)
def wL (m : Mem) (a k : Nat) (v : Int64) : Mem := (m.1, up2 m.2.1 a k v, m.2.2)
def wR (m : Mem) (a k : Nat) (v : Nat) : Mem := (m.1, m.2.1, up2 m.2.2 a k v)
def wR2 (m : Mem) (a k : Nat) (v : Nat) : Option Mem := bb (Nat.beq (sR a k) 0) (some (wR m a k v)) none
def O2 : Ops Mem := (fun _ a => sh0 a, gI, gL, gR, wI, wL, wR2, fun _ _ _ => none)
noncomputable abbrev X2 (d : Nat) (me : MD) : Nat → List Value → List Value → Mem → Rs Mem := XX O2 d me
noncomputable abbrev c2 (d : Nat) : MD → List Value → Mem → Rs Mem := cl O2 d
