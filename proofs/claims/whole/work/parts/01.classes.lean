def RX0 : String := "SyncTree$Disk"
def TX0 : u_T := fun k => match k with
  | 0 => ("SyncTree$Disk", "keptTag", "[I", true)
  | 1 => ("SyncTree$Disk", "keptRow", "[LSyncTree$Row;", true)
  | 2 => ("SyncTree$Disk", "count", "[I", true)
  | 3 => ("SyncTree$Disk", "choice", "[I", true)
  | 4 => ("SyncTree$Disk", "slotBlock", "[I", true)
  | 5 => ("SyncTree$Disk", "slotTag", "[I", true)
  | 6 => ("SyncTree$Disk", "slotRow", "[LSyncTree$Row;", true)
  | 7 => ("SyncTree$Disk", "slotHasBytes", "[Z", true)
  | 8 => ("SyncTree$Disk", "blocks", "I", false)
  | 9 => ("SyncTree$Disk", "oldest", "I", false)
  | 10 => ("SyncTree$Disk", "held", "I", false)
  | 11 => ("SyncTree$Disk", "acts", "I", false)
  | 12 => ("SyncTree$Disk", "flushes", "I", false)
  | 13 => ("SyncTree$Disk", "actsLeft", "I", false)
  | _ => ("SyncTree$Disk", "on", "Z", false)
def tyX0 : Nat → FieldType := fun k => match k with
  | 0 => .array .int
  | 1 => .array (.object "SyncTree$Row")
  | 2 => .array .int
  | 3 => .array .int
  | 4 => .array .int
  | 5 => .array .int
  | 6 => .array (.object "SyncTree$Row")
  | 7 => .array .boolean
  | 8 => .int
  | 9 => .int
  | 10 => .int
  | 11 => .int
  | 12 => .int
  | 13 => .int
  | _ => .boolean
abbrev wsX00 : List Cond := u_ws RX0 TX0 15
theorem nmX0 : ∀ a, a < 15 → ∀ b, b < 15 → a ≠ b → (TX0 a).2.1 ≠ (TX0 b).2.1 := by decide +kernel
theorem tyX0_ok : ∀ k, k < 15 → parseFieldDescriptor (TX0 k).2.2.1 = some (tyX0 k) := by decide +kernel
def RX1 : String := "SyncTree$Journal"
def TX1 : u_T := fun k => match k with
  | 0 => ("SyncTree$Journal", "disk", "LSyncTree$Disk;", true)
  | 1 => ("SyncTree$Journal", "space", "LSyncTree$Space;", true)
  | 2 => ("SyncTree$Journal", "tree", "LSyncTree$Tree;", true)
  | 3 => ("SyncTree$Journal", "base", "[LSyncTree$Row;", true)
  | 4 => ("SyncTree$Journal", "marks", "[B", true)
  | 5 => ("SyncTree$Journal", "oldest", "LSyncTree$Transaction;", false)
  | 6 => ("SyncTree$Journal", "newest", "LSyncTree$Transaction;", false)
  | 7 => ("SyncTree$Journal", "spare", "LSyncTree$Row;", false)
  | 8 => ("SyncTree$Journal", "log", "I", false)
  | 9 => ("SyncTree$Journal", "used", "I", false)
  | 10 => ("SyncTree$Journal", "position", "I", false)
  | 11 => ("SyncTree$Journal", "basePosition", "I", false)
  | 12 => ("SyncTree$Journal", "latest", "I", false)
  | 13 => ("SyncTree$Journal", "durable", "I", false)
  | 14 => ("SyncTree$Journal", "applied", "I", false)
  | 15 => ("SyncTree$Journal", "tail", "I", false)
  | 16 => ("SyncTree$Journal", "keptTail", "I", false)
  | _ => ("SyncTree$Journal", "stamp", "I", false)
def tyX1 : Nat → FieldType := fun k => match k with
  | 0 => .object "SyncTree$Disk"
  | 1 => .object "SyncTree$Space"
  | 2 => .object "SyncTree$Tree"
  | 3 => .array (.object "SyncTree$Row")
  | 4 => .array .byte
  | 5 => .object "SyncTree$Transaction"
  | 6 => .object "SyncTree$Transaction"
  | 7 => .object "SyncTree$Row"
  | 8 => .int
  | 9 => .int
  | 10 => .int
  | 11 => .int
  | 12 => .int
  | 13 => .int
  | 14 => .int
  | 15 => .int
  | 16 => .int
  | _ => .int
abbrev wsX10 : List Cond := u_ws RX1 TX1 18
theorem nmX1 : ∀ a, a < 18 → ∀ b, b < 18 → a ≠ b → (TX1 a).2.1 ≠ (TX1 b).2.1 := by decide +kernel
theorem tyX1_ok : ∀ k, k < 18 → parseFieldDescriptor (TX1 k).2.2.1 = some (tyX1 k) := by decide +kernel
def RX2 : String := "SyncTree$Loader"
def TX2 : u_T := fun k => match k with
  | 0 => ("SyncTree$Loader", "disk", "LSyncTree$Disk;", true)
  | 1 => ("SyncTree$Loader", "space", "LSyncTree$Space;", true)
  | 2 => ("SyncTree$Loader", "tree", "LSyncTree$Tree;", true)
  | _ => ("SyncTree$Loader", "journal", "LSyncTree$Journal;", true)
def tyX2 : Nat → FieldType := fun k => match k with
  | 0 => .object "SyncTree$Disk"
  | 1 => .object "SyncTree$Space"
  | 2 => .object "SyncTree$Tree"
  | _ => .object "SyncTree$Journal"
abbrev wsX20 : List Cond := u_ws RX2 TX2 4
theorem nmX2 : ∀ a, a < 4 → ∀ b, b < 4 → a ≠ b → (TX2 a).2.1 ≠ (TX2 b).2.1 := by decide +kernel
theorem tyX2_ok : ∀ k, k < 4 → parseFieldDescriptor (TX2 k).2.2.1 = some (tyX2 k) := by decide +kernel
def RX3 : String := "SyncTree$PathText"
def TX3 : u_T := fun k => match k with
  | 0 => ("SyncTree$PathText", "bytes", "[B", true)
  | 1 => ("SyncTree$PathText", "length", "I", false)
  | 2 => ("SyncTree$PathText", "lastStart", "I", false)
  | 3 => ("SyncTree$PathText", "lastLength", "I", false)
  | _ => ("SyncTree$PathText", "directory", "I", false)
def tyX3 : Nat → FieldType := fun k => match k with
  | 0 => .array .byte
  | 1 => .int
  | 2 => .int
  | 3 => .int
  | _ => .int
abbrev wsX30 : List Cond := u_ws RX3 TX3 5
theorem nmX3 : ∀ a, a < 5 → ∀ b, b < 5 → a ≠ b → (TX3 a).2.1 ≠ (TX3 b).2.1 := by decide +kernel
theorem tyX3_ok : ∀ k, k < 5 → parseFieldDescriptor (TX3 k).2.2.1 = some (tyX3 k) := by decide +kernel
def RX4 : String := "SyncTree$Row"
def TX4 : u_T := fun k => match k with
  | 0 => ("SyncTree$Row", "words", "[J", true)
  | _ => ("SyncTree$Row", "next", "LSyncTree$Row;", false)
def tyX4 : Nat → FieldType := fun k => match k with
  | 0 => .array .long
  | _ => .object "SyncTree$Row"
abbrev wsX40 : List Cond := u_ws RX4 TX4 2
theorem nmX4 : ∀ a, a < 2 → ∀ b, b < 2 → a ≠ b → (TX4 a).2.1 ≠ (TX4 b).2.1 := by decide +kernel
theorem tyX4_ok : ∀ k, k < 2 → parseFieldDescriptor (TX4 k).2.2.1 = some (tyX4 k) := by decide +kernel
def RX5 : String := "SyncTree$Space"
def TX5 : u_T := fun k => match k with
  | 0 => ("SyncTree$Space", "words", "[J", true)
  | 1 => ("SyncTree$Space", "state", "[I", true)
  | 2 => ("SyncTree$Space", "birth", "[I", true)
  | 3 => ("SyncTree$Space", "owner", "[B", true)
  | 4 => ("SyncTree$Space", "touched", "[B", true)
  | 5 => ("SyncTree$Space", "revoked", "[B", true)
  | 6 => ("SyncTree$Space", "dirty", "[B", true)
  | 7 => ("SyncTree$Space", "cells", "I", false)
  | 8 => ("SyncTree$Space", "log", "I", false)
  | 9 => ("SyncTree$Space", "unused", "I", false)
  | 10 => ("SyncTree$Space", "retired", "I", false)
  | 11 => ("SyncTree$Space", "touchedCount", "I", false)
  | 12 => ("SyncTree$Space", "revokedCount", "I", false)
  | 13 => ("SyncTree$Space", "dirtyCount", "I", false)
  | 14 => ("SyncTree$Space", "lowest", "I", false)
  | 15 => ("SyncTree$Space", "births", "I", false)
  | _ => ("SyncTree$Space", "group", "I", false)
def tyX5 : Nat → FieldType := fun k => match k with
  | 0 => .array .long
  | 1 => .array .int
  | 2 => .array .int
  | 3 => .array .byte
  | 4 => .array .byte
  | 5 => .array .byte
  | 6 => .array .byte
  | 7 => .int
  | 8 => .int
  | 9 => .int
  | 10 => .int
  | 11 => .int
  | 12 => .int
  | 13 => .int
  | 14 => .int
  | 15 => .int
  | _ => .int
abbrev wsX50 : List Cond := u_ws RX5 TX5 17
theorem nmX5 : ∀ a, a < 17 → ∀ b, b < 17 → a ≠ b → (TX5 a).2.1 ≠ (TX5 b).2.1 := by decide +kernel
theorem tyX5_ok : ∀ k, k < 17 → parseFieldDescriptor (TX5 k).2.2.1 = some (tyX5 k) := by decide +kernel
def RX6 : String := "SyncTree$Tape"
def TX6 : u_T := fun k => match k with
  | 0 => ("SyncTree$Tape", "bytes", "[B", true)
  | _ => ("SyncTree$Tape", "length", "I", false)
def tyX6 : Nat → FieldType := fun k => match k with
  | 0 => .array .byte
  | _ => .int
abbrev wsX60 : List Cond := u_ws RX6 TX6 2
theorem nmX6 : ∀ a, a < 2 → ∀ b, b < 2 → a ≠ b → (TX6 a).2.1 ≠ (TX6 b).2.1 := by decide +kernel
theorem tyX6_ok : ∀ k, k < 2 → parseFieldDescriptor (TX6 k).2.2.1 = some (tyX6 k) := by decide +kernel
def RX7 : String := "SyncTree$Transaction"
def TX7 : u_T := fun k => match k with
  | 0 => ("SyncTree$Transaction", "number", "I", true)
  | 1 => ("SyncTree$Transaction", "stamp", "I", true)
  | 2 => ("SyncTree$Transaction", "start", "I", true)
  | 3 => ("SyncTree$Transaction", "size", "I", true)
  | 4 => ("SyncTree$Transaction", "touched", "[I", true)
  | 5 => ("SyncTree$Transaction", "rows", "[LSyncTree$Row;", true)
  | 6 => ("SyncTree$Transaction", "revoked", "[I", true)
  | _ => ("SyncTree$Transaction", "next", "LSyncTree$Transaction;", false)
def tyX7 : Nat → FieldType := fun k => match k with
  | 0 => .int
  | 1 => .int
  | 2 => .int
  | 3 => .int
  | 4 => .array .int
  | 5 => .array (.object "SyncTree$Row")
  | 6 => .array .int
  | _ => .object "SyncTree$Transaction"
abbrev wsX70 : List Cond := u_ws RX7 TX7 8
theorem nmX7 : ∀ a, a < 8 → ∀ b, b < 8 → a ≠ b → (TX7 a).2.1 ≠ (TX7 b).2.1 := by decide +kernel
theorem tyX7_ok : ∀ k, k < 8 → parseFieldDescriptor (TX7 k).2.2.1 = some (tyX7 k) := by decide +kernel
def RX8 : String := "SyncTree$Tree"
def TX8 : u_T := fun k => match k with
  | 0 => ("SyncTree$Tree", "space", "LSyncTree$Space;", true)
  | 1 => ("SyncTree$Tree", "words", "[J", true)
  | _ => ("SyncTree$Tree", "changed", "[B", true)
def tyX8 : Nat → FieldType := fun k => match k with
  | 0 => .object "SyncTree$Space"
  | 1 => .array .long
  | _ => .array .byte
abbrev wsX80 : List Cond := u_ws RX8 TX8 3
theorem nmX8 : ∀ a, a < 3 → ∀ b, b < 3 → a ≠ b → (TX8 a).2.1 ≠ (TX8 b).2.1 := by decide +kernel
theorem tyX8_ok : ∀ k, k < 3 → parseFieldDescriptor (TX8 k).2.2.1 = some (tyX8 k) := by decide +kernel
def RX9 : String := "SyncTree$Walker"
def TX9 : u_T := fun k => match k with
  | 0 => ("SyncTree$Walker", "tree", "LSyncTree$Tree;", true)
  | 1 => ("SyncTree$Walker", "text", "[B", true)
  | 2 => ("SyncTree$Walker", "at", "I", false)
  | 3 => ("SyncTree$Walker", "end", "I", false)
  | _ => ("SyncTree$Walker", "links", "I", false)
def tyX9 : Nat → FieldType := fun k => match k with
  | 0 => .object "SyncTree$Tree"
  | 1 => .array .byte
  | 2 => .int
  | 3 => .int
  | _ => .int
abbrev wsX90 : List Cond := u_ws RX9 TX9 5
theorem nmX9 : ∀ a, a < 5 → ∀ b, b < 5 → a ≠ b → (TX9 a).2.1 ≠ (TX9 b).2.1 := by decide +kernel
theorem tyX9_ok : ∀ k, k < 5 → parseFieldDescriptor (TX9 k).2.2.1 = some (tyX9 k) := by decide +kernel
def RX10 : String := "SyncTree"
def TX10 : u_T := fun k => match k with
  | 0 => ("SyncTree", "disk", "LSyncTree$Disk;", true)
  | 1 => ("SyncTree", "space", "LSyncTree$Space;", true)
  | 2 => ("SyncTree", "tree", "LSyncTree$Tree;", true)
  | 3 => ("SyncTree", "journal", "LSyncTree$Journal;", true)
  | 4 => ("SyncTree", "loader", "LSyncTree$Loader;", true)
  | 5 => ("SyncTree", "walker", "LSyncTree$Walker;", true)
  | 6 => ("SyncTree", "tape", "LSyncTree$Tape;", true)
  | 7 => ("SyncTree", "first", "LSyncTree$PathText;", true)
  | 8 => ("SyncTree", "second", "LSyncTree$PathText;", true)
  | _ => ("SyncTree", "handles", "[I", true)
def tyX10 : Nat → FieldType := fun k => match k with
  | 0 => .object "SyncTree$Disk"
  | 1 => .object "SyncTree$Space"
  | 2 => .object "SyncTree$Tree"
  | 3 => .object "SyncTree$Journal"
  | 4 => .object "SyncTree$Loader"
  | 5 => .object "SyncTree$Walker"
  | 6 => .object "SyncTree$Tape"
  | 7 => .object "SyncTree$PathText"
  | 8 => .object "SyncTree$PathText"
  | _ => .array .int
abbrev wsX100 : List Cond := u_ws RX10 TX10 10
theorem nmX10 : ∀ a, a < 10 → ∀ b, b < 10 → a ≠ b → (TX10 a).2.1 ≠ (TX10 b).2.1 := by decide +kernel
theorem tyX10_ok : ∀ k, k < 10 → parseFieldDescriptor (TX10 k).2.2.1 = some (tyX10 k) := by decide +kernel
def RX11 : String := "SyncTreeModel$Off"
def TX11 : u_T := fun k => match k with
  | _ => ("", "", "", false)
def tyX11 : Nat → FieldType := fun k => match k with
  | _ => .int
abbrev wsX110 : List Cond := u_ws RX11 TX11 0
theorem nmX11 : ∀ a, a < 0 → ∀ b, b < 0 → a ≠ b → (TX11 a).2.1 ≠ (TX11 b).2.1 := by decide +kernel
theorem tyX11_ok : ∀ k, k < 0 → parseFieldDescriptor (TX11 k).2.2.1 = some (tyX11 k) := by decide +kernel
def RX12 : String := "SyncTreeModel"
def TX12 : u_T := fun k => match k with
  | 0 => ("SyncTreeModel", "thrown", "I", false)
  | 1 => ("SyncTreeModel", "mem", "[I", true)
  | 2 => ("SyncTreeModel", "undoAt", "[I", false)
  | 3 => ("SyncTreeModel", "undoWas", "[I", false)
  | 4 => ("SyncTreeModel", "undone", "I", false)
  | 5 => ("SyncTreeModel", "marks", "I", false)
  | 6 => ("SyncTreeModel", "log", "I", false)
  | 7 => ("SyncTreeModel", "rooms", "I", false)
  | 8 => ("SyncTreeModel", "keptWhat", "[I", true)
  | 9 => ("SyncTreeModel", "keptId", "[I", true)
  | 10 => ("SyncTreeModel", "keptBytes", "[B", true)
  | 11 => ("SyncTreeModel", "verBlock", "[I", true)
  | 12 => ("SyncTreeModel", "verWhat", "[I", true)
  | 13 => ("SyncTreeModel", "verId", "[I", true)
  | 14 => ("SyncTreeModel", "verBytes", "[B", true)
  | 15 => ("SyncTreeModel", "oldest", "I", false)
  | 16 => ("SyncTreeModel", "versions", "I", false)
  | 17 => ("SyncTreeModel", "choice", "[I", true)
  | 18 => ("SyncTreeModel", "on", "Z", false)
  | 19 => ("SyncTreeModel", "cutLeft", "I", false)
  | 20 => ("SyncTreeModel", "acts", "I", false)
  | 21 => ("SyncTreeModel", "flushes", "I", false)
  | 22 => ("SyncTreeModel", "now", "[B", true)
  | 23 => ("SyncTreeModel", "dirty", "[Z", true)
  | 24 => ("SyncTreeModel", "retired", "[I", true)
  | 25 => ("SyncTreeModel", "changed", "[Z", true)
  | 26 => ("SyncTreeModel", "touched", "[Z", true)
  | 27 => ("SyncTreeModel", "revoked", "[Z", true)
  | 28 => ("SyncTreeModel", "latest", "I", false)
  | 29 => ("SyncTreeModel", "durable", "I", false)
  | 30 => ("SyncTreeModel", "applied", "I", false)
  | 31 => ("SyncTreeModel", "tail", "I", false)
  | 32 => ("SyncTreeModel", "keptTail", "I", false)
  | 33 => ("SyncTreeModel", "headAt", "I", false)
  | 34 => ("SyncTreeModel", "serial", "I", false)
  | 35 => ("SyncTreeModel", "base", "I", false)
  | 36 => ("SyncTreeModel", "records", "I", false)
  | 37 => ("SyncTreeModel", "tId", "[I", false)
  | 38 => ("SyncTreeModel", "tAt", "[I", false)
  | 39 => ("SyncTreeModel", "tSize", "[I", false)
  | 40 => ("SyncTreeModel", "tChanges", "[I", false)
  | 41 => ("SyncTreeModel", "tFrom", "[I", false)
  | 42 => ("SyncTreeModel", "tTouched", "[I", false)
  | 43 => ("SyncTreeModel", "tRevoked", "[I", false)
  | 44 => ("SyncTreeModel", "lists", "[I", false)
  | 45 => ("SyncTreeModel", "listed", "I", false)
  | 46 => ("SyncTreeModel", "headEnd", "I", false)
  | 47 => ("SyncTreeModel", "paths", "[[B", true)
  | 48 => ("SyncTreeModel", "lengths", "[I", true)
  | 49 => ("SyncTreeModel", "todo", "[B", false)
  | 50 => ("SyncTreeModel", "other", "[B", false)
  | 51 => ("SyncTreeModel", "todoSize", "I", false)
  | 52 => ("SyncTreeModel", "last", "[B", true)
  | 53 => ("SyncTreeModel", "lastSize", "I", false)
  | 54 => ("SyncTreeModel", "seen", "[I", true)
  | 55 => ("SyncTreeModel", "by", "[I", true)
  | 56 => ("SyncTreeModel", "tape", "[B", true)
  | 57 => ("SyncTreeModel", "taped", "I", false)
  | 58 => ("SyncTreeModel", "handles", "[I", true)
  | _ => ("SyncTreeModel", "its", "[Z", true)
def tyX12 : Nat → FieldType := fun k => match k with
  | 0 => .int
  | 1 => .array .int
  | 2 => .array .int
  | 3 => .array .int
  | 4 => .int
  | 5 => .int
  | 6 => .int
  | 7 => .int
  | 8 => .array .int
  | 9 => .array .int
  | 10 => .array .byte
  | 11 => .array .int
  | 12 => .array .int
  | 13 => .array .int
  | 14 => .array .byte
  | 15 => .int
  | 16 => .int
  | 17 => .array .int
  | 18 => .boolean
  | 19 => .int
  | 20 => .int
  | 21 => .int
  | 22 => .array .byte
  | 23 => .array .boolean
  | 24 => .array .int
  | 25 => .array .boolean
  | 26 => .array .boolean
  | 27 => .array .boolean
  | 28 => .int
  | 29 => .int
  | 30 => .int
  | 31 => .int
  | 32 => .int
  | 33 => .int
  | 34 => .int
  | 35 => .int
  | 36 => .int
  | 37 => .array .int
  | 38 => .array .int
  | 39 => .array .int
  | 40 => .array .int
  | 41 => .array .int
  | 42 => .array .int
  | 43 => .array .int
  | 44 => .array .int
  | 45 => .int
  | 46 => .int
  | 47 => .array (.array .byte)
  | 48 => .array .int
  | 49 => .array .byte
  | 50 => .array .byte
  | 51 => .int
  | 52 => .array .byte
  | 53 => .int
  | 54 => .array .int
  | 55 => .array .int
  | 56 => .array .byte
  | 57 => .int
  | 58 => .array .int
  | _ => .array .boolean
abbrev wsX120 : List Cond := u_ws RX12 TX12 60
theorem nmX12 : ∀ a, a < 60 → ∀ b, b < 60 → a ≠ b → (TX12 a).2.1 ≠ (TX12 b).2.1 := by decide +kernel
theorem tyX12_ok : ∀ k, k < 60 → parseFieldDescriptor (TX12 k).2.2.1 = some (tyX12 k) := by decide +kernel
abbrev vwCl : List vw_C := [(RX0, TX0, 15), (RX1, TX1, 18), (RX2, TX2, 4), (RX3, TX3, 5), (RX4, TX4, 2), (RX5, TX5, 17), (RX6, TX6, 2), (RX7, TX7, 8), (RX8, TX8, 3), (RX9, TX9, 5), (RX10, TX10, 10), (RX12, TX12, 60)]
