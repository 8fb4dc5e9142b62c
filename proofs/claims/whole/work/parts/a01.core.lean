abbrev cf_O : Type := (Nat → Int32) × (Nat → Nat → Int32) × (Nat → Nat → Int64)
def cf_powers : Nat → Int32 := fun j => ([1, 3, 9, 27, 81] : List Int32).getD j 0
def cf_patterns : Nat → Int32 := fun j => ([-1431655766, -858993460, -252645136, -16711936, -65536] : List Int32).getD j 0
def cfStr : List (Nat × String × Nat × String × List Int32) := [(0, "CellForge$Library", 57, ".end", [46, 101, 110, 100]), (1, "CellForge$Library", 72, "cell", [99, 101, 108, 108]), (2, "CellForge$Netlist", 112, ".inputs", [46, 105, 110, 112, 117, 116, 115]), (3, "CellForge$Netlist", 122, ".outputs", [46, 111, 117, 116, 112, 117, 116, 115]), (4, "CellForge$Netlist", 89, ".end", [46, 101, 110, 100]), (5, "CellForge$Netlist", 104, ".names", [46, 110, 97, 109, 101, 115]), (6, "CellForge$Script", 30, ".inputs", [46, 105, 110, 112, 117, 116, 115]), (7, "CellForge$Script", 50, "\n.outputs", [10, 46, 111, 117, 116, 112, 117, 116, 115]), (8, "CellForge$Cover", 142, ".names", [46, 110, 97, 109, 101, 115]), (9, "CellForge$Script", 67, " n_", [32, 110, 95]), (10, "CellForge$Script", 69, " m_", [32, 109, 95]), (11, "CellForge$Cover", 168, " 1\n", [32, 49, 10]), (12, "CellForge$Script", 74, ".names", [46, 110, 97, 109, 101, 115]), (13, "CellForge$Script", 76, "0 1\n", [48, 32, 49, 10]), (14, "CellForge$Script", 78, "1 1\n", [49, 32, 49, 10]), (15, "CellForge$Script", 80, "1\n", [49, 10]), (16, "CellForge$Script", 82, ".end\n", [46, 101, 110, 100, 10]), (17, "CellForge$Mapping", 178, ".gate", [46, 103, 97, 116, 101])]
def cf_fpats : Nat → Int64 := fun j => ([-6148914691236517206, -3689348814741910324, -1085102592571150096, -71777214294589696, -281470681808896, -4294967296] : List Int64).getD j 0
def cf_ones : Nat → Int32 := fun j => nI (48 + j % 10)
def cf_tens : Nat → Int32 := fun j => nI (48 + j / 10)
def fp (o : cf_O) (k : Nat) (v : Int32) : cf_O := (fun j => bif Nat.beq j k then v else o.1 j, o.2)
def xp (o : cf_O) (k i : Nat) (v : Int32) : cf_O := (o.1, fun j => bif Nat.beq j k then upd (o.2.1 k) i v else o.2.1 j, o.2.2)
def yp (o : cf_O) (k i : Nat) (v : Int64) : cf_O := (o.1, o.2.1, fun j => bif Nat.beq j k then vp_updL (o.2.2 k) i v else o.2.2 j)
def cfFU : Nat := 1000000000000
def op_k {α β : Type} (a : α) (f : α → Option β) : Option β := f a
def op_mx (x y : Int32) : Int32 := if x < y then y else x
def op_mn (x y : Int32) : Int32 := if y < x then y else x
def op_mxl (x y : Int64) : Int64 := if y < x then x else y
def op_mnl (x y : Int64) : Int64 := if y < x then y else x
def cf_sb (i j : Nat) : Int32 := ((cfStr.map (fun q => q.2.2.2.2)).getD i []).getD j 0
def gC (a b : Nat) : Nat := (b - a) / 16
def gS (a b : Nat) : Nat := 2 * (b - a)
def gcp {α : Type} (L : Nat) (z : α) (f : Nat → α) : Nat → α := fun i => if i < L then f i else z
def gp (o : cf_O) (k : Nat) (n : Int32) : cf_O := (fun j => bif Nat.beq j k then n else o.1 j, o.2.1, fun j => bif Nat.beq j k then gcp (o.1 k).toNatClampNeg 0 (o.2.2 k) else o.2.2 j)
def gb (o : cf_O) (k : Nat) (n : Int32) : cf_O := (fun j => bif Nat.beq j k then n else o.1 j, fun j => bif Nat.beq j k then gcp (o.1 k).toNatClampNeg 0 (o.2.1 k) else o.2.1 j, o.2.2)
def cb (o : cf_O) (k s : Nat) (i n : Int32) : cf_O := (o.1, fun j => bif Nat.beq j k then va_cpy (cf_sb s) (o.2.1 k) (0 : Int32).toNatClampNeg i.toNatClampNeg n.toNatClampNeg else o.2.1 j, o.2.2)
def fF (l : List Nat) : Nat → Nat := fun k => l.getD k 0
def xc (k : Int32) : Nat := if k = 0 then 0 else 1
