/-! the shapes of the world, by program (mk03.py). Tags: a class by its number, an array field j of class c: 100 * (c + 1) + j, the rows of a grid 50 more. -/
/-- element kind (0 int, 1 long, 2 boolean, 3 char, 4 State, 5 Mark, 6 int[]) and length of an array tag -/
def shp (t : Nat) : Nat × Nat := match t with
  | 60 => (1, 1)
  | 102 => (6, 6)
  | 152 => (0, 61)
  | 202 => (0, 6)
  | 203 => (0, 6)
  | 204 => (6, 7)
  | 205 => (6, 6)
  | 206 => (6, 6)
  | 254 => (0, 61)
  | 255 => (0, 61)
  | 256 => (0, 61)
  | 300 => (0, 1000)
  | 301 => (0, 1000)
  | 302 => (0, 64)
  | 400 => (0, 40)
  | 401 => (0, 40)
  | 402 => (0, 40)
  | 600 => (4, 16)
  | 800 => (0, 8)
  | 801 => (0, 8)
  | 802 => (2, 8)
  | 900 => (0, 6)
  | 901 => (0, 6)
  | 902 => (1, 6)
  | 903 => (0, 6)
  | 904 => (0, 6)
  | 905 => (0, 6)
  | 906 => (0, 6)
  | 907 => (1, 6)
  | 908 => (0, 12)
  | 1001 => (0, 6)
  | 1002 => (0, 6)
  | 1003 => (0, 6)
  | 1004 => (0, 6)
  | 1005 => (0, 6)
  | 1006 => (0, 6)
  | 1007 => (0, 6)
  | 1100 => (3, 1000)
  | 1101 => (0, 1001)
  | 1102 => (0, 1001)
  | 1103 => (1, 1001)
  | 1210 => (5, 4)
  | 1302 => (0, 1000)
  | 1310 => (0, 8)
  | 1311 => (1, 12)
  | 1312 => (1, 12)
  | 1313 => (0, 12)
  | 1314 => (0, 12)
  | 1315 => (0, 12)
  | 1316 => (0, 12)
  | 1317 => (0, 12)
  | 1318 => (0, 24)
  | 1319 => (0, 2)
  | 1320 => (0, 2)
  | 1321 => (0, 2000)
  | 1324 => (0, 7)
  | 1325 => (2, 7)
  | 1326 => (0, 7)
  | 1327 => (0, 7)
  | 1328 => (0, 7)
  | 1329 => (0, 7)
  | 1330 => (0, 7)
  | 1331 => (0, 7)
  | 1332 => (0, 7)
  | 1333 => (0, 7)
  | 1334 => (0, 7)
  | 1335 => (0, 20)
  | 1338 => (0, 6)
  | 1339 => (0, 240)
  | 1340 => (0, 240)
  | 1341 => (0, 240)
  | 1342 => (0, 5)
  | 1343 => (0, 40)
  | 1344 => (0, 40)
  | 1345 => (2, 40)
  | 1346 => (0, 46)
  | 1347 => (0, 46)
  | 1348 => (0, 46)
  | 1349 => (0, 184)
  | 1350 => (0, 736)
  | 1351 => (2, 4)
  | 1353 => (0, 6)
  | 1355 => (0, 427)
  | 1357 => (0, 186)
  | _ => (99, 0)
/-- kind of a field: 0 int or boolean, 1 long, 2 reference -/
def skL : List (List Nat) := [[2, 2, 2], [2, 2, 2, 2, 2, 2, 2], [2, 2, 2, 0], [2, 2, 2, 0], [2, 2, 2, 0], [2, 0], [2, 0, 0], [2, 2, 2, 0], [2, 2, 2, 2, 2, 2, 2, 2, 2, 2, 0, 0, 0, 0], [2, 2, 2, 2, 2, 2, 2, 2, 0, 0, 0, 0, 0], [2, 2, 2, 2, 0, 0, 0], [2, 2, 2, 2, 2, 2, 2, 2, 2, 2, 2, 2, 2], [0, 0, 2, 0, 0, 0, 0, 1, 0, 0, 2, 2, 2, 2, 2, 2, 2, 2, 2, 2, 2, 2, 0, 0, 2, 2, 2, 2, 2, 2, 2, 2, 2, 2, 2, 2, 0, 1, 2, 2, 2, 2, 2, 2, 2, 2, 2, 2, 2, 2, 2, 2, 0, 2, 0, 2, 0, 2, 1]]
def skk (t j : Nat) : Nat := (skL.getD t []).getD j 9
def nfL : List Nat := [3, 7, 4, 4, 4, 2, 3, 4, 14, 13, 7, 13, 59]
def nf (t : Nat) : Nat := nfL.getD t 0
/-- where a reference goes; the State array of Past (600) is told by the store -/
def goL : List (List (Nat → Nat × Nat)) := [[fun i => (8, 0), fun i => (9, 0), fun i => (102, i)],
  [fun i => (8, 0), fun i => (9, 0), fun i => (202, i), fun i => (203, i), fun i => (204, i), fun i => (205, i), fun i => (206, i)],
  [fun i => (300, i), fun i => (301, i), fun i => (302, i), fun _ => (0, 0)],
  [fun i => (400, i), fun i => (401, i), fun i => (402, i), fun _ => (0, 0)],
  [fun i => (9, i + 18), fun i => (3, i + 2), fun i => (7, i + 1), fun _ => (0, 0)],
  [fun i => (600, i), fun _ => (0, 0)],
  [fun i => (10, 0), fun _ => (0, 0), fun _ => (0, 0)],
  [fun i => (800, i), fun i => (801, i), fun i => (802, i), fun _ => (0, 0)],
  [fun i => (900, i), fun i => (901, i), fun i => (902, i), fun i => (903, i), fun i => (904, i), fun i => (905, i), fun i => (906, i), fun i => (907, i), fun i => (908, i), fun i => (2, i), fun _ => (0, 0), fun _ => (0, 0), fun _ => (0, 0), fun _ => (0, 0)],
  [fun i => (8, 0), fun i => (1001, i), fun i => (1002, i), fun i => (1003, i), fun i => (1004, i), fun i => (1005, i), fun i => (1006, i), fun i => (1007, i), fun _ => (0, 0), fun _ => (0, 0), fun _ => (0, 0), fun _ => (0, 0), fun _ => (0, 0)],
  [fun i => (1100, i), fun i => (1101, i), fun i => (1102, i), fun i => (1103, i), fun _ => (0, 0), fun _ => (0, 0), fun _ => (0, 0)],
  [fun i => (10, 0), fun i => (8, 0), fun i => (8, 1), fun i => (3, 0), fun i => (3, 1), fun i => (6, 0), fun i => (9, 0), fun i => (9, 1), fun i => (5, 0), fun i => (7, 0), fun i => (1210, i), fun i => (0, 0), fun i => (1, 0)],
  [fun _ => (0, 0), fun _ => (0, 0), fun i => (1302, i), fun _ => (0, 0), fun _ => (0, 0), fun _ => (0, 0), fun _ => (0, 0), fun _ => (0, 0), fun _ => (0, 0), fun _ => (0, 0), fun i => (1310, i), fun i => (1311, i), fun i => (1312, i), fun i => (1313, i), fun i => (1314, i), fun i => (1315, i), fun i => (1316, i), fun i => (1317, i), fun i => (1318, i), fun i => (1319, i), fun i => (1320, i), fun i => (1321, i), fun _ => (0, 0), fun _ => (0, 0), fun i => (1324, i), fun i => (1325, i), fun i => (1326, i), fun i => (1327, i), fun i => (1328, i), fun i => (1329, i), fun i => (1330, i), fun i => (1331, i), fun i => (1332, i), fun i => (1333, i), fun i => (1334, i), fun i => (1335, i), fun _ => (0, 0), fun _ => (0, 0), fun i => (1338, i), fun i => (1339, i), fun i => (1340, i), fun i => (1341, i), fun i => (1342, i), fun i => (1343, i), fun i => (1344, i), fun i => (1345, i), fun i => (1346, i), fun i => (1347, i), fun i => (1348, i), fun i => (1349, i), fun i => (1350, i), fun i => (1351, i), fun _ => (0, 0), fun i => (1353, i), fun _ => (0, 0), fun i => (1355, i), fun _ => (0, 0), fun i => (1357, i), fun _ => (0, 0)]]
def gA (t j : Nat) : Nat × Nat := match t with
  | 102 => (152, j)
  | 204 => (254, j)
  | 205 => (255, j)
  | 206 => (256, j)
  | 1210 => (4, j)
  | _ => (0, 0)
def sLen : List Nat := [8, 7, 103, 2, 3, 4, 3, 6, 4, 5, 4, 4, 4, 4, 5, 5, 4, 3, 4, 3, 3, 2, 4, 4, 3, 5, 3]
def sByt : List (List Int32) := [[40, 41, 60, 61, 43, 45, 42, 59],
  [99, 111, 117, 110, 116, 101, 114],
  [99, 111, 117, 110, 116, 101, 114, 32, 97, 116, 32, 103, 97, 112, 32, 98, 97, 108, 108, 32, 115, 105, 122, 101, 32, 104, 111, 109, 101, 32, 100, 101, 115, 107, 32, 100, 97, 109, 112, 32, 119, 101, 97, 114, 115, 32, 98, 101, 97, 116, 32, 115, 101, 110, 100, 32, 115, 101, 116, 32, 99, 97, 114, 114, 121, 32, 100, 97, 121, 32, 112, 108, 97, 105, 110, 32, 111, 97, 107, 32, 119, 105, 108, 108, 111, 119, 32, 99, 111, 114, 107, 32, 110, 111, 116, 32, 97, 110, 100, 32, 111, 114, 32],
  [97, 116],
  [103, 97, 112],
  [98, 97, 108, 108],
  [111, 97, 107],
  [119, 105, 108, 108, 111, 119],
  [99, 111, 114, 107],
  [112, 108, 97, 105, 110],
  [115, 105, 122, 101],
  [104, 111, 109, 101],
  [100, 101, 115, 107],
  [100, 97, 109, 112],
  [119, 101, 97, 114, 115],
  [119, 105, 100, 116, 104],
  [114, 117, 110, 115],
  [119, 101, 116],
  [100, 97, 116, 101],
  [110, 111, 116],
  [97, 110, 100],
  [111, 114],
  [98, 101, 97, 116],
  [115, 101, 110, 100],
  [115, 101, 116],
  [99, 97, 114, 114, 121],
  [100, 97, 121]]
def sRef : List (String × Nat × String × Nat) := [("CashBalls$Tape", 54, "()<=+-*;", 0),
  ("CashBalls$Reade\x72", 36, "counte\x72", 1),
  ("CashBalls$Tape", 74, "counter at gap ball size home desk damp wears beat send set carry day plain oak willow cork not and or ", 2),
  ("CashBalls$Reade\x72", 88, "at", 3),
  ("CashBalls$Reade\x72", 102, "gap", 4),
  ("CashBalls$Reade\x72", 46, "ball", 5),
  ("CashBalls$Reade\x72", 145, "oak", 6),
  ("CashBalls$Reade\x72", 147, "willow", 7),
  ("CashBalls$Reade\x72", 149, "cork", 8),
  ("CashBalls$Reade\x72", 151, "plain", 9),
  ("CashBalls$Reade\x72", 118, "size", 10),
  ("CashBalls$Reade\x72", 120, "home", 11),
  ("CashBalls$Reade\x72", 51, "desk", 12),
  ("CashBalls$Reade\x72", 56, "damp", 13),
  ("CashBalls$Reade\x72", 61, "wears", 14),
  ("CashBalls$Reade\x72", 202, "width", 15),
  ("CashBalls$Reade\x72", 204, "runs", 16),
  ("CashBalls$Reade\x72", 206, "wet", 17),
  ("CashBalls$Reade\x72", 208, "date", 18),
  ("CashBalls$Reade\x72", 200, "not", 19),
  ("CashBalls$Reade\x72", 189, "and", 20),
  ("CashBalls$Reade\x72", 191, "o\x72", 21),
  ("CashBalls$Reade\x72", 228, "beat", 22),
  ("CashBalls$Reade\x72", 230, "send", 23),
  ("CashBalls$Reade\x72", 232, "set", 24),
  ("CashBalls$Reade\x72", 234, "carry", 25),
  ("CashBalls$Reade\x72", 236, "day", 26)]
/-! THE FRAME: a method over a world of numbers. A store σ : tag, instance, place -> number; a value: an int, a long, or a reference (tag, instance). -/
abbrev AV : Type := Int ⊕ (Int ⊕ (Nat × Nat))
abbrev St : Type := Nat → Nat → Int → Int
abbrev vI (z : Int) : AV := .inl z
abbrev vL (z : Int) : AV := .inr (.inl z)
abbrev vR (t i : Nat) : AV := .inr (.inr (t, i))
/-- the cells that are there, which references are set -/
abbrev Wd : Type := List (Nat × Nat) × (Nat → Nat → Nat → Bool)
/-- a method: name, code, locals, what it returns -/
abbrev My : Type := MethodName × ByteArray × Nat × Option FieldType
abbrev Ad : Type := Nat → Nat → Nat
def go (σ : St) (t i j : Nat) : Nat × Nat := if t < 13 then ((goL.getD t []).getD j (fun _ => (0, 0))) i else if t = 600 then (9, (σ 600 i j).toNat) else gA t j
def up (σ : St) (t i : Nat) (x v : Int) : St := fun t' i' x' => if t' = t ∧ i' = i ∧ x' = x then v else σ t' i' x'
def Tt (t : Nat) : u_T := (vwCl.getD t ("", fun _ => ("", "", "", false), 0)).2.1
def Rt (t : Nat) : String := (vwCl.getD t ("", fun _ => ("", "", "", false), 0)).1
def tyL : List (Nat → FieldType) := [tyX0, tyX1, tyX2, tyX3, tyX4, tyX5, tyX6, tyX7, tyX8, tyX9, tyX10, tyX11, tyX12]
def tyT (t : Nat) : Nat → FieldType := tyL.getD t (fun _ => .int)
def rfv (B : Wd) (ad : Ad) (σ : St) (t i j : Nat) : Option Nat := if B.2 t i j = true then some (ad (go σ t i j).1 (go σ t i j).2) else none
def sv (B : Wd) (ad : Ad) (σ : St) (t i j : Nat) : Value := match skk t j with
  | 0 => .int (Int32.ofInt (σ t i j))
  | 1 => .long (Int64.ofInt (σ t i j))
  | _ => va_rf (rfv B ad σ t i j)
def ca (B : Wd) (ad : Ad) (σ : St) (t i : Nat) : (Nat → Int32) ⊕ (Nat → Int64) ⊕ (Nat → UInt32) ⊕ (Nat → UInt64) ⊕ (Nat → Option Nat) :=
  if (shp t).1 = 1 then .inr (.inl (fun j => Int64.ofInt (σ t i j))) else if 4 ≤ (shp t).1 then .inr (.inr (.inr (.inr (fun j => rfv B ad σ t i j)))) else .inl (fun j => Int32.ofInt (σ t i j))
def ce (cs : Nat → ClassId) (B : Wd) (ad : Ad) (σ : St) (t i : Nat) : va_E :=
  if t < 13 then .inr (t, (List.range (nf t)).map (fun j => sv B ad σ t i j)) else .inl (cs (shp t).1, (shp t).2, ca B ad σ t i)
def wl (cs : Nat → ClassId) (B : Wd) (ad : Ad) (σ : St) : va_W := B.1.map (fun q => (ad q.1 q.2, ce cs B ad σ q.1 q.2))
/-- is the place a long? -/
def lgp (t j : Nat) : Bool := if t < 13 then skk t j == 1 else (shp t).1 == 1
def i32 (z : Int) : Prop := -2147483648 ≤ z ∧ z ≤ 2147483647
def i64 (z : Int) : Prop := -9223372036854775808 ≤ z ∧ z ≤ 9223372036854775807
def Rg (σ : St) : Prop := ∀ (t i j : Nat), if lgp t j = true then i64 (σ t i j) else i32 (σ t i j)
/-- is the place a reference? -/
def rfp (t j : Nat) : Bool := if t < 13 then skk t j == 2 else decide (4 ≤ (shp t).1)
def Clo (B : Wd) (σ : St) : Prop := ∀ q ∈ B.1, ∀ j : Nat, rfp q.1 j = true → B.2 q.1 q.2 j = true → go σ q.1 q.2 j ∈ B.1
def tys (cs : Nat → ClassId) : List (ClassId × FieldType) := [(cs 0, .int), (cs 1, .long), (cs 2, .boolean), (cs 3, .char), (cs 4, .object "CashBalls$State"), (cs 5, .object "CashBalls$Mark"), (cs 6, .array .int)]
def Rep (cs : Nat → ClassId) (D : va_G) (A : Nat → Prop) (B : Wd) (ad : Ad) (σ : St) (H : Heap) : Prop :=
  va_P D vwCl (wl cs B ad σ) H ∧ va_D A (wl cs B ad σ) ∧ Rg σ ∧ Clo B σ
/-- references that lie outside: String constants (50), their bytes (51), the script (52) -/
def Out (r : Nat × Nat) : Prop := r.1 = 50 ∨ r.1 = 51 ∨ r.1 = 52
def rl (B : Wd) (ad : Ad) (v : Value) (a : AV) : Prop := match a with
  | .inl z => ∃ x : Int32, v = .int x ∧ x.toInt = z
  | .inr (.inl z) => ∃ x : Int64, v = .long x ∧ x.toInt = z
  | .inr (.inr r) => (r ∈ B.1 ∨ Out r) ∧ v = .ref (ad r.1 r.2)
def sr (B : Wd) (ad : Ad) : List Value → List AV → Prop
  | [], [] => True
  | v :: vs, a :: as => rl B ad v a ∧ sr B ad vs as
  | _, _ => False
def lr (B : Wd) (ad : Ad) (lc : Array Slot) (n : Nat) (ls : List (Option AV)) : Prop :=
  lc.size = n ∧ lv_wf lc ∧ ∀ (i : Nat) (a : AV), ls[i]? = some (some a) → ∃ v, lc[i]? = some (.val v) ∧ rl B ad v a
def Ext (B : Wd) (ad : Ad) (B' : Wd) (ad' : Ad) : Prop := (∀ r ∈ B.1, r ∈ B'.1) ∧ ∀ r, r ∈ B.1 ∨ Out r → ad' r.1 r.2 = ad r.1 r.2
theorem Ext.rf {B : Wd} {ad : Ad} : Ext B ad B ad := ⟨fun _ h => h, fun _ _ => rfl⟩
theorem Ext.tr {B B' B'' : Wd} {ad ad' ad'' : Ad} (h : Ext B ad B' ad') (h' : Ext B' ad' B'' ad'') : Ext B ad B'' ad'' :=
  ⟨fun r q => h'.1 r (h.1 r q), fun r q => (h'.2 r (q.imp (h.1 r) id)).trans (h.2 r q)⟩
theorem rl.ext {B B' : Wd} {ad ad' : Ad} (h : Ext B ad B' ad') {v : Value} {a : AV} (q : rl B ad v a) : rl B' ad' v a := by
  match a, q with
  | .inl z, q => exact q
  | .inr (.inl z), q => exact q
  | .inr (.inr r), q => exact ⟨q.1.imp (h.1 r) id, by rw [h.2 r q.1]; exact q.2⟩
theorem sr.ext {B B' : Wd} {ad ad' : Ad} (h : Ext B ad B' ad') : ∀ {vs : List Value} {as : List AV}, sr B ad vs as → sr B' ad' vs as
  | [], [], _ => trivial
  | _ :: _, _ :: _, q => ⟨q.1.ext h, sr.ext h q.2⟩
theorem lr.ext {B B' : Wd} {ad ad' : Ad} (h : Ext B ad B' ad') {lc : Array Slot} {n : Nat} {ls : List (Option AV)} (q : lr B ad lc n ls) : lr B' ad' lc n ls :=
  ⟨q.1, q.2.1, fun i a e => by obtain ⟨v, h1, h2⟩ := q.2.2 i a e; exact ⟨v, h1, h2.ext h⟩⟩
def nestW : List Cond := lw_tbl.filter (fun w => match w with | .methodLinkNest _ _ _ _ => true | _ => false)
/-- launches that keep no stack traces -/
abbrev LL : Type := { l : Launch // l.stackTraces = false }
/-- words that aren't good ones, but last: what can be cast, what is declared -/
def xW : List Cond := lw_tbl.filter (fun w => match w with | .castable _ _ => true | .declares _ => true | _ => false)
/-- the class of the rows of int rows has that of int rows below it -/
def GridK (cs : Nat → ClassId) (U : State) : Prop := ∃ k : Class, U.vm.classes[cs 6]? = some k ∧ k.kind = .array (cs 0) (.array .int)
/-- the script: its address, its length, its ints, told by the addresses of tag 52 -/
def ScrX (A : Nat → Prop) (ad : Ad) (U : State) (H : Heap) : Prop := va_X (ad 52 0) (ad 52 1) (fun j => Int32.ofNat (ad 52 (2 + j))) U H ∧ ¬ A (ad 52 0) ∧ ad 52 0 < H.size
def Kz (cs : Nat → ClassId) (A : Nat → Prop) (ad : Ad) (U : State) (H : Heap) : Prop :=
  (∀ w ∈ xW, va_Nw w U) ∧ va_AO "CashBalls$State" U ∧ va_AO "CashBalls$Mark" U ∧ GridK cs U ∧ vx_Zq Bundle.tN "UNASSIGNED_STACK" Bundle.steD A U H ∧ vx_Zq Bundle.tN "SUPPRESSED_SENTINEL" Bundle.listD A U H ∧ ScrX A ad U H
/-- what the tables say that lasts: classes, nest words, String constants -/
def Kx (cs : Nat → ClassId) (D : va_G) (A : Nat → Prop) (ad : Ad) (U : State) (H : Heap) : Prop :=
  va_K D vwCl (tys cs) U ∧ (∀ w ∈ nestW, va_Nw w U) ∧ vk_S 27 sLen sByt (ad 50) (ad 51) A U H ∧ (∀ q ∈ sRef, vk_R q.1 q.2.1 q.2.2.1 (ad 50 q.2.2.2) U) ∧ va_Z "java/lang/String" "COMPACT_STRINGS" "Z" (.int 1) A U H ∧ va_Zq "jdk/internal/util/Preconditions" "SIOOBE_FORMATTER" "Ljava/util/function/BiFunction;" A U H ∧ Kz cs A ad U H
/-- CashBalls.rests throws (1), CashBallsLaw.rests has a handler (2), the others neither (0) -/
def kd (x : MethodName) : Nat := if x.name == "rests" then (if x.cls == "CashBalls" then 1 else if x.cls == "CashBallsLaw" then 2 else 0) else 0
def tbl (x : MethodName) : List ExceptionTableEntry := if kd x = 2 then [⟨0, 14, 17, 13⟩] else []
def Cx (Y : My) (p : Program) (s : State) (m : MethodId) (args : Array Value) (meth : Method) (c : Code) : Prop :=
  p.tables.exec = Jvm.exec ∧ c.code = Y.2.1 ∧ meth.sig.returnType = Y.2.2.2 ∧ c.maxLocals = Y.2.2.1 ∧ s.vm.findClass Y.1.cls = some m.cls ∧ (∀ w ∈ tG, w.before args s = true) ∧ meth.locks = false ∧ meth.name = Y.1.name ∧ c.exceptionTable.toList = tbl Y.1
def rmo (d mc ms : Nat) : Room := { frames := d, cells := mc, slots := ms, locals := 64 * d }
def rv (B : Wd) (ad : Ad) (o : Outcome) (r : Option AV) : Prop := match r with
  | none => o = .returned none
  | some a => ∃ v, o = .returned (some v) ∧ rl B ad v a
def QC (cs : Nat → ClassId) (D : va_G) (A : Nat → Prop) (B0 : Wd) (ad0 : Ad) (Q : Option AV → Wd → St → Prop) : Array Value → State → Outcome → State → Prop := fun _ st o t =>
  (∃ (r : Option AV) (B : Wd) (σ : St) (ad : Ad), rv B ad o r ∧ Q r B σ ∧ Rep cs D A B ad σ t.heap ∧ Ext B0 ad0 B ad) ∧ va_F A st t
/-- where Y has thrown: Q of the sign (77, 0) -/
def XF (cs : Nat → ClassId) (D : va_G) (A : Nat → Prop) (B0 : Wd) (ad0 : Ad) (Q : Option AV → Wd → St → Prop) : String → State → State → Prop := fun E st t =>
  E = "java/util/NoSuchElementException" ∧ (∃ (B : Wd) (σ : St) (ad : Ad), Q (some (vR 77 0)) B σ ∧ Rep cs D A B ad σ t.heap ∧ Ext B0 ad0 B ad) ∧ va_F A st t
/-- what a body owes at its end -/
def EZ (Y : My) (below : List Frame) (cs : Nat → ClassId) (D : va_G) (A : Nat → Prop) (B0 : Wd) (ad0 : Ad) (Q : Option AV → Wd → St → Prop) (args : Array Value) (s : State) (mc ms : Nat) : State → Prop :=
  if kd Y.1 = 1 then vx_MQ below (QC cs D A B0 ad0 Q) (XF cs D A B0 ad0 Q) args s mc ms A else MQ below (QC cs D A B0 ad0 Q) args s mc ms A
theorem W_EZ {Y : My} {p : Program} {l : Launch} {e : Env} {R : Room} {s : State} {m : MethodId} {args : Array Value} {below : List Frame} {meth : Method} {c : Code} {H : Heap} {locs : List Loc} {k n : Nat} {cs : Nat → ClassId} {D : va_G} {A : Nat → Prop} {B0 : Wd} {ad0 : Ad} {Q : Option AV → Wd → St → Prop} {mc ms : Nat} {g : JFrame} (h : W p l e R s m args below meth c H locs k n (MQ below (QC cs D A B0 ad0 Q) args s mc ms A) g) : W p l e R s m args below meth c H locs k n (EZ Y below cs D A B0 ad0 Q args s mc ms) g := by
  unfold EZ
  split
  · exact vx_ret h
  · exact h
def wsY (Y : My) : List Cond := Cond.code Y.1 Y.2.1 Y.2.2.1 Y.2.2.2 :: tG
/-- a contract: from the store σ, with these arguments, Y returns and Q holds -/
def Cn (Y : My) (d mc ms : Nat) (B : Wd) (σ : St) (as : List AV) (Q : Option AV → Wd → St → Prop) : Prop :=
  ∀ (l : LL) (cs : Nat → ClassId) (D : va_G) (A : Nat → Prop) (ad : Ad) (vs : List Value),
    Met l.1 Y.1 (wsY Y) (rmo d mc ms) (fun v U => v = vs.toArray ∧ Kx cs D A ad U U.heap ∧ (∀ q, U.heap.size ≤ q → A q) ∧ Rep cs D A B ad σ U.heap ∧ sr B ad vs as) (QC cs D A B ad Q) mc ms A
/-- the machine at pc, its locals and stack as told: it comes to the method's end with Q -/
def E (Y : My) (d mc ms : Nat) (Q : Option AV → Wd → St → Prop) (B : Wd) (k n pc : Nat) (ls : List (Option AV)) (st : List AV) (σ : St) : Prop :=
  ∀ (p : Program) (l : LL) (e : Env) (s : State) (m : MethodId) (args : Array Value) (below : List Frame) (meth : Method) (c : Code) (H : Heap) (locs : List Loc) (cs : Nat → ClassId) (D : va_G) (A : Nat → Prop) (ad ad0 : Ad) (B0 : Wd) (lc : Array Slot) (sc : List Value),
    Cx Y p s m args meth c → Kx cs D A ad s s.heap → (∀ q, s.heap.size ≤ q → A q) → va_S A s.heap H locs → Rep cs D A B ad σ H → Ext B0 ad0 B ad → lr B ad lc Y.2.2.1 ls → sr B ad sc st →
    W p l.1 e (rmo d mc ms) s m args below meth c H locs k n (EZ Y below cs D A B0 ad0 Q args s mc ms) (F0 m pc lc sc)
theorem wl_at {cs : Nat → ClassId} {B : Wd} {ad : Ad} {σ : St} {q : Nat × Nat} (h : q ∈ B.1) : ∃ k : Nat, B.1[k]? = some q ∧ (wl cs B ad σ)[k]? = some (ad q.1 q.2, ce cs B ad σ q.1 q.2) := by
  obtain ⟨k, hk⟩ := List.getElem?_of_mem h
  exact ⟨k, hk, by rw [wl, List.getElem?_map, hk]; rfl⟩
theorem wl_set {cs : Nat → ClassId} {B : Wd} {ad : Ad} {σ σ' : St} {A : Nat → Prop} {k : Nat} {q : Nat × Nat} (hD : va_D A (wl cs B ad σ)) (hk : B.1[k]? = some q) (hs : ∀ q' ∈ B.1, q' ≠ q → ce cs B ad σ' q'.1 q'.2 = ce cs B ad σ q'.1 q'.2) : (wl cs B ad σ).set k (ad q.1 q.2, ce cs B ad σ' q.1 q.2) = wl cs B ad σ' := by
  apply List.ext_getElem?
  intro i
  rw [List.getElem?_set]
  have hkl : k < B.1.length := (List.getElem?_eq_some_iff.mp hk).1
  by_cases hi : k = i
  · subst hi
    rw [if_pos rfl, if_pos (by rw [wl, List.length_map]; exact hkl), wl, List.getElem?_map, hk]
    rfl
  · rw [if_neg hi, wl, wl, List.getElem?_map, List.getElem?_map]
    cases h : B.1[i]? with
    | none => rfl
    | some q' =>
      have hne : q' ≠ q := by
        intro e
        subst e
        exact hi (hD.1 k i _ _ (by rw [wl, List.getElem?_map, hk]; rfl) (by rw [wl, List.getElem?_map, h]; rfl) rfl)
      have := hs q' (List.mem_of_getElem? h) hne
      simp only [Option.map_some, this]
theorem go_congr {σ σ' : St} {t i j : Nat} (h : ∀ x, σ' t i x = σ t i x) : go σ' t i j = go σ t i j := by
  unfold go
  split
  · rfl
  · split
    · rename_i h1 h2
      subst h2
      rw [h]
    · rfl
theorem ce_congr {cs : Nat → ClassId} {B : Wd} {ad : Ad} {σ σ' : St} {t i : Nat} (h : ∀ x, σ' t i x = σ t i x) : ce cs B ad σ' t i = ce cs B ad σ t i := by
  have hr : ∀ j, rfv B ad σ' t i j = rfv B ad σ t i j := fun j => by unfold rfv; rw [go_congr h]
  have hv : ∀ j, sv B ad σ' t i j = sv B ad σ t i j := fun j => by unfold sv; rw [h, hr]
  unfold ce ca
  simp only [hv, hr, h]
theorem up_ne {σ : St} {t i t' i' : Nat} {x v x' : Int} (h : (t', i') ≠ (t, i)) : up σ t i x v t' i' x' = σ t' i' x' := by
  unfold up
  rw [if_neg]
  rintro ⟨rfl, rfl, -⟩
  exact h rfl
theorem up_at {σ : St} {t i : Nat} {x v : Int} : up σ t i x v t i x = v := by unfold up; rw [if_pos ⟨rfl, rfl, rfl⟩]
theorem up_nx {σ : St} {t i : Nat} {x v x' : Int} (h : x' ≠ x) : up σ t i x v t i x' = σ t i x' := by
  unfold up
  rw [if_neg]
  rintro ⟨-, -, q⟩
  exact h q
theorem Rg_up {σ : St} (h : Rg σ) {t i j : Nat} {v : Int} (hv : if lgp t j = true then i64 v else i32 v) : Rg (up σ t i j v) := by
  intro t' i' j'
  by_cases e : t' = t ∧ i' = i ∧ j' = j
  · obtain ⟨rfl, rfl, rfl⟩ := e
    rw [up_at]
    exact hv
  · have : up σ t i j v t' i' j' = σ t' i' j' := by
      unfold up
      rw [if_neg]
      rintro ⟨a, b, c⟩
      exact e ⟨a, b, Int.ofNat.inj c⟩
    rw [this]
    exact h t' i' j'
theorem Clo_up {B : Wd} {σ : St} (h : Clo B σ) {t i : Nat} {x v : Int} (ht : t ≠ 600) : Clo B (up σ t i x v) := by
  intro q hq j h1 h2
  have : go (up σ t i x v) q.1 q.2 j = go σ q.1 q.2 j := by
    unfold go
    split
    · rfl
    · split
      · rename_i a b
        rw [up_ne (fun e => ht (by have := congrArg Prod.fst e; simp at this; exact this.symm))]
      · rfl
  rw [this]
  exact h q hq j h1 h2
theorem i32_of (x : Int32) : i32 x.toInt := ⟨x.le_toInt, by have := x.toInt_lt; omega⟩
theorem i64_of (x : Int64) : i64 x.toInt := ⟨x.le_toInt, by have := x.toInt_lt; omega⟩
theorem i32_to {z : Int} (h : i32 z) : (Int32.ofInt z).toInt = z := by unfold i32 at h; rw [Int32.toInt_ofInt, show Int32.size = 4294967296 from rfl]; exact Int.bmod_eq_of_le (by omega) (by omega)
theorem i64_to {z : Int} (h : i64 z) : (Int64.ofInt z).toInt = z := by unfold i64 at h; rw [Int64.toInt_ofInt, show Int64.size = 18446744073709551616 from rfl]; exact Int.bmod_eq_of_le (by omega) (by omega)
theorem i32_back (x : Int32) : Int32.ofInt x.toInt = x := Int32.ofInt_toInt x
theorem i64_back (x : Int64) : Int64.ofInt x.toInt = x := Int64.ofInt_toInt x
/-- a number put into the store -/
theorem Rep_put {cs : Nat → ClassId} {D : va_G} {A : Nat → Prop} {B : Wd} {ad : Ad} {σ : St} {H H1 : Heap} {t i j k : Nat} {v : Int} {e : va_E} (h : Rep cs D A B ad σ H) (hk : B.1[k]? = some (t, i)) (hP : va_P D vwCl ((wl cs B ad σ).set k (ad t i, e)) H1) (hD : va_D A ((wl cs B ad σ).set k (ad t i, e))) (he : e = ce cs B ad (up σ t i j v) t i) (hv : if lgp t j = true then i64 v else i32 v) (ht : t ≠ 600) : Rep cs D A B ad (up σ t i j v) H1 := by
  have hs := wl_set (cs := cs) (ad := ad) (σ' := up σ t i j v) h.2.1 hk (fun q' _ hne => ce_congr (fun x => up_ne (fun a => hne a)))
  subst he
  rw [hs] at hP hD
  exact ⟨hP, hD, Rg_up h.2.2.1 hv, Clo_up h.2.2.2 ht⟩
