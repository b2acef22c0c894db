/-- all cells of the system, made -/
def wwN : List (Nat × Nat) := [(0, 0), (1, 0), (2, 0), (2, 1), (3, 0), (3, 1), (3, 2), (3, 3), (3, 4), (3, 5), (4, 0), (4, 1), (4, 2), (4, 3), (5, 0), (6, 0), (7, 0), (7, 1), (7, 2), (7, 3), (7, 4), (8, 0), (8, 1), (9, 0), (9, 1), (9, 2), (9, 3), (9, 4), (9, 5), (9, 6), (9, 7), (9, 8), (9, 9), (9, 10), (9, 11), (9, 12), (9, 13), (9, 14), (9, 15), (9, 16), (9, 17), (9, 18), (9, 19), (9, 20), (9, 21), (10, 0), (11, 0), (12, 0), (60, 0), (102, 0), (152, 0), (152, 1), (152, 2), (152, 3), (152, 4), (152, 5), (202, 0), (203, 0), (204, 0), (205, 0), (206, 0), (254, 0), (254, 1), (254, 2), (254, 3), (254, 4), (254, 5), (254, 6), (255, 0), (255, 1), (255, 2), (255, 3), (255, 4), (255, 5), (256, 0), (256, 1), (256, 2), (256, 3), (256, 4), (256, 5), (300, 0), (300, 1), (301, 0), (301, 1), (302, 0), (302, 1), (400, 0), (400, 1), (400, 2), (400, 3), (400, 4), (400, 5), (401, 0), (401, 1), (401, 2), (401, 3), (401, 4), (401, 5), (402, 0), (402, 1), (402, 2), (402, 3), (402, 4), (402, 5), (600, 0), (800, 0), (800, 1), (800, 2), (800, 3), (800, 4), (801, 0), (801, 1), (801, 2), (801, 3), (801, 4), (802, 0), (802, 1), (802, 2), (802, 3), (802, 4), (900, 0), (900, 1), (901, 0), (901, 1), (902, 0), (902, 1), (903, 0), (903, 1), (904, 0), (904, 1), (905, 0), (905, 1), (906, 0), (906, 1), (907, 0), (907, 1), (908, 0), (908, 1), (1001, 0), (1001, 1), (1001, 2), (1001, 3), (1001, 4), (1001, 5), (1001, 6), (1001, 7), (1001, 8), (1001, 9), (1001, 10), (1001, 11), (1001, 12), (1001, 13), (1001, 14), (1001, 15), (1001, 16), (1001, 17), (1001, 18), (1001, 19), (1001, 20), (1001, 21), (1002, 0), (1002, 1), (1002, 2), (1002, 3), (1002, 4), (1002, 5), (1002, 6), (1002, 7), (1002, 8), (1002, 9), (1002, 10), (1002, 11), (1002, 12), (1002, 13), (1002, 14), (1002, 15), (1002, 16), (1002, 17), (1002, 18), (1002, 19), (1002, 20), (1002, 21), (1003, 0), (1003, 1), (1003, 2), (1003, 3), (1003, 4), (1003, 5), (1003, 6), (1003, 7), (1003, 8), (1003, 9), (1003, 10), (1003, 11), (1003, 12), (1003, 13), (1003, 14), (1003, 15), (1003, 16), (1003, 17), (1003, 18), (1003, 19), (1003, 20), (1003, 21), (1004, 0), (1004, 1), (1004, 2), (1004, 3), (1004, 4), (1004, 5), (1004, 6), (1004, 7), (1004, 8), (1004, 9), (1004, 10), (1004, 11), (1004, 12), (1004, 13), (1004, 14), (1004, 15), (1004, 16), (1004, 17), (1004, 18), (1004, 19), (1004, 20), (1004, 21), (1005, 0), (1005, 1), (1005, 2), (1005, 3), (1005, 4), (1005, 5), (1005, 6), (1005, 7), (1005, 8), (1005, 9), (1005, 10), (1005, 11), (1005, 12), (1005, 13), (1005, 14), (1005, 15), (1005, 16), (1005, 17), (1005, 18), (1005, 19), (1005, 20), (1005, 21), (1006, 0), (1006, 1), (1006, 2), (1006, 3), (1006, 4), (1006, 5), (1006, 6), (1006, 7), (1006, 8), (1006, 9), (1006, 10), (1006, 11), (1006, 12), (1006, 13), (1006, 14), (1006, 15), (1006, 16), (1006, 17), (1006, 18), (1006, 19), (1006, 20), (1006, 21), (1007, 0), (1007, 1), (1007, 2), (1007, 3), (1007, 4), (1007, 5), (1007, 6), (1007, 7), (1007, 8), (1007, 9), (1007, 10), (1007, 11), (1007, 12), (1007, 13), (1007, 14), (1007, 15), (1007, 16), (1007, 17), (1007, 18), (1007, 19), (1007, 20), (1007, 21), (1100, 0), (1101, 0), (1102, 0), (1103, 0), (1210, 0), (1302, 0), (1310, 0), (1311, 0), (1312, 0), (1313, 0), (1314, 0), (1315, 0), (1316, 0), (1317, 0), (1318, 0), (1319, 0), (1320, 0), (1321, 0), (1324, 0), (1325, 0), (1326, 0), (1327, 0), (1328, 0), (1329, 0), (1330, 0), (1331, 0), (1332, 0), (1333, 0), (1334, 0), (1335, 0), (1338, 0), (1339, 0), (1340, 0), (1341, 0), (1342, 0), (1343, 0), (1344, 0), (1345, 0), (1346, 0), (1347, 0), (1348, 0), (1349, 0), (1350, 0), (1351, 0), (1353, 0), (1355, 0), (1357, 0)]
abbrev ww : Wd := (wwN, fun t _ j => if t < 13 then true else decide (j < (shp t).2))
theorem wwA {t a b i : Nat} {x : Int} (h : shp t = (a, b)) (h0 : 0 ≤ x) (h1 : x < (b : Int)) : ww.2 t i x.toNat = true := by
  show (if t < 13 then true else decide (x.toNat < (shp t).2)) = true
  split
  · rfl
  · rw [h]; exact decide_eq_true (by show x.toNat < b; omega)
section ERules6
variable {Y : My} {d mc ms : Nat} {Q : Option AV → Wd → St → Prop} {B : Wd} {k n pc : Nat} {ls : List (Option AV)} {st : List AV} {σ : St}
def b32 (z : Int) : Bool := decide (-2147483648 ≤ z) && decide (z ≤ 2147483647)
theorem b32_to {z : Int} (h : b32 z = true) : (Int32.ofInt z).toInt = z := by
  unfold b32 at h
  rw [Bool.and_eq_true, decide_eq_true_iff, decide_eq_true_iff] at h
  exact i32_to h
theorem E_ic {z : Int} (hd : decode Y.2.1 pc = .ok (.iconst z, 1)) (hz : b32 z = true) (kk : E Y d mc ms Q B k n (pc + 1) ls (vI z :: st) σ) : E Y d mc ms Q B k n pc ls st σ := E_iconst hd (b32_to hz) kk
def b8 (z : Int) : Bool := decide (-128 ≤ z) && decide (z ≤ 127)
def b16 (z : Int) : Bool := decide (-32768 ≤ z) && decide (z ≤ 32767)
theorem E_bp {z : Int} (hd : decode Y.2.1 pc = .ok (.bipush z, 2)) (hz : b8 z = true) (kk : E Y d mc ms Q B k n (pc + 2) ls (vI z :: st) σ) : E Y d mc ms Q B k n pc ls st σ := by
  refine E_bipush hd ?_ kk
  unfold b8 at hz
  rw [Bool.and_eq_true, decide_eq_true_iff, decide_eq_true_iff] at hz
  rw [Int8.toInt_toInt32, Int8.toInt_ofInt, show Int8.size = 256 from rfl]
  exact Int.bmod_eq_of_le (by omega) (by omega)
theorem E_sp {z : Int} (hd : decode Y.2.1 pc = .ok (.sipush z, 3)) (hz : b16 z = true) (kk : E Y d mc ms Q B k n (pc + 3) ls (vI z :: st) σ) : E Y d mc ms Q B k n pc ls st σ := by
  refine E_sipush hd ?_ kk
  unfold b16 at hz
  rw [Bool.and_eq_true, decide_eq_true_iff, decide_eq_true_iff] at hz
  rw [Int16.toInt_toInt32, Int16.toInt_ofInt, show Int16.size = 65536 from rfl]
  exact Int.bmod_eq_of_le (by omega) (by omega)
theorem E_lc {nn : Fin 2} {z : Int} (hd : decode Y.2.1 pc = .ok (.lconst nn, 1)) (hz : (nn : Nat) = z) (kk : E Y d mc ms Q B k n (pc + 1) ls (vL z :: st) σ) : E Y d mc ms Q B k n pc ls st σ := by
  subst hz
  refine E_lconst hd ?_ kk
  have h2 := nn.2
  rcases (show (nn : Nat) = 0 ∨ (nn : Nat) = 1 by omega) with e | e <;> rw [e] <;> rfl
def wkk : List (Option AV) → List (Option AV) → Prop
  | [], _ => True
  | none :: l', [] => wkk l' []
  | none :: l', _ :: l => wkk l' l
  | some _ :: _, [] => False
  | some _ :: _, none :: _ => False
  | some a :: l', some b :: l => a = b ∧ wkk l' l
theorem wkk_get : ∀ {l' l : List (Option AV)}, wkk l' l → ∀ (i : Nat) (a : AV), l'[i]? = some (some a) → l[i]? = some (some a)
  | [], _, _, i, a, h => by simp at h
  | none :: l', [], h, 0, a, e => by simp at e
  | none :: l', [], h, i + 1, a, e => by
    have := wkk_get (l' := l') (l := []) h i a (by simpa using e)
    simp at this
  | none :: l', _ :: l, h, 0, a, e => by simp at e
  | none :: l', _ :: l, h, i + 1, a, e => by
    have := wkk_get (l' := l') (l := l) h i a (by simpa using e)
    simpa using this
  | some b :: l', some c :: l, h, 0, a, e => by
    have := h.1
    subst this
    simpa using e
  | some b :: l', some c :: l, h, i + 1, a, e => by
    have := wkk_get (l' := l') (l := l) h.2 i a (by simpa using e)
    simpa using this
theorem E_wk2 (ls' : List (Option AV)) (h : wkk ls' ls) (kk : E Y d mc ms Q B k n pc ls' st σ) : E Y d mc ms Q B k n pc ls st σ := E_wk ls' (wkk_get h) kk
def QI (Q : Int → St → Prop) : Option AV → Wd → St → Prop := fun r B σ => ∃ z, r = some (vI z) ∧ B = ww ∧ Q z σ
def QL (Q : Int → St → Prop) : Option AV → Wd → St → Prop := fun r B σ => ∃ z, r = some (vL z) ∧ B = ww ∧ Q z σ
def QV (Q : St → Prop) : Option AV → Wd → St → Prop := fun r B σ => r = none ∧ B = ww ∧ Q σ
def FU : Nat := 8192
theorem go_600 {σ : St} {x : Int} (h : 0 ≤ x) : go σ 600 0 x.toNat = (9, (σ 600 0 x).toNat) := by
  unfold go
  rw [if_neg (by decide), if_pos rfl, Int.toNat_of_nonneg h]
end ERules6
