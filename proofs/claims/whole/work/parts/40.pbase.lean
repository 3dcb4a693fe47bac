/-! the pure part: numbers -/
def iI (z : Int) : Int32 := Int32.ofInt z
theorem iI_ex (a : Int32) : ∃ z : Int, -2147483648 ≤ z ∧ z < 2147483648 ∧ a = iI z := ⟨a.toInt, Int32.le_toInt a, Int32.toInt_lt a, (Int32.ofInt_toInt a).symm⟩
theorem iI_toInt {z : Int} (h1 : -2147483648 ≤ z) (h2 : z < 2147483648) : (iI z).toInt = z := Int32.toInt_ofInt_of_le (by omega) (by omega)
theorem iI_lt {a b : Int} (h1 : -2147483648 ≤ a) (h2 : a < 2147483648) (h3 : -2147483648 ≤ b) (h4 : b < 2147483648) : (iI a < iI b) = (a < b) := by
  rw [Int32.lt_iff_toInt_lt, iI_toInt h1 h2, iI_toInt h3 h4]
theorem iI_le {a b : Int} (h1 : -2147483648 ≤ a) (h2 : a < 2147483648) (h3 : -2147483648 ≤ b) (h4 : b < 2147483648) : (iI a ≤ iI b) = (a ≤ b) := by
  rw [Int32.le_iff_toInt_le, iI_toInt h1 h2, iI_toInt h3 h4]
theorem iI_eq {a b : Int} (h1 : -2147483648 ≤ a) (h2 : a < 2147483648) (h3 : -2147483648 ≤ b) (h4 : b < 2147483648) : (iI a = iI b) = (a = b) := by
  rw [← Int32.toInt_inj, iI_toInt h1 h2, iI_toInt h3 h4]
theorem iI_add (a b : Int) : iI a + iI b = iI (a + b) := (Int32.ofInt_add a b).symm
theorem iI_sub (a b : Int) : iI a - iI b = iI (a - b) := (Int32.ofInt_sub a b).symm
theorem iI_mul (a b : Int) : iI a * iI b = iI (a * b) := (Int32.ofInt_mul a b).symm
theorem iI_neg (a : Int) : -iI a = iI (-a) := (Int32.ofInt_neg a).symm
theorem iI_nI (n : Nat) : nI n = iI n := rfl
theorem cl_iI {z : Int} (h1 : 0 ≤ z) (h2 : z < 2147483648) : cl (iI z) = z.toNat := Int32.toNatClampNeg_ofInt_of_le (by omega) (by omega)
theorem vi_iI {z : Int} {n : Nat} (h1 : 0 ≤ z) (h2 : z < n) (h3 : n ≤ 1000) : vi (iI z) n = true := by
  have e0 : (0 : Int32) = iI 0 := rfl
  have h4 : (iI z).toNatClampNeg = z.toNat := cl_iI h1 (by omega)
  unfold vi
  have hn : ¬ (iI z < iI 0) := by rw [iI_lt (by omega) (by omega) (by omega) (by omega)]; omega
  simp [e0, hn, h4]
  omega
theorem ck_t {α : Type} {k : Option α} : ck true k = k := rfl
theorem lt_b {α β : Type} {a : α} {k : α → β} : lt a k = k a := rfl
theorem bn_s {α β : Type} {a : α} {k : α → Option β} : bn (some a) k = k a := rfl
theorem bn2_s {α β γ : Type} {a : α} {b : β} {k : α → β → Option γ} : bn2 (some (a, b)) k = k a b := rfl
theorem jn_b {α β : Type} {k : α} {b : α → β} : jn k b = b k := rfl
theorem nl_N {α : Type} {a : α} {f : Nat → α} : nl none a f = a := rfl
theorem nl_S {α : Type} {w : Nat} {a : α} {f : Nat → α} : nl (some w) a f = f w := rfl
theorem FU_s : FU = 99999 + 1 := rfl
theorem i_m2147483648 : (-2147483648 : Int32) = iI (-2147483648) := rfl
theorem i_m1002 : (-1002 : Int32) = iI (-1002) := rfl
theorem i_m10 : (-10 : Int32) = iI (-10) := rfl
theorem i_m9 : (-9 : Int32) = iI (-9) := rfl
theorem i_m4 : (-4 : Int32) = iI (-4) := rfl
theorem i_m3 : (-3 : Int32) = iI (-3) := rfl
theorem i_m2 : (-2 : Int32) = iI (-2) := rfl
theorem i_m1 : (-1 : Int32) = iI (-1) := rfl
theorem i_0 : (0 : Int32) = iI (0) := rfl
theorem i_1 : (1 : Int32) = iI (1) := rfl
theorem i_2 : (2 : Int32) = iI (2) := rfl
theorem i_3 : (3 : Int32) = iI (3) := rfl
theorem i_4 : (4 : Int32) = iI (4) := rfl
theorem i_5 : (5 : Int32) = iI (5) := rfl
theorem i_6 : (6 : Int32) = iI (6) := rfl
theorem i_7 : (7 : Int32) = iI (7) := rfl
theorem i_8 : (8 : Int32) = iI (8) := rfl
theorem i_9 : (9 : Int32) = iI (9) := rfl
theorem i_12 : (12 : Int32) = iI (12) := rfl
theorem i_15 : (15 : Int32) = iI (15) := rfl
theorem i_16 : (16 : Int32) = iI (16) := rfl
theorem i_32 : (32 : Int32) = iI (32) := rfl
theorem i_40 : (40 : Int32) = iI (40) := rfl
theorem i_45 : (45 : Int32) = iI (45) := rfl
theorem i_48 : (48 : Int32) = iI (48) := rfl
theorem i_55 : (55 : Int32) = iI (55) := rfl
theorem i_59 : (59 : Int32) = iI (59) := rfl
theorem i_60 : (60 : Int32) = iI (60) := rfl
theorem i_63 : (63 : Int32) = iI (63) := rfl
theorem i_64 : (64 : Int32) = iI (64) := rfl
theorem i_78 : (78 : Int32) = iI (78) := rfl
theorem i_81 : (81 : Int32) = iI (81) := rfl
theorem i_83 : (83 : Int32) = iI (83) := rfl
theorem i_110 : (110 : Int32) = iI (110) := rfl
theorem i_115 : (115 : Int32) = iI (115) := rfl
theorem i_255 : (255 : Int32) = iI (255) := rfl
theorem i_12345 : (12345 : Int32) = iI (12345) := rfl
theorem i_1103515245 : (1103515245 : Int32) = iI (1103515245) := rfl
