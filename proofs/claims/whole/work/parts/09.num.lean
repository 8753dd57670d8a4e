/-! ===== numbers, rows, bits ===== -/
theorem rd_n {n k : Nat} {f : Nat → Int32} (h : k < n) (hn : n < 2 ^ 31) : tv_rd n f (nI k) = some (f k) := by
  unfold tv_rd
  rw [if_neg (nI_in h hn), nI_clamp (by omega)]
theorem wr_n {n k : Nat} {f : Nat → Int32} {x : Int32} (h : k < n) (hn : n < 2 ^ 31) : tv_wr n f (nI k) x = some (upd f k x) := by
  unfold tv_wr
  rw [if_neg (nI_in h hn), nI_clamp (by omega)]
theorem rd_l {n k : Nat} {f : Nat → Int32} (h : k < n) (hn : n < 2 ^ 31) : tv_rd n f (OfNat.ofNat k : Int32) = some (f k) := rd_n h hn
theorem wr_l {n k : Nat} {f : Nat → Int32} {x : Int32} (h : k < n) (hn : n < 2 ^ 31) : tv_wr n f (OfNat.ofNat k : Int32) x = some (upd f k x) := wr_n h hn
theorem up_s {α : Type} {f : Nat → α} {k : Nat} {x : α} : va_up f k x k = x := by simp [va_up]
theorem up_n {α : Type} {f : Nat → α} {k j : Nat} {x : α} (h : j ≠ k) : va_up f k x j = f j := by simp [va_up, h]
theorem nl (k : Nat) : (OfNat.ofNat k : Int32) = nI k := rfl
def tN (v : Nat → Int32) (i : Nat) : Nat := (v i).toNatClampNeg
def isN (v : Nat → Int32) (i B : Nat) : Prop := v i = nI (tN v i) ∧ tN v i ≤ B
theorem isN_of {v : Nat → Int32} {i B k : Nat} (h : v i = nI k) (hk : k ≤ B) (hB : B < 2 ^ 31) : isN v i B := by
  have e : tN v i = k := by unfold tN; rw [h]; exact nI_clamp (by omega)
  exact ⟨by rw [e]; exact h, by omega⟩
theorem tN_of {v : Nat → Int32} {i k : Nat} (h : v i = nI k) (hk : k < 2 ^ 31) : tN v i = k := by unfold tN; rw [h]; exact nI_clamp hk
theorem isN_congr {v w : Nat → Int32} {i j B : Nat} (h : isN v i B) (e : w j = v i) : isN w j B := by
  unfold isN tN at h ⊢
  rw [e]
  exact h
theorem tN_congr {v w : Nat → Int32} {i j : Nat} (e : w j = v i) : tN w j = tN v i := by
  unfold tN
  rw [e]
theorem nI_ne9 {k : Nat} (h : k < 2 ^ 31) : ¬ nI k = -9 := by
  intro e
  have := congrArg Int32.toInt e
  rw [nI_toInt h, show ((-9 : Int32)).toInt = -9 from by decide] at this
  omega
theorem nI_ge0 {k : Nat} (h : k < 2 ^ 31) : (0 : Int32) ≤ nI k := nI_pos' h
theorem m9_neg : ¬ (0 : Int32) ≤ -9 := by decide
theorem toI_lt {a b : Int32} : a < b ↔ a.toInt < b.toInt := Int32.lt_iff_toInt_lt
theorem toI_le {a b : Int32} : a ≤ b ↔ a.toInt ≤ b.toInt := Int32.le_iff_toInt_le
theorem toI_eq {a b : Int32} : a = b ↔ a.toInt = b.toInt := Int32.toInt_inj.symm
theorem toI_rng (a : Int32) : -2147483648 ≤ a.toInt ∧ a.toInt < 2147483648 := ⟨Int32.le_toInt a, Int32.toInt_lt a⟩
theorem toI_add {a b : Int32} (h1 : -2147483648 ≤ a.toInt + b.toInt) (h2 : a.toInt + b.toInt < 2147483648) : (a + b).toInt = a.toInt + b.toInt := by
  rw [Int32.toInt_add]
  exact Int.bmod_eq_of_le (by omega) (by omega)
theorem toI_sub {a b : Int32} (h1 : -2147483648 ≤ a.toInt - b.toInt) (h2 : a.toInt - b.toInt < 2147483648) : (a - b).toInt = a.toInt - b.toInt := by
  rw [Int32.toInt_sub]
  exact Int.bmod_eq_of_le (by omega) (by omega)
theorem toI_mul {a b : Int32} (h1 : -2147483648 ≤ a.toInt * b.toInt) (h2 : a.toInt * b.toInt < 2147483648) : (a * b).toInt = a.toInt * b.toInt := by
  rw [Int32.toInt_mul]
  exact Int.bmod_eq_of_le (by omega) (by omega)
theorem nn_of {x : Int32} (h : 0 ≤ x.toInt) : x = nI x.toInt.toNat := by
  rw [toI_eq, nI_toInt (by have := toI_rng x; omega)]
  omega
/-! sums -/
def sg (f : Nat → Nat) : Nat → Nat → Nat
  | _, 0 => 0
  | i, k + 1 => f i + sg f (i + 1) k
theorem sg_add (f : Nat → Nat) : ∀ (k i j : Nat), sg f i (k + j) = sg f i k + sg f (i + k) j
  | 0, i, j => by simp [sg]
  | k + 1, i, j => by
    rw [show k + 1 + j = (k + j) + 1 by omega, sg, sg, sg_add f k (i + 1) j, show i + 1 + k = i + (k + 1) by omega]
    omega
theorem sg_zero (f : Nat → Nat) : ∀ (k i : Nat), (∀ j, i ≤ j → j < i + k → f j = 0) → sg f i k = 0
  | 0, i, _ => rfl
  | k + 1, i, h => by
    rw [sg, h i (by omega) (by omega), sg_zero f k (i + 1) (fun j h1 h2 => h j (by omega) (by omega))]
theorem sg_congr (f f' : Nat → Nat) : ∀ (k i : Nat), (∀ j, i ≤ j → j < i + k → f j = f' j) → sg f i k = sg f' i k
  | 0, i, _ => rfl
  | k + 1, i, h => by
    rw [sg, sg, h i (by omega) (by omega), sg_congr f f' k (i + 1) (fun j h1 h2 => h j (by omega) (by omega))]
theorem sg_le (f : Nat → Nat) (B : Nat) : ∀ (k i : Nat), (∀ j, i ≤ j → j < i + k → f j ≤ B) → sg f i k ≤ k * B
  | 0, i, _ => by simp [sg]
  | k + 1, i, h => by
    have h1 := h i (by omega) (by omega)
    have h2 := sg_le f B k (i + 1) (fun j h1 h2 => h j (by omega) (by omega))
    rw [sg, Nat.add_mul]
    omega
theorem sg_cut {f : Nat → Nat} {M N : Nat} (h : M ≤ N) (hz : ∀ j, M ≤ j → j < N → f j = 0) : sg f 0 N = sg f 0 M := by
  have e := sg_add f M 0 (N - M)
  rw [show M + (N - M) = N by omega] at e
  rw [e, sg_zero f (N - M) (0 + M) (fun j h1 h2 => hz j (by omega) (by omega))]
  omega
/-! bits -/
theorem nI_and (a b : Nat) : nI a &&& nI b = nI (a &&& b) := by
  apply Int32.toBitVec_inj.mp
  rw [Int32.toBitVec_and]
  exact BitVec.ofNat_and.symm
theorem nI_or (a b : Nat) : nI a ||| nI b = nI (a ||| b) := by
  apply Int32.toBitVec_inj.mp
  rw [Int32.toBitVec_or]
  exact BitVec.ofNat_or.symm
theorem bit_m : ∀ m, m < 10 → ((nI m &&& 31).toBitVec.smod 32).toNat = m := by decide +kernel
theorem shr_n {n m : Nat} (hn : n < 2 ^ 31) (hm : m < 10) : (nI n >>> (nI m &&& 31)) &&& 1 = if n.testBit m then 1 else 0 := by
  rw [pk_shrN hn _ m (bit_m m hm), pk_andN (by have := Nat.div_le_self n (2 ^ m); omega) 1 (by decide), Nat.testBit_eq_decide_div_mod_eq]
  have h2 : n / 2 ^ m % 2 < 2 := Nat.mod_lt _ (by omega)
  rcases (show n / 2 ^ m % 2 = 0 ∨ n / 2 ^ m % 2 = 1 by omega) with e | e
  · simp [e]; rfl
  · simp [e]; rfl
theorem has_n {n m : Nat} (hn : n < 2 ^ 31) (hm : m < 10) : F_X7_has (nI n) (nI m) = if n.testBit m then 1 else 0 := by
  unfold F_X7_has
  rw [shr_n hn hm]
  cases n.testBit m <;> rfl
theorem only_n : ∀ m, m < 10 → F_X7_only (nI m) = nI (2 ^ m) := by decide +kernel
theorem onlyn_n : ∀ m, m < 10 → F_X7_only (nI m) ^^^ (-1) = (nI (2 ^ m)) ^^^ (-1) := fun m hm => by rw [only_n m hm]
theorem clr_n {n m : Nat} (hn : n < 1024) (hm : m < 10) : nI n &&& (F_X7_only (nI m) ^^^ (-1)) = nI (n &&& (1023 ^^^ 2 ^ m)) := by
  have key : ∀ m, m < 10 → (1023 : Int32) &&& (F_X7_only (nI m) ^^^ (-1)) = nI (1023 ^^^ 2 ^ m) := by decide +kernel
  have e : nI n = nI n &&& 1023 := by
    rw [nl 1023, nI_and]
    congr 1
    have := Nat.and_two_pow_sub_one_eq_mod n 10
    simp only [show 2 ^ 10 - 1 = 1023 from rfl] at this
    rw [this, Nat.mod_eq_of_lt (by omega)]
  rw [e, Int32.and_assoc, key m hm, nI_and]
theorem set_n {n m : Nat} (hm : m < 10) : nI n ||| F_X7_only (nI m) = nI (n ||| 2 ^ m) := by
  rw [only_n m hm, nI_or]
theorem set_lt {n m : Nat} (hn : n < 1024) (hm : m < 10) : n ||| 2 ^ m < 1024 := by
  have h2 : 2 ^ m < 2 ^ 10 := Nat.pow_lt_pow_right (by omega) hm
  exact Nat.or_lt_two_pow (n := 10) hn h2
theorem clr_lt {n k : Nat} (hn : n < 1024) : n &&& k < 1024 := Nat.lt_of_le_of_lt Nat.and_le_left hn
theorem set_bit {n m j : Nat} (hj : j < 10) : (n ||| 2 ^ m).testBit j = (n.testBit j || decide (m = j)) := by
  rw [Nat.testBit_or, Nat.testBit_two_pow]
theorem clr_bit {n m j : Nat} (hj : j < 10) : (n &&& (1023 ^^^ 2 ^ m)).testBit j = (n.testBit j && !decide (m = j)) := by
  rw [Nat.testBit_and, Nat.testBit_xor, Nat.testBit_two_pow]
  have : Nat.testBit 1023 j = true := by
    have : ∀ j, j < 10 → Nat.testBit 1023 j = true := by decide +kernel
    exact this j hj
  rw [this]
  cases n.testBit j <;> cases decide (m = j) <;> rfl
def bN (n m : Nat) : Nat := if n.testBit m then 1 else 0
theorem bc_n : ∀ n, n < 1024 → tv_bc (nI n) = nI (sg (bN n) 0 10) := by decide +kernel
theorem shl_n : ∀ m, m < 10 → ((0 : Int32) <<< (nI m &&& 31) = 0 ∧ (1 : Int32) <<< (nI m &&& 31) = nI (2 ^ m)) := by decide +kernel
theorem at_n (m k : Nat) : F_X8_at (nI m) (nI k) = nI (20 + 15 * m + k) := by
  unfold F_X8_at
  rw [nl 20, nl 15, pk_mul, nI_add, nI_add]
theorem at_l (m k : Nat) : F_X8_at (nI m) (OfNat.ofNat k) = nI (20 + 15 * m + k) := at_n m k
theorem of_n (s k : Nat) : F_X8_of (nI (s + 1)) (nI k) = nI (170 + 18 * s + k) := by
  unfold F_X8_of
  rw [nl 170, nl 18, nI_pred, pk_mul, nI_add, nI_add]
theorem of_l (s k : Nat) : F_X8_of (nI (s + 1)) (OfNat.ofNat k) = nI (170 + 18 * s + k) := of_n s k
theorem tallyAt_n (r m : Nat) : F_X8_tallyAt (nI r) (nI m) = nI (980 + 10 * r + m) := by
  unfold F_X8_tallyAt
  rw [nl 980, nl 10, pk_mul, nI_add, nI_add]
theorem at0 (m : Nat) : F_X8_at (nI m) 0 = nI (20 + 15 * m) := by
  have e := at_n m 0
  rw [show 20 + 15 * m + 0 = 20 + 15 * m by omega] at e
  exact e
theorem at1 (m : Nat) : F_X8_at (nI m) 1 = nI (21 + 15 * m) := by
  have e := at_n m 1
  rw [show 20 + 15 * m + 1 = 21 + 15 * m by omega] at e
  exact e
theorem at2 (m : Nat) : F_X8_at (nI m) 2 = nI (22 + 15 * m) := by
  have e := at_n m 2
  rw [show 20 + 15 * m + 2 = 22 + 15 * m by omega] at e
  exact e
theorem at3 (m : Nat) : F_X8_at (nI m) 3 = nI (23 + 15 * m) := by
  have e := at_n m 3
  rw [show 20 + 15 * m + 3 = 23 + 15 * m by omega] at e
  exact e
theorem at4 (m : Nat) : F_X8_at (nI m) 4 = nI (24 + 15 * m) := by
  have e := at_n m 4
  rw [show 20 + 15 * m + 4 = 24 + 15 * m by omega] at e
  exact e
theorem at5 (m : Nat) : F_X8_at (nI m) 5 = nI (25 + 15 * m) := by
  have e := at_n m 5
  rw [show 20 + 15 * m + 5 = 25 + 15 * m by omega] at e
  exact e
theorem of0 (s : Nat) : F_X8_of (nI (s + 1)) 0 = nI (170 + 18 * s) := by
  have e := of_n s 0
  rw [show 170 + 18 * s + 0 = 170 + 18 * s by omega] at e
  exact e
theorem of1 (s : Nat) : F_X8_of (nI (s + 1)) 1 = nI (171 + 18 * s) := by
  have e := of_n s 1
  rw [show 170 + 18 * s + 1 = 171 + 18 * s by omega] at e
  exact e
theorem of2 (s : Nat) : F_X8_of (nI (s + 1)) 2 = nI (172 + 18 * s) := by
  have e := of_n s 2
  rw [show 170 + 18 * s + 2 = 172 + 18 * s by omega] at e
  exact e
theorem of3 (s : Nat) : F_X8_of (nI (s + 1)) 3 = nI (173 + 18 * s) := by
  have e := of_n s 3
  rw [show 170 + 18 * s + 3 = 173 + 18 * s by omega] at e
  exact e
theorem of4 (s : Nat) : F_X8_of (nI (s + 1)) 4 = nI (174 + 18 * s) := by
  have e := of_n s 4
  rw [show 170 + 18 * s + 4 = 174 + 18 * s by omega] at e
  exact e
theorem of5 (s : Nat) : F_X8_of (nI (s + 1)) 5 = nI (175 + 18 * s) := by
  have e := of_n s 5
  rw [show 170 + 18 * s + 5 = 175 + 18 * s by omega] at e
  exact e
theorem of6 (s : Nat) : F_X8_of (nI (s + 1)) 6 = nI (176 + 18 * s) := by
  have e := of_n s 6
  rw [show 170 + 18 * s + 6 = 176 + 18 * s by omega] at e
  exact e
theorem of7 (s : Nat) : F_X8_of (nI (s + 1)) 7 = nI (177 + 18 * s) := by
  have e := of_n s 7
  rw [show 170 + 18 * s + 7 = 177 + 18 * s by omega] at e
  exact e
