/-! ===== counting, least items, the reference's small methods ===== -/
def zsub (n : Nat) (x : Int32) : Prop := ∀ i, i < 32 → bt x i = true → i < n
theorem zsub_le {n m : Nat} {x : Int32} (h : zsub n x) (hnm : n ≤ m) : zsub m x := fun i hi hb => Nat.lt_of_lt_of_le (h i hi hb) hnm
theorem zsub_and {n : Nat} {x : Int32} (h : zsub n x) (y : Int32) : zsub n (x &&& y) := fun i hi hb => h i hi (by rw [b_and] at hb; simp at hb; exact hb.1)
theorem znat12 {x : Int32} (h : zsub 12 x) : ∃ X, X < 4096 ∧ x = nI X := by
  refine ⟨x.toBitVec.toNat, ?_, ?_⟩
  · apply Nat.lt_pow_two_of_testBit (n := 12)
    intro i hi
    by_cases h32 : i < 32
    · cases hb : bt x i with
      | false => exact hb
      | true => have := h i h32 hb; omega
    · have := b_big (x := x) (show 32 ≤ i by omega)
      exact this
  · apply Int32.toBitVec_inj.mp
    show x.toBitVec = BitVec.ofNat 32 x.toBitVec.toNat
    simp
def zcn (x : Int32) : Nat → Nat
  | 0 => 0
  | n + 1 => zcn x n + (if bt x n = true then 1 else 0)
/-- how many items a set has -/
def zcnt (x : Int32) : Nat := zcn x 12
theorem zcn_le (x : Int32) : ∀ n, zcn x n ≤ n
  | 0 => Nat.le_refl 0
  | n + 1 => by
    have := zcn_le x n
    rw [zcn]
    split <;> omega
theorem zcnt_le (x : Int32) : zcnt x ≤ 12 := zcn_le x 12
theorem bitCount_64 : ∀ a, a < 64 → ∀ b, b < 64 → fJ6_bitCount_0f7a4 (nI (64 * a + b)) = some (nI (zcnt (nI (64 * a + b)))) := by decide +kernel
theorem bitCount_4096 (X : Nat) (h : X < 4096) : fJ6_bitCount_0f7a4 (nI X) = some (nI (zcnt (nI X))) := by
  have := bitCount_64 (X / 64) (by omega) (X % 64) (by omega)
  rw [show 64 * (X / 64) + X % 64 = X by omega] at this
  exact this
theorem bitCount_ok {x : Int32} (h : zsub 12 x) : fJ6_bitCount_0f7a4 x = some (nI (zcnt x)) := by
  obtain ⟨X, hX, rfl⟩ := znat12 h
  exact bitCount_4096 X hX
theorem least_64 : ∀ a, a < 64 → ∀ b, b < 64 → 64 * a + b = 0 ∨ fX5_least (nI (64 * a + b)) = some (nI (zlst (nI (64 * a + b)))) := by decide +kernel
theorem least_4096 (X : Nat) (h : X < 4096) : X = 0 ∨ fX5_least (nI X) = some (nI (zlst (nI X))) := by
  have := least_64 (X / 64) (by omega) (X % 64) (by omega)
  rw [show 64 * (X / 64) + X % 64 = X by omega] at this
  exact this
theorem least_ok {x : Int32} (h : zsub 12 x) (h0 : ¬ x = 0) : fX5_least x = some (nI (zlst x)) := by
  obtain ⟨X, hX, rfl⟩ := znat12 h
  rcases least_4096 X hX with h1 | h1
  · subst h1
    exact absurd rfl h0
  · exact h1
theorem has_ok (x : Int32) {k : Nat} (hk : k < 32) : fX9_has x (nI k) = some (if bt x k = true then 1 else 0) := by
  unfold fX9_has
  rw [zb_bit x hk]
  cases bt x k
  · simp
  · simp
theorem sizeOf_ok (x : Int32) : fX9_sizeOf x = some (nI (zcnt x)) := by
  unfold fX9_sizeOf
  have hlp : olp (fX9_sizeOf_s4 x) oFu (nI 0, nI 0) = some (nI (zcnt x)) := by
    refine zloop (f := fX9_sizeOf_s4 x) 12 (fun i => nI (zcn x i)) 0 (by omega) (by omega) ?_ ?_
    · intro i _ hi
      unfold fX9_sizeOf_s4 fX9_sizeOf_b4
      dsimp only
      rw [show (12 : Int32) = nI 12 from rfl, if_neg (by rw [zle (by omega) (by omega)]; omega), zb_bit x (by omega), nI_1, zcn]
      simp only [onm]
      cases bt x i
      · simp
      · simp [nI_1]
    · unfold fX9_sizeOf_s4 fX9_sizeOf_b4
      dsimp only
      rw [show (12 : Int32) = nI 12 from rfl, if_pos (by rw [zle (by omega) (by omega)]; omega)]
      rfl
  exact congrArg (fun o => ob1 o (fun x => some x)) hlp
theorem bring_ok {l1 l2 a b n : Nat} (h1 : a + n ≤ l1) (h2 : b + n ≤ l2) (h3 : l1 < 10000) (h4 : l2 < 10000) (hn : n < 10000) (ff tf : Nat → Int32) : fX9_bring l1 l2 (nI a) (nI b) (nI n) ff tf = some (fun j => if b ≤ j ∧ j < b + n then ff (a + (j - b)) else tf j) := by
  unfold fX9_bring
  have hlp : olp (fX9_bring_s3 (nI n) (nI a) l1 (nI b) l2 ff) oFu (nI 0, tf) = some (fun j => if b ≤ j ∧ j < b + n then ff (a + (j - b)) else tf j) := by
    have := zloop (f := fX9_bring_s3 (nI n) (nI a) l1 (nI b) l2 ff) (r := fun j => if b ≤ j ∧ j < b + n then ff (a + (j - b)) else tf j) n (fun i j => if b ≤ j ∧ j < b + i then ff (a + (j - b)) else tf j) 0 (by omega) hn ?_ ?_
    · have e0 : (fun j => if b ≤ j ∧ j < b + 0 then ff (a + (j - b)) else tf j) = tf := by
        funext j
        rw [if_neg (by omega)]
      rw [e0] at this
      exact this
    · intro i _ hi
      unfold fX9_bring_s3 fX9_bring_b3
      dsimp only
      rw [if_neg (by rw [zle (by omega) (by omega)]; omega), nI_add, nI_add, ogd_ok (by omega) (by omega), ogd_ok (by omega) (by omega), zcl (by omega), zcl (by omega), nI_1]
      congr 3
      funext j
      simp only [upd]
      by_cases hj : j = b + i
      · subst hj
        rw [if_pos rfl, if_pos (by omega), show b + i - b = i by omega]
      · rw [if_neg hj]
        by_cases h5 : b ≤ j ∧ j < b + i
        · rw [if_pos h5, if_pos (by omega)]
        · rw [if_neg h5, if_neg (by omega)]
    · unfold fX9_bring_s3 fX9_bring_b3
      dsimp only
      rw [if_pos (by rw [zle (by omega) (by omega)]; omega)]
  exact congrArg (fun o => ob1 o (fun x => some x)) hlp
theorem bringS_ok {l1 a b n : Nat} (h1 : a + n ≤ l1) (hb : b ≤ a) (h3 : l1 < 10000) (hn : n < 10000) (ff : Nat → Int32) : fX9_bring_same l1 (nI a) (nI b) (nI n) ff = some (fun j => if b ≤ j ∧ j < b + n then ff (a + (j - b)) else ff j) := by
  unfold fX9_bring_same
  have hlp : olp (fX9_bring_same_s3 (nI n) (nI a) l1 (nI b)) oFu (nI 0, ff) = some (fun j => if b ≤ j ∧ j < b + n then ff (a + (j - b)) else ff j) := by
    have := zloop (f := fX9_bring_same_s3 (nI n) (nI a) l1 (nI b)) (r := fun j => if b ≤ j ∧ j < b + n then ff (a + (j - b)) else ff j) n (fun i j => if b ≤ j ∧ j < b + i then ff (a + (j - b)) else ff j) 0 (by omega) hn ?_ ?_
    · have e0 : (fun j => if b ≤ j ∧ j < b + 0 then ff (a + (j - b)) else ff j) = ff := by
        funext j
        rw [if_neg (by omega)]
      rw [e0] at this
      exact this
    · intro i _ hi
      unfold fX9_bring_same_s3 fX9_bring_same_b3
      dsimp only
      rw [if_neg (by rw [zle (by omega) (by omega)]; omega), nI_add, nI_add, ogd_ok (by omega) (by omega), ogd_ok (by omega) (by omega), zcl (by omega), zcl (by omega), nI_1]
      congr 3
      funext j
      simp only [upd]
      by_cases hj : j = b + i
      · subst hj
        rw [if_pos rfl, if_neg (by omega), if_pos (by omega), show b + i - b = i by omega]
      · rw [if_neg hj]
        by_cases h5 : b ≤ j ∧ j < b + i
        · rw [if_pos h5, if_pos (by omega)]
        · rw [if_neg h5, if_neg (by omega)]
    · unfold fX9_bring_same_s3 fX9_bring_same_b3
      dsimp only
      rw [if_pos (by rw [zle (by omega) (by omega)]; omega)]
  exact congrArg (fun o => ob1 o (fun x => some x)) hlp
