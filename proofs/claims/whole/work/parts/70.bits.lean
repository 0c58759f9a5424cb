/-! ===== Int32 by its bits: bt x i ===== -/
def bt (x : Int32) (i : Nat) : Bool := x.toBitVec.getLsbD i
theorem b_ext {x y : Int32} (h : ∀ i, i < 32 → bt x i = bt y i) : x = y := Int32.toBitVec_inj.mp (BitVec.eq_of_getLsbD_eq (fun i hi => h i hi))
theorem b_or (x y : Int32) (i : Nat) : bt (x ||| y) i = (bt x i || bt y i) := by unfold bt; rw [Int32.toBitVec_or, BitVec.getLsbD_or]
theorem b_and (x y : Int32) (i : Nat) : bt (x &&& y) i = (bt x i && bt y i) := by unfold bt; rw [Int32.toBitVec_and, BitVec.getLsbD_and]
theorem b_xor (x y : Int32) (i : Nat) : bt (x ^^^ y) i = (bt x i ^^ bt y i) := by unfold bt; rw [Int32.toBitVec_xor, BitVec.getLsbD_xor]
theorem b_big {x : Int32} {i : Nat} (h : 32 ≤ i) : bt x i = false := BitVec.getLsbD_of_ge _ _ h
theorem b_255 (i : Nat) : bt 255 i = decide (i < 8) := by
  rcases Nat.lt_or_ge i 32 with h | h
  · exact (by decide +kernel : ∀ i, i < 32 → bt 255 i = decide (i < 8)) i h
  · rw [b_big h, decide_eq_false (by omega)]
theorem b_65535 (i : Nat) : bt 65535 i = decide (i < 16) := by
  rcases Nat.lt_or_ge i 32 with h | h
  · exact (by decide +kernel : ∀ i, i < 32 → bt 65535 i = decide (i < 16)) i h
  · rw [b_big h, decide_eq_false (by omega)]
theorem b_m1 : ∀ i, i < 32 → bt (-1) i = true := by decide +kernel
theorem b_0 (i : Nat) : bt 0 i = false := BitVec.getLsbD_zero
theorem s_l : ∀ n, n < 32 → ((nI n &&& 31).toBitVec.smod 32).toNat = n := by decide +kernel
theorem s_u : ∀ n, n < 32 → (((nI n).toUInt32 &&& Int32.toUInt32 31).toBitVec % 32).toNat = n := by decide +kernel
theorem b_shl (n : Nat) (hn : n < 32) (x : Int32) {i : Nat} (hi : i < 32) : bt (x <<< (nI n &&& 31)) i = (decide (n ≤ i) && bt x (i - n)) := by
  unfold bt
  rw [Int32.toBitVec_shiftLeft]
  show (x.toBitVec <<< ((nI n &&& 31).toBitVec.smod 32).toNat).getLsbD i = _
  rw [s_l n hn, BitVec.getLsbD_shiftLeft]
  rcases Nat.lt_or_ge i n with h | h
  · simp [h, Nat.not_le.mpr h]
  · simp [hi, h, Nat.not_lt.mpr h]
theorem b_ushr (n : Nat) (hn : n < 32) (x : Int32) (i : Nat) : bt ((x.toUInt32 >>> ((nI n).toUInt32 &&& Int32.toUInt32 31)).toInt32) i = bt x (n + i) := by
  show (x.toUInt32 >>> ((nI n).toUInt32 &&& Int32.toUInt32 31)).toBitVec.getLsbD i = x.toUInt32.toBitVec.getLsbD (n + i)
  rw [UInt32.toBitVec_shiftRight]
  show (x.toUInt32.toBitVec >>> (((nI n).toUInt32 &&& Int32.toUInt32 31).toBitVec % 32).toNat).getLsbD i = _
  rw [s_u n hn, BitVec.getLsbD_ushiftRight]
theorem b_sshr (n : Nat) (hn : n < 32) (x : Int32) {i : Nat} (hi : i < 32) : bt (x >>> (nI n &&& 31)) i = if n + i < 32 then bt x (n + i) else bt x 31 := by
  unfold bt
  rw [Int32.toBitVec_shiftRight]
  show (x.toBitVec.sshiftRight ((nI n &&& 31).toBitVec.smod 32).toNat).getLsbD i = _
  rw [s_l n hn, BitVec.getLsbD_sshiftRight, BitVec.msb_eq_getLsbD_last]
  simp [hi]
/-! ===== own rows on bits ===== -/
theorem zb_one {n : Nat} (hn : n < 32) {i : Nat} (hi : i < 32) : bt ((1 : Int32) <<< (nI n &&& 31)) i = decide (i = n) := (by decide +kernel : ∀ n, n < 32 → ∀ i, i < 32 → bt ((1 : Int32) <<< (nI n &&& 31)) i = decide (i = n)) n hn i hi
theorem zb_not (x : Int32) {i : Nat} (hi : i < 32) : bt (x ^^^ (-1)) i = !bt x i := by
  rw [b_xor, b_m1 i hi]
  cases bt x i <;> rfl
theorem zb_z {x : Int32} : x = 0 ↔ ∀ i, i < 32 → bt x i = false := by
  constructor
  · intro h i _
    rw [h, b_0]
  · intro h
    exact b_ext (fun i hi => by rw [h i hi, b_0])
theorem zb_nz {x : Int32} : ¬ x = 0 ↔ ∃ i, i < 32 ∧ bt x i = true := by
  rw [zb_z]
  constructor
  · intro h
    apply Classical.byContradiction
    intro h2
    exact h (fun i hi => by
      cases hb : bt x i with
      | false => rfl
      | true => exact absurd ⟨i, hi, hb⟩ h2)
  · rintro ⟨i, hi, hb⟩ h
    rw [h i hi] at hb
    cases hb
theorem zb_1 : ∀ i, i < 32 → bt 1 i = decide (i = 0) := by decide +kernel
theorem zb_bit (x : Int32) {n : Nat} (hn : n < 32) : ((x >>> (nI n &&& 31)) &&& 1) = if bt x n = true then 1 else 0 := by
  apply b_ext
  intro i hi
  rw [b_and, b_sshr n hn x hi, zb_1 i hi]
  by_cases h : i = 0
  · subst h
    simp only [Nat.add_zero, hn, if_true, decide_true, Bool.and_true]
    cases bt x n
    · simp [b_0]
    · simp [zb_1]
  · simp only [h, decide_false, Bool.and_false]
    cases bt x n
    · simp [b_0]
    · simp [zb_1 i hi, h]
theorem zb_all {N : Nat} (hN : N ≤ 12) {i : Nat} (hi : i < 32) : bt (((1 : Int32) <<< (nI N &&& 31)) - 1) i = decide (i < N) := (by decide +kernel : ∀ N, N < 13 → ∀ i, i < 32 → bt (((1 : Int32) <<< (nI N &&& 31)) - 1) i = decide (i < N)) N (by omega) i hi
/-- the set of those below n of which P holds -/
def zmk (P : Nat → Bool) : Nat → Int32
  | 0 => 0
  | n + 1 => zmk P n ||| (if P n = true then (1 : Int32) <<< (nI n &&& 31) else 0)
theorem zb_mk (P : Nat → Bool) : ∀ n, n ≤ 32 → ∀ i, i < 32 → bt (zmk P n) i = (decide (i < n) && P i) := by
  intro n
  induction n with
  | zero => intro _ i _; simp [zmk, b_0]
  | succ n ih =>
    intro hn i hi
    rw [zmk, b_or, ih (by omega) i hi]
    by_cases h : i = n
    · subst h
      cases hP : P i
      · simp [b_0]
      · simp [zb_one (show i < 32 by omega) hi]
    · have h1 : decide (i < n + 1) = decide (i < n) := by
        apply decide_eq_decide.mpr
        omega
      rw [h1]
      cases hP : P n
      · simp [b_0]
      · simp [zb_one (show n < 32 by omega) hi, h]
/-! ===== loops over numbers ===== -/
theorem oFu_big {k : Nat} (h : k < 10000) : k < oFu := h
theorem zloop {α ρ : Type} {f : Int32 × α → Option ((Int32 × α) ⊕ ρ)} {r : ρ} (k : Nat) (g : Nat → α) (i0 : Nat) (h0 : i0 ≤ k) (hk : k < 10000) (hs : ∀ i, i0 ≤ i → i < k → f (nI i, g i) = some (.inl (nI (i + 1), g (i + 1)))) (hx : f (nI k, g k) = some (.inr r)) : olp f oFu (nI i0, g i0) = some r := by
  refine olp_for (fun i s => i0 ≤ i ∧ s = (nI i, g i)) k ?_ ?_ oFu i0 _ h0 (Nat.lt_of_le_of_lt (Nat.sub_le _ _) hk) ⟨Nat.le_refl _, rfl⟩
  · rintro i s hi ⟨h1, rfl⟩
    exact ⟨_, hs i h1 hi, by omega, rfl⟩
  · rintro s ⟨_, rfl⟩
    exact hx
theorem zloop1 {ρ : Type} {f : Int32 → Option (Int32 ⊕ ρ)} {r : ρ} (k : Nat) (hk : k < 10000) (hs : ∀ i, i < k → f (nI i) = some (.inl (nI (i + 1)))) (hx : f (nI k) = some (.inr r)) : olp f oFu (nI 0) = some r := by
  refine olp_for (fun i s => s = nI i) k ?_ ?_ oFu 0 _ (Nat.zero_le _) hk rfl
  · rintro i s hi rfl
    exact ⟨_, hs i hi, rfl⟩
  · rintro s rfl
    exact hx
/-- a loop downwards: the index is k less 1 -/
theorem zloopD {α ρ : Type} {f : Int32 × α → Option ((Int32 × α) ⊕ ρ)} {r : ρ} (k : Nat) (g : Nat → α) (hk : k < 10000) (hs : ∀ i, i < k → f (nI i, g (i + 1)) = some (.inl (nI i + (-1), g i))) (hx : f (-1, g 0) = some (.inr r)) : olp f oFu (nI k + (-1), g k) = some r := by
  have e : ∀ i, nI (i + 1) + (-1) = nI i := pk_m1
  refine olp_for (fun i s => s = (nI (k - i) + (-1), g (k - i))) k ?_ ?_ oFu 0 _ (Nat.zero_le _) hk rfl
  · rintro i s hi rfl
    obtain ⟨j, hj⟩ : ∃ j, k - i = j + 1 := ⟨k - i - 1, by omega⟩
    refine ⟨_, ?_, rfl⟩
    have h2 : k - (i + 1) = j := by omega
    rw [hj, h2, e]
    exact hs j (by omega)
  · rintro s rfl
    rw [Nat.sub_self]
    exact hx
theorem ogd_ok {ρ : Type} {i n : Nat} {k : Option ρ} (h : i < n) (hn : n < 2 ^ 31) : ogd (nI i) n k = k := by
  unfold ogd
  rw [if_neg (nI_in h hn)]
theorem zcl {n : Nat} (h : n < 2 ^ 31) : (nI n).toNatClampNeg = n := nI_clamp h
theorem zlt {a b : Nat} (ha : a < 2 ^ 31) (hb : b < 2 ^ 31) : nI a < nI b ↔ a < b := nI_ltI ha hb
theorem zle {a b : Nat} (ha : a < 2 ^ 31) (hb : b < 2 ^ 31) : nI a ≤ nI b ↔ a ≤ b := nI_leI ha hb
theorem zeq {a b : Nat} (ha : a < 2 ^ 31) (hb : b < 2 ^ 31) : nI a = nI b ↔ a = b := nI_eq ha hb
theorem zn0 {n : Nat} (h : n < 2 ^ 31) : ¬ nI n < 0 := nI_pos h
theorem zne1 {n : Nat} (h : n < 2 ^ 31) : ¬ nI n = -1 := by
  intro e
  have := nI_pos h
  rw [e] at this
  exact this (by decide)
/-- a number is one of the first n, or none of them -/
theorem zcases (x : Int32) {n : Nat} (hn : n < 2 ^ 31) : (∃ j, j < n ∧ x = nI j) ∨ (x < 0 ∨ nI n ≤ x) := by
  rcases pk_ix x hn with h | h | h
  · exact Or.inr (Or.inl h)
  · exact Or.inr (Or.inr h)
  · exact Or.inl h
/-! ===== where an item stands in a row of sets ===== -/
def zpos : List Int32 → Nat → Option Nat
  | [], _ => none
  | x :: xs, i => if bt x i = true then some 0 else (zpos xs i).map (· + 1)
def zpI (o : Option Nat) : Int32 := match o with
  | some k => nI k
  | none => -1
theorem zpos_some : ∀ {Ls : List Int32} {i k : Nat}, zpos Ls i = some k ↔ k < Ls.length ∧ bt (Ls.getD k 0) i = true ∧ ∀ j, j < k → bt (Ls.getD j 0) i = false
  | [], i, k => by simp [zpos]
  | x :: xs, i, k => by
    rw [zpos]
    by_cases h : bt x i = true
    · rw [if_pos h]
      constructor
      · intro e
        cases e
        exact ⟨by simp, by simpa using h, fun j hj => absurd hj (Nat.not_lt_zero j)⟩
      · rintro ⟨h1, h2, h3⟩
        cases k with
        | zero => rfl
        | succ k =>
          have := h3 0 (by omega)
          simp [h] at this
    · rw [if_neg h]
      cases k with
      | zero =>
        constructor
        · intro e
          cases hz : zpos xs i with
          | none => rw [hz] at e; cases e
          | some q => rw [hz] at e; simp at e
        · rintro ⟨h1, h2, h3⟩
          simp at h2
          exact absurd h2 h
      | succ k =>
        have ih := zpos_some (Ls := xs) (i := i) (k := k)
        have e1 : (zpos xs i).map (· + 1) = some (k + 1) ↔ zpos xs i = some k := by
          cases zpos xs i <;> simp
        rw [e1, ih]
        constructor
        · rintro ⟨h1, h2, h3⟩
          refine ⟨by simp; omega, by simpa using h2, fun j hj => ?_⟩
          cases j with
          | zero => simpa using h
          | succ j => simpa using h3 j (by omega)
        · rintro ⟨h1, h2, h3⟩
          refine ⟨by simp at h1; omega, by simpa using h2, fun j hj => ?_⟩
          have := h3 (j + 1) (by omega)
          simpa using this
theorem zpos_none : ∀ {Ls : List Int32} {i : Nat}, zpos Ls i = none ↔ ∀ j, j < Ls.length → bt (Ls.getD j 0) i = false
  | [], i => by simp [zpos]
  | x :: xs, i => by
    rw [zpos]
    by_cases h : bt x i = true
    · rw [if_pos h]
      constructor
      · intro e; cases e
      · intro h2
        have := h2 0 (by simp)
        simp [h] at this
    · rw [if_neg h]
      have e1 : (zpos xs i).map (· + 1) = none ↔ zpos xs i = none := by
        cases zpos xs i <;> simp
      rw [e1, zpos_none (Ls := xs)]
      constructor
      · intro h2 j hj
        cases j with
        | zero => simpa using h
        | succ j => simpa using h2 j (by simp at hj; omega)
      · intro h2 j hj
        have := h2 (j + 1) (by simp; omega)
        simpa using this
theorem zpos_app (A B : List Int32) (i : Nat) : zpos (A ++ B) i = match zpos A i with
    | some k => some k
    | none => (zpos B i).map (· + A.length) := by
  induction A with
  | nil => simp [zpos]
  | cons x xs ih =>
    rw [List.cons_append, zpos, zpos]
    by_cases h : bt x i = true
    · rw [if_pos h, if_pos h]
    · rw [if_neg h, if_neg h, ih]
      cases zpos xs i with
      | none =>
        cases zpos B i with
        | none => rfl
        | some k => simp; omega
      | some k => rfl
