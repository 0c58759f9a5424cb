/-! ===== small helpers: two loops at once, sets of items, letters, starts ===== -/
theorem olp2 {σ τ ρ π : Type} {f : σ → Option (σ ⊕ ρ)} {g : τ → Option (τ ⊕ π)} (P : ρ → π → Prop) (I : Nat → σ → τ → Prop) (k : Nat) (hs : ∀ i s t, i < k → I i s t → ∃ s2 t2, f s = some (.inl s2) ∧ g t = some (.inl t2) ∧ I (i + 1) s2 t2) (hx : ∀ s t, I k s t → ∃ r q, f s = some (.inr r) ∧ g t = some (.inr q) ∧ P r q) : ∀ (n i : Nat) (s : σ) (t : τ), i ≤ k → k - i < n → I i s t → ∃ r q, olp f n s = some r ∧ olp g n t = some q ∧ P r q := by
  intro n
  induction n with
  | zero => intro i s t h1 h2; omega
  | succ n ih =>
    intro i s t h1 h2 h3
    unfold olp
    by_cases hik : i < k
    · obtain ⟨s2, t2, e1, e2, h4⟩ := hs i s t hik h3
      rw [e1, e2]
      exact ih (i + 1) s2 t2 hik (by omega) h4
    · have : i = k := by omega
      subst this
      obtain ⟨r, q, e1, e2, h4⟩ := hx s t h3
      rw [e1, e2]
      exact ⟨r, q, rfl, rfl, h4⟩
theorem bt_nI {X i : Nat} (hi : i < 32) : bt (nI X) i = X.testBit i := by
  show (BitVec.ofNat 32 X).getLsbD i = _
  rw [BitVec.getLsbD_ofNat]
  simp [hi]
theorem zsub_nI {N X : Nat} (hX : X < 2 ^ N) : zsub N (nI X) := by
  intro i hi hb
  by_cases h : i < N
  · exact h
  · exfalso
    rw [bt_nI hi, Nat.testBit_lt_two_pow (Nat.lt_of_lt_of_le hX (Nat.pow_le_pow_right (by omega) (by omega)))] at hb
    exact absurd hb (by simp)
theorem znatN {N : Nat} {x : Int32} (h : zsub N x) : ∃ X, X < 2 ^ N ∧ x = nI X := by
  refine ⟨x.toBitVec.toNat, ?_, ?_⟩
  · apply Nat.lt_pow_two_of_testBit (n := N)
    intro i hi
    by_cases h32 : i < 32
    · cases hb : bt x i with
      | false => exact hb
      | true => have := h i h32 hb; omega
    · have := b_big (x := x) (show 32 ≤ i by omega)
      exact this
  · apply Int32.toBitVec_inj.mp
    show x.toBitVec = BitVec.ofNat 32 x.toBitVec.toNat
    simp
theorem zpw {N : Nat} (hN : N ≤ 12) : ((1 : Int32) <<< (nI N &&& 31)) = nI (2 ^ N) := (by decide +kernel : ∀ N, N < 13 → ((1 : Int32) <<< (nI N &&& 31)) = nI (2 ^ N)) N (by omega)
theorem zpw_le {N : Nat} (hN : N ≤ 12) : 1 ≤ 2 ^ N ∧ 2 ^ N ≤ 4096 := (by decide +kernel : ∀ N, N < 13 → 1 ≤ 2 ^ N ∧ 2 ^ N ≤ 4096) N (by omega)
theorem items_in {N : Nat} (hN : N ≤ 12) {x : Int32} (h : zsub N x) (l f w : Int32) : fX6_hasItemsOf x (nI N) l f w = some 1 := by
  unfold fX6_hasItemsOf fX6_all
  simp only [ob1]
  rw [if_pos]
  rw [zb_z]
  intro i hi
  rw [b_and, zb_not _ hi, zb_all hN hi]
  cases hb : bt x i with
  | false => rfl
  | true => simp [h i hi hb]
theorem items_out {N : Nat} (hN : N ≤ 12) {x : Int32} (h : ¬ zsub N x) (l f w : Int32) : fX6_hasItemsOf x (nI N) l f w = some 0 := by
  unfold fX6_hasItemsOf fX6_all
  simp only [ob1]
  rw [if_neg]
  intro h0
  apply h
  intro i hi hb
  have := zb_z.mp h0 i hi
  rw [b_and, zb_not _ hi, zb_all hN hi, hb] at this
  simp at this
  exact this
theorem isSet_in {N : Nat} (hN : N ≤ 12) {x : Int32} (h : zsub N x) {st : zF} (h0 : st 0 = nI N) (d s e : Int32) : fX9_isSet x d s e st = some 1 := by
  obtain ⟨X, hX, rfl⟩ := znatN h
  have := zpw_le hN
  unfold fX9_isSet
  rw [h0, zpw hN, in_in hX (by omega)]
  rfl
theorem isSet_out {N : Nat} (hN : N ≤ 12) {x : Int32} (h : ¬ zsub N x) {st : zF} (h0 : st 0 = nI N) (d s e : Int32) : fX9_isSet x d s e st = some 0 := by
  have := zpw_le hN
  unfold fX9_isSet
  rw [h0, zpw hN]
  rcases zcases x (show 2 ^ N < 2 ^ 31 by omega) with ⟨X, hX, rfl⟩ | hx
  · exact absurd (zsub_nI hX) h
  · rw [in_out (by omega) (by omega) hx]
    rfl
theorem in1_in {x : Nat} (h1 : 1 ≤ x) {n : Nat} (hx : x ≤ n) (hn : n < 10000) : fX9_in (nI x) 1 (nI n) = some 1 := by
  unfold fX9_in
  rw [show (1 : Int32) = nI 1 from rfl, if_neg (by rw [zlt (by omega) (by omega)]; omega), if_neg (by rw [zlt (by omega) (by omega)]; omega)]
theorem cases1 (x : Int32) {n : Nat} (hn : n < 10000) : (∃ j, 1 ≤ j ∧ j ≤ n ∧ x = nI j) ∨ ((x < 1 ∨ ((¬ x < 1) ∧ ¬ x ≤ nI n)) ∧ fX9_in x 1 (nI n) = some 0) := by
  rcases zcases x (show n + 1 < 2 ^ 31 by omega) with ⟨j, hj, rfl⟩ | hx
  · by_cases h1 : 1 ≤ j
    · exact Or.inl ⟨j, h1, by omega, rfl⟩
    · have : j = 0 := by omega
      subst this
      refine Or.inr ⟨Or.inl (by decide), ?_⟩
      unfold fX9_in
      rw [if_pos (by decide)]
  · right
    rcases hx with hx | hx
    · have : x < 1 := by
        rw [Int32.lt_iff_toInt_lt] at hx ⊢
        have e0 : (0 : Int32).toInt = 0 := by decide
        have e1 : (1 : Int32).toInt = 1 := by decide
        omega
      refine ⟨Or.inl this, ?_⟩
      unfold fX9_in
      rw [if_pos this]
    · have h2 : ¬ x < 1 := by
        rw [Int32.le_iff_toInt_le, nI_toInt (by omega)] at hx
        rw [Int32.lt_iff_toInt_lt]
        have e1 : (1 : Int32).toInt = 1 := by decide
        omega
      have h3 : nI n < x := by
        rw [Int32.le_iff_toInt_le, nI_toInt (by omega)] at hx
        rw [Int32.lt_iff_toInt_lt, nI_toInt (by omega)]
        omega
      have h4 : ¬ x ≤ nI n := by
        rw [Int32.lt_iff_toInt_lt] at h3
        rw [Int32.le_iff_toInt_le]
        omega
      refine ⟨Or.inr ⟨h2, h4⟩, ?_⟩
      unfold fX9_in
      rw [if_neg h2, if_pos h3]
theorem lead_in {i c j N L : Nat} (hi : i < N) (hj : j < N) (hN : N ≤ 12) (hc : c < L) (hL : L ≤ 3) (f w : Int32) (lds : zF) : fX6_lead (nI i) (nI c) (nI j) (nI N) (nI L) f w lds = some (upd lds (c * 12 + i) (nI j)) := by
  unfold fX6_lead
  rw [hasItem_in hi hN, hasLetter_in hc hL, hasItem_in hj hN]
  simp only [ob1, if_neg n10]
  rw [zld12, ogd_ok (by omega) (by omega), zcl (by omega)]
theorem fill_ok (ff : zF) : fJ7_fill_53178 0 ff = some (fun j => if j < 12 then 0 else ff j) := by
  unfold fJ7_fill_53178
  refine ob1_of (zloop 12 (fun i => (fun j => if j < i then 0 else ff j)) 0 (by omega) (by omega) ?_ ?_) rfl
  · intro i _ hi
    unfold fJ7_fill_53178_s5 fJ7_fill_53178_b5
    dsimp only
    rw [show (12 : Int32) = nI 12 from rfl, if_neg (by rw [zle (by omega) (by omega)]; omega), ogd_ok (by omega) (by omega), zcl (by omega), nI_1]
    congr 3
    funext j
    dsimp only [upd]
    by_cases h1 : j = i
    · rw [if_pos h1, if_pos (by omega)]
    · rw [if_neg h1]
      by_cases h2 : j < i
      · rw [if_pos h2, if_pos (by omega)]
      · rw [if_neg h2, if_neg (by omega)]
  · rfl
theorem takeLetters_ok {N L l : Nat} (hN : N ≤ 12) (hL : L ≤ 3) (hl : l ≤ 3) (f w : Int32) (lds : zF) : fX6_takeLetters (nI l) (nI N) (nI L) f w lds = some (nI l, fun j => if L * 12 ≤ j ∧ j < l * 12 ∧ j % 12 < N then nI (j % 12) else lds j) := by
  unfold fX6_takeLetters
  have key : olp (fX6_takeLetters_s12 (nI l) (nI N) f w) oFu (nI L, lds) = some (fun j => if L * 12 ≤ j ∧ j < l * 12 ∧ j % 12 < N then nI (j % 12) else lds j) := by
    have e0 : lds = (fun c => (fun j => if L * 12 ≤ j ∧ j < c * 12 ∧ j % 12 < N then nI (j % 12) else lds j)) L := by
      funext j
      dsimp only
      rw [if_neg (by omega)]
    rw [show (nI L, lds) = (nI L, (fun c => (fun j => if L * 12 ≤ j ∧ j < c * 12 ∧ j % 12 < N then nI (j % 12) else lds j)) L) by rw [← e0]]
    refine zloop (max L l) (fun c => (fun j => if L * 12 ≤ j ∧ j < c * 12 ∧ j % 12 < N then nI (j % 12) else lds j)) L (by omega) (by omega) ?_ ?_
    · intro c hc1 hc
      have hcl : c < l := by omega
      unfold fX6_takeLetters_s12 fX6_takeLetters_b12
      dsimp only
      rw [if_neg (by rw [zle (by omega) (by omega)]; omega)]
      refine ob1_of (x := fun j => if L * 12 ≤ j ∧ j < (c + 1) * 12 ∧ j % 12 < N then nI (j % 12) else lds j) ?_ (by rw [nI_1])
      have e1 : (fun j => if L * 12 ≤ j ∧ j < c * 12 ∧ j % 12 < N then nI (j % 12) else lds j) = (fun i => (fun j => if (L * 12 ≤ j ∧ j < c * 12 ∧ j % 12 < N) ∨ (c * 12 ≤ j ∧ j < c * 12 + i) then nI (j % 12) else lds j)) 0 := by
        funext j
        dsimp only
        by_cases h1 : L * 12 ≤ j ∧ j < c * 12 ∧ j % 12 < N
        · rw [if_pos h1, if_pos (Or.inl h1)]
        · rw [if_neg h1, if_neg (by omega)]
      rw [e1]
      refine zloop N (fun i => (fun j => if (L * 12 ≤ j ∧ j < c * 12 ∧ j % 12 < N) ∨ (c * 12 ≤ j ∧ j < c * 12 + i) then nI (j % 12) else lds j)) 0 (by omega) (by omega) ?_ ?_
      · intro i _ hi
        unfold fX6_takeLetters_s20 fX6_takeLetters_b20
        dsimp only
        rw [if_neg (by rw [zle (by omega) (by omega)]; omega), lead_in hi hi hN hcl hl]
        simp only [ob1]
        rw [nI_1]
        congr 3
        funext j
        dsimp only [upd]
        by_cases h1 : j = c * 12 + i
        · rw [if_pos h1, if_pos (by omega)]
          exact congrArg nI (by omega)
        · rw [if_neg h1]
          by_cases h2 : (L * 12 ≤ j ∧ j < c * 12 ∧ j % 12 < N) ∨ (c * 12 ≤ j ∧ j < c * 12 + i)
          · rw [if_pos h2, if_pos (by omega)]
          · rw [if_neg h2, if_neg (by omega)]
      · unfold fX6_takeLetters_s20 fX6_takeLetters_b20
        dsimp only
        rw [if_pos (by rw [zle (by omega) (by omega)]; omega)]
        congr 2
        funext j
        by_cases h2 : (L * 12 ≤ j ∧ j < c * 12 ∧ j % 12 < N) ∨ (c * 12 ≤ j ∧ j < c * 12 + N)
        · rw [if_pos h2, if_pos (by omega)]
        · rw [if_neg h2, if_neg (by omega)]
    · unfold fX6_takeLetters_s12 fX6_takeLetters_b12
      dsimp only
      rw [if_pos (by rw [zle (by omega) (by omega)]; omega)]
      congr 2
      funext j
      by_cases h2 : L * 12 ≤ j ∧ j < l * 12 ∧ j % 12 < N
      · rw [if_pos h2, if_pos (by omega)]
      · rw [if_neg h2, if_neg (by omega)]
  rw [key]
  rfl
theorem letM_ok {L l : Nat} (hL : L ≤ 3) (hl : l ≤ 3) {st : zF} (h1 : st 1 = nI L) : olp (fX9_letters_s25 (nI l) st) oFu ((0 : Int32), st) = some (fun j => if 28 ≤ j ∧ j < 64 ∧ L ≤ (j - 28) % 3 ∧ (j - 28) % 3 < l then nI ((j - 28) / 3) else st j) := by
  have e0 : st = (fun i => (fun j => if 28 ≤ j ∧ j < 28 + 3 * i ∧ L ≤ (j - 28) % 3 ∧ (j - 28) % 3 < l then nI ((j - 28) / 3) else st j)) 0 := by
    funext j
    dsimp only
    rw [if_neg (by omega)]
  have key : olp (fX9_letters_s25 (nI l) st) oFu (nI 0, (fun i => (fun j => if 28 ≤ j ∧ j < 28 + 3 * i ∧ L ≤ (j - 28) % 3 ∧ (j - 28) % 3 < l then nI ((j - 28) / 3) else st j)) 0) = some (fun j => if 28 ≤ j ∧ j < 64 ∧ L ≤ (j - 28) % 3 ∧ (j - 28) % 3 < l then nI ((j - 28) / 3) else st j) := by
    refine zloop 12 (fun i => (fun j => if 28 ≤ j ∧ j < 28 + 3 * i ∧ L ≤ (j - 28) % 3 ∧ (j - 28) % 3 < l then nI ((j - 28) / 3) else st j)) 0 (by omega) (by omega) ?_ rfl
    intro i _ hi
    unfold fX9_letters_s25 fX9_letters_b25
    dsimp only
    rw [show (12 : Int32) = nI 12 from rfl, if_neg (by rw [zle (by omega) (by omega)]; omega), h1]
    refine ob1_of (x := fun j => if 28 ≤ j ∧ j < 28 + 3 * (i + 1) ∧ L ≤ (j - 28) % 3 ∧ (j - 28) % 3 < l then nI ((j - 28) / 3) else st j) ?_ (by rw [nI_1])
    have e1 : (fun j => if 28 ≤ j ∧ j < 28 + 3 * i ∧ L ≤ (j - 28) % 3 ∧ (j - 28) % 3 < l then nI ((j - 28) / 3) else st j) = (fun c => (fun j => if (28 ≤ j ∧ j < 28 + 3 * i ∧ L ≤ (j - 28) % 3 ∧ (j - 28) % 3 < l) ∨ (28 + 3 * i + L ≤ j ∧ j < 28 + 3 * i + c) then nI ((j - 28) / 3) else st j)) L := by
      funext j
      dsimp only
      by_cases h1 : 28 ≤ j ∧ j < 28 + 3 * i ∧ L ≤ (j - 28) % 3 ∧ (j - 28) % 3 < l
      · rw [if_pos h1, if_pos (Or.inl h1)]
      · rw [if_neg h1, if_neg (by omega)]
    rw [e1]
    refine zloop (max L l) (fun c => (fun j => if (28 ≤ j ∧ j < 28 + 3 * i ∧ L ≤ (j - 28) % 3 ∧ (j - 28) % 3 < l) ∨ (28 + 3 * i + L ≤ j ∧ j < 28 + 3 * i + c) then nI ((j - 28) / 3) else st j)) L (by omega) (by omega) ?_ ?_
    · intro c hc1 hc
      have hcl : c < l := by omega
      unfold fX9_letters_s34 fX9_letters_b34
      dsimp only
      rw [if_neg (by rw [zle (by omega) (by omega)]; omega), zgo, ogd_ok (by omega) (by omega), zcl (by omega), nI_1]
      congr 3
      funext j
      dsimp only [upd]
      by_cases h1 : j = 28 + 3 * i + c
      · rw [if_pos h1, if_pos (by omega)]
        exact congrArg nI (by omega)
      · rw [if_neg h1]
        by_cases h2 : (28 ≤ j ∧ j < 28 + 3 * i ∧ L ≤ (j - 28) % 3 ∧ (j - 28) % 3 < l) ∨ (28 + 3 * i + L ≤ j ∧ j < 28 + 3 * i + c)
        · rw [if_pos h2, if_pos (by omega)]
        · rw [if_neg h2, if_neg (by omega)]
    · unfold fX9_letters_s34 fX9_letters_b34
      dsimp only
      rw [if_pos (by rw [zle (by omega) (by omega)]; omega)]
      congr 2
      funext j
      by_cases h2 : (28 ≤ j ∧ j < 28 + 3 * i ∧ L ≤ (j - 28) % 3 ∧ (j - 28) % 3 < l) ∨ (28 + 3 * i + L ≤ j ∧ j < 28 + 3 * i + (max L l))
      · rw [if_pos h2, if_pos (by omega)]
      · rw [if_neg h2, if_neg (by omega)]
  rw [← e0] at key
  exact key
theorem lays_ok (p1 : Int32) (st : zF) (d s e : Int32) : ∃ st2, fX9_lays p1 d s e st = some st2 ∧ st2 0 = p1 ∧ st2 1 = 1 ∧ (∀ j, 2 ≤ j → j < 28 → st2 j = 0) ∧ (∀ i c, i < 12 → c < 3 → st2 (28 + 3 * i + c) = nI i) ∧ (∀ i, i < 12 → st2 (64 + i) = 0) := by
  unfold fX9_lays
  have k1 : olp fX9_lays_s2 oFu (nI 0, st) = some (fun j => if j < 76 then 0 else st j) := by
    refine zloop 76 (fun i => (fun j => if j < i then 0 else st j)) 0 (by omega) (by omega) ?_ rfl
    intro i _ hi
    unfold fX9_lays_s2 fX9_lays_b2
    dsimp only
    rw [show (76 : Int32) = nI 76 from rfl, if_neg (by rw [zle (by omega) (by omega)]; omega), ogd_ok (by omega) (by omega), zcl (by omega), nI_1]
    congr 3
    funext j
    dsimp only [upd]
    by_cases h1 : j = i
    · rw [if_pos h1, if_pos (by omega)]
    · rw [if_neg h1]
      by_cases h2 : j < i
      · rw [if_pos h2, if_pos (by omega)]
      · rw [if_neg h2, if_neg (by omega)]
  have k2 : ∀ s0 : zF, olp fX9_lays_s37 oFu (nI 0, (fun i => (fun j => if 28 ≤ j ∧ j < 28 + 3 * i then nI ((j - 28) / 3) else s0 j)) 0) = some (fun j => if 28 ≤ j ∧ j < 28 + 3 * 12 then nI ((j - 28) / 3) else s0 j) := by
    intro s0
    refine zloop 12 (fun i => (fun j => if 28 ≤ j ∧ j < 28 + 3 * i then nI ((j - 28) / 3) else s0 j)) 0 (by omega) (by omega) ?_ rfl
    intro i _ hi
    unfold fX9_lays_s37 fX9_lays_b37
    dsimp only
    rw [show (12 : Int32) = nI 12 from rfl, if_neg (by rw [zle (by omega) (by omega)]; omega)]
    refine ob1_of (x := fun j => if 28 ≤ j ∧ j < 28 + 3 * (i + 1) then nI ((j - 28) / 3) else s0 j) ?_ (by rw [nI_1])
    refine zloop 3 (fun c => (fun j => if 28 ≤ j ∧ j < 28 + 3 * i + c then nI ((j - 28) / 3) else s0 j)) 0 (by omega) (by omega) ?_ rfl
    intro c _ hc
    unfold fX9_lays_s45 fX9_lays_b45
    dsimp only
    rw [if_neg (by rw [show (3 : Int32) = nI 3 from rfl, zle (by omega) (by omega)]; omega), zgo, ogd_ok (by omega) (by omega), zcl (by omega), nI_1]
    refine congrArg (fun z => some (Sum.inl (nI (c + 1), z))) ?_
    funext j
    dsimp only [upd]
    by_cases h1 : j = 28 + 3 * i + c
    · rw [if_pos h1, if_pos (by omega)]
      exact congrArg nI (by omega)
    · rw [if_neg h1]
      by_cases h2 : 28 ≤ j ∧ j < 28 + 3 * i + c
      · rw [if_pos h2, if_pos (by omega)]
      · rw [if_neg h2, if_neg (by omega)]
  refine ⟨_, ob1_of k1 (ob1_of (x := fun j => if 28 ≤ j ∧ j < 28 + 3 * 12 then nI ((j - 28) / 3) else (upd (upd (fun j => if j < 76 then 0 else st j) 0 p1) 1 1) j) ?_ rfl), rfl, rfl, fun j h1 h2 => ?_, fun i c hi hc => ?_, fun i hi => ?_⟩
  · have := k2 (upd (upd (fun j => if j < 76 then 0 else st j) 0 p1) 1 1)
    have e : (fun i => (fun j => if 28 ≤ j ∧ j < 28 + 3 * i then nI ((j - 28) / 3) else (upd (upd (fun j => if j < 76 then 0 else st j) 0 p1) 1 1) j)) 0 = (upd (upd (fun j => if j < 76 then 0 else st j) 0 p1) 1 1) := by
      funext j
      dsimp only
      rw [if_neg (by omega)]
    rw [e] at this
    exact this
  · skip
    rw [if_neg (by omega), pk_un (by omega), pk_un (by omega), if_pos (by omega)]
  · skip
    rw [if_pos (by omega)]
    exact congrArg nI (by omega)
  · skip
    rw [if_neg (by omega), pk_un (by omega), pk_un (by omega), if_pos (by omega)]
def zall (N : Nat) : Int32 := ((1 : Int32) <<< (nI N &&& 31)) - 1
theorem zall_ok {N : Nat} (h1 : 1 ≤ N) (hN : N ≤ 12) : zok N [zall N] := by
  refine ⟨fun x hx => ?_, List.pairwise_singleton _ _⟩
  rw [List.mem_singleton] at hx
  subst hx
  refine ⟨zb_nz.mpr ⟨0, by omega, ?_⟩, fun i hi hb => ?_⟩
  · show bt (((1 : Int32) <<< (nI N &&& 31)) - 1) 0 = true
    rw [zb_all hN (by omega)]
    exact decide_eq_true h1
  · have hb : bt (((1 : Int32) <<< (nI N &&& 31)) - 1) i = true := hb
    rw [zb_all hN hi] at hb
    exact of_decide_eq_true hb
theorem zall_pos {N : Nat} (hN : N ≤ 12) {i : Nat} (hi : i < N) : zpos [zall N] i = some 0 := by
  unfold zpos
  rw [if_pos]
  show bt (((1 : Int32) <<< (nI N &&& 31)) - 1) i = true
  rw [zb_all hN (by omega)]
  exact decide_eq_true hi
theorem zall_rowM {N : Nat} (hN : N ≤ 12) {row : zF} (h : ∀ i, i < N → row i = 0) : rowM N row [zall N] := by
  intro i hi
  rw [h i hi, zall_pos hN hi]
  rfl
theorem start_ok {N : Nat} (h1 : 1 ≤ N) (hN : N ≤ 12) (sn sl sfin swk : Int32) (scols snear slds : zF) (qc : Int32) (qf : zF) (st : zF) (d s e : Int32) : ∃ a1 a2 a3 a4 a5 a6 a7 a8 a9 st2, fX6_startWith (nI N) sn sl sfin swk scols snear slds qc qf = some (a1, a2, a3, a4, a5, a6, a7, a8, a9) ∧ fX9_lays (nI N) d s e st = some st2 ∧ zRel a1 a2 a3 a4 a5 a6 a7 a8 a9 st2 N 1 (fun _ i => i) [zall N] := by
  obtain ⟨st2, eM, m0, m1, m2, m3, m4⟩ := lays_ok (nI N) st d s e
  obtain ⟨c, f, eg, hrc⟩ := gather_ok (zall N) qc qf
  unfold fX6_startWith
  have et : fX6_takeLetters 1 (nI N) 0 sfin swk slds = _ := takeLetters_ok (N := N) (L := 0) (l := 1) hN (by omega) (by omega) sfin swk slds
  rw [fill_ok, fill_ok]
  simp only [ob1]
  rw [et]
  simp only [ob2]
  unfold fX6_all
  simp only
  have eg : fX5_gather (((1 : Int32) <<< (nI N &&& 31)) - 1) qc qf = some (c, f) := eg
  rw [eg]
  refine ⟨_, _, _, _, _, _, _, _, _, st2, rfl, eM, ⟨h1, hN⟩, ⟨by omega, by omega⟩, ⟨rfl, m0⟩, ⟨rfl, m1⟩, ⟨(m2 2 (by omega) (by omega)).symm, ?_⟩, (m2 3 (by omega) (by omega)).symm, fun i hi => ?_, fun i hi => ?_, fun i j hi hj => ?_, fun i hi => ?_, fun c i hc hi => ?_, hrc, zall_ok h1 hN, fun i hi => ?_, ?_⟩
  · intro i hi hb
    rw [b_0] at hb
    exact absurd hb (by simp)
  · dsimp only
    rw [if_pos (by omega), m2 (4 + i) (by omega) (by omega)]
    refine ⟨rfl, fun j hj hb => ?_⟩
    rw [b_0] at hb
    exact absurd hb (by simp)
  · dsimp only
    rw [if_pos (by omega), m2 (16 + i) (by omega) (by omega)]
    refine ⟨rfl, fun j hj hb => ?_⟩
    rw [b_0] at hb
    exact absurd hb (by simp)
  · dsimp only
    rw [if_pos (by omega), if_pos (by omega), b_0, b_0]
  · dsimp only
    rw [if_pos (by omega), b_0]
  · have : c = 0 := by omega
    subst this
    refine ⟨hi, ?_, m3 i 0 (by omega) (by omega)⟩
    dsimp only
    rw [if_pos (by omega)]
    exact congrArg nI (by omega)
  · rw [zall_pos hN hi]
    simp
  · exact zall_rowM hN (fun i hi => m4 i (by omega))
