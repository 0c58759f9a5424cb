/-! ===== what is so: the object's state against the reference's; sets told by a kind ===== -/
theorem za4 (i : Nat) : (4 : Int32) + nI i = nI (4 + i) := nI_add 4 i
theorem za16 (i : Nat) : (16 : Int32) + nI i = nI (16 + i) := nI_add 16 i
theorem za64 (i : Nat) : (64 : Int32) + nI i = nI (64 + i) := nI_add 64 i
theorem zgo (i c : Nat) : (((28 : Int32) + ((3 : Int32) * nI i)) + nI c) = nI (28 + 3 * i + c) := by
  have e1 : (3 : Int32) * nI i = nI (3 * i) := pk_mul 3 i
  have e2 : (28 : Int32) + nI (3 * i) = nI (28 + 3 * i) := nI_add 28 (3 * i)
  rw [e1, e2, nI_add]
theorem zld12 (i c : Nat) : ((nI c * (12 : Int32)) + nI i) = nI (c * 12 + i) := by
  have e1 : nI c * (12 : Int32) = nI (c * 12) := pk_mul c 12
  rw [e1, nI_add]
theorem zshl0 {i : Nat} (h : i < 32) : ((0 : Int32) <<< (nI i &&& 31)) = 0 := (by decide +kernel : ∀ i, i < 32 → ((0 : Int32) <<< (nI i &&& 31)) = 0) i h
theorem zor0 (x : Int32) : x ||| 0 = x := by
  apply b_ext
  intro i _
  rw [b_or, b_0, Bool.or_false]
theorem zpred {n : Nat} (h : 1 ≤ n) : nI n - 1 = nI (n - 1) := by
  obtain ⟨m, rfl⟩ : ∃ m, n = m + 1 := ⟨n - 1, by omega⟩
  rw [nI_pred]
  rfl
theorem in_in {i N : Nat} (h : i < N) (hN : N < 10000) : fX9_in (nI i) 0 (nI N - 1) = some 1 := by
  unfold fX9_in
  rw [if_neg (zn0 (by omega)), zpred (by omega), if_neg (by rw [zlt (by omega) (by omega)]; omega)]
theorem in_out {x : Int32} {N : Nat} (h1 : 1 ≤ N) (hN : N < 10000) (h : x < 0 ∨ nI N ≤ x) : fX9_in x 0 (nI N - 1) = some 0 := by
  unfold fX9_in
  by_cases h0 : x < 0
  · rw [if_pos h0]
  · rw [if_neg h0, if_pos]
    have h2 := h.resolve_left h0
    rw [zpred h1, Int32.lt_iff_toInt_lt, nI_toInt (by omega)]
    rw [Int32.le_iff_toInt_le, nI_toInt (by omega)] at h2
    omega
theorem isItem_in {i N : Nat} (h : i < N) (hN : N ≤ 12) {st : Nat → Int32} (h0 : st 0 = nI N) (d s e : Int32) : fX9_isItem (nI i) d s e st = some 1 := by
  unfold fX9_isItem
  rw [h0, in_in h (by omega)]
  rfl
theorem isItem_out {x : Int32} {N : Nat} (h1 : 1 ≤ N) (hN : N ≤ 12) (h : x < 0 ∨ nI N ≤ x) {st : Nat → Int32} (h0 : st 0 = nI N) (d s e : Int32) : fX9_isItem x d s e st = some 0 := by
  unfold fX9_isItem
  rw [h0, in_out h1 (by omega) h]
  rfl
theorem hasItem_in {i N : Nat} (h : i < N) (hN : N ≤ 12) (l f w : Int32) : fX6_hasItem (nI i) (nI N) l f w = some 1 := by
  unfold fX6_hasItem
  rw [if_neg (zn0 (by omega)), if_neg (by rw [zle (by omega) (by omega)]; omega)]
theorem hasItem_out {x : Int32} {N : Nat} (h : x < 0 ∨ nI N ≤ x) (l f w : Int32) : fX6_hasItem x (nI N) l f w = some 0 := by
  unfold fX6_hasItem
  by_cases h0 : x < 0
  · rw [if_pos h0]
  · rw [if_neg h0, if_pos (h.resolve_left h0)]
theorem hasLetter_in {i L : Nat} (h : i < L) (hL : L ≤ 3) (n f w : Int32) : fX6_hasLetter (nI i) n (nI L) f w = some 1 := by
  unfold fX6_hasLetter
  rw [if_neg (zn0 (by omega)), if_neg (by rw [zle (by omega) (by omega)]; omega)]
theorem hasLetter_out {x : Int32} {L : Nat} (h : x < 0 ∨ nI L ≤ x) (n f w : Int32) : fX6_hasLetter x n (nI L) f w = some 0 := by
  unfold fX6_hasLetter
  by_cases h0 : x < 0
  · rw [if_pos h0]
  · rw [if_neg h0, if_pos (h.resolve_left h0)]
theorem leads_in {i c N L : Nat} (hi : i < N) (hN : N ≤ 12) (hc : c < L) (hL : L ≤ 3) (f w : Int32) (lds : Nat → Int32) : fX6_leadsTo (nI i) (nI c) (nI N) (nI L) f w lds = some (lds (c * 12 + i)) := by
  unfold fX6_leadsTo
  rw [hasItem_in hi hN]
  simp only [ob1]
  rw [if_neg (by decide), hasLetter_in hc hL]
  simp only
  rw [if_neg (by decide), zld12, ogd_ok (by omega) (by omega), zcl (by omega)]
theorem columnX_ok {N x : Nat} (hN : N ≤ 12) (hx : x < 32) (l f w : Int32) (cols : Nat → Int32) : fX6_itemsWithColumn (nI x) (nI N) l f w cols = some (zmk (fun i => bt (cols i) x) N) := by
  unfold fX6_itemsWithColumn
  refine ob1_of (zloop N (fun i => zmk (fun i => bt (cols i) x) i) 0 (Nat.zero_le _) (by omega) ?_ ?_) rfl
  · intro i _ hi
    unfold fX6_itemsWithColumn_s4 fX6_itemsWithColumn_b4
    dsimp only
    rw [if_neg (by rw [zle (by omega) (by omega)]; omega), ogd_ok (by omega) (by omega), zcl (by omega), zb_bit _ hx, nI_1, zmk]
    simp only [onm]
    cases bt (cols i) x
    · simp [zshl0 (show i < 32 by omega)]
    · simp
  · unfold fX6_itemsWithColumn_s4 fX6_itemsWithColumn_b4
    dsimp only
    rw [if_pos (by rw [zle (by omega) (by omega)]; omega)]
theorem columnM_ok {N x : Nat} (hN : N ≤ 12) (hx : x < 32) {st : Nat → Int32} (h0 : st 0 = nI N) (d s e : Int32) : fX9_columnSet (nI x) d s e st = some (zmk (fun i => bt (st (4 + i)) x) N) := by
  unfold fX9_columnSet
  refine ob1_of (zloop N (fun i => zmk (fun i => bt (st (4 + i)) x) i) 0 (Nat.zero_le _) (by omega) ?_ ?_) rfl
  · intro i _ hi
    unfold fX9_columnSet_s4 fX9_columnSet_b4
    dsimp only
    rw [h0, if_neg (by rw [zle (by omega) (by omega)]; omega), za4, ogd_ok (by omega) (by omega), zcl (by omega), has_ok _ hx, nI_1, zmk]
    simp only [ob1]
    cases bt (st (4 + i)) x
    · simp
    · simp
  · unfold fX9_columnSet_s4 fX9_columnSet_b4
    dsimp only
    rw [h0, if_pos (by rw [zle (by omega) (by omega)]; omega)]
theorem goX_ok {N L c : Nat} (hN : N ≤ 12) (hc : c < L) (hL : L ≤ 3) (f w : Int32) {lds : Nat → Int32} {go : Nat → Nat} (hgo : ∀ i, i < N → go i < N ∧ lds (c * 12 + i) = nI (go i)) (t : Int32) : fX6_itemsThatGoInto (nI c) t (nI N) (nI L) f w lds = some (zmk (fun i => bt t (go i)) N) := by
  unfold fX6_itemsThatGoInto
  refine ob1_of (zloop N (fun i => zmk (fun i => bt t (go i)) i) 0 (Nat.zero_le _) (by omega) ?_ ?_) rfl
  · intro i _ hi
    obtain ⟨g1, g2⟩ := hgo i hi
    unfold fX6_itemsThatGoInto_s5 fX6_itemsThatGoInto_b5
    dsimp only
    rw [if_neg (by rw [zle (by omega) (by omega)]; omega), leads_in hi hN hc hL, g2, nI_1, zmk]
    simp only [ob1, onm]
    rw [zb_bit _ (show go i < 32 by omega)]
    cases bt t (go i)
    · simp [zshl0 (show i < 32 by omega)]
    · simp
  · unfold fX6_itemsThatGoInto_s5 fX6_itemsThatGoInto_b5
    dsimp only
    rw [if_pos (by rw [zle (by omega) (by omega)]; omega)]
theorem goM_ok {N L c : Nat} (hN : N ≤ 12) (hc : c < L) (hL : L ≤ 3) {st : Nat → Int32} (h0 : st 0 = nI N) {go : Nat → Nat} (hgo : ∀ i, i < N → go i < N ∧ st (28 + 3 * i + c) = nI (go i)) (k d s e : Int32) : fX9_leadsTo (nI c) k d s e st = some (zmk (fun i => decide (st (64 + go i) = k)) N) := by
  unfold fX9_leadsTo
  refine ob1_of (zloop N (fun i => zmk (fun i => decide (st (64 + go i) = k)) i) 0 (Nat.zero_le _) (by omega) ?_ ?_) rfl
  · intro i _ hi
    obtain ⟨g1, g2⟩ := hgo i hi
    unfold fX9_leadsTo_s5 fX9_leadsTo_b5
    dsimp only
    rw [h0, if_neg (by rw [zle (by omega) (by omega)]; omega), zgo, ogd_ok (by omega) (by omega), zcl (by omega), g2, za64, ogd_ok (by omega) (by omega), zcl (by omega), nI_1, zmk]
    by_cases hr : st (64 + go i) = k
    · simp [hr]
    · simp [hr]
  · unfold fX9_leadsTo_s5 fX9_leadsTo_b5
    dsimp only
    rw [h0, if_pos (by rw [zle (by omega) (by omega)]; omega)]
theorem nearX_ok {N : Nat} (hN : N ≤ 12) (l f w : Int32) {near : Nat → Int32} (hn : ∀ i, i < N → zsub 12 (near i)) (t y : Int32) : fX6_itemsWithNearIn t y (nI N) l f w near = some (zmk (fun i => decide (¬ nI (zcnt (near i &&& t)) < y)) N) := by
  unfold fX6_itemsWithNearIn
  refine ob1_of (zloop N (fun i => zmk (fun i => decide (¬ nI (zcnt (near i &&& t)) < y)) i) 0 (Nat.zero_le _) (by omega) ?_ ?_) rfl
  · intro i _ hi
    unfold fX6_itemsWithNearIn_s5 fX6_itemsWithNearIn_b5
    dsimp only
    rw [if_neg (by rw [zle (by omega) (by omega)]; omega), ogd_ok (by omega) (by omega), zcl (by omega), bitCount_ok (zsub_and (hn i hi) t), nI_1, zmk]
    simp only [ob1]
    by_cases hr : nI (zcnt (near i &&& t)) < y
    · simp [hr, zor0]
    · simp [hr]
  · unfold fX6_itemsWithNearIn_s5 fX6_itemsWithNearIn_b5
    dsimp only
    rw [if_pos (by rw [zle (by omega) (by omega)]; omega)]
theorem nearM_ok {N : Nat} (hN : N ≤ 12) {st : Nat → Int32} (h0 : st 0 = nI N) (t y : Int32) : olp (fX9_atLeast_s18 st t y) oFu (0, 0) = some (zmk (fun i => decide (¬ nI (zcnt (st (16 + i) &&& t)) < y)) N) := by
  refine zloop N (fun i => zmk (fun i => decide (¬ nI (zcnt (st (16 + i) &&& t)) < y)) i) 0 (Nat.zero_le _) (by omega) ?_ ?_
  · intro i _ hi
    unfold fX9_atLeast_s18 fX9_atLeast_b18
    dsimp only
    rw [h0, if_neg (by rw [zle (by omega) (by omega)]; omega), za16, ogd_ok (by omega) (by omega), zcl (by omega), sizeOf_ok, nI_1, zmk]
    simp only [ob1]
    by_cases hr : nI (zcnt (st (16 + i) &&& t)) < y
    · simp [hr, zor0]
    · simp [hr]
  · unfold fX9_atLeast_s18 fX9_atLeast_b18
    dsimp only
    rw [h0, if_pos (by rw [zle (by omega) (by omega)]; omega)]
def zsm (f : Nat → Nat) : Nat → Nat
  | 0 => 0
  | n + 1 => zsm f n + f n
theorem edgeX_ok {N : Nat} (hN : N ≤ 12) (l f w : Int32) {near : Nat → Int32} (hn : ∀ i, i < N → zsub 12 (near i)) : fX6_edgeCount (nI N) l f w near = some (nI (zsm (fun i => zcnt (near i)) N) / 2) := by
  unfold fX6_edgeCount
  refine ob1_of (zloop N (fun i => nI (zsm (fun i => zcnt (near i)) i)) 0 (Nat.zero_le _) (by omega) ?_ ?_) rfl
  · intro i _ hi
    unfold fX6_edgeCount_s4 fX6_edgeCount_b4
    dsimp only
    rw [if_neg (by rw [zle (by omega) (by omega)]; omega), ogd_ok (by omega) (by omega), zcl (by omega), bitCount_ok (hn i hi), nI_1, zsm]
    simp only [ob1, nI_add]
  · unfold fX6_edgeCount_s4 fX6_edgeCount_b4
    dsimp only
    rw [if_pos (by rw [zle (by omega) (by omega)]; omega)]
theorem edgeM_ok {N : Nat} (hN : N ≤ 12) {st : Nat → Int32} (h0 : st 0 = nI N) (d s e : Int32) : fX9_edgesNow d s e st = some (nI (zsm (fun i => zcnt (st (16 + i))) N) / 2) := by
  unfold fX9_edgesNow
  refine ob1_of (zloop N (fun i => nI (zsm (fun i => zcnt (st (16 + i))) i)) 0 (Nat.zero_le _) (by omega) ?_ ?_) rfl
  · intro i _ hi
    unfold fX9_edgesNow_s4 fX9_edgesNow_b4
    dsimp only
    rw [h0, if_neg (by rw [zle (by omega) (by omega)]; omega), za16, ogd_ok (by omega) (by omega), zcl (by omega), sizeOf_ok, nI_1, zsm]
    simp only [ob1, nI_add]
  · unfold fX9_edgesNow_s4 fX9_edgesNow_b4
    dsimp only
    rw [h0, if_pos (by rw [zle (by omega) (by omega)]; omega)]
theorem zmk_congr {P Q : Nat → Bool} : ∀ n, (∀ i, i < n → P i = Q i) → zmk P n = zmk Q n
  | 0, _ => rfl
  | n + 1, h => by rw [zmk, zmk, zmk_congr n (fun i hi => h i (by omega)), h n (by omega)]
theorem zsm_congr {f g : Nat → Nat} : ∀ n, (∀ i, i < n → f i = g i) → zsm f n = zsm g n
  | 0, _ => rfl
  | n + 1, h => by rw [zsm, zsm, zsm_congr n (fun i hi => h i (by omega)), h n (by omega)]
theorem zmk_sub (P : Nat → Bool) {n : Nat} (hn : n ≤ 32) : zsub n (zmk P n) := by
  intro i hi hb
  rw [zb_mk P n hn i hi] at hb
  simp at hb
  exact hb.1
