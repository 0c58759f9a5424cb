/-- the object's state (sn .. qf) and the reference's block b are one: N items, L letters, where letters lead, the row of classes -/
def zRel (sn sl sfin swk : Int32) (scols snear slds : zF) (qc : Int32) (qf b : zF) (N L : Nat) (go : Nat → Nat → Nat) (Ls : List Int32) : Prop :=
  (1 ≤ N ∧ N ≤ 12) ∧ (1 ≤ L ∧ L ≤ 3) ∧ (sn = nI N ∧ b 0 = nI N) ∧ (sl = nI L ∧ b 1 = nI L) ∧ (sfin = b 2 ∧ zsub N sfin) ∧ swk = b 3 ∧ (∀ i, i < N → scols i = b (4 + i) ∧ zsub 8 (scols i)) ∧ (∀ i, i < N → snear i = b (16 + i) ∧ zsub N (snear i)) ∧ (∀ i j, i < N → j < N → bt (snear i) j = bt (snear j) i) ∧ (∀ i, i < N → bt (snear i) i = false) ∧ (∀ c i, c < L → i < N → go c i < N ∧ slds (c * 12 + i) = nI (go c i) ∧ b (28 + 3 * i + c) = nI (go c i)) ∧ rowC qc qf Ls ∧ zok N Ls ∧ (∀ i, i < N → zpos Ls i ≠ none) ∧ rowM N (fun i => b (64 + i)) Ls
theorem zcov_len {N : Nat} {Ls : List Int32} (h1 : 1 ≤ N) (hcov : ∀ i, i < N → zpos Ls i ≠ none) : 1 ≤ Ls.length := by
  cases Ls with
  | nil => exact absurd rfl (hcov 0 h1)
  | cons x xs => simp
def zAsk (N L C : Nat) (p1 p2 p3 : Int32) : Prop := ((p1 = 0 ∨ p1 = 1) ∧ ∃ i, i < N ∧ p2 = nI i) ∨ (p1 = 2 ∧ ∃ x, x < 8 ∧ p2 = nI x) ∨ (p1 = 3 ∧ ∃ c k, c < L ∧ k < C ∧ p2 = nI c ∧ p3 = nI k) ∨ p1 = 4 ∨ (p1 = 5 ∧ ∃ k m, k < C ∧ m ≤ 12 ∧ p2 = nI k ∧ p3 = nI m)
theorem n10 : ¬ (1 : Int32) = 0 := by decide
section ZR
variable {sn sl sfin swk : Int32} {scols snear slds : zF} {qc : Int32} {qf b : zF} {N L : Nat} {go : Nat → Nat → Nat} {Ls : List Int32}
theorem clsM_ok (h : zRel sn sl sfin swk scols snear slds qc qf b N L go Ls) (d s e : Int32) : fX9_classes 64 d s e b = some (nI Ls.length) := by
  obtain ⟨⟨hN1, hN⟩, -, ⟨-, eb0⟩, -, -, -, -, -, -, -, -, hrc, hok, hcov, hrm⟩ := h
  have := classes_ok (at_ := 64) hN (by omega) eb0 d s e
  rw [rowM_cls hN hrm hok] at this
  exact this
theorem asked_ok (h : zRel sn sl sfin swk scols snear slds qc qf b N L go Ls) (p1 p2 p3 d s e : Int32) : (fX8_refusalOfSet p1 p2 p3 sn sl sfin swk qc qf = some (-1) ∧ fX9_askedBy p1 p2 p3 d s e b = some 0 ∧ zAsk N L Ls.length p1 p2 p3) ∨ ∃ r, (¬ r = -1) ∧ (¬ r = 0) ∧ fX8_refusalOfSet p1 p2 p3 sn sl sfin swk qc qf = some r ∧ fX9_askedBy p1 p2 p3 d s e b = some r := by
  have hcl := clsM_ok h d s e
  obtain ⟨⟨hN1, hN⟩, ⟨hL1, hL⟩, ⟨en, eb0⟩, ⟨el, eb1⟩, -, -, -, -, -, -, -, hrc, hok, hcov, hrm⟩ := h
  have hC1 := zcov_len hN1 hcov
  have hC := hrc.2.1
  subst en el
  unfold fX8_refusalOfSet fX9_askedBy
  rw [hcl]
  simp only [ob1]
  by_cases k0 : p1 = 0 ∨ p1 = 1
  · rw [if_pos k0, if_pos k0]
    rcases zcases p2 (show N < 2 ^ 31 by omega) with ⟨i, hi, rfl⟩ | hx
    · left
      rw [hasItem_in hi hN, isItem_in hi hN eb0]
      exact ⟨rfl, rfl, Or.inl ⟨k0, i, hi, rfl⟩⟩
    · right
      rw [hasItem_out hx, isItem_out hN1 hN hx eb0]
      exact ⟨-1000000001, by decide, by decide, rfl, rfl⟩
  rw [if_neg k0, if_neg k0]
  by_cases k2 : p1 = 2
  · rw [if_pos k2, if_pos k2]
    rcases zcases p2 (show 8 < 2 ^ 31 by omega) with ⟨i, hi, rfl⟩ | hx
    · left
      have e1 : fX9_in (nI i) 0 7 = some 1 := in_in (N := 8) hi (by omega)
      rw [e1, if_neg (zn0 (by omega)), show (8 : Int32) = nI 8 from rfl, if_neg (by rw [zle (by omega) (by omega)]; omega)]
      exact ⟨rfl, rfl, Or.inr (Or.inl ⟨k2, i, hi, rfl⟩)⟩
    · right
      have e1 : fX9_in p2 0 7 = some 0 := in_out (N := 8) (by omega) (by omega) hx
      rw [e1]
      refine ⟨-1000000001, by decide, by decide, ?_, rfl⟩
      by_cases h0 : p2 < 0
      · rw [if_pos h0]
      · rw [if_neg h0, if_pos (show (8 : Int32) ≤ p2 from hx.resolve_left h0)]
  rw [if_neg k2, if_neg k2]
  by_cases k3 : p1 = 3
  · rw [if_pos k3, if_pos k3, eb1]
    rcases zcases p2 (show L < 2 ^ 31 by omega) with ⟨i, hi, rfl⟩ | hx
    · rw [hasLetter_in hi hL, in_in hi (by omega)]
      simp only [if_neg n10]
      rcases zcases p3 (show Ls.length < 2 ^ 31 by omega) with ⟨j, hj, rfl⟩ | hx
      · left
        rw [hasPlace_in hrc hj, in_in hj (by omega)]
        exact ⟨rfl, rfl, Or.inr (Or.inr (Or.inl ⟨k3, i, j, hi, hj, rfl, rfl⟩))⟩
      · right
        rw [hasPlace_out hrc hx, in_out hC1 (by omega) hx]
        exact ⟨-1000000001, by decide, by decide, rfl, rfl⟩
    · right
      rw [hasLetter_out hx, in_out hL1 (by omega) hx]
      exact ⟨-1000000001, by decide, by decide, rfl, rfl⟩
  rw [if_neg k3, if_neg k3]
  by_cases k4 : p1 = 4
  · rw [if_pos k4, if_pos k4]
    exact Or.inl ⟨rfl, rfl, Or.inr (Or.inr (Or.inr (Or.inl k4)))⟩
  rw [if_neg k4, if_neg k4]
  by_cases k5 : p1 = 5
  · rw [if_pos k5, if_pos k5]
    rcases zcases p2 (show Ls.length < 2 ^ 31 by omega) with ⟨j, hj, rfl⟩ | hx
    · rw [hasPlace_in hrc hj, in_in hj (by omega)]
      simp only [if_neg n10]
      rcases zcases p3 (show 13 < 2 ^ 31 by omega) with ⟨i, hi, rfl⟩ | hx
      · left
        have e1 : fX9_in (nI i) 0 12 = some 1 := in_in (N := 13) hi (by omega)
        rw [e1, if_neg (zn0 (by omega)), show (12 : Int32) = nI 12 from rfl, if_neg (by rw [zlt (by omega) (by omega)]; omega)]
        exact ⟨rfl, rfl, Or.inr (Or.inr (Or.inr (Or.inr ⟨k5, j, i, hj, by omega, rfl, rfl⟩)))⟩
      · right
        have e1 : fX9_in p3 0 12 = some 0 := in_out (N := 13) (by omega) (by omega) hx
        rw [e1]
        refine ⟨-1000000002, by decide, by decide, ?_, rfl⟩
        by_cases h0 : p3 < 0
        · rw [if_pos h0]
        · rw [if_neg h0, if_pos]
          have h2 := hx.resolve_left h0
          rw [Int32.le_iff_toInt_le, nI_toInt (by omega)] at h2
          rw [Int32.lt_iff_toInt_lt]
          show (12 : Int) < _
          omega
    · right
      rw [hasPlace_out hrc hx, in_out hC1 (by omega) hx]
      exact ⟨-1000000001, by decide, by decide, rfl, rfl⟩
  rw [if_neg k5, if_neg k5]
  exact Or.inr ⟨-1000000002, by decide, by decide, rfl, rfl⟩
theorem kind_ok (h : zRel sn sl sfin swk scols snear slds qc qf b N L go Ls) {p1 p2 p3 : Int32} (ha : zAsk N L Ls.length p1 p2 p3) (d s e : Int32) : ∃ S, fX6_setOfKind p1 p2 p3 sn sl sfin swk scols snear slds qc qf = some S ∧ fX9_setOf p1 p2 p3 d s e b = some S ∧ zsub N S := by
  obtain ⟨⟨hN1, hN⟩, ⟨hL1, hL⟩, ⟨en, eb0⟩, ⟨el, eb1⟩, ⟨ef, hfs⟩, -, hcols, hnear, -, -, hgo, hrc, hok, hcov, hrm⟩ := h
  have hC := hrc.2.1
  subst en el
  unfold fX6_setOfKind fX9_setOf
  rcases ha with ⟨h1, i, hi, rfl⟩ | ⟨rfl, x, hx, rfl⟩ | ⟨rfl, c, k, hc, hk, rfl, rfl⟩ | rfl | ⟨rfl, k, m, hk, hm, rfl, rfl⟩
  · obtain ⟨n1, n2⟩ := hnear i hi
    rcases h1 with rfl | rfl
    · rw [if_pos rfl, if_pos rfl, hasItem_in hi hN]
      simp only [ob1, if_neg n10]
      rw [ogd_ok (by omega) (by omega), zcl (by omega), za16, ogd_ok (by omega) (by omega), zcl (by omega), ← n1]
      exact ⟨_, rfl, rfl, n2⟩
    · rw [if_neg (by decide), if_pos rfl, if_neg (by decide), if_pos rfl, hasItem_in hi hN]
      simp only [ob1, if_neg n10]
      rw [ogd_ok (by omega) (by omega), zcl (by omega), za16, ogd_ok (by omega) (by omega), zcl (by omega), ← n1]
      refine ⟨_, rfl, rfl, fun j hj hb => ?_⟩
      rw [b_or, zb_one (by omega) hj] at hb
      simp at hb
      rcases hb with hb | hb
      · exact n2 j hj hb
      · omega
  · rw [if_neg (by decide), if_neg (by decide), if_pos rfl, if_neg (by decide), if_neg (by decide), if_pos rfl, columnX_ok hN (by omega), columnM_ok hN (by omega) eb0]
    refine ⟨_, rfl, ?_, zmk_sub _ (by omega)⟩
    simp only [ob1]
    congr 1
    exact zmk_congr N (fun i hi => by rw [(hcols i hi).1])
  · rw [if_neg (by decide), if_neg (by decide), if_neg (by decide), if_pos rfl, if_neg (by decide), if_neg (by decide), if_neg (by decide), if_pos rfl]
    obtain ⟨x, hx⟩ : ∃ x, Ls[k]? = some x := ⟨_, List.getElem?_eq_getElem hk⟩
    rw [setAt_in hrc hx]
    simp only [ob1]
    rw [goX_ok hN hc hL sfin swk (go := go c) (fun i hi => ⟨(hgo c i hc hi).1, (hgo c i hc hi).2.1⟩), goM_ok hN hc hL eb0 (go := go c) (fun i hi => ⟨(hgo c i hc hi).1, (hgo c i hc hi).2.2⟩)]
    refine ⟨_, rfl, ?_, zmk_sub _ (by omega)⟩
    show some (zmk _ N) = some (zmk _ N)
    congr 1
    refine zmk_congr N (fun i hi => ?_)
    have hgi := (hgo c i hc hi).1
    have hx2 := rowM_mem hN hrm hok hx
    have := congrArg (fun z => bt z (go c i)) hx2
    rw [zb_mk _ N (by omega) _ (by omega), decide_eq_true hgi, Bool.true_and] at this
    exact this
  · rw [if_neg (by decide), if_neg (by decide), if_neg (by decide), if_neg (by decide), if_pos rfl, if_neg (by decide), if_neg (by decide), if_neg (by decide), if_neg (by decide), if_pos rfl]
    exact ⟨_, rfl, by rw [ef], hfs⟩
  · rw [if_neg (by decide), if_neg (by decide), if_neg (by decide), if_neg (by decide), if_neg (by decide), if_pos rfl, if_neg (by decide), if_neg (by decide), if_neg (by decide), if_neg (by decide), if_neg (by decide)]
    obtain ⟨x, hx⟩ : ∃ x, Ls[k]? = some x := ⟨_, List.getElem?_eq_getElem hk⟩
    have hmem := members_ok (at_ := 64) hN (by omega) eb0 (nI k) d s e
    rw [rowM_mem hN hrm hok hx] at hmem
    have hmem : fX9_membersOf 64 (nI k) d s e b = some x := hmem
    unfold fX9_atLeast
    rw [setAt_in hrc hx, hmem]
    simp only [ob1]
    rw [nearX_ok hN (nI L) sfin swk (fun i hi => zsub_le (hnear i hi).2 hN), nearM_ok hN eb0]
    refine ⟨_, rfl, ?_, zmk_sub _ (by omega)⟩
    show some (zmk _ N) = some (zmk _ N)
    congr 1
    exact zmk_congr N (fun i hi => by rw [(hnear i hi).1])
theorem setBy_ok (h : zRel sn sl sfin swk scols snear slds qc qf b N L go Ls) (p1 p2 p3 d s e : Int32) : ∃ r, fX8_setBy p1 p2 p3 sn sl sfin swk scols snear slds qc qf = some r ∧ fX9_setBy p1 p2 p3 d s e b = some r := by
  unfold fX8_setBy fX9_setBy
  rcases asked_ok h p1 p2 p3 d s e with ⟨e1, e2, ha⟩ | ⟨r, n1, n2, e1, e2⟩
  · obtain ⟨S, e3, e4, -⟩ := kind_ok h ha d s e
    rw [e1, e2]
    simp only [ob1, if_true, e3, e4]
    exact ⟨S, rfl, rfl⟩
  · rw [e1, e2]
    simp only [ob1]
    rw [if_neg n1, if_neg n2]
    exact ⟨r, rfl, rfl⟩
theorem classAt_ok (h : zRel sn sl sfin swk scols snear slds qc qf b N L go Ls) (p1 d s e : Int32) : ∃ r, fX8_classAt p1 sn sl sfin swk qc qf = some r ∧ fX9_classAt p1 d s e b = some r := by
  have hcl := clsM_ok h d s e
  obtain ⟨⟨hN1, hN⟩, -, ⟨-, eb0⟩, -, -, -, -, -, -, -, -, hrc, hok, hcov, hrm⟩ := h
  have hC1 := zcov_len hN1 hcov
  have hC := hrc.2.1
  unfold fX8_classAt fX9_classAt
  rw [hcl]
  simp only [ob1]
  rcases zcases p1 (show Ls.length < 2 ^ 31 by omega) with ⟨k, hk, rfl⟩ | hx
  · obtain ⟨x, hx⟩ : ∃ x, Ls[k]? = some x := ⟨_, List.getElem?_eq_getElem hk⟩
    have hmem := members_ok (at_ := 64) hN (by omega) eb0 (nI k) d s e
    rw [rowM_mem hN hrm hok hx] at hmem
    have hmem : fX9_membersOf 64 (nI k) d s e b = some x := hmem
    rw [hasPlace_in hrc hk, in_in hk (by omega)]
    simp only [if_neg n10]
    rw [setAt_in hrc hx, hmem]
    exact ⟨x, rfl, rfl⟩
  · rw [hasPlace_out hrc hx, in_out hC1 (by omega) hx]
    exact ⟨_, rfl, rfl⟩
theorem item_ok (h : zRel sn sl sfin swk scols snear slds qc qf b N L go Ls) (p1 p2 d s e : Int32) : ∃ r, fX8_item p1 p2 sn sl sfin swk scols snear slds qc qf = some r ∧ fX9_item p1 p2 d s e b = some r := by
  obtain ⟨⟨hN1, hN⟩, ⟨hL1, hL⟩, ⟨en, eb0⟩, ⟨el, eb1⟩, ⟨ef, hfs⟩, -, hcols, hnear, -, -, hgo, hrc, hok, hcov, hrm⟩ := h
  have hC := hrc.2.1
  subst en el
  unfold fX8_item fX9_item
  rcases zcases p1 (show N < 2 ^ 31 by omega) with ⟨i, hi, rfl⟩ | hx
  · rw [hasItem_in hi hN, isItem_in hi hN eb0]
    simp only [ob1, if_neg n10]
    obtain ⟨k, hk⟩ : ∃ k, zpos Ls i = some k := by
      cases hz : zpos Ls i with
      | none => exact absurd hz (hcov i hi)
      | some k => exact ⟨k, rfl⟩
    have hkl := zpos_lt hk
    obtain ⟨x, hx⟩ : ∃ x, Ls[k]? = some x := ⟨_, List.getElem?_eq_getElem hkl⟩
    have hri : b (64 + i) = nI k := by have := hrm i hi; rw [hk] at this; exact this
    have hmem := members_ok (at_ := 64) hN (by omega) eb0 (nI k) d s e
    rw [rowM_mem hN hrm hok hx] at hmem
    have hmem : fX9_membersOf 64 (nI k) d s e b = some x := hmem
    by_cases k0 : p2 = 0
    · rw [if_pos k0, if_pos k0, ogd_ok (by omega) (by omega), zcl (by omega), za4, ogd_ok (by omega) (by omega), zcl (by omega), (hcols i hi).1]
      exact ⟨_, rfl, rfl⟩
    rw [if_neg k0, if_neg k0]
    by_cases k1 : p2 = 1
    · rw [if_pos k1, if_pos k1, ogd_ok (by omega) (by omega), zcl (by omega), za16, ogd_ok (by omega) (by omega), zcl (by omega), (hnear i hi).1]
      exact ⟨_, rfl, rfl⟩
    rw [if_neg k1, if_neg k1]
    by_cases k2 : p2 = 2
    · rw [if_pos k2, if_pos k2, place_ok hrc (show i < 32 by omega), hk, za64, ogd_ok (by omega) (by omega), zcl (by omega), hri]
      exact ⟨_, rfl, rfl⟩
    rw [if_neg k2, if_neg k2]
    by_cases k3 : p2 = 3
    · rw [if_pos k3, if_pos k3, place_ok hrc (show i < 32 by omega), hk, za64, ogd_ok (by omega) (by omega), zcl (by omega), hri, hmem]
      simp only [zpI]
      rw [setAt_in hrc hx]
      simp only
      rw [bitCount_ok (zok_sub hok hN (List.mem_of_getElem? hx)), sizeOf_ok]
      exact ⟨_, rfl, rfl⟩
    rw [if_neg k3, if_neg k3]
    by_cases k4 : p2 = 4 ∨ p2 = 5 ∨ p2 = 6
    · rw [if_pos k4, if_pos k4]
      obtain ⟨c, hc, rfl⟩ : ∃ c, c < 3 ∧ p2 = nI (4 + c) := by
        rcases k4 with rfl | rfl | rfl
        · exact ⟨0, by omega, rfl⟩
        · exact ⟨1, by omega, rfl⟩
        · exact ⟨2, by omega, rfl⟩
      have e4 : nI (4 + c) - 4 = nI c := by
        have := pk_sub (a := 4 + c) (b := 4) (by omega)
        rw [show 4 + c - 4 = c by omega] at this
        exact this
      have e5 : (((28 : Int32) + ((3 : Int32) * nI i)) + nI (4 + c)) - 4 = nI (28 + 3 * i + c) := by
        rw [zgo]
        have := pk_sub (a := 28 + 3 * i + (4 + c)) (b := 4) (by omega)
        rw [show 28 + 3 * i + (4 + c) - 4 = 28 + 3 * i + c by omega] at this
        exact this
      rw [e4, eb1, e5]
      by_cases hcL : c < L
      · rw [hasLetter_in hcL hL]
        simp only [if_neg n10]
        rw [leads_in hi hN hcL hL, if_neg (by rw [zle (by omega) (by omega)]; omega), ogd_ok (by omega) (by omega), zcl (by omega), (hgo c i hcL hi).2.1, (hgo c i hcL hi).2.2]
        exact ⟨_, rfl, rfl⟩
      · rw [hasLetter_out (Or.inr (by rw [zle (by omega) (by omega)]; omega)), if_pos (by rw [zle (by omega) (by omega)]; omega)]
        exact ⟨_, rfl, rfl⟩
    rw [if_neg k4, if_neg k4]
    exact ⟨_, rfl, rfl⟩
  · rw [hasItem_out hx, isItem_out hN1 hN hx eb0]
    exact ⟨_, rfl, rfl⟩
end ZR
