/-! ===== join, arrange, the book ===== -/
theorem zpos_join (A B : List Int32) (x y : Int32) (i : Nat) : zpos (A ++ (x ||| y) :: B) i = (zpos (A ++ x :: y :: B) i).map (fun p => if p ≤ A.length then p else p - 1) := by
  rw [zpos_app, zpos_app]
  cases hA : zpos A i with
  | some k =>
    have := zpos_lt hA
    simp
    omega
  | none =>
    simp only [zpos, b_or]
    cases hx : bt x i with
    | true => simp
    | false =>
      cases hy : bt y i with
      | true => simp
      | false =>
        simp only [Bool.or_false, Bool.false_eq_true, if_false]
        cases zpos B i with
        | none => simp
        | some k =>
          simp
theorem zok_join {N : Nat} {A B : List Int32} {x y : Int32} (h : zok N (A ++ x :: y :: B)) : zok N (A ++ (x ||| y) :: B) := by
  obtain ⟨h1, h2⟩ := h
  rw [List.pairwise_append, List.pairwise_cons, List.pairwise_cons] at h2
  obtain ⟨pA, ⟨px, py, pB⟩, pAB⟩ := h2
  have hx := h1 x (by simp)
  have hy := h1 y (by simp)
  refine ⟨fun z hz => ?_, ?_⟩
  · rw [List.mem_append, List.mem_cons] at hz
    rcases hz with hz | rfl | hz
    · exact h1 z (by simp [hz])
    · refine ⟨?_, fun i hi hb => ?_⟩
      · obtain ⟨i, hi, hb⟩ := zb_nz.mp hx.1
        exact zb_nz.mpr ⟨i, hi, by rw [b_or, hb]; rfl⟩
      · rw [b_or] at hb
        simp at hb
        rcases hb with hb | hb
        · exact hx.2 i hi hb
        · exact hy.2 i hi hb
    · exact h1 z (by simp [hz])
  · rw [List.pairwise_append, List.pairwise_cons]
    refine ⟨pA, ⟨fun z hz i hi hb => ?_, pB⟩, fun a ha z hz => ?_⟩
    · rw [b_or] at hb
      simp at hb
      rcases hb with hb | hb
      · exact px z (by simp [hz]) i hi hb
      · exact py z hz i hi hb
    · rw [List.mem_cons] at hz
      rcases hz with rfl | hz
      · intro i hi hb
        rw [b_or, pAB a ha x (by simp) i hi hb, pAB a ha y (by simp) i hi hb]
        rfl
      · exact pAB a ha z (by simp [hz])
theorem merge_ok {c : Int32} {f : zF} {A B : List Int32} {x y : Int32} (h : rowC c f (A ++ x :: y :: B)) : ∃ c2 f2, fX5_mergeWithNext (nI A.length) c f = some (c2, f2) ∧ rowC c2 f2 (A ++ (x ||| y) :: B) := by
  have hlen : (A ++ x :: y :: B).length = A.length + B.length + 2 := by simp; omega
  have h12 := h.2.1
  have hc := h.1
  have hx : f A.length = x := h.2.2 A.length x (by simp)
  have hy : f (A.length + 1) = y := h.2.2 (A.length + 1) y (by simp)
  unfold fX5_mergeWithNext
  rw [hasPlace_in h (by omega)]
  simp only [ob1, if_neg n10]
  rw [hc, hlen, zpred (by omega), if_neg (by rw [zle (by omega) (by omega)]; omega), ogd_ok (by omega) (by omega), nI_1, ogd_ok (by omega) (by omega), zcl (by omega), zcl (by omega), hx, hy, close_ok (by omega) (by omega)]
  simp only [onm, ob2]
  rw [ogd_ok (by omega) (by omega)]
  refine ⟨_, _, rfl, ?_, ?_, ?_⟩
  · congr 1
    simp
    omega
  · simp
    omega
  · intro k z hz
    by_cases h1 : k < A.length
    · rw [pk_un (by omega)]
      rw [if_neg (by omega)]
      rw [List.getElem?_append_left h1] at hz
      exact h.2.2 k z (by rw [List.getElem?_append_left h1]; exact hz)
    · rw [List.getElem?_append_right (by omega)] at hz
      by_cases h2 : k = A.length
      · subst h2
        rw [pk_us]
        simp at hz
        exact hz
      · obtain ⟨q, rfl⟩ : ∃ q, k = A.length + 1 + q := ⟨k - A.length - 1, by omega⟩
        rw [show A.length + 1 + q - A.length = q + 1 by omega, List.getElem?_cons_succ] at hz
        have hq : q < B.length := by
          have := List.getElem?_eq_some_iff.mp hz
          exact this.1
        rw [pk_un (by omega), if_pos (by omega)]
        apply h.2.2
        rw [List.getElem?_append_right (by omega), show A.length + 1 + q + 1 - A.length = q + 2 by omega, List.getElem?_cons_succ, List.getElem?_cons_succ]
        exact hz
def zjS (st : zF) (L2 : List Int32) (i : Nat) : zF := fun j => if 64 ≤ j ∧ j < 64 + i then zpI (zpos L2 (j - 64)) else st j
theorem joinM_ok {N k : Nat} (hN : N ≤ 12) {st : zF} (h0 : st 0 = nI N) {Ls L2 : List Int32} (hr : rowM N (fun i => st (64 + i)) Ls) (hcov : ∀ i, i < N → zpos Ls i ≠ none) (hk : k < 12) (hlen : Ls.length ≤ 12) (hj : ∀ i, zpos L2 i = (zpos Ls i).map (fun p => if p ≤ k then p else p - 1)) : ∃ st2, olp (fX9_join_s29 (nI k)) oFu ((0 : Int32), st) = some st2 ∧ (∀ j, j < 64 → st2 j = st j) ∧ rowM N (fun i => st2 (64 + i)) L2 := by
  have key : olp (fX9_join_s29 (nI k)) oFu (nI 0, zjS st L2 0) = some (zjS st L2 N) := by
    refine zloop N (fun i => zjS st L2 i) 0 (by omega) (by omega) ?_ ?_
    · intro i _ hi
      show fX9_join_b29 (nI k) (nI i) (zjS st L2 i) = _
      unfold fX9_join_b29
      have q0 : zjS st L2 i 0 = nI N := by unfold zjS; rw [if_neg (by omega)]; exact h0
      have q1 : zjS st L2 i (64 + i) = st (64 + i) := by unfold zjS; rw [if_neg (by omega)]
      rw [if_neg (by rw [q0, zle (by omega) (by omega)]; omega), za64, ogd_ok (by omega) (by omega), ogd_ok (by omega) (by omega), zcl (by omega), q1]
      have hri : st (64 + i) = zpI (zpos Ls i) := hr i hi
      have hji := hj i
      cases hz : zpos Ls i with
      | none => exact absurd hz (hcov i hi)
      | some p =>
        have hp := zpos_lt hz
        rw [hz] at hri hji
        have hri : st (64 + i) = nI p := hri
        rw [hri]
        simp only [Option.map_some] at hji
        have e : (if nI p ≤ nI k then some (0 : Int32) else some 1) = some (if p ≤ k then 0 else 1) := by
          by_cases h1 : p ≤ k
          · rw [if_pos h1, if_pos (by rw [zle (by omega) (by omega)]; exact h1)]
          · rw [if_neg h1, if_neg (by rw [zle (by omega) (by omega)]; exact h1)]
        rw [e]
        simp only [ob1]
        rw [ogd_ok (by omega) (by omega), nI_1]
        refine congrArg (fun z => some (Sum.inl (nI (i + 1), z))) ?_
        funext j
        dsimp only [upd, zjS]
        by_cases h1 : j = 64 + i
        · subst h1
          rw [if_pos rfl, if_pos (show 64 ≤ 64 + i ∧ 64 + i < 64 + (i + 1) by omega), show 64 + i - 64 = i by omega, hji]
          by_cases h2 : p ≤ k
          · rw [if_pos h2, if_pos h2]
            exact (pk_sub (a := p) (b := 0) (by omega))
          · rw [if_neg h2, if_neg h2]
            exact (pk_sub (a := p) (b := 1) (by omega))
        · rw [if_neg h1]
          by_cases h2 : 64 ≤ j ∧ j < 64 + i
          · rw [if_pos h2, if_pos (by omega)]
          · rw [if_neg h2, if_neg (by omega)]
    · unfold fX9_join_s29 fX9_join_b29
      dsimp only
      have q0 : zjS st L2 N 0 = nI N := by unfold zjS; rw [if_neg (by omega)]; exact h0
      rw [if_pos (by rw [q0, zle (by omega) (by omega)]; omega)]
  have e0 : zjS st L2 0 = st := by
    funext j
    dsimp only [zjS]
    rw [if_neg (by omega)]
  rw [e0] at key
  refine ⟨_, key, fun j hj => ?_, fun i hi => ?_⟩
  · dsimp only [zjS]
    rw [if_neg (by omega)]
  · dsimp only [zjS]
    rw [if_pos (by omega), show 64 + i - 64 = i by omega]
theorem zsplit2 {α : Type} : ∀ (k : Nat) (Ls : List α), k + 1 < Ls.length → ∃ A x y B, Ls = A ++ x :: y :: B ∧ A.length = k
  | 0, [], h => by simp at h
  | 0, [a], h => by simp at h
  | 0, x :: y :: B, _ => ⟨[], x, y, B, rfl, rfl⟩
  | k + 1, [], h => by simp at h
  | k + 1, a :: l, h => by
    obtain ⟨A, x, y, B, e, hl⟩ := zsplit2 k l (by simp at h; omega)
    exact ⟨a :: A, x, y, B, by rw [e]; rfl, by simp [hl]⟩
section ZF
variable {sn sl sfin swk : Int32} {scols snear slds : zF} {qc : Int32} {qf st : zF} {N L : Nat} {go : Nat → Nat → Nat} {Ls : List Int32} {hnx hct deeds : Int32} {rg : Nat → zSV} {past : zF}
theorem zRel_row (h : zRel sn sl sfin swk scols snear slds qc qf st N L go Ls) {c2 : Int32} {f2 st2 : zF} {L2 : List Int32} (hrc : rowC c2 f2 L2) (hok : zok N L2) (hcov : ∀ i, i < N → zpos L2 i ≠ none) (hb : ∀ j, j < 64 → st2 j = st j) (hrm : rowM N (fun i => st2 (64 + i)) L2) : zRel sn sl sfin swk scols snear slds c2 f2 st2 N L go L2 := by
  obtain ⟨⟨hN1, hN⟩, ⟨hL1, hL⟩, ⟨en, eb0⟩, ⟨el, eb1⟩, ⟨ef, hfs⟩, ew, hcols, hnear, hsym, hirr, hgo, -, -, -, -⟩ := h
  refine ⟨⟨hN1, hN⟩, ⟨hL1, hL⟩, ⟨en, ?_⟩, ⟨el, ?_⟩, ⟨?_, hfs⟩, ?_, fun a ha => ?_, fun a ha => ?_, hsym, hirr, fun c a hc ha => ?_, hrc, hok, hcov, hrm⟩
  · rw [hb _ (by omega)]; exact eb0
  · rw [hb _ (by omega)]; exact eb1
  · rw [hb _ (by omega)]; exact ef
  · rw [hb _ (by omega)]; exact ew
  · rw [hb _ (by omega)]; exact hcols a ha
  · rw [hb _ (by omega)]; exact hnear a ha
  · rw [hb _ (by omega)]; exact hgo c a hc ha
theorem join_ok (h : zRel sn sl sfin swk scols snear slds qc qf st N L go Ls) (hh : zHist hnx hct rg deeds past) (p1 sd ent : Int32) : ∃ r a b c1 c2 g d2 st2 q3, fX8_join p1 hnx hct sn sl sfin swk scols snear slds qc qf rg = some (r, a, b, c1, c2, g) ∧ fX9_join p1 deeds sd ent st past = some (r, d2, st2, q3) ∧ zR9 (sn, sl, sfin, swk, scols, snear, slds, c1, c2) st2 ∧ zHist a b g d2 q3 := by
  have h0 := h
  obtain ⟨⟨hN1, hN⟩, -, ⟨en, eb0⟩, -, -, -, -, -, -, -, -, hrc, hok, hcov, hrm⟩ := h
  obtain ⟨hnx2, hct2, rg2, deeds2, past2, eX, eM, hh2⟩ := remember_ok h0 hh sd ent
  have hC1 := zcov_len hN1 hcov
  have hC := hrc.2.1
  have hcl := clsM_ok h0 deeds sd ent
  have hqc := hrc.1
  unfold fX8_join fX9_join
  rw [hcl, hqc, ob1_some]
  have e2 : nI Ls.length - 2 = nI (Ls.length - 1) - 1 := by
    by_cases h1 : Ls.length = 1
    · rw [h1]
      decide
    · have a1 : nI Ls.length - nI 2 = nI (Ls.length - 2) := pk_sub (by omega)
      have a2 : nI (Ls.length - 1) - nI 1 = nI (Ls.length - 1 - 1) := pk_sub (by omega)
      rw [show Ls.length - 1 - 1 = Ls.length - 2 by omega, ← a1] at a2
      exact a2.symm
  rw [e2, zpred hC1]
  rcases zcases p1 (show Ls.length - 1 < 2 ^ 31 by omega) with ⟨k, hk, rfl⟩ | hx
  · rw [in_in hk (by omega), if_neg (zn0 (by omega)), if_pos (by rw [zlt (by omega) (by omega)]; exact hk), ob1_some, if_neg n10, ← hqc, eX, eM, ob3_some, ob2_some]
    obtain ⟨A, x, y, B, rfl, rfl⟩ := zsplit2 k Ls (by omega)
    obtain ⟨c2, f2, em, hrc2⟩ := merge_ok hrc
    obtain ⟨st2, ej, hb, hrm2⟩ := joinM_ok (k := A.length) hN eb0 hrm hcov (by omega) hC (zpos_join A B x y)
    have hr2 := zRel_row h0 hrc2 (zok_join hok) (fun i hi => by
      rw [zpos_join]
      cases hz : zpos (A ++ x :: y :: B) i with
      | none => exact absurd hz (hcov i hi)
      | some p => simp) hb hrm2
    have hcl2 := clsM_ok hr2 deeds2 sd ent
    rw [em, ej, ob1_some, hcl2, ← hrc2.1]
    exact ⟨_, _, _, _, _, _, _, _, _, rfl, rfl, ⟨_, _, _, _, hr2⟩, hh2⟩
  · have e3 : fX9_in p1 0 (nI (Ls.length - 1) - 1) = some 0 := by
      by_cases h1 : 1 ≤ Ls.length - 1
      · exact in_out h1 (by omega) hx
      · have e4 : Ls.length - 1 = 0 := by omega
        rw [e4] at hx ⊢
        unfold fX9_in
        by_cases h2 : p1 < 0
        · rw [if_pos h2]
        · rw [if_neg h2, if_pos]
          have h3 := hx.resolve_left h2
          rw [Int32.le_iff_toInt_le] at h3
          rw [Int32.lt_iff_toInt_lt]
          have a1 : (nI 0).toInt = 0 := by decide
          have a2 : (nI 0 - 1).toInt = -1 := by decide
          omega
    rw [e3, ob1_some, if_pos rfl]
    by_cases h1 : p1 < 0
    · rw [if_pos h1, ← hqc]
      exact ⟨_, _, _, _, _, _, _, _, _, rfl, rfl, ⟨N, L, go, Ls, h0⟩, hh⟩
    · rw [if_neg h1, if_neg, ← hqc]
      · exact ⟨_, _, _, _, _, _, _, _, _, rfl, rfl, ⟨N, L, go, Ls, h0⟩, hh⟩
      · have h2 := hx.resolve_left h1
        rw [Int32.le_iff_toInt_le] at h2
        rw [Int32.lt_iff_toInt_lt]
        omega
theorem leastOf_ok {x : Int32} (h : zsub 12 x) (h0 : ¬ x = 0) (d s e : Int32) : fX9_leastOf x d s e = some (nI (zlst x)) := by
  obtain ⟨h1, h2, h3⟩ := zlst_ok h0
  have h4 := h _ h1 h2
  unfold fX9_leastOf
  refine ob1_of (zloop1 (f := fX9_leastOf_s2 x) (zlst x) (by omega) ?_ ?_) rfl
  · intro i hi
    unfold fX9_leastOf_s2 fX9_leastOf_b2
    rw [has_ok _ (by omega), h3 i hi]
    simp only [ob1, Bool.false_eq_true, if_false, if_true, nI_1]
  · unfold fX9_leastOf_s2 fX9_leastOf_b2
    rw [has_ok _ (by omega), h2]
    simp only [ob1, if_true, if_neg n10]
def zdf (A B : List Int32) (n : Nat) : Nat := match n with
  | 0 => 0
  | m + 1 => zdf A B m + (if A.getD m 0 = B.getD m 0 then 0 else 1)
theorem zgetD {Ls : List Int32} {k : Nat} {x : Int32} (h : Ls[k]? = some x) : Ls.getD k 0 = x := by
  rw [List.getD_eq_getElem?_getD, h]
  rfl
theorem differ_ok {c c2 : Int32} {f f2 : zF} {A B : List Int32} (h : rowC c f A) (h2 : rowC c2 f2 B) (hl : A.length = B.length) : fX5_differingFrom c f c2 f2 = some (nI (zdf A B A.length)) := by
  have h12 := h.2.1
  unfold fX5_differingFrom
  refine ob1_of (zloop A.length (fun i => nI (zdf A B i)) 0 (Nat.zero_le _) (by omega) ?_ ?_) rfl
  · intro i _ hi
    obtain ⟨x, hx⟩ : ∃ x, A[i]? = some x := ⟨_, List.getElem?_eq_getElem hi⟩
    obtain ⟨y, hy⟩ : ∃ y, B[i]? = some y := ⟨_, List.getElem?_eq_getElem (by omega)⟩
    unfold fX5_differingFrom_s4 fX5_differingFrom_b4
    dsimp only
    rw [h.1, if_neg (by rw [zle (by omega) (by omega)]; omega), ogd_ok (by omega) (by omega), setAt_in h2 hy, ob1_some, zcl (by omega), h.2.2 i x hx, nI_1, zdf, zgetD hx, zgetD hy]
    by_cases hxy : x = y
    · rw [if_pos hxy, if_pos hxy]
      rfl
    · rw [if_neg hxy, if_neg hxy, nI_1]
  · unfold fX5_differingFrom_s4 fX5_differingFrom_b4
    dsimp only
    rw [h.1, if_pos (by rw [zle (by omega) (by omega)]; omega)]
theorem arrange_ok (h : zRel sn sl sfin swk scols snear slds qc qf st N L go Ls) (hh : zHist hnx hct rg deeds past) (sd ent zc : Int32) (zf nr asd : zF) : ∃ r a b c1 c2 c3 g d2 st2 q3 n2 a2, fX8_arrange hnx hct sn sl sfin swk scols snear slds qc qf zc zf rg = some (r, a, b, c1, c2, c3, g) ∧ fX9_arrange deeds sd ent st past nr asd = some (r, d2, st2, q3, n2, a2) ∧ zR9 (sn, sl, sfin, swk, scols, snear, slds, qc, c1) st2 ∧ zHist a b g d2 q3 := by
  have h0 := h
  obtain ⟨⟨hN1, hN⟩, -, ⟨en, eb0⟩, -, -, -, -, -, -, -, -, hrc, hok, hcov, hrm⟩ := h
  obtain ⟨hnx2, hct2, rg2, deeds2, past2, eX, eM, hh2⟩ := remember_ok h0 hh sd ent
  have hC := hrc.2.1
  obtain ⟨c2, f2, ec, hrc2⟩ := copy_ok hrc zc zf
  obtain ⟨f3, L3, es, hrc3, hperm, hso⟩ := sort_ok hN hrc hok
  obtain ⟨nr2, ea, hrm3⟩ := arranges_ok (at_ := 64) hN (by omega) eb0 hrm hok hcov hperm hso deeds2 sd ent nr
  have ea : fX9_arranges 64 deeds2 sd ent st nr = some ((fun j => if 64 ≤ j ∧ j < 64 + 12 then nr2 (j - 64) else st j), nr2) := ea
  obtain ⟨st3, hst3⟩ : ∃ t : zF, t = fun j => if 64 ≤ j ∧ j < 64 + 12 then nr2 (j - 64) else st j := ⟨_, rfl⟩
  rw [← hst3] at ea
  have hok3 : zok N L3 := zok_perm hperm.symm hok
  have hmem : ∀ i, i < N → zpos L3 i ≠ none := by
    intro i hi hn
    have h1 := zpos_none.mp hn
    cases hz : zpos Ls i with
    | none => exact hcov i hi hz
    | some k =>
      obtain ⟨hk1, hk2, -⟩ := zpos_some.mp hz
      have hx : Ls[k]? = some (Ls.getD k 0) := by
        rw [List.getD_eq_getElem?_getD, List.getElem?_eq_getElem hk1]
        rfl
      have hm : Ls.getD k 0 ∈ L3 := hperm.symm.subset (List.mem_of_getElem? hx)
      obtain ⟨j, hj, e⟩ := List.getElem_of_mem hm
      have := h1 j hj
      rw [zgetD (x := L3[j]) (List.getElem?_eq_getElem hj), e, hk2] at this
      exact absurd this (by simp)
  have hr3 : zRel sn sl sfin swk scols snear slds qc f3 st3 N L go L3 := by
    refine zRel_row h0 hrc3 hok3 hmem (fun j hj => ?_) (fun i hi => ?_)
    · rw [hst3]
      dsimp only
      rw [if_neg (by omega)]
    · rw [hst3]
      dsimp only
      rw [if_pos (by omega), show 64 + i - 64 = i by omega]
      exact hrm3 i hi
  have eb : fX9_bring 76 12 64 0 12 st asd = some (fun j => if 0 ≤ j ∧ j < 0 + 12 then st (64 + (j - 0)) else asd j) := bring_ok (l1 := 76) (l2 := 12) (a := 64) (b := 0) (n := 12) (by omega) (by omega) (by omega) (by omega) (by omega) st asd
  have hlen : L3.length = Ls.length := hperm.length_eq
  have hcl := clsM_ok hr3 deeds2 sd ent
  have hlp : olp (fX9_arrange_s34 deeds2 sd ent st3 (fun j => if 0 ≤ j ∧ j < 0 + 12 then st (64 + (j - 0)) else asd j)) oFu ((0 : Int32), (0 : Int32)) = some (nI (zdf L3 Ls L3.length)) := by
    refine zloop L3.length (fun i => nI (zdf L3 Ls i)) 0 (Nat.zero_le _) (by omega) ?_ ?_
    · intro i _ hi
      obtain ⟨x, hx⟩ : ∃ x, L3[i]? = some x := ⟨_, List.getElem?_eq_getElem hi⟩
      obtain ⟨y, hy⟩ : ∃ y, Ls[i]? = some y := ⟨_, List.getElem?_eq_getElem (by omega)⟩
      have hxm : x ∈ L3 := List.mem_of_getElem? hx
      have hx0 := (hok3.1 x hxm).1
      have hxs := zok_sub hok3 hN hxm
      obtain ⟨l1, l2, l3⟩ := zlst_ok hx0
      have hlN := (hok3.1 x hxm).2 _ l1 l2
      obtain ⟨m, hm, em⟩ := List.getElem_of_mem (hperm.subset hxm)
      have hxm2 : Ls[m]? = some x := by rw [List.getElem?_eq_getElem hm, em]
      have hzp := zpos_of hok (by omega) hxm2 l2
      unfold fX9_arrange_s34 fX9_arrange_b34
      dsimp only
      rw [hcl, ob1_some, if_neg (by rw [zle (by omega) (by omega)]; omega)]
      have hmm := members_ok (at_ := 64) hN (by omega) hr3.2.2.1.2 (nI i) deeds2 sd ent
      rw [rowM_mem hN hr3.2.2.2.2.2.2.2.2.2.2.2.2.2.2 hok3 hx] at hmm
      have hmm : fX9_membersOf 64 (nI i) deeds2 sd ent st3 = some x := hmm
      rw [hmm, ob1_some, leastOf_ok hxs hx0, ob1_some, ogd_ok (by omega) (by omega), zcl (by omega)]
      have hst : st (64 + zlst x) = nI m := by
        have := hrm (zlst x) hlN
        rw [hzp] at this
        exact this
      have hcond : (if 0 ≤ zlst x ∧ zlst x < 0 + 12 then st (64 + (zlst x - 0)) else asd (zlst x)) = nI m := by
        rw [if_pos (by omega), show 64 + (zlst x - 0) = 64 + zlst x by omega, hst]
      rw [nI_1, zdf, zgetD hx, zgetD hy]
      by_cases hxy : x = y
      · subst hxy
        have hzq := zpos_of hok (by omega) hy l2
        rw [hzp] at hzq
        have : m = i := Option.some.inj hzq
        subst this
        rw [if_pos hcond, if_pos rfl]
        exact congrArg (fun z => some (Sum.inl (nI (m + 1), z))) (nI_add _ 0)
      · have hmi : ¬ m = i := by
          rintro rfl
          rw [hxm2] at hy
          exact hxy (Option.some.inj hy)
        rw [if_neg hxy, if_neg (by rw [hcond, zeq (by omega) (by omega)]; exact hmi)]
        exact congrArg (fun z => some (Sum.inl (nI (i + 1), z))) (nI_1 _)
    · unfold fX9_arrange_s34 fX9_arrange_b34
      dsimp only
      rw [hcl, ob1_some, if_pos (by rw [zle (by omega) (by omega)]; omega)]
  unfold fX8_arrange fX9_arrange
  rw [eX, eM, ob3_some, ob2_some, ec, ob2_some, es, ob1_some, differ_ok hrc3 hrc2 hlen, ob1_some, eb, ob1_some, ea, ob2_some, hlp, ob1_some]
  exact ⟨_, _, _, _, _, _, _, _, _, _, _, _, rfl, rfl, ⟨_, _, _, _, hr3⟩, hh2⟩
theorem write_ok (h : zRel sn sl sfin swk scols snear slds qc qf st N L go Ls) {kn ent : Int32} {kits kcls bits bcls : zF} (hb : zBook kn kits kcls ent bits bcls) (p1 p2 d s : Int32) : ∃ r a b c e b2 c2, fX8_write p1 p2 sn sl sfin swk kn kits kcls = some (r, a, b, c) ∧ fX9_write p1 p2 d s ent st bits bcls = some (r, e, b2, c2) ∧ zBook a b c e b2 c2 := by
  obtain ⟨⟨hN1, hN⟩, -, ⟨en, eb0⟩, -⟩ := h
  subst en
  obtain ⟨n, hn, rfl, rfl, hk⟩ := hb
  unfold fX8_write fX9_write fX0_append
  rcases zcases p1 (show N < 2 ^ 31 by omega) with ⟨i, hi, rfl⟩ | hx
  · rw [hasItem_in hi hN, isItem_in hi hN eb0]
    simp only [ob1, if_neg n10]
    by_cases h20 : n = 20
    · subst h20
      rw [if_neg (show ¬ nI 20 < (20 : Int32) by decide), if_pos (show nI 20 = (20 : Int32) from rfl)]
      exact ⟨_, _, _, _, _, _, _, rfl, rfl, 20, by omega, rfl, rfl, hk⟩
    · rw [show (20 : Int32) = nI 20 from rfl, if_pos (by rw [zlt (by omega) (by omega)]; omega), if_neg (by rw [zle (by omega) (by omega)]; omega), if_neg (by rw [zeq (by omega) (by omega)]; omega), ogd_ok (by omega) (by omega), ogd_ok (by omega) (by omega), ogd_ok (by omega) (by omega), ogd_ok (by omega) (by omega), zcl (by omega), nI_1]
      refine ⟨_, _, _, _, _, _, _, rfl, rfl, n + 1, by omega, rfl, rfl, fun k hk2 => ?_⟩
      by_cases hkn : k = n
      · subst hkn
        dsimp only
        rw [pk_us, pk_us, pk_us, pk_us]
        exact ⟨rfl, rfl⟩
      · dsimp only
        rw [pk_un hkn, pk_un hkn, pk_un hkn, pk_un hkn]
        exact hk k (by omega)
  · rw [hasItem_out hx, isItem_out hN1 hN hx eb0]
    exact ⟨_, _, _, _, _, _, _, rfl, rfl, n, hn, rfl, rfl, hk⟩
theorem wrong_ok (h : zRel sn sl sfin swk scols snear slds qc qf st N L go Ls) {kn ent : Int32} {kits kcls bits bcls : zF} (hb : zBook kn kits kcls ent bits bcls) (d s : Int32) : ∃ r, fX0_firstWrong kn kits kcls sn sl sfin swk qc qf = some r ∧ fX9_wrongNow d s ent st bits bcls = some r := by
  obtain ⟨⟨hN1, hN⟩, -, ⟨en, eb0⟩, -, -, -, -, -, -, -, -, hrc, hok, hcov, hrm⟩ := h
  subst en
  obtain ⟨n, hn, rfl, rfl, hk⟩ := hb
  unfold fX0_firstWrong fX9_wrongNow
  have hstep : ∀ i, i < n → (fX0_firstWrong_s2 (nI n) kits (nI N) sl sfin swk qc qf kcls (nI i) = some (.inl (nI (i + 1))) ∧ fX9_wrongNow_s2 (nI n) bits d s st bcls (nI i) = some (.inl (nI (i + 1)))) ∨ (fX0_firstWrong_s2 (nI n) kits (nI N) sl sfin swk qc qf kcls (nI i) = some (.inr (nI i)) ∧ fX9_wrongNow_s2 (nI n) bits d s st bcls (nI i) = some (.inr (nI i))) := by
    intro i hi
    obtain ⟨hk1, hk2⟩ := hk i hi
    unfold fX0_firstWrong_s2 fX0_firstWrong_b2 fX9_wrongNow_s2 fX9_wrongNow_b2
    rw [if_neg (by rw [zle (by omega) (by omega)]; omega), if_neg (by rw [zle (by omega) (by omega)]; omega), ogd_ok (by omega) (by omega), ogd_ok (by omega) (by omega), zcl (by omega), ← hk1, ← hk2]
    rcases zcases (kits i) (show N < 2 ^ 31 by omega) with ⟨q, hq, eq⟩ | hx
    · rw [eq, hasItem_in hq hN, isItem_in hq hN eb0, ob1_some, ob1_some, if_neg n10, if_neg n10, ogd_ok (by omega) (by omega), ogd_ok (by omega) (by omega), place_ok hrc (by omega), ob1_some, ogd_ok (by omega) (by omega), za64, ogd_ok (by omega) (by omega), ogd_ok (by omega) (by omega), zcl (by omega)]
      have hri : st (64 + q) = zpI (zpos Ls q) := hrm q hq
      rw [hri]
      by_cases he : zpI (zpos Ls q) = kcls i
      · rw [if_pos he, nI_1]
        refine Or.inl ⟨?_, ?_⟩ <;> first | rfl | (rw [ogd_ok (by omega) (by omega)])
      · rw [if_neg he]
        refine Or.inr ⟨?_, ?_⟩ <;> first | rfl | (rw [ogd_ok (by omega) (by omega)])
    · rw [hasItem_out hx, isItem_out hN1 hN hx eb0, ob1_some, ob1_some, if_pos rfl]
      refine Or.inr ⟨?_, ?_⟩ <;> first | rfl | (rw [ogd_ok (by omega) (by omega)]; done) | (rw [ogd_ok (by omega) (by omega), if_pos rfl]) | (rw [if_pos rfl])
  have hend : fX0_firstWrong_s2 (nI n) kits (nI N) sl sfin swk qc qf kcls (nI n) = some (.inr (-1)) ∧ fX9_wrongNow_s2 (nI n) bits d s st bcls (nI n) = some (.inr (-1)) := by
    unfold fX0_firstWrong_s2 fX0_firstWrong_b2 fX9_wrongNow_s2 fX9_wrongNow_b2
    rw [if_pos (by rw [zle (by omega) (by omega)]; omega), if_pos (by rw [zle (by omega) (by omega)]; omega)]
    exact ⟨rfl, rfl⟩
  have main : ∀ (m f i : Nat), n - i = m → i ≤ n → m < f → ∃ r, olp (fX0_firstWrong_s2 (nI n) kits (nI N) sl sfin swk qc qf kcls) f (nI i) = some r ∧ olp (fX9_wrongNow_s2 (nI n) bits d s st bcls) f (nI i) = some r := by
    intro m
    induction m with
    | zero =>
      intro f i h1 h2 h3
      have : i = n := by omega
      subst this
      obtain ⟨f, rfl⟩ : ∃ g, f = g + 1 := ⟨f - 1, by omega⟩
      unfold olp
      rw [hend.1, hend.2]
      exact ⟨_, rfl, rfl⟩
    | succ m ih =>
      intro f i h1 h2 h3
      obtain ⟨f, rfl⟩ : ∃ g, f = g + 1 := ⟨f - 1, by omega⟩
      unfold olp
      rcases hstep i (by omega) with ⟨e1, e2⟩ | ⟨e1, e2⟩
      · rw [e1, e2]
        exact ih f (i + 1) (by omega) (by omega) (by omega)
      · rw [e1, e2]
        exact ⟨_, rfl, rfl⟩
  exact main n oFu 0 (by omega) (by omega) (by show n < 10000; omega)
end ZF
